theorem dX3_leastsAt_0 : decode cX3_leastsAt 0 = .ok (.iload_n 1, 1) := by decide +kernel
theorem dX3_leastsAt_1 : decode cX3_leastsAt 1 = .ok (.iload_n 2, 1) := by decide +kernel
theorem dX3_leastsAt_2 : decode cX3_leastsAt 2 = .ok (.iadd, 1) := by decide +kernel
theorem dX3_leastsAt_3 : decode cX3_leastsAt 3 = .ok (.istore_n 3, 1) := by decide +kernel
theorem dX3_leastsAt_4 : decode cX3_leastsAt 4 = .ok (.iload_n 1, 1) := by decide +kernel
theorem dX3_leastsAt_5 : decode cX3_leastsAt 5 = .ok (.ifCond .lt 25, 3) := by decide +kernel
theorem dX3_leastsAt_8 : decode cX3_leastsAt 8 = .ok (.iload_n 2, 1) := by decide +kernel
theorem dX3_leastsAt_9 : decode cX3_leastsAt 9 = .ok (.ifCond .lt 21, 3) := by decide +kernel
theorem dX3_leastsAt_12 : decode cX3_leastsAt 12 = .ok (.iload_n 3, 1) := by decide +kernel
theorem dX3_leastsAt_13 : decode cX3_leastsAt 13 = .ok (.aload_n 0, 1) := by decide +kernel
theorem dX3_leastsAt_14 : decode cX3_leastsAt 14 = .ok (.getfield 30, 3) := by decide +kernel
theorem dX3_leastsAt_17 : decode cX3_leastsAt 17 = .ok (.arraylength, 1) := by decide +kernel
theorem dX3_leastsAt_18 : decode cX3_leastsAt 18 = .ok (.if_icmp .ge 12, 3) := by decide +kernel
theorem dX3_leastsAt_21 : decode cX3_leastsAt 21 = .ok (.aload_n 0, 1) := by decide +kernel
theorem dX3_leastsAt_22 : decode cX3_leastsAt 22 = .ok (.getfield 30, 3) := by decide +kernel
theorem dX3_leastsAt_25 : decode cX3_leastsAt 25 = .ok (.iload_n 3, 1) := by decide +kernel
theorem dX3_leastsAt_26 : decode cX3_leastsAt 26 = .ok (.laload, 1) := by decide +kernel
theorem dX3_leastsAt_27 : decode cX3_leastsAt 27 = .ok (.goto 4, 3) := by decide +kernel
theorem dX3_leastsAt_30 : decode cX3_leastsAt 30 = .ok (.lconst 1, 1) := by decide +kernel
theorem dX3_leastsAt_31 : decode cX3_leastsAt 31 = .ok (.lreturn, 1) := by decide +kernel
theorem dX7_choose_0 : decode cX7_choose 0 = .ok (.iload_n 1, 1) := by decide +kernel
theorem dX7_choose_1 : decode cX7_choose 1 = .ok (.iconst 1, 1) := by decide +kernel
theorem dX7_choose_2 : decode cX7_choose 2 = .ok (.iand, 1) := by decide +kernel
theorem dX7_choose_3 : decode cX7_choose 3 = .ok (.bipush 90, 2) := by decide +kernel
theorem dX7_choose_5 : decode cX7_choose 5 = .ok (.imul, 1) := by decide +kernel
theorem dX7_choose_6 : decode cX7_choose 6 = .ok (.iload_n 2, 1) := by decide +kernel
theorem dX7_choose_7 : decode cX7_choose 7 = .ok (.bipush 10, 2) := by decide +kernel
theorem dX7_choose_9 : decode cX7_choose 9 = .ok (.imul, 1) := by decide +kernel
theorem dX7_choose_10 : decode cX7_choose 10 = .ok (.iadd, 1) := by decide +kernel
theorem dX7_choose_11 : decode cX7_choose 11 = .ok (.istore 5, 2) := by decide +kernel
theorem dX7_choose_13 : decode cX7_choose 13 = .ok (.iload_n 1, 1) := by decide +kernel
theorem dX7_choose_14 : decode cX7_choose 14 = .ok (.iconst 1, 1) := by decide +kernel
theorem dX7_choose_15 : decode cX7_choose 15 = .ok (.iadd, 1) := by decide +kernel
theorem dX7_choose_16 : decode cX7_choose 16 = .ok (.iconst 1, 1) := by decide +kernel
theorem dX7_choose_17 : decode cX7_choose 17 = .ok (.iand, 1) := by decide +kernel
theorem dX7_choose_18 : decode cX7_choose 18 = .ok (.bipush 90, 2) := by decide +kernel
theorem dX7_choose_20 : decode cX7_choose 20 = .ok (.imul, 1) := by decide +kernel
theorem dX7_choose_21 : decode cX7_choose 21 = .ok (.iload_n 2, 1) := by decide +kernel
theorem dX7_choose_22 : decode cX7_choose 22 = .ok (.bipush 10, 2) := by decide +kernel
theorem dX7_choose_24 : decode cX7_choose 24 = .ok (.imul, 1) := by decide +kernel
theorem dX7_choose_25 : decode cX7_choose 25 = .ok (.iadd, 1) := by decide +kernel
theorem dX7_choose_26 : decode cX7_choose 26 = .ok (.istore 6, 2) := by decide +kernel
theorem dX7_choose_28 : decode cX7_choose 28 = .ok (.aload_n 0, 1) := by decide +kernel
theorem dX7_choose_29 : decode cX7_choose 29 = .ok (.getfield 18, 3) := by decide +kernel
theorem dX7_choose_32 : decode cX7_choose 32 = .ok (.iload 6, 2) := by decide +kernel
theorem dX7_choose_34 : decode cX7_choose 34 = .ok (.bipush 10, 2) := by decide +kernel
theorem dX7_choose_36 : decode cX7_choose 36 = .ok (.iadd, 1) := by decide +kernel
theorem dX7_choose_37 : decode cX7_choose 37 = .ok (.iaload, 1) := by decide +kernel
theorem dX7_choose_38 : decode cX7_choose 38 = .ok (.istore 7, 2) := by decide +kernel
theorem dX7_choose_40 : decode cX7_choose 40 = .ok (.aload_n 0, 1) := by decide +kernel
theorem dX7_choose_41 : decode cX7_choose 41 = .ok (.getfield 27, 3) := by decide +kernel
theorem dX7_choose_44 : decode cX7_choose 44 = .ok (.iload_n 2, 1) := by decide +kernel
theorem dX7_choose_45 : decode cX7_choose 45 = .ok (.iaload, 1) := by decide +kernel
theorem dX7_choose_46 : decode cX7_choose 46 = .ok (.istore 8, 2) := by decide +kernel
theorem dX7_choose_48 : decode cX7_choose 48 = .ok (.iconst 0, 1) := by decide +kernel
theorem dX7_choose_49 : decode cX7_choose 49 = .ok (.istore 9, 2) := by decide +kernel
theorem dX7_choose_51 : decode cX7_choose 51 = .ok (.iconst 0, 1) := by decide +kernel
theorem dX7_choose_52 : decode cX7_choose 52 = .ok (.istore 10, 2) := by decide +kernel
theorem dX7_choose_54 : decode cX7_choose 54 = .ok (.iload 10, 2) := by decide +kernel
theorem dX7_choose_56 : decode cX7_choose 56 = .ok (.iload 8, 2) := by decide +kernel
theorem dX7_choose_58 : decode cX7_choose 58 = .ok (.if_icmp .gt 127, 3) := by decide +kernel
theorem dX7_choose_61 : decode cX7_choose 61 = .ok (.iload 10, 2) := by decide +kernel
theorem dX7_choose_63 : decode cX7_choose 63 = .ok (.iload_n 1, 1) := by decide +kernel
theorem dX7_choose_64 : decode cX7_choose 64 = .ok (.iload_n 2, 1) := by decide +kernel
theorem dX7_choose_65 : decode cX7_choose 65 = .ok (.isub, 1) := by decide +kernel
theorem dX7_choose_66 : decode cX7_choose 66 = .ok (.if_icmp .gt 119, 3) := by decide +kernel
theorem dX7_choose_69 : decode cX7_choose 69 = .ok (.lload_n 3, 1) := by decide +kernel
theorem dX7_choose_70 : decode cX7_choose 70 = .ok (.iload 10, 2) := by decide +kernel
theorem dX7_choose_72 : decode cX7_choose 72 = .ok (.bipush 6, 2) := by decide +kernel
theorem dX7_choose_74 : decode cX7_choose 74 = .ok (.imul, 1) := by decide +kernel
theorem dX7_choose_75 : decode cX7_choose 75 = .ok (.lshr, 1) := by decide +kernel
theorem dX7_choose_76 : decode cX7_choose 76 = .ok (.l2i, 1) := by decide +kernel
theorem dX7_choose_77 : decode cX7_choose 77 = .ok (.bipush 63, 2) := by decide +kernel
theorem dX7_choose_79 : decode cX7_choose 79 = .ok (.iand, 1) := by decide +kernel
theorem dX7_choose_80 : decode cX7_choose 80 = .ok (.istore 11, 2) := by decide +kernel
theorem dX7_choose_82 : decode cX7_choose 82 = .ok (.aload_n 0, 1) := by decide +kernel
theorem dX7_choose_83 : decode cX7_choose 83 = .ok (.getfield 18, 3) := by decide +kernel
theorem dX7_choose_86 : decode cX7_choose 86 = .ok (.iload 6, 2) := by decide +kernel
theorem dX7_choose_88 : decode cX7_choose 88 = .ok (.iload 10, 2) := by decide +kernel
theorem dX7_choose_90 : decode cX7_choose 90 = .ok (.iload 8, 2) := by decide +kernel
theorem dX7_choose_92 : decode cX7_choose 92 = .ok (.if_icmp .ge 10, 3) := by decide +kernel
theorem dX7_choose_95 : decode cX7_choose 95 = .ok (.iload 10, 2) := by decide +kernel
theorem dX7_choose_97 : decode cX7_choose 97 = .ok (.iconst 1, 1) := by decide +kernel
theorem dX7_choose_98 : decode cX7_choose 98 = .ok (.iadd, 1) := by decide +kernel
theorem dX7_choose_99 : decode cX7_choose 99 = .ok (.goto 5, 3) := by decide +kernel
theorem dX7_choose_102 : decode cX7_choose 102 = .ok (.iload 8, 2) := by decide +kernel
theorem dX7_choose_104 : decode cX7_choose 104 = .ok (.iadd, 1) := by decide +kernel
theorem dX7_choose_105 : decode cX7_choose 105 = .ok (.iaload, 1) := by decide +kernel
theorem dX7_choose_106 : decode cX7_choose 106 = .ok (.istore 12, 2) := by decide +kernel
theorem dX7_choose_108 : decode cX7_choose 108 = .ok (.ldc 53, 2) := by decide +kernel
theorem dX7_choose_110 : decode cX7_choose 110 = .ok (.istore 13, 2) := by decide +kernel
theorem dX7_choose_112 : decode cX7_choose 112 = .ok (.iload 11, 2) := by decide +kernel
theorem dX7_choose_114 : decode cX7_choose 114 = .ok (.bipush 7, 2) := by decide +kernel
theorem dX7_choose_116 : decode cX7_choose 116 = .ok (.iand, 1) := by decide +kernel
theorem dX7_choose_117 : decode cX7_choose 117 = .ok (.ifCond .eq 22, 3) := by decide +kernel
theorem dX7_choose_120 : decode cX7_choose 120 = .ok (.iload 7, 2) := by decide +kernel
theorem dX7_choose_122 : decode cX7_choose 122 = .ok (.ldc 53, 2) := by decide +kernel
theorem dX7_choose_124 : decode cX7_choose 124 = .ok (.if_icmp .ge 15, 3) := by decide +kernel
theorem dX7_choose_127 : decode cX7_choose 127 = .ok (.iload 7, 2) := by decide +kernel
theorem dX7_choose_129 : decode cX7_choose 129 = .ok (.iload 11, 2) := by decide +kernel
theorem dX7_choose_131 : decode cX7_choose 131 = .ok (.iconst 3, 1) := by decide +kernel
theorem dX7_choose_132 : decode cX7_choose 132 = .ok (.ishr, 1) := by decide +kernel
theorem dX7_choose_133 : decode cX7_choose 133 = .ok (.bipush 6, 2) := by decide +kernel
theorem dX7_choose_135 : decode cX7_choose 135 = .ok (.ishl, 1) := by decide +kernel
theorem dX7_choose_136 : decode cX7_choose 136 = .ok (.iadd, 1) := by decide +kernel
theorem dX7_choose_137 : decode cX7_choose 137 = .ok (.istore 13, 2) := by decide +kernel
theorem dX7_choose_139 : decode cX7_choose 139 = .ok (.iload 13, 2) := by decide +kernel
theorem dX7_choose_141 : decode cX7_choose 141 = .ok (.iload 12, 2) := by decide +kernel
theorem dX7_choose_143 : decode cX7_choose 143 = .ok (.if_icmp .ge 12, 3) := by decide +kernel
theorem dX7_choose_146 : decode cX7_choose 146 = .ok (.iload 9, 2) := by decide +kernel
theorem dX7_choose_148 : decode cX7_choose 148 = .ok (.iconst 1, 1) := by decide +kernel
theorem dX7_choose_149 : decode cX7_choose 149 = .ok (.iload 10, 2) := by decide +kernel
theorem dX7_choose_151 : decode cX7_choose 151 = .ok (.ishl, 1) := by decide +kernel
theorem dX7_choose_152 : decode cX7_choose 152 = .ok (.ior, 1) := by decide +kernel
theorem dX7_choose_153 : decode cX7_choose 153 = .ok (.istore 9, 2) := by decide +kernel
theorem dX7_choose_155 : decode cX7_choose 155 = .ok (.aload_n 0, 1) := by decide +kernel
theorem dX7_choose_156 : decode cX7_choose 156 = .ok (.getfield 18, 3) := by decide +kernel
theorem dX7_choose_159 : decode cX7_choose 159 = .ok (.iload 5, 2) := by decide +kernel
theorem dX7_choose_161 : decode cX7_choose 161 = .ok (.iload 10, 2) := by decide +kernel
theorem dX7_choose_163 : decode cX7_choose 163 = .ok (.iadd, 1) := by decide +kernel
theorem dX7_choose_164 : decode cX7_choose 164 = .ok (.iload 13, 2) := by decide +kernel
theorem dX7_choose_166 : decode cX7_choose 166 = .ok (.iload 12, 2) := by decide +kernel
theorem dX7_choose_168 : decode cX7_choose 168 = .ok (.if_icmp .ge 8, 3) := by decide +kernel
theorem dX7_choose_171 : decode cX7_choose 171 = .ok (.iload 13, 2) := by decide +kernel
theorem dX7_choose_173 : decode cX7_choose 173 = .ok (.goto 5, 3) := by decide +kernel
theorem dX7_choose_176 : decode cX7_choose 176 = .ok (.iload 12, 2) := by decide +kernel
theorem dX7_choose_178 : decode cX7_choose 178 = .ok (.iastore, 1) := by decide +kernel
theorem dX7_choose_179 : decode cX7_choose 179 = .ok (.iinc 10 1, 3) := by decide +kernel
theorem dX7_choose_182 : decode cX7_choose 182 = .ok (.goto (-128), 3) := by decide +kernel
theorem dX7_choose_185 : decode cX7_choose 185 = .ok (.aload_n 0, 1) := by decide +kernel
theorem dX7_choose_186 : decode cX7_choose 186 = .ok (.getfield 21, 3) := by decide +kernel
theorem dX7_choose_189 : decode cX7_choose 189 = .ok (.iload_n 1, 1) := by decide +kernel
theorem dX7_choose_190 : decode cX7_choose 190 = .ok (.bipush 8, 2) := by decide +kernel
theorem dX7_choose_192 : decode cX7_choose 192 = .ok (.imul, 1) := by decide +kernel
theorem dX7_choose_193 : decode cX7_choose 193 = .ok (.iload_n 2, 1) := by decide +kernel
theorem dX7_choose_194 : decode cX7_choose 194 = .ok (.iadd, 1) := by decide +kernel
theorem dX7_choose_195 : decode cX7_choose 195 = .ok (.iload 9, 2) := by decide +kernel
theorem dX7_choose_197 : decode cX7_choose 197 = .ok (.iastore, 1) := by decide +kernel
theorem dX7_choose_198 : decode cX7_choose 198 = .ok (.return_, 1) := by decide +kernel
theorem dX7_cheapest_0 : decode cX7_cheapest 0 = .ok (.iload_n 1, 1) := by decide +kernel
theorem dX7_cheapest_1 : decode cX7_cheapest 1 = .ok (.iconst 1, 1) := by decide +kernel
theorem dX7_cheapest_2 : decode cX7_cheapest 2 = .ok (.iand, 1) := by decide +kernel
theorem dX7_cheapest_3 : decode cX7_cheapest 3 = .ok (.bipush 90, 2) := by decide +kernel
theorem dX7_cheapest_5 : decode cX7_cheapest 5 = .ok (.imul, 1) := by decide +kernel
theorem dX7_cheapest_6 : decode cX7_cheapest 6 = .ok (.istore_n 2, 1) := by decide +kernel
theorem dX7_cheapest_7 : decode cX7_cheapest 7 = .ok (.aload_n 0, 1) := by decide +kernel
theorem dX7_cheapest_8 : decode cX7_cheapest 8 = .ok (.getfield 18, 3) := by decide +kernel
theorem dX7_cheapest_11 : decode cX7_cheapest 11 = .ok (.iload_n 2, 1) := by decide +kernel
theorem dX7_cheapest_12 : decode cX7_cheapest 12 = .ok (.iload_n 2, 1) := by decide +kernel
theorem dX7_cheapest_13 : decode cX7_cheapest 13 = .ok (.bipush 90, 2) := by decide +kernel
theorem dX7_cheapest_15 : decode cX7_cheapest 15 = .ok (.iadd, 1) := by decide +kernel
theorem dX7_cheapest_16 : decode cX7_cheapest 16 = .ok (.ldc 53, 2) := by decide +kernel
theorem dX7_cheapest_18 : decode cX7_cheapest 18 = .ok (.invokestatic 85, 3) := by decide +kernel
theorem dX7_cheapest_21 : decode cX7_cheapest 21 = .ok (.aload_n 0, 1) := by decide +kernel
theorem dX7_cheapest_22 : decode cX7_cheapest 22 = .ok (.getfield 18, 3) := by decide +kernel
theorem dX7_cheapest_25 : decode cX7_cheapest 25 = .ok (.iload_n 2, 1) := by decide +kernel
theorem dX7_cheapest_26 : decode cX7_cheapest 26 = .ok (.aload_n 0, 1) := by decide +kernel
theorem dX7_cheapest_27 : decode cX7_cheapest 27 = .ok (.getfield 30, 3) := by decide +kernel
theorem dX7_cheapest_30 : decode cX7_cheapest 30 = .ok (.bipush 10, 2) := by decide +kernel
theorem dX7_cheapest_32 : decode cX7_cheapest 32 = .ok (.imul, 1) := by decide +kernel
theorem dX7_cheapest_33 : decode cX7_cheapest 33 = .ok (.iadd, 1) := by decide +kernel
theorem dX7_cheapest_34 : decode cX7_cheapest 34 = .ok (.iload_n 1, 1) := by decide +kernel
theorem dX7_cheapest_35 : decode cX7_cheapest 35 = .ok (.iastore, 1) := by decide +kernel
theorem dX7_cheapest_36 : decode cX7_cheapest 36 = .ok (.iload_n 1, 1) := by decide +kernel
theorem dX7_cheapest_37 : decode cX7_cheapest 37 = .ok (.bipush 48, 2) := by decide +kernel
theorem dX7_cheapest_39 : decode cX7_cheapest 39 = .ok (.invokestatic 91, 3) := by decide +kernel
theorem dX7_cheapest_42 : decode cX7_cheapest 42 = .ok (.iconst 1, 1) := by decide +kernel
theorem dX7_cheapest_43 : decode cX7_cheapest 43 = .ok (.isub, 1) := by decide +kernel
theorem dX7_cheapest_44 : decode cX7_cheapest 44 = .ok (.istore_n 3, 1) := by decide +kernel
theorem dX7_cheapest_45 : decode cX7_cheapest 45 = .ok (.iload_n 3, 1) := by decide +kernel
theorem dX7_cheapest_46 : decode cX7_cheapest 46 = .ok (.ifCond .lt 83, 3) := by decide +kernel
theorem dX7_cheapest_49 : decode cX7_cheapest 49 = .ok (.aload_n 0, 1) := by decide +kernel
theorem dX7_cheapest_50 : decode cX7_cheapest 50 = .ok (.getfield 18, 3) := by decide +kernel
theorem dX7_cheapest_53 : decode cX7_cheapest 53 = .ok (.iload_n 3, 1) := by decide +kernel
theorem dX7_cheapest_54 : decode cX7_cheapest 54 = .ok (.iconst 1, 1) := by decide +kernel
theorem dX7_cheapest_55 : decode cX7_cheapest 55 = .ok (.iand, 1) := by decide +kernel
theorem dX7_cheapest_56 : decode cX7_cheapest 56 = .ok (.bipush 90, 2) := by decide +kernel
theorem dX7_cheapest_58 : decode cX7_cheapest 58 = .ok (.imul, 1) := by decide +kernel
theorem dX7_cheapest_59 : decode cX7_cheapest 59 = .ok (.aload_n 0, 1) := by decide +kernel
theorem dX7_cheapest_60 : decode cX7_cheapest 60 = .ok (.getfield 30, 3) := by decide +kernel
theorem dX7_cheapest_63 : decode cX7_cheapest 63 = .ok (.bipush 10, 2) := by decide +kernel
theorem dX7_cheapest_65 : decode cX7_cheapest 65 = .ok (.imul, 1) := by decide +kernel
theorem dX7_cheapest_66 : decode cX7_cheapest 66 = .ok (.iadd, 1) := by decide +kernel
theorem dX7_cheapest_67 : decode cX7_cheapest 67 = .ok (.iload_n 3, 1) := by decide +kernel
theorem dX7_cheapest_68 : decode cX7_cheapest 68 = .ok (.iastore, 1) := by decide +kernel
theorem dX7_cheapest_69 : decode cX7_cheapest 69 = .ok (.iconst 0, 1) := by decide +kernel
theorem dX7_cheapest_70 : decode cX7_cheapest 70 = .ok (.istore 4, 2) := by decide +kernel
theorem dX7_cheapest_72 : decode cX7_cheapest 72 = .ok (.iload 4, 2) := by decide +kernel
theorem dX7_cheapest_74 : decode cX7_cheapest 74 = .ok (.aload_n 0, 1) := by decide +kernel
theorem dX7_cheapest_75 : decode cX7_cheapest 75 = .ok (.getfield 30, 3) := by decide +kernel
theorem dX7_cheapest_78 : decode cX7_cheapest 78 = .ok (.if_icmp .ge 45, 3) := by decide +kernel
theorem dX7_cheapest_81 : decode cX7_cheapest 81 = .ok (.iload 4, 2) := by decide +kernel
theorem dX7_cheapest_83 : decode cX7_cheapest 83 = .ok (.iload_n 3, 1) := by decide +kernel
theorem dX7_cheapest_84 : decode cX7_cheapest 84 = .ok (.if_icmp .gt 39, 3) := by decide +kernel
theorem dX7_cheapest_87 : decode cX7_cheapest 87 = .ok (.aload_n 0, 1) := by decide +kernel
theorem dX7_cheapest_88 : decode cX7_cheapest 88 = .ok (.iload_n 3, 1) := by decide +kernel
theorem dX7_cheapest_89 : decode cX7_cheapest 89 = .ok (.iload 4, 2) := by decide +kernel
theorem dX7_cheapest_91 : decode cX7_cheapest 91 = .ok (.aload_n 0, 1) := by decide +kernel
theorem dX7_cheapest_92 : decode cX7_cheapest 92 = .ok (.getfield 38, 3) := by decide +kernel
theorem dX7_cheapest_95 : decode cX7_cheapest 95 = .ok (.aload_n 0, 1) := by decide +kernel
theorem dX7_cheapest_96 : decode cX7_cheapest 96 = .ok (.getfield 24, 3) := by decide +kernel
theorem dX7_cheapest_99 : decode cX7_cheapest 99 = .ok (.iload 4, 2) := by decide +kernel
theorem dX7_cheapest_101 : decode cX7_cheapest 101 = .ok (.iaload, 1) := by decide +kernel
theorem dX7_cheapest_102 : decode cX7_cheapest 102 = .ok (.aload_n 0, 1) := by decide +kernel
theorem dX7_cheapest_103 : decode cX7_cheapest 103 = .ok (.getfield 46, 3) := by decide +kernel
theorem dX7_cheapest_106 : decode cX7_cheapest 106 = .ok (.iload_n 3, 1) := by decide +kernel
theorem dX7_cheapest_107 : decode cX7_cheapest 107 = .ok (.iadd, 1) := by decide +kernel
theorem dX7_cheapest_108 : decode cX7_cheapest 108 = .ok (.bipush 24, 2) := by decide +kernel
theorem dX7_cheapest_110 : decode cX7_cheapest 110 = .ok (.irem, 1) := by decide +kernel
theorem dX7_cheapest_111 : decode cX7_cheapest 111 = .ok (.invokevirtual 97, 3) := by decide +kernel
theorem dX7_cheapest_114 : decode cX7_cheapest 114 = .ok (.invokevirtual 101, 3) := by decide +kernel
theorem dX7_cheapest_117 : decode cX7_cheapest 117 = .ok (.iinc 4 1, 3) := by decide +kernel
theorem dX7_cheapest_120 : decode cX7_cheapest 120 = .ok (.goto (-48), 3) := by decide +kernel
theorem dX7_cheapest_123 : decode cX7_cheapest 123 = .ok (.iinc 3 (-1), 3) := by decide +kernel
theorem dX7_cheapest_126 : decode cX7_cheapest 126 = .ok (.goto (-81), 3) := by decide +kernel
theorem dX7_cheapest_129 : decode cX7_cheapest 129 = .ok (.aload_n 0, 1) := by decide +kernel
theorem dX7_cheapest_130 : decode cX7_cheapest 130 = .ok (.getfield 18, 3) := by decide +kernel
theorem dX7_cheapest_133 : decode cX7_cheapest 133 = .ok (.iconst 0, 1) := by decide +kernel
theorem dX7_cheapest_134 : decode cX7_cheapest 134 = .ok (.iaload, 1) := by decide +kernel
theorem dX7_cheapest_135 : decode cX7_cheapest 135 = .ok (.ireturn, 1) := by decide +kernel
theorem dJ7_fill_53178_0 : decode cJ7_fill_53178 0 = .ok (.iconst 0, 1) := by decide +kernel
theorem dJ7_fill_53178_1 : decode cJ7_fill_53178 1 = .ok (.istore_n 2, 1) := by decide +kernel
theorem dJ7_fill_53178_2 : decode cJ7_fill_53178 2 = .ok (.aload_n 0, 1) := by decide +kernel
theorem dJ7_fill_53178_3 : decode cJ7_fill_53178 3 = .ok (.arraylength, 1) := by decide +kernel
theorem dJ7_fill_53178_4 : decode cJ7_fill_53178 4 = .ok (.istore_n 3, 1) := by decide +kernel
theorem dJ7_fill_53178_5 : decode cJ7_fill_53178 5 = .ok (.iload_n 2, 1) := by decide +kernel
theorem dJ7_fill_53178_6 : decode cJ7_fill_53178 6 = .ok (.iload_n 3, 1) := by decide +kernel
theorem dJ7_fill_53178_7 : decode cJ7_fill_53178 7 = .ok (.if_icmp .ge 13, 3) := by decide +kernel
theorem dJ7_fill_53178_10 : decode cJ7_fill_53178 10 = .ok (.aload_n 0, 1) := by decide +kernel
theorem dJ7_fill_53178_11 : decode cJ7_fill_53178 11 = .ok (.iload_n 2, 1) := by decide +kernel
theorem dJ7_fill_53178_12 : decode cJ7_fill_53178 12 = .ok (.iload_n 1, 1) := by decide +kernel
theorem dJ7_fill_53178_13 : decode cJ7_fill_53178 13 = .ok (.iastore, 1) := by decide +kernel
theorem dJ7_fill_53178_14 : decode cJ7_fill_53178 14 = .ok (.iinc 2 1, 3) := by decide +kernel
theorem dJ7_fill_53178_17 : decode cJ7_fill_53178 17 = .ok (.goto (-12), 3) := by decide +kernel
theorem dJ7_fill_53178_20 : decode cJ7_fill_53178 20 = .ok (.return_, 1) := by decide +kernel
theorem dX7_walk_0 : decode cX7_walk 0 = .ok (.aload_n 0, 1) := by decide +kernel
theorem dX7_walk_1 : decode cX7_walk 1 = .ok (.iload_n 1, 1) := by decide +kernel
theorem dX7_walk_2 : decode cX7_walk 2 = .ok (.bipush 6, 2) := by decide +kernel
theorem dX7_walk_4 : decode cX7_walk 4 = .ok (.ishr, 1) := by decide +kernel
theorem dX7_walk_5 : decode cX7_walk 5 = .ok (.putfield 105, 3) := by decide +kernel
theorem dX7_walk_8 : decode cX7_walk 8 = .ok (.aload_n 0, 1) := by decide +kernel
theorem dX7_walk_9 : decode cX7_walk 9 = .ok (.iload_n 1, 1) := by decide +kernel
theorem dX7_walk_10 : decode cX7_walk 10 = .ok (.bipush 63, 2) := by decide +kernel
theorem dX7_walk_12 : decode cX7_walk 12 = .ok (.iand, 1) := by decide +kernel
theorem dX7_walk_13 : decode cX7_walk 13 = .ok (.putfield 108, 3) := by decide +kernel
theorem dX7_walk_16 : decode cX7_walk 16 = .ok (.aload_n 0, 1) := by decide +kernel
theorem dX7_walk_17 : decode cX7_walk 17 = .ok (.getfield 15, 3) := by decide +kernel
theorem dX7_walk_20 : decode cX7_walk 20 = .ok (.iconst 0, 1) := by decide +kernel
theorem dX7_walk_21 : decode cX7_walk 21 = .ok (.invokestatic 111, 3) := by decide +kernel
theorem dX7_walk_24 : decode cX7_walk 24 = .ok (.iconst 0, 1) := by decide +kernel
theorem dX7_walk_25 : decode cX7_walk 25 = .ok (.istore_n 2, 1) := by decide +kernel
theorem dX7_walk_26 : decode cX7_walk 26 = .ok (.iconst 0, 1) := by decide +kernel
theorem dX7_walk_27 : decode cX7_walk 27 = .ok (.istore_n 3, 1) := by decide +kernel
theorem dX7_walk_28 : decode cX7_walk 28 = .ok (.iconst 0, 1) := by decide +kernel
theorem dX7_walk_29 : decode cX7_walk 29 = .ok (.istore 4, 2) := by decide +kernel
theorem dX7_walk_31 : decode cX7_walk 31 = .ok (.iload 4, 2) := by decide +kernel
theorem dX7_walk_33 : decode cX7_walk 33 = .ok (.aload_n 0, 1) := by decide +kernel
theorem dX7_walk_34 : decode cX7_walk 34 = .ok (.getfield 108, 3) := by decide +kernel
theorem dX7_walk_37 : decode cX7_walk 37 = .ok (.if_icmp .ge 143, 3) := by decide +kernel
theorem dX7_walk_40 : decode cX7_walk 40 = .ok (.iload 4, 2) := by decide +kernel
theorem dX7_walk_42 : decode cX7_walk 42 = .ok (.bipush 48, 2) := by decide +kernel
theorem dX7_walk_44 : decode cX7_walk 44 = .ok (.if_icmp .ge 136, 3) := by decide +kernel
theorem dX7_walk_47 : decode cX7_walk 47 = .ok (.iload_n 2, 1) := by decide +kernel
theorem dX7_walk_48 : decode cX7_walk 48 = .ok (.aload_n 0, 1) := by decide +kernel
theorem dX7_walk_49 : decode cX7_walk 49 = .ok (.getfield 30, 3) := by decide +kernel
theorem dX7_walk_52 : decode cX7_walk 52 = .ok (.if_icmp .ge 128, 3) := by decide +kernel
theorem dX7_walk_55 : decode cX7_walk 55 = .ok (.aload_n 0, 1) := by decide +kernel
theorem dX7_walk_56 : decode cX7_walk 56 = .ok (.getfield 21, 3) := by decide +kernel
theorem dX7_walk_59 : decode cX7_walk 59 = .ok (.iload 4, 2) := by decide +kernel
theorem dX7_walk_61 : decode cX7_walk 61 = .ok (.bipush 8, 2) := by decide +kernel
theorem dX7_walk_63 : decode cX7_walk 63 = .ok (.imul, 1) := by decide +kernel
theorem dX7_walk_64 : decode cX7_walk 64 = .ok (.iload_n 2, 1) := by decide +kernel
theorem dX7_walk_65 : decode cX7_walk 65 = .ok (.iadd, 1) := by decide +kernel
theorem dX7_walk_66 : decode cX7_walk 66 = .ok (.iaload, 1) := by decide +kernel
theorem dX7_walk_67 : decode cX7_walk 67 = .ok (.iload_n 3, 1) := by decide +kernel
theorem dX7_walk_68 : decode cX7_walk 68 = .ok (.ishr, 1) := by decide +kernel
theorem dX7_walk_69 : decode cX7_walk 69 = .ok (.iconst 1, 1) := by decide +kernel
theorem dX7_walk_70 : decode cX7_walk 70 = .ok (.iand, 1) := by decide +kernel
theorem dX7_walk_71 : decode cX7_walk 71 = .ok (.iconst 1, 1) := by decide +kernel
theorem dX7_walk_72 : decode cX7_walk 72 = .ok (.if_icmp .ne 81, 3) := by decide +kernel
theorem dX7_walk_75 : decode cX7_walk 75 = .ok (.aload_n 0, 1) := by decide +kernel
theorem dX7_walk_76 : decode cX7_walk 76 = .ok (.getfield 38, 3) := by decide +kernel
theorem dX7_walk_79 : decode cX7_walk 79 = .ok (.aload_n 0, 1) := by decide +kernel
theorem dX7_walk_80 : decode cX7_walk 80 = .ok (.getfield 24, 3) := by decide +kernel
theorem dX7_walk_83 : decode cX7_walk 83 = .ok (.iload_n 2, 1) := by decide +kernel
theorem dX7_walk_84 : decode cX7_walk 84 = .ok (.iaload, 1) := by decide +kernel
theorem dX7_walk_85 : decode cX7_walk 85 = .ok (.aload_n 0, 1) := by decide +kernel
theorem dX7_walk_86 : decode cX7_walk 86 = .ok (.getfield 46, 3) := by decide +kernel
theorem dX7_walk_89 : decode cX7_walk 89 = .ok (.iload 4, 2) := by decide +kernel
theorem dX7_walk_91 : decode cX7_walk 91 = .ok (.iadd, 1) := by decide +kernel
theorem dX7_walk_92 : decode cX7_walk 92 = .ok (.bipush 24, 2) := by decide +kernel
theorem dX7_walk_94 : decode cX7_walk 94 = .ok (.irem, 1) := by decide +kernel
theorem dX7_walk_95 : decode cX7_walk 95 = .ok (.invokevirtual 97, 3) := by decide +kernel
theorem dX7_walk_98 : decode cX7_walk 98 = .ok (.lstore 5, 2) := by decide +kernel
theorem dX7_walk_100 : decode cX7_walk 100 = .ok (.lload 5, 2) := by decide +kernel
theorem dX7_walk_102 : decode cX7_walk 102 = .ok (.iload_n 3, 1) := by decide +kernel
theorem dX7_walk_103 : decode cX7_walk 103 = .ok (.bipush 6, 2) := by decide +kernel
theorem dX7_walk_105 : decode cX7_walk 105 = .ok (.imul, 1) := by decide +kernel
theorem dX7_walk_106 : decode cX7_walk 106 = .ok (.lshr, 1) := by decide +kernel
theorem dX7_walk_107 : decode cX7_walk 107 = .ok (.l2i, 1) := by decide +kernel
theorem dX7_walk_108 : decode cX7_walk 108 = .ok (.bipush 63, 2) := by decide +kernel
theorem dX7_walk_110 : decode cX7_walk 110 = .ok (.iand, 1) := by decide +kernel
theorem dX7_walk_111 : decode cX7_walk 111 = .ok (.istore 7, 2) := by decide +kernel
theorem dX7_walk_113 : decode cX7_walk 113 = .ok (.aload_n 0, 1) := by decide +kernel
theorem dX7_walk_114 : decode cX7_walk 114 = .ok (.getfield 15, 3) := by decide +kernel
theorem dX7_walk_117 : decode cX7_walk 117 = .ok (.iload_n 2, 1) := by decide +kernel
theorem dX7_walk_118 : decode cX7_walk 118 = .ok (.iload 7, 2) := by decide +kernel
theorem dX7_walk_120 : decode cX7_walk 120 = .ok (.iconst 3, 1) := by decide +kernel
theorem dX7_walk_121 : decode cX7_walk 121 = .ok (.ishr, 1) := by decide +kernel
theorem dX7_walk_122 : decode cX7_walk 122 = .ok (.iastore, 1) := by decide +kernel
theorem dX7_walk_123 : decode cX7_walk 123 = .ok (.aload_n 0, 1) := by decide +kernel
theorem dX7_walk_124 : decode cX7_walk 124 = .ok (.getfield 9, 3) := by decide +kernel
theorem dX7_walk_127 : decode cX7_walk 127 = .ok (.iload 4, 2) := by decide +kernel
theorem dX7_walk_129 : decode cX7_walk 129 = .ok (.bipush 10, 2) := by decide +kernel
theorem dX7_walk_131 : decode cX7_walk 131 = .ok (.iload 7, 2) := by decide +kernel
theorem dX7_walk_133 : decode cX7_walk 133 = .ok (.bipush 7, 2) := by decide +kernel
theorem dX7_walk_135 : decode cX7_walk 135 = .ok (.iand, 1) := by decide +kernel
theorem dX7_walk_136 : decode cX7_walk 136 = .ok (.imul, 1) := by decide +kernel
theorem dX7_walk_137 : decode cX7_walk 137 = .ok (.aload_n 0, 1) := by decide +kernel
theorem dX7_walk_138 : decode cX7_walk 138 = .ok (.getfield 15, 3) := by decide +kernel
theorem dX7_walk_141 : decode cX7_walk 141 = .ok (.iload_n 2, 1) := by decide +kernel
theorem dX7_walk_142 : decode cX7_walk 142 = .ok (.iaload, 1) := by decide +kernel
theorem dX7_walk_143 : decode cX7_walk 143 = .ok (.iadd, 1) := by decide +kernel
theorem dX7_walk_144 : decode cX7_walk 144 = .ok (.iastore, 1) := by decide +kernel
theorem dX7_walk_145 : decode cX7_walk 145 = .ok (.iinc 2 1, 3) := by decide +kernel
theorem dX7_walk_148 : decode cX7_walk 148 = .ok (.iconst 0, 1) := by decide +kernel
theorem dX7_walk_149 : decode cX7_walk 149 = .ok (.istore_n 3, 1) := by decide +kernel
theorem dX7_walk_150 : decode cX7_walk 150 = .ok (.goto 24, 3) := by decide +kernel
theorem dX7_walk_153 : decode cX7_walk 153 = .ok (.aload_n 0, 1) := by decide +kernel
theorem dX7_walk_154 : decode cX7_walk 154 = .ok (.getfield 9, 3) := by decide +kernel
theorem dX7_walk_157 : decode cX7_walk 157 = .ok (.iload 4, 2) := by decide +kernel
theorem dX7_walk_159 : decode cX7_walk 159 = .ok (.iconst 0, 1) := by decide +kernel
theorem dX7_walk_160 : decode cX7_walk 160 = .ok (.iastore, 1) := by decide +kernel
theorem dX7_walk_161 : decode cX7_walk 161 = .ok (.aload_n 0, 1) := by decide +kernel
theorem dX7_walk_162 : decode cX7_walk 162 = .ok (.getfield 27, 3) := by decide +kernel
theorem dX7_walk_165 : decode cX7_walk 165 = .ok (.iload_n 2, 1) := by decide +kernel
theorem dX7_walk_166 : decode cX7_walk 166 = .ok (.iaload, 1) := by decide +kernel
theorem dX7_walk_167 : decode cX7_walk 167 = .ok (.iload_n 3, 1) := by decide +kernel
theorem dX7_walk_168 : decode cX7_walk 168 = .ok (.iconst 1, 1) := by decide +kernel
theorem dX7_walk_169 : decode cX7_walk 169 = .ok (.iadd, 1) := by decide +kernel
theorem dX7_walk_170 : decode cX7_walk 170 = .ok (.invokestatic 91, 3) := by decide +kernel
theorem dX7_walk_173 : decode cX7_walk 173 = .ok (.istore_n 3, 1) := by decide +kernel
theorem dX7_walk_174 : decode cX7_walk 174 = .ok (.iinc 4 1, 3) := by decide +kernel
theorem dX7_walk_177 : decode cX7_walk 177 = .ok (.goto (-146), 3) := by decide +kernel
theorem dX7_walk_180 : decode cX7_walk 180 = .ok (.return_, 1) := by decide +kernel
theorem dX7_findCheapest_0 : decode cX7_findCheapest 0 = .ok (.aload_n 0, 1) := by decide +kernel
theorem dX7_findCheapest_1 : decode cX7_findCheapest 1 = .ok (.aload_n 1, 1) := by decide +kernel
theorem dX7_findCheapest_2 : decode cX7_findCheapest 2 = .ok (.iload_n 2, 1) := by decide +kernel
theorem dX7_findCheapest_3 : decode cX7_findCheapest 3 = .ok (.iload_n 3, 1) := by decide +kernel
theorem dX7_findCheapest_4 : decode cX7_findCheapest 4 = .ok (.invokevirtual 42, 3) := by decide +kernel
theorem dX7_findCheapest_7 : decode cX7_findCheapest 7 = .ok (.ifCond .ne 5, 3) := by decide +kernel
theorem dX7_findCheapest_10 : decode cX7_findCheapest 10 = .ok (.iconst 0, 1) := by decide +kernel
theorem dX7_findCheapest_11 : decode cX7_findCheapest 11 = .ok (.ireturn, 1) := by decide +kernel
theorem dX7_findCheapest_12 : decode cX7_findCheapest 12 = .ok (.aload_n 0, 1) := by decide +kernel
theorem dX7_findCheapest_13 : decode cX7_findCheapest 13 = .ok (.iload 4, 2) := by decide +kernel
theorem dX7_findCheapest_15 : decode cX7_findCheapest 15 = .ok (.putfield 46, 3) := by decide +kernel
theorem dX7_findCheapest_18 : decode cX7_findCheapest 18 = .ok (.aload_n 0, 1) := by decide +kernel
theorem dX7_findCheapest_19 : decode cX7_findCheapest 19 = .ok (.iload 5, 2) := by decide +kernel
theorem dX7_findCheapest_21 : decode cX7_findCheapest 21 = .ok (.invokevirtual 49, 3) := by decide +kernel
theorem dX7_findCheapest_24 : decode cX7_findCheapest 24 = .ok (.istore 7, 2) := by decide +kernel
theorem dX7_findCheapest_26 : decode cX7_findCheapest 26 = .ok (.iload 7, 2) := by decide +kernel
theorem dX7_findCheapest_28 : decode cX7_findCheapest 28 = .ok (.ldc 53, 2) := by decide +kernel
theorem dX7_findCheapest_30 : decode cX7_findCheapest 30 = .ok (.if_icmp .ge 17, 3) := by decide +kernel
theorem dX7_findCheapest_33 : decode cX7_findCheapest 33 = .ok (.iload 7, 2) := by decide +kernel
theorem dX7_findCheapest_35 : decode cX7_findCheapest 35 = .ok (.bipush 6, 2) := by decide +kernel
theorem dX7_findCheapest_37 : decode cX7_findCheapest 37 = .ok (.ishr, 1) := by decide +kernel
theorem dX7_findCheapest_38 : decode cX7_findCheapest 38 = .ok (.iload 6, 2) := by decide +kernel
theorem dX7_findCheapest_40 : decode cX7_findCheapest 40 = .ok (.if_icmp .gt 7, 3) := by decide +kernel
theorem dX7_findCheapest_43 : decode cX7_findCheapest 43 = .ok (.iconst 1, 1) := by decide +kernel
theorem dX7_findCheapest_44 : decode cX7_findCheapest 44 = .ok (.goto 4, 3) := by decide +kernel
theorem dX7_findCheapest_47 : decode cX7_findCheapest 47 = .ok (.iconst 0, 1) := by decide +kernel
theorem dX7_findCheapest_48 : decode cX7_findCheapest 48 = .ok (.istore 8, 2) := by decide +kernel
theorem dX7_findCheapest_50 : decode cX7_findCheapest 50 = .ok (.iload 8, 2) := by decide +kernel
theorem dX7_findCheapest_52 : decode cX7_findCheapest 52 = .ok (.ifCond .eq 9, 3) := by decide +kernel
theorem dX7_findCheapest_55 : decode cX7_findCheapest 55 = .ok (.aload_n 0, 1) := by decide +kernel
theorem dX7_findCheapest_56 : decode cX7_findCheapest 56 = .ok (.iload 7, 2) := by decide +kernel
theorem dX7_findCheapest_58 : decode cX7_findCheapest 58 = .ok (.invokevirtual 54, 3) := by decide +kernel
theorem dX7_findCheapest_61 : decode cX7_findCheapest 61 = .ok (.iload 8, 2) := by decide +kernel
theorem dX7_findCheapest_63 : decode cX7_findCheapest 63 = .ok (.ireturn, 1) := by decide +kernel
-- X3_leastsAt
def F_X3_leastsAt (nd : Nat) (v1 : Int32) (v2 : Int32) (s : jS) : Option Int64 :=
  (if v1 < 0 then some 1 else (if v2 < 0 then some 1 else (if (Int32.ofNat (960 * nd)) ≤ (v1 + v2) then some 1 else (if jin (v1 + v2) (960 * nd) = true then some (s.2 32 (Int32.toNatClampNeg (v1 + v2))) else none))))
def rm_X3_leastsAt : Room := { frames := 0, cells := 0, slots := 0, locals := 0 }
set_option maxHeartbeats 4000000 in
set_option maxRecDepth 100000 in
theorem m_X3_leastsAt {l : Launch} {D : va_G} {G : Nat → ClassId} {KV : jV} {ad : Nat → Nat} (nd : Nat) (v1 : Int32) (v2 : Int32) (s : jS) {p : Int64} (h : F_X3_leastsAt nd v1 v2 s = some p) : jM l D G KV yX3_leastsAt cX3_leastsAt 4 (some .long) rm_X3_leastsAt [.ref (ad 29), .int v1, .int v2] (jw 54 (cellC G nd) ad s) 0 0 (fun v u => v = some (.long p) ∧ u = jw 54 (cellC G nd) ad s) := by
  refine jM.of (by decide) (Nat.le_of_ble_eq_true rfl) ?_
  intro K C
  unfold F_X3_leastsAt at h
  show K 0 0 (jw 54 (cellC G nd) ad s) 0 [(0, .ref (ad 29)), (1, .int v1), (2, .int v2)] []
  refine j_iload_n C dX3_leastsAt_0 1 rfl ?_
  refine j_iload_n C dX3_leastsAt_1 2 rfl ?_
  refine j_iadd C dX3_leastsAt_2 ?_
  refine j_istore_n C dX3_leastsAt_3 (by decide) rfl ?_
  refine j_iload_n C dX3_leastsAt_4 2 rfl ?_
  refine j_if_lt C dX3_leastsAt_5 (tgt := 30) (by decide) (fun cq => ?_) (fun cq => ?_)
  · have h := jite_t h cq
    refine j_lconst C dX3_leastsAt_30 (v := 1) (by decide) ?_
    exact j_lret C dX3_leastsAt_31 rfl (Nat.zero_le _) (Nat.zero_le _) (jretPL h)
  · have h := jite_f h cq
    refine j_iload_n C dX3_leastsAt_8 3 rfl ?_
    refine j_if_lt C dX3_leastsAt_9 (tgt := 30) (by decide) (fun cq => ?_) (fun cq => ?_)
    · have h := jite_t h cq
      refine j_lconst C dX3_leastsAt_30 (v := 1) (by decide) ?_
      exact j_lret C dX3_leastsAt_31 rfl (Nat.zero_le _) (Nat.zero_le _) (jretPL h)
    · have h := jite_f h cq
      refine j_iload_n C dX3_leastsAt_12 0 rfl ?_
      refine j_aload_n C dX3_leastsAt_13 1 rfl ?_
      refine j_getW C dX3_leastsAt_14 inX3 rfl (by decide) rfl 5 (by decide) w_206 rfl rfl ?_
      refine j_alenW C dX3_leastsAt_17 (by decide) rfl (by decide) (v := (Int32.ofNat (960 * nd))) rfl ?_
      refine j_icmp_ge C dX3_leastsAt_18 (tgt := 30) (by decide) (fun cq => ?_) (fun cq => ?_)
      · have h := jite_t h cq
        refine j_lconst C dX3_leastsAt_30 (v := 1) (by decide) ?_
        exact j_lret C dX3_leastsAt_31 rfl (Nat.zero_le _) (Nat.zero_le _) (jretPL h)
      · have h := jite_f h cq
        refine j_aload_n C dX3_leastsAt_21 1 rfl ?_
        refine j_getW C dX3_leastsAt_22 inX3 rfl (by decide) rfl 5 (by decide) w_206 rfl rfl ?_
        refine j_iload_n C dX3_leastsAt_25 0 rfl ?_
        obtain ⟨c26_1, h⟩ := jchk h
        refine j_laldW C dX3_leastsAt_26 (by decide) rfl (jin_vp c26_1) ?_
        refine j_goto C dX3_leastsAt_27 (tgt := 31) (by decide) ?_
        exact j_lret C dX3_leastsAt_31 rfl (Nat.zero_le _) (Nat.zero_le _) (jretPL h)
-- X7_choose
def J_X7_choose_155 (n : Nat) (v1 : Int32) (v2 : Int32) (v3 : Int64) (v5 : Int32) (v6 : Int32) (v7 : Int32) (v8 : Int32) (v9 : Int32) (v10 : Int32) (v12 : Int32) (v13 : Int32) (s : jS) : Option ((Int32 × Int32 × jS) ⊕ (Int32 × Int32 × jS)) :=
  (if v12 ≤ v13 then (if jin (v5 + v10) 180 = true then (jl (upI s 36 (Int32.toNatClampNeg (v5 + v10)) v12) fun s178_5 => some (.inl (v9, (v10 + 1), s178_5))) else none) else (if jin (v5 + v10) 180 = true then (jl (upI s 36 (Int32.toNatClampNeg (v5 + v10)) v13) fun s178_7 => some (.inl (v9, (v10 + 1), s178_7))) else none))
def J_X7_choose_139 (n : Nat) (v1 : Int32) (v2 : Int32) (v3 : Int64) (v5 : Int32) (v6 : Int32) (v7 : Int32) (v8 : Int32) (v9 : Int32) (v10 : Int32) (v12 : Int32) (v13 : Int32) (s : jS) : Option ((Int32 × Int32 × jS) ⊕ (Int32 × Int32 × jS)) :=
  (if v12 ≤ v13 then J_X7_choose_155 n v1 v2 v3 v5 v6 v7 v8 v9 v10 v12 v13 s else J_X7_choose_155 n v1 v2 v3 v5 v6 v7 v8 (v9 ||| ((1 : Int32) <<< (v10 &&& 31))) v10 v12 v13 s)
def J_X7_choose_104 (n : Nat) (v1 : Int32) (v2 : Int32) (v3 : Int64) (v5 : Int32) (v6 : Int32) (v7 : Int32) (v8 : Int32) (v9 : Int32) (v10 : Int32) (v11 : Int32) (k1 : Int32) (k2 : Int32) (s : jS) : Option ((Int32 × Int32 × jS) ⊕ (Int32 × Int32 × jS)) :=
  (if jin (k1 + k2) 180 = true then (if (v11 &&& (7 : Int32)) = 0 then J_X7_choose_139 n v1 v2 v3 v5 v6 v7 v8 v9 v10 (s.1 36 (Int32.toNatClampNeg (k1 + k2))) 1048576 s else (if 1048576 ≤ v7 then J_X7_choose_139 n v1 v2 v3 v5 v6 v7 v8 v9 v10 (s.1 36 (Int32.toNatClampNeg (k1 + k2))) 1048576 s else J_X7_choose_139 n v1 v2 v3 v5 v6 v7 v8 v9 v10 (s.1 36 (Int32.toNatClampNeg (k1 + k2))) (v7 + ((v11 >>> ((3 : Int32) &&& 31)) <<< ((6 : Int32) &&& 31))) s)) else none)
def B_X7_choose_54 (n : Nat) (v1 : Int32) (v2 : Int32) (v3 : Int64) (v5 : Int32) (v6 : Int32) (v7 : Int32) (v8 : Int32) (q : Int32 × Int32 × jS) : Option ((Int32 × Int32 × jS) ⊕ (Int32 × Int32 × jS)) :=
  (if v8 < q.2.1 then some (.inr (q.1, q.2.1, q.2.2)) else (if (v1 - v2) < q.2.1 then some (.inr (q.1, q.2.1, q.2.2)) else (if v8 ≤ q.2.1 then J_X7_choose_104 n v1 v2 v3 v5 v6 v7 v8 q.1 q.2.1 ((Int64.toInt32 (v3 >>> (((q.2.1 * 6) : Int32).toInt64 &&& 63))) &&& (63 : Int32)) v6 v8 q.2.2 else J_X7_choose_104 n v1 v2 v3 v5 v6 v7 v8 q.1 q.2.1 ((Int64.toInt32 (v3 >>> (((q.2.1 * 6) : Int32).toInt64 &&& 63))) &&& (63 : Int32)) v6 (q.2.1 + 1) q.2.2)))
def F_X7_choose (n : Nat) (v1 : Int32) (v2 : Int32) (v3 : Int64) (s : jS) : Option jS :=
  (if jin (((((v1 + 1) &&& (1 : Int32)) * 90) + (v2 * 10)) + 10) 180 = true then (if jin v2 8 = true then ((lp (B_X7_choose_54 n v1 v2 v3 (((v1 &&& (1 : Int32)) * 90) + (v2 * 10)) ((((v1 + 1) &&& (1 : Int32)) * 90) + (v2 * 10)) (s.1 36 (Int32.toNatClampNeg (((((v1 + 1) &&& (1 : Int32)) * 90) + (v2 * 10)) + 10))) (s.1 39 (Int32.toNatClampNeg v2))) n (0, 0, s)).bind fun e54 => (if jin ((v1 * 8) + v2) 384 = true then (jl (upI e54.2.2 37 (Int32.toNatClampNeg ((v1 * 8) + v2)) e54.1) fun s197_9 => some s197_9) else none)) else none) else none)
def rm_X7_choose : Room := { frames := 0, cells := 0, slots := 0, locals := 0 }
set_option maxHeartbeats 4000000 in
set_option maxRecDepth 100000 in
theorem m_X7_choose {l : Launch} {D : va_G} {G : Nat → ClassId} {KV : jV} {ad : Nat → Nat} {nd : Nat} (n : Nat) (v1 : Int32) (v2 : Int32) (v3 : Int64) (s : jS) {p : jS} (h : F_X7_choose n v1 v2 v3 s = some p) : jM l D G KV yX7_choose cX7_choose 14 none rm_X7_choose [.ref (ad 33), .int v1, .int v2, .long v3] (jw 54 (cellC G nd) ad s) 0 0 (fun v u => v = none ∧ u = jw 54 (cellC G nd) ad p) := by
  refine jM.of (by decide) (Nat.le_of_ble_eq_true rfl) ?_
  intro K C
  unfold F_X7_choose at h
  have jn155_54 : ∀ (v1 : Int32) (v2 : Int32) (v3 : Int64) (v5 : Int32) (v6 : Int32) (v7 : Int32) (v8 : Int32) (v9 : Int32) (v10 : Int32) (v12 : Int32) (v13 : Int32) (s : jS) (o : (Int32 × Int32 × jS) ⊕ (Int32 × Int32 × jS)), J_X7_choose_155 n v1 v2 v3 v5 v6 v7 v8 v9 v10 v12 v13 s = some o → (∀ q, o = .inl q → K 0 0 (jw 54 (cellC G nd) ad q.2.2) 54 [(0, .ref (ad 33)), (1, .int v1), (2, .int v2), (3, .long v3), (5, .int v5), (6, .int v6), (7, .int v7), (8, .int v8), (9, .int q.1), (10, .int q.2.1)] []) → (∀ e, o = .inr e → K 0 0 (jw 54 (cellC G nd) ad e.2.2) 185 [(0, .ref (ad 33)), (1, .int v1), (2, .int v2), (9, .int e.1)] []) → K 0 0 (jw 54 (cellC G nd) ad s) 155 [(0, .ref (ad 33)), (1, .int v1), (2, .int v2), (3, .long v3), (5, .int v5), (6, .int v6), (7, .int v7), (8, .int v8), (9, .int v9), (10, .int v10), (12, .int v12), (13, .int v13)] [] := by
    intro v1 v2 v3 v5 v6 v7 v8 v9 v10 v12 v13 s o hb hin hout
    unfold J_X7_choose_155 at hb
    refine j_aload_n C dX7_choose_155 0 rfl ?_
    refine j_getW C dX7_choose_156 inX7 rfl (by decide) rfl 7 (by decide) w_241 rfl rfl ?_
    refine j_iload C dX7_choose_159 4 rfl ?_
    refine j_iload C dX7_choose_161 9 rfl ?_
    refine j_iadd C dX7_choose_163 ?_
    refine j_iload C dX7_choose_164 11 rfl ?_
    refine j_iload C dX7_choose_166 10 rfl ?_
    refine j_icmp_ge C dX7_choose_168 (tgt := 176) (by decide) (fun cq => ?_) (fun cq => ?_)
    · have hb := jite_t hb cq
      refine j_iload C dX7_choose_176 10 rfl ?_
      obtain ⟨c178_4, hb⟩ := jchk hb
      refine j_iastW C dX7_choose_178 (by decide) (fun _ => rfl) (jin_vp c178_4) (fun s178_5 hs178_5 => ?_)
      have hb := jlet hb hs178_5
      refine j_iinc C dX7_choose_179 9 rfl (v := (v10 + 1)) rfl (by decide) rfl ?_
      refine j_goto C dX7_choose_182 (tgt := 54) (by decide) ?_
      refine j_loc C [1, 2, 3, 4, 5, 6, 7, 8, 9, 0] rfl ?_
      have hx := hin _ (jinl hb)
      exact hx
    · have hb := jite_f hb cq
      refine j_iload C dX7_choose_171 11 rfl ?_
      refine j_goto C dX7_choose_173 (tgt := 178) (by decide) ?_
      obtain ⟨c178_6, hb⟩ := jchk hb
      refine j_iastW C dX7_choose_178 (by decide) (fun _ => rfl) (jin_vp c178_6) (fun s178_7 hs178_7 => ?_)
      have hb := jlet hb hs178_7
      refine j_iinc C dX7_choose_179 9 rfl (v := (v10 + 1)) rfl (by decide) rfl ?_
      refine j_goto C dX7_choose_182 (tgt := 54) (by decide) ?_
      refine j_loc C [1, 2, 3, 4, 5, 6, 7, 8, 9, 0] rfl ?_
      have hx := hin _ (jinl hb)
      exact hx
  have jn139_54 : ∀ (v1 : Int32) (v2 : Int32) (v3 : Int64) (v5 : Int32) (v6 : Int32) (v7 : Int32) (v8 : Int32) (v9 : Int32) (v10 : Int32) (v12 : Int32) (v13 : Int32) (s : jS) (o : (Int32 × Int32 × jS) ⊕ (Int32 × Int32 × jS)), J_X7_choose_139 n v1 v2 v3 v5 v6 v7 v8 v9 v10 v12 v13 s = some o → (∀ q, o = .inl q → K 0 0 (jw 54 (cellC G nd) ad q.2.2) 54 [(0, .ref (ad 33)), (1, .int v1), (2, .int v2), (3, .long v3), (5, .int v5), (6, .int v6), (7, .int v7), (8, .int v8), (9, .int q.1), (10, .int q.2.1)] []) → (∀ e, o = .inr e → K 0 0 (jw 54 (cellC G nd) ad e.2.2) 185 [(0, .ref (ad 33)), (1, .int v1), (2, .int v2), (9, .int e.1)] []) → K 0 0 (jw 54 (cellC G nd) ad s) 139 [(0, .ref (ad 33)), (1, .int v1), (2, .int v2), (3, .long v3), (5, .int v5), (6, .int v6), (7, .int v7), (8, .int v8), (9, .int v9), (10, .int v10), (12, .int v12), (13, .int v13)] [] := by
    intro v1 v2 v3 v5 v6 v7 v8 v9 v10 v12 v13 s o hb hin hout
    unfold J_X7_choose_139 at hb
    refine j_iload C dX7_choose_139 11 rfl ?_
    refine j_iload C dX7_choose_141 10 rfl ?_
    refine j_icmp_ge C dX7_choose_143 (tgt := 155) (by decide) (fun cq => ?_) (fun cq => ?_)
    · have hb := jite_t hb cq
      refine j_loc C [0, 1, 2, 3, 4, 5, 6, 7, 8, 9, 10, 11] rfl ?_
      exact jn155_54 v1 v2 v3 v5 v6 v7 v8 v9 v10 v12 v13 s   _ hb hin hout
    · have hb := jite_f hb cq
      refine j_iload C dX7_choose_146 8 rfl ?_
      refine j_iconst C dX7_choose_148 (v := 1) (by decide) ?_
      refine j_iload C dX7_choose_149 9 rfl ?_
      refine j_ishl C dX7_choose_151 ?_
      refine j_ior C dX7_choose_152 ?_
      refine j_istore C dX7_choose_153 (by decide) rfl ?_
      refine j_loc C [1, 2, 3, 4, 5, 6, 7, 8, 0, 9, 10, 11] rfl ?_
      exact jn155_54 v1 v2 v3 v5 v6 v7 v8 (v9 ||| ((1 : Int32) <<< (v10 &&& 31))) v10 v12 v13 s   _ hb hin hout
  have jn104_54 : ∀ (v1 : Int32) (v2 : Int32) (v3 : Int64) (v5 : Int32) (v6 : Int32) (v7 : Int32) (v8 : Int32) (v9 : Int32) (v10 : Int32) (v11 : Int32) (k1 : Int32) (k2 : Int32) (s : jS) (o : (Int32 × Int32 × jS) ⊕ (Int32 × Int32 × jS)), J_X7_choose_104 n v1 v2 v3 v5 v6 v7 v8 v9 v10 v11 k1 k2 s = some o → (∀ q, o = .inl q → K 0 0 (jw 54 (cellC G nd) ad q.2.2) 54 [(0, .ref (ad 33)), (1, .int v1), (2, .int v2), (3, .long v3), (5, .int v5), (6, .int v6), (7, .int v7), (8, .int v8), (9, .int q.1), (10, .int q.2.1)] []) → (∀ e, o = .inr e → K 0 0 (jw 54 (cellC G nd) ad e.2.2) 185 [(0, .ref (ad 33)), (1, .int v1), (2, .int v2), (9, .int e.1)] []) → K 0 0 (jw 54 (cellC G nd) ad s) 104 [(0, .ref (ad 33)), (1, .int v1), (2, .int v2), (3, .long v3), (5, .int v5), (6, .int v6), (7, .int v7), (8, .int v8), (9, .int v9), (10, .int v10), (11, .int v11)] [.int k2, .int k1, .ref (ad 36)] := by
    intro v1 v2 v3 v5 v6 v7 v8 v9 v10 v11 k1 k2 s o hb hin hout
    unfold J_X7_choose_104 at hb
    refine j_iadd C dX7_choose_104 ?_
    obtain ⟨c105_3, hb⟩ := jchk hb
    refine j_ialdW C dX7_choose_105 (by decide) rfl (jin_vp c105_3) ?_
    refine j_istore C dX7_choose_106 (by decide) rfl ?_
    refine j_ldc C dX7_choose_108 (v := 1048576) w_787 ?_
    refine j_istore C dX7_choose_110 (by decide) rfl ?_
    refine j_iload C dX7_choose_112 12 rfl ?_
    refine j_bipush C dX7_choose_114 (v := 7) (by decide) ?_
    refine j_iand C dX7_choose_116 ?_
    refine j_if_eq C dX7_choose_117 (tgt := 139) (by decide) (fun cq => ?_) (fun cq => ?_)
    · have hb := jite_t hb cq
      refine j_loc C [2, 3, 4, 5, 6, 7, 8, 9, 10, 11, 1, 0] rfl ?_
      exact jn139_54 v1 v2 v3 v5 v6 v7 v8 v9 v10 (s.1 36 (Int32.toNatClampNeg (k1 + k2))) 1048576 s   _ hb hin hout
    · have hb := jite_f hb cq
      refine j_iload C dX7_choose_120 8 rfl ?_
      refine j_ldc C dX7_choose_122 (v := 1048576) w_787 ?_
      refine j_icmp_ge C dX7_choose_124 (tgt := 139) (by decide) (fun cq => ?_) (fun cq => ?_)
      · have hb := jite_t hb cq
        refine j_loc C [2, 3, 4, 5, 6, 7, 8, 9, 10, 11, 1, 0] rfl ?_
        exact jn139_54 v1 v2 v3 v5 v6 v7 v8 v9 v10 (s.1 36 (Int32.toNatClampNeg (k1 + k2))) 1048576 s   _ hb hin hout
      · have hb := jite_f hb cq
        refine j_iload C dX7_choose_127 8 rfl ?_
        refine j_iload C dX7_choose_129 12 rfl ?_
        refine j_iconst C dX7_choose_131 (v := 3) (by decide) ?_
        refine j_ishr C dX7_choose_132 ?_
        refine j_bipush C dX7_choose_133 (v := 6) (by decide) ?_
        refine j_ishl C dX7_choose_135 ?_
        refine j_iadd C dX7_choose_136 ?_
        refine j_istore C dX7_choose_137 (by decide) rfl ?_
        refine j_loc C [2, 3, 4, 5, 6, 7, 8, 9, 10, 11, 1, 0] rfl ?_
        exact jn139_54 v1 v2 v3 v5 v6 v7 v8 v9 v10 (s.1 36 (Int32.toNatClampNeg (k1 + k2))) (v7 + ((v11 >>> ((3 : Int32) &&& 31)) <<< ((6 : Int32) &&& 31))) s   _ hb hin hout
  have lo54 : ∀ (v1 : Int32) (v2 : Int32) (v3 : Int64) (v5 : Int32) (v6 : Int32) (v7 : Int32) (v8 : Int32) (s : jS) (k : Nat) (q : Int32 × Int32 × jS) (e : Int32 × Int32 × jS), lp (B_X7_choose_54 n v1 v2 v3 v5 v6 v7 v8) k q = some e → K 0 0 (jw 54 (cellC G nd) ad e.2.2) 185 [(0, .ref (ad 33)), (1, .int v1), (2, .int v2), (9, .int e.1)] [] → K 0 0 (jw 54 (cellC G nd) ad q.2.2) 54 [(0, .ref (ad 33)), (1, .int v1), (2, .int v2), (3, .long v3), (5, .int v5), (6, .int v6), (7, .int v7), (8, .int v8), (9, .int q.1), (10, .int q.2.1)] [] := by
    intro v1 v2 v3 v5 v6 v7 v8 s k q e he hE
    refine jlp (KH := fun q => K 0 0 (jw 54 (cellC G nd) ad q.2.2) 54 [(0, .ref (ad 33)), (1, .int v1), (2, .int v2), (3, .long v3), (5, .int v5), (6, .int v6), (7, .int v7), (8, .int v8), (9, .int q.1), (10, .int q.2.1)] []) (KE := fun e => K 0 0 (jw 54 (cellC G nd) ad e.2.2) 185 [(0, .ref (ad 33)), (1, .int v1), (2, .int v2), (9, .int e.1)] []) ?_ k q e he hE
    intro q o hb hin hout
    unfold B_X7_choose_54 at hb
    show K 0 0 (jw 54 (cellC G nd) ad q.2.2) 54 [(0, .ref (ad 33)), (1, .int v1), (2, .int v2), (3, .long v3), (5, .int v5), (6, .int v6), (7, .int v7), (8, .int v8), (9, .int q.1), (10, .int q.2.1)] []
    refine j_iload C dX7_choose_54 9 rfl ?_
    refine j_iload C dX7_choose_56 7 rfl ?_
    refine j_icmp_gt C dX7_choose_58 (tgt := 185) (by decide) (fun cq => ?_) (fun cq => ?_)
    · have hb := jite_t hb cq
      refine j_loc C [0, 1, 2, 8] rfl ?_
      have hx := hout _ (jinr hb)
      exact hx
    · have hb := jite_f hb cq
      refine j_iload C dX7_choose_61 9 rfl ?_
      refine j_iload_n C dX7_choose_63 1 rfl ?_
      refine j_iload_n C dX7_choose_64 2 rfl ?_
      refine j_isub C dX7_choose_65 ?_
      refine j_icmp_gt C dX7_choose_66 (tgt := 185) (by decide) (fun cq => ?_) (fun cq => ?_)
      · have hb := jite_t hb cq
        refine j_loc C [0, 1, 2, 8] rfl ?_
        have hx := hout _ (jinr hb)
        exact hx
      · have hb := jite_f hb cq
        refine j_lload_n C dX7_choose_69 3 rfl ?_
        refine j_iload C dX7_choose_70 9 rfl ?_
        refine j_bipush C dX7_choose_72 (v := 6) (by decide) ?_
        refine j_imul C dX7_choose_74 ?_
        refine j_lshr C dX7_choose_75 ?_
        refine j_l2i C dX7_choose_76 ?_
        refine j_bipush C dX7_choose_77 (v := 63) (by decide) ?_
        refine j_iand C dX7_choose_79 ?_
        refine j_istore C dX7_choose_80 (by decide) rfl ?_
        refine j_aload_n C dX7_choose_82 1 rfl ?_
        refine j_getW C dX7_choose_83 inX7 rfl (by decide) rfl 7 (by decide) w_241 rfl rfl ?_
        refine j_iload C dX7_choose_86 6 rfl ?_
        refine j_iload C dX7_choose_88 10 rfl ?_
        refine j_iload C dX7_choose_90 8 rfl ?_
        refine j_icmp_ge C dX7_choose_92 (tgt := 102) (by decide) (fun cq => ?_) (fun cq => ?_)
        · have hb := jite_t hb cq
          refine j_iload C dX7_choose_102 8 rfl ?_
          refine j_loc C [1, 2, 3, 4, 5, 6, 7, 8, 9, 10, 0] rfl ?_
          exact jn104_54 v1 v2 v3 v5 v6 v7 v8 q.1 q.2.1 ((Int64.toInt32 (v3 >>> (((q.2.1 * 6) : Int32).toInt64 &&& 63))) &&& (63 : Int32)) v6 v8 q.2.2   _ hb hin hout
        · have hb := jite_f hb cq
          refine j_iload C dX7_choose_95 10 rfl ?_
          refine j_iconst C dX7_choose_97 (v := 1) (by decide) ?_
          refine j_iadd C dX7_choose_98 ?_
          refine j_goto C dX7_choose_99 (tgt := 104) (by decide) ?_
          refine j_loc C [1, 2, 3, 4, 5, 6, 7, 8, 9, 10, 0] rfl ?_
          exact jn104_54 v1 v2 v3 v5 v6 v7 v8 q.1 q.2.1 ((Int64.toInt32 (v3 >>> (((q.2.1 * 6) : Int32).toInt64 &&& 63))) &&& (63 : Int32)) v6 (q.2.1 + 1) q.2.2   _ hb hin hout
  show K 0 0 (jw 54 (cellC G nd) ad s) 0 [(0, .ref (ad 33)), (1, .int v1), (2, .int v2), (3, .long v3)] []
  refine j_iload_n C dX7_choose_0 1 rfl ?_
  refine j_iconst C dX7_choose_1 (v := 1) (by decide) ?_
  refine j_iand C dX7_choose_2 ?_
  refine j_bipush C dX7_choose_3 (v := 90) (by decide) ?_
  refine j_imul C dX7_choose_5 ?_
  refine j_iload_n C dX7_choose_6 2 rfl ?_
  refine j_bipush C dX7_choose_7 (v := 10) (by decide) ?_
  refine j_imul C dX7_choose_9 ?_
  refine j_iadd C dX7_choose_10 ?_
  refine j_istore C dX7_choose_11 (by decide) rfl ?_
  refine j_iload_n C dX7_choose_13 2 rfl ?_
  refine j_iconst C dX7_choose_14 (v := 1) (by decide) ?_
  refine j_iadd C dX7_choose_15 ?_
  refine j_iconst C dX7_choose_16 (v := 1) (by decide) ?_
  refine j_iand C dX7_choose_17 ?_
  refine j_bipush C dX7_choose_18 (v := 90) (by decide) ?_
  refine j_imul C dX7_choose_20 ?_
  refine j_iload_n C dX7_choose_21 3 rfl ?_
  refine j_bipush C dX7_choose_22 (v := 10) (by decide) ?_
  refine j_imul C dX7_choose_24 ?_
  refine j_iadd C dX7_choose_25 ?_
  refine j_istore C dX7_choose_26 (by decide) rfl ?_
  refine j_aload_n C dX7_choose_28 2 rfl ?_
  refine j_getW C dX7_choose_29 inX7 rfl (by decide) rfl 7 (by decide) w_241 rfl rfl ?_
  refine j_iload C dX7_choose_32 0 rfl ?_
  refine j_bipush C dX7_choose_34 (v := 10) (by decide) ?_
  refine j_iadd C dX7_choose_36 ?_
  obtain ⟨c37_1, h⟩ := jchk h
  refine j_ialdW C dX7_choose_37 (by decide) rfl (jin_vp c37_1) ?_
  refine j_istore C dX7_choose_38 (by decide) rfl ?_
  refine j_aload_n C dX7_choose_40 3 rfl ?_
  refine j_getW C dX7_choose_41 inX7 rfl (by decide) rfl 10 (by decide) w_244 rfl rfl ?_
  refine j_iload_n C dX7_choose_44 5 rfl ?_
  obtain ⟨c45_2, h⟩ := jchk h
  refine j_ialdW C dX7_choose_45 (by decide) rfl (jin_vp c45_2) ?_
  refine j_istore C dX7_choose_46 (by decide) rfl ?_
  refine j_iconst C dX7_choose_48 (v := 0) (by decide) ?_
  refine j_istore C dX7_choose_49 (by decide) rfl ?_
  refine j_iconst C dX7_choose_51 (v := 0) (by decide) ?_
  refine j_istore C dX7_choose_52 (by decide) rfl ?_
  refine j_loc C [6, 7, 8, 9, 5, 4, 3, 2, 1, 0] rfl ?_
  obtain ⟨e54, he54, h⟩ := jbind h
  refine lo54 v1 v2 v3 (((v1 &&& (1 : Int32)) * 90) + (v2 * 10)) ((((v1 + 1) &&& (1 : Int32)) * 90) + (v2 * 10)) (s.1 36 (Int32.toNatClampNeg (((((v1 + 1) &&& (1 : Int32)) * 90) + (v2 * 10)) + 10))) (s.1 39 (Int32.toNatClampNeg v2)) s  n (0, 0, s) e54 he54 ?_
  refine j_aload_n C dX7_choose_185 0 rfl ?_
  refine j_getW C dX7_choose_186 inX7 rfl (by decide) rfl 8 (by decide) w_242 rfl rfl ?_
  refine j_iload_n C dX7_choose_189 1 rfl ?_
  refine j_bipush C dX7_choose_190 (v := 8) (by decide) ?_
  refine j_imul C dX7_choose_192 ?_
  refine j_iload_n C dX7_choose_193 2 rfl ?_
  refine j_iadd C dX7_choose_194 ?_
  refine j_iload C dX7_choose_195 3 rfl ?_
  obtain ⟨c197_8, h⟩ := jchk h
  refine j_iastW C dX7_choose_197 (by decide) (fun _ => rfl) (jin_vp c197_8) (fun s197_9 hs197_9 => ?_)
  have h := jlet h hs197_9
  exact j_vret C dX7_choose_198 rfl (Nat.zero_le _) (Nat.zero_le _) (jretWV h)
-- X7_cheapest
def B_X7_cheapest_72 (nd : Nat) (n : Nat) (v3 : Int32) (q : Int32 × jS) : Option ((Int32 × jS) ⊕ (Int32 × jS)) :=
  (if (q.2.1 33 4) ≤ q.1 then some (.inr (q.1, q.2)) else (if v3 < q.1 then some (.inr (q.1, q.2)) else (if jin q.1 8 = true then ((F_X3_leastsAt nd (q.2.1 38 (Int32.toNatClampNeg q.1)) (((q.2.1 33 11) + v3) - ((q.2.1 33 11) + v3) / 24 * 24) q.2).bind fun p111 => ((F_X7_choose n v3 q.1 p111 q.2).bind fun p114 => some (.inl ((q.1 + 1), p114)))) else none)))
def B_X7_cheapest_45 (nd : Nat) (n : Nat) (q : Int32 × jS) : Option ((Int32 × jS) ⊕ (Int32 × jS)) :=
  (if q.1 < 0 then some (.inr (q.1, q.2)) else (if jin (((q.1 &&& (1 : Int32)) * 90) + ((q.2.1 33 4) * 10)) 180 = true then (jl (upI q.2 36 (Int32.toNatClampNeg (((q.1 &&& (1 : Int32)) * 90) + ((q.2.1 33 4) * 10))) q.1) fun s68_4 => ((lp (B_X7_cheapest_72 nd n q.1) n (0, s68_4)).bind fun e72 => some (.inl ((q.1 + (-1)), e72.2)))) else none))
def F_X7_cheapest (nd : Nat) (n : Nat) (v1 : Int32) (s : jS) : Option (Int32 × jS) :=
  ((F_J7_fill_fda19_36 n ((v1 &&& (1 : Int32)) * 90) (((v1 &&& (1 : Int32)) * 90) + 90) 1048576 s).bind fun p18 => (if jin (((v1 &&& (1 : Int32)) * 90) + ((p18.1 33 4) * 10)) 180 = true then (jl (upI p18 36 (Int32.toNatClampNeg (((v1 &&& (1 : Int32)) * 90) + ((p18.1 33 4) * 10))) v1) fun s35_2 => ((lp (B_X7_cheapest_45 nd n) n (((if (48 : Int32) < v1 then 48 else v1) - 1), s35_2)).bind fun e45 => some ((e45.2.1 36 (Int32.toNatClampNeg 0)), e45.2))) else none))
def rm_X7_cheapest : Room := { frames := 2, cells := 0, slots := 0, locals := 46 }
set_option maxHeartbeats 4000000 in
set_option maxRecDepth 100000 in
theorem m_X7_cheapest {l : Launch} {D : va_G} {G : Nat → ClassId} {KV : jV} {ad : Nat → Nat} (nd : Nat) (n : Nat) (v1 : Int32) (s : jS) {p : Int32 × jS} (h : F_X7_cheapest nd n v1 s = some p) : jM l D G KV yX7_cheapest cX7_cheapest 5 (some .int) rm_X7_cheapest [.ref (ad 33), .int v1] (jw 54 (cellC G nd) ad s) 0 0 (fun v u => v = some (.int p.1) ∧ u = jw 54 (cellC G nd) ad p.2) := by
  refine jM.of (by decide) (Nat.le_of_ble_eq_true rfl) ?_
  intro K C
  unfold F_X7_cheapest at h
  have lo72 : ∀ (v3 : Int32) (s : jS) (k : Nat) (q : Int32 × jS) (e : Int32 × jS), lp (B_X7_cheapest_72 nd n v3) k q = some e → K 0 0 (jw 54 (cellC G nd) ad e.2) 123 [(0, .ref (ad 33)), (3, .int v3)] [] → K 0 0 (jw 54 (cellC G nd) ad q.2) 72 [(0, .ref (ad 33)), (3, .int v3), (4, .int q.1)] [] := by
    intro v3 s k q e he hE
    refine jlp (KH := fun q => K 0 0 (jw 54 (cellC G nd) ad q.2) 72 [(0, .ref (ad 33)), (3, .int v3), (4, .int q.1)] []) (KE := fun e => K 0 0 (jw 54 (cellC G nd) ad e.2) 123 [(0, .ref (ad 33)), (3, .int v3)] []) ?_ k q e he hE
    intro q o hb hin hout
    unfold B_X7_cheapest_72 at hb
    show K 0 0 (jw 54 (cellC G nd) ad q.2) 72 [(0, .ref (ad 33)), (3, .int v3), (4, .int q.1)] []
    refine j_iload C dX7_cheapest_72 2 rfl ?_
    refine j_aload_n C dX7_cheapest_74 0 rfl ?_
    refine j_getW C dX7_cheapest_75 inX7 rfl (by decide) rfl 4 (by decide) w_238 rfl rfl ?_
    refine j_icmp_ge C dX7_cheapest_78 (tgt := 123) (by decide) (fun cq => ?_) (fun cq => ?_)
    · have hb := jite_t hb cq
      refine j_loc C [0, 1] rfl ?_
      have hx := hout _ (jinr hb)
      exact hx
    · have hb := jite_f hb cq
      refine j_iload C dX7_cheapest_81 2 rfl ?_
      refine j_iload_n C dX7_cheapest_83 1 rfl ?_
      refine j_icmp_gt C dX7_cheapest_84 (tgt := 123) (by decide) (fun cq => ?_) (fun cq => ?_)
      · have hb := jite_t hb cq
        refine j_loc C [0, 1] rfl ?_
        have hx := hout _ (jinr hb)
        exact hx
      · have hb := jite_f hb cq
        refine j_aload_n C dX7_cheapest_87 0 rfl ?_
        refine j_iload_n C dX7_cheapest_88 1 rfl ?_
        refine j_iload C dX7_cheapest_89 2 rfl ?_
        refine j_aload_n C dX7_cheapest_91 0 rfl ?_
        refine j_getW C dX7_cheapest_92 inX7 rfl (by decide) rfl 6 (by decide) w_240 rfl rfl ?_
        refine j_aload_n C dX7_cheapest_95 0 rfl ?_
        refine j_getW C dX7_cheapest_96 inX7 rfl (by decide) rfl 9 (by decide) w_243 rfl rfl ?_
        refine j_iload C dX7_cheapest_99 2 rfl ?_
        obtain ⟨c101_5, hb⟩ := jchk hb
        refine j_ialdW C dX7_cheapest_101 (by decide) rfl (jin_vp c101_5) ?_
        refine j_aload_n C dX7_cheapest_102 0 rfl ?_
        refine j_getW C dX7_cheapest_103 inX7 rfl (by decide) rfl 11 (by decide) w_245 rfl rfl ?_
        refine j_iload_n C dX7_cheapest_106 1 rfl ?_
        refine j_iadd C dX7_cheapest_107 ?_
        refine j_bipush C dX7_cheapest_108 (v := 24) (by decide) ?_
        refine j_irem C dX7_cheapest_110 (by decide) ?_
        obtain ⟨p111, he111, hb⟩ := jbind hb
        refine j_cV1 C dX7_cheapest_111 (m_X3_leastsAt nd (q.2.1 38 (Int32.toNatClampNeg q.1)) (((q.2.1 33 11) + v3) - ((q.2.1 33 11) + v3) / 24 * 24) q.2 he111) kc_X3_leastsAt w_795 w_796 w_797 w_7 jy_X3_leastsAt ⟨⟨Nat.le_of_ble_eq_true rfl, Nat.le_of_ble_eq_true rfl⟩, ⟨rfl, rfl⟩, ⟨Nat.zero_le _, Nat.zero_le _⟩⟩ (Nat.le_of_ble_eq_true rfl) (by decide) rfl (r := (RX3, TX3, 7)) rfl rfl rfl (fun _ _ h => h) ?_
        obtain ⟨p114, he114, hb⟩ := jbind hb
        refine j_cV0 C dX7_cheapest_114 (m_X7_choose n v3 q.1 p111 q.2 he114) kc_X7_choose w_799 w_801 wp_35 w_8 jy_X7_choose ⟨⟨Nat.le_of_ble_eq_true rfl, Nat.le_of_ble_eq_true rfl⟩, ⟨rfl, rfl⟩, ⟨Nat.zero_le _, Nat.zero_le _⟩⟩ (Nat.le_of_ble_eq_true rfl) (by decide) rfl (r := (RX7, TX7, 12)) rfl rfl rfl (fun _ _ h => h) ?_
        refine j_iinc C dX7_cheapest_117 2 rfl (v := (q.1 + 1)) rfl (by decide) rfl ?_
        refine j_goto C dX7_cheapest_120 (tgt := 72) (by decide) ?_
        refine j_loc C [1, 2, 0] rfl ?_
        have hx := hin _ (jinl hb)
        exact hx
  have lo45 : ∀ (s : jS) (k : Nat) (q : Int32 × jS) (e : Int32 × jS), lp (B_X7_cheapest_45 nd n) k q = some e → K 0 0 (jw 54 (cellC G nd) ad e.2) 129 [(0, .ref (ad 33))] [] → K 0 0 (jw 54 (cellC G nd) ad q.2) 45 [(0, .ref (ad 33)), (3, .int q.1)] [] := by
    intro s k q e he hE
    refine jlp (KH := fun q => K 0 0 (jw 54 (cellC G nd) ad q.2) 45 [(0, .ref (ad 33)), (3, .int q.1)] []) (KE := fun e => K 0 0 (jw 54 (cellC G nd) ad e.2) 129 [(0, .ref (ad 33))] []) ?_ k q e he hE
    intro q o hb hin hout
    unfold B_X7_cheapest_45 at hb
    show K 0 0 (jw 54 (cellC G nd) ad q.2) 45 [(0, .ref (ad 33)), (3, .int q.1)] []
    refine j_iload_n C dX7_cheapest_45 1 rfl ?_
    refine j_if_lt C dX7_cheapest_46 (tgt := 129) (by decide) (fun cq => ?_) (fun cq => ?_)
    · have hb := jite_t hb cq
      refine j_loc C [0] rfl ?_
      have hx := hout _ (jinr hb)
      exact hx
    · have hb := jite_f hb cq
      refine j_aload_n C dX7_cheapest_49 0 rfl ?_
      refine j_getW C dX7_cheapest_50 inX7 rfl (by decide) rfl 7 (by decide) w_241 rfl rfl ?_
      refine j_iload_n C dX7_cheapest_53 1 rfl ?_
      refine j_iconst C dX7_cheapest_54 (v := 1) (by decide) ?_
      refine j_iand C dX7_cheapest_55 ?_
      refine j_bipush C dX7_cheapest_56 (v := 90) (by decide) ?_
      refine j_imul C dX7_cheapest_58 ?_
      refine j_aload_n C dX7_cheapest_59 0 rfl ?_
      refine j_getW C dX7_cheapest_60 inX7 rfl (by decide) rfl 4 (by decide) w_238 rfl rfl ?_
      refine j_bipush C dX7_cheapest_63 (v := 10) (by decide) ?_
      refine j_imul C dX7_cheapest_65 ?_
      refine j_iadd C dX7_cheapest_66 ?_
      refine j_iload_n C dX7_cheapest_67 1 rfl ?_
      obtain ⟨c68_3, hb⟩ := jchk hb
      refine j_iastW C dX7_cheapest_68 (by decide) (fun _ => rfl) (jin_vp c68_3) (fun s68_4 hs68_4 => ?_)
      have hb := jlet hb hs68_4
      refine j_iconst C dX7_cheapest_69 (v := 0) (by decide) ?_
      refine j_istore C dX7_cheapest_70 (by decide) rfl ?_
      refine j_loc C [1, 2, 0] rfl ?_
      obtain ⟨e72, he72, hb⟩ := jbind hb
      refine lo72 q.1 s68_4  n (0, s68_4) e72 he72 ?_
      refine j_iinc C dX7_cheapest_123 1 rfl (v := (q.1 + (-1))) rfl (by decide) rfl ?_
      refine j_goto C dX7_cheapest_126 (tgt := 45) (by decide) ?_
      refine j_loc C [1, 0] rfl ?_
      have hx := hin _ (jinl hb)
      exact hx
  show K 0 0 (jw 54 (cellC G nd) ad s) 0 [(0, .ref (ad 33)), (1, .int v1)] []
  refine j_iload_n C dX7_cheapest_0 1 rfl ?_
  refine j_iconst C dX7_cheapest_1 (v := 1) (by decide) ?_
  refine j_iand C dX7_cheapest_2 ?_
  refine j_bipush C dX7_cheapest_3 (v := 90) (by decide) ?_
  refine j_imul C dX7_cheapest_5 ?_
  refine j_istore_n C dX7_cheapest_6 (by decide) rfl ?_
  refine j_aload_n C dX7_cheapest_7 1 rfl ?_
  refine j_getW C dX7_cheapest_8 inX7 rfl (by decide) rfl 7 (by decide) w_241 rfl rfl ?_
  refine j_iload_n C dX7_cheapest_11 0 rfl ?_
  refine j_iload_n C dX7_cheapest_12 0 rfl ?_
  refine j_bipush C dX7_cheapest_13 (v := 90) (by decide) ?_
  refine j_iadd C dX7_cheapest_15 ?_
  refine j_ldc C dX7_cheapest_16 (v := 1048576) w_787 ?_
  obtain ⟨p18, he18, h⟩ := jbind h
  refine j_cS0 C dX7_cheapest_18 (m_J7_fill_fda19_36 n ((v1 &&& (1 : Int32)) * 90) (((v1 &&& (1 : Int32)) * 90) + 90) 1048576 s he18) kc_J7_fill_fda19 w_788 w_789 w_17 jy_J7_fill_fda19 ⟨⟨Nat.le_of_ble_eq_true rfl, Nat.le_of_ble_eq_true rfl⟩, ⟨rfl, rfl⟩, ⟨Nat.zero_le _, Nat.zero_le _⟩⟩ (Nat.le_of_ble_eq_true rfl) rfl (fun _ _ h => h) ?_
  refine j_aload_n C dX7_cheapest_21 1 rfl ?_
  refine j_getW C dX7_cheapest_22 inX7 rfl (by decide) rfl 7 (by decide) w_241 rfl rfl ?_
  refine j_iload_n C dX7_cheapest_25 0 rfl ?_
  refine j_aload_n C dX7_cheapest_26 1 rfl ?_
  refine j_getW C dX7_cheapest_27 inX7 rfl (by decide) rfl 4 (by decide) w_238 rfl rfl ?_
  refine j_bipush C dX7_cheapest_30 (v := 10) (by decide) ?_
  refine j_imul C dX7_cheapest_32 ?_
  refine j_iadd C dX7_cheapest_33 ?_
  refine j_iload_n C dX7_cheapest_34 2 rfl ?_
  obtain ⟨c35_1, h⟩ := jchk h
  refine j_iastW C dX7_cheapest_35 (by decide) (fun _ => rfl) (jin_vp c35_1) (fun s35_2 hs35_2 => ?_)
  have h := jlet h hs35_2
  refine j_iload_n C dX7_cheapest_36 2 rfl ?_
  refine j_bipush C dX7_cheapest_37 (v := 48) (by decide) ?_
  refine j_mmin C dX7_cheapest_39 w_794 w_27 w_2 w_28 (Nat.le_of_ble_eq_true rfl) (Nat.le_of_ble_eq_true rfl) (Nat.zero_le _) (Nat.zero_le _) ?_
  refine j_iconst C dX7_cheapest_42 (v := 1) (by decide) ?_
  refine j_isub C dX7_cheapest_43 ?_
  refine j_istore_n C dX7_cheapest_44 (by decide) rfl ?_
  refine j_loc C [2, 0] rfl ?_
  obtain ⟨e45, he45, h⟩ := jbind h
  refine lo45  s35_2  n (((if (48 : Int32) < v1 then 48 else v1) - 1), s35_2) e45 he45 ?_
  refine j_aload_n C dX7_cheapest_129 0 rfl ?_
  refine j_getW C dX7_cheapest_130 inX7 rfl (by decide) rfl 7 (by decide) w_241 rfl rfl ?_
  refine j_iconst C dX7_cheapest_133 (v := 0) (by decide) ?_
  refine j_ialdW C dX7_cheapest_134 (by decide) rfl (jin_vp (i := 0) (n := 180) (by decide)) ?_
  exact j_iret C dX7_cheapest_135 rfl rfl (Nat.zero_le _) (Nat.zero_le _) (jretWI h)
-- J7_fill_53178_35
def B_J7_fill_53178_35_5 (n : Nat) (v1 : Int32) (v3 : Int32) (q : Int32 × jS) : Option ((Int32 × jS) ⊕ (Int32 × jS)) :=
  (if v3 ≤ q.1 then some (.inr (q.1, q.2)) else (if jin q.1 8 = true then (jl (upI q.2 35 (Int32.toNatClampNeg q.1) v1) fun s13_2 => some (.inl ((q.1 + 1), s13_2))) else none))
def F_J7_fill_53178_35 (n : Nat) (v1 : Int32) (s : jS) : Option jS :=
  ((lp (B_J7_fill_53178_35_5 n v1 8) n (0, s)).bind fun e5 => some e5.2)
def rm_J7_fill_53178_35 : Room := { frames := 0, cells := 0, slots := 0, locals := 0 }
set_option maxHeartbeats 4000000 in
set_option maxRecDepth 100000 in
theorem m_J7_fill_53178_35 {l : Launch} {D : va_G} {G : Nat → ClassId} {KV : jV} {ad : Nat → Nat} {nd : Nat} (n : Nat) (v1 : Int32) (s : jS) {p : jS} (h : F_J7_fill_53178_35 n v1 s = some p) : jM l D G KV yJ7_fill_53178 cJ7_fill_53178 4 none rm_J7_fill_53178_35 [.ref (ad 35), .int v1] (jw 54 (cellC G nd) ad s) 0 0 (fun v u => v = none ∧ u = jw 54 (cellC G nd) ad p) := by
  refine jM.of (by decide) (Nat.le_of_ble_eq_true rfl) ?_
  intro K C
  unfold F_J7_fill_53178_35 at h
  have lo5 : ∀ (v1 : Int32) (v3 : Int32) (s : jS) (k : Nat) (q : Int32 × jS) (e : Int32 × jS), lp (B_J7_fill_53178_35_5 n v1 v3) k q = some e → K 0 0 (jw 54 (cellC G nd) ad e.2) 20 [] [] → K 0 0 (jw 54 (cellC G nd) ad q.2) 5 [(0, .ref (ad 35)), (1, .int v1), (2, .int q.1), (3, .int v3)] [] := by
    intro v1 v3 s k q e he hE
    refine jlp (KH := fun q => K 0 0 (jw 54 (cellC G nd) ad q.2) 5 [(0, .ref (ad 35)), (1, .int v1), (2, .int q.1), (3, .int v3)] []) (KE := fun e => K 0 0 (jw 54 (cellC G nd) ad e.2) 20 [] []) ?_ k q e he hE
    intro q o hb hin hout
    unfold B_J7_fill_53178_35_5 at hb
    show K 0 0 (jw 54 (cellC G nd) ad q.2) 5 [(0, .ref (ad 35)), (1, .int v1), (2, .int q.1), (3, .int v3)] []
    refine j_iload_n C dJ7_fill_53178_5 2 rfl ?_
    refine j_iload_n C dJ7_fill_53178_6 3 rfl ?_
    refine j_icmp_ge C dJ7_fill_53178_7 (tgt := 20) (by decide) (fun cq => ?_) (fun cq => ?_)
    · have hb := jite_t hb cq
      refine j_loc C [] rfl ?_
      have hx := hout _ (jinr hb)
      exact hx
    · have hb := jite_f hb cq
      refine j_aload_n C dJ7_fill_53178_10 0 rfl ?_
      refine j_iload_n C dJ7_fill_53178_11 2 rfl ?_
      refine j_iload_n C dJ7_fill_53178_12 1 rfl ?_
      obtain ⟨c13_1, hb⟩ := jchk hb
      refine j_iastW C dJ7_fill_53178_13 (by decide) (fun _ => rfl) (jin_vp c13_1) (fun s13_2 hs13_2 => ?_)
      have hb := jlet hb hs13_2
      refine j_iinc C dJ7_fill_53178_14 2 rfl (v := (q.1 + 1)) rfl (by decide) rfl ?_
      refine j_goto C dJ7_fill_53178_17 (tgt := 5) (by decide) ?_
      refine j_loc C [1, 2, 0, 3] rfl ?_
      have hx := hin _ (jinl hb)
      exact hx
  show K 0 0 (jw 54 (cellC G nd) ad s) 0 [(0, .ref (ad 35)), (1, .int v1)] []
  refine j_iconst C dJ7_fill_53178_0 (v := 0) (by decide) ?_
  refine j_istore_n C dJ7_fill_53178_1 (by decide) rfl ?_
  refine j_aload_n C dJ7_fill_53178_2 1 rfl ?_
  refine j_alenW C dJ7_fill_53178_3 (by decide) rfl (by decide) (v := 8) rfl ?_
  refine j_istore_n C dJ7_fill_53178_4 (by decide) rfl ?_
  refine j_loc C [2, 3, 1, 0] rfl ?_
  obtain ⟨e5, he5, h⟩ := jbind h
  refine lo5 v1 8 s  n (0, s) e5 he5 ?_
  exact j_vret C dJ7_fill_53178_20 rfl (Nat.zero_le _) (Nat.zero_le _) (jretWV h)
-- X7_walk
def B_X7_walk_31 (nd : Nat) (n : Nat) (q : Int32 × Int32 × Int32 × jS) : Option ((Int32 × Int32 × Int32 × jS) ⊕ (Int32 × Int32 × Int32 × jS)) :=
  (if (q.2.2.2.1 33 1) ≤ q.2.2.1 then some (.inr (q.1, q.2.1, q.2.2.1, q.2.2.2)) else (if 48 ≤ q.2.2.1 then some (.inr (q.1, q.2.1, q.2.2.1, q.2.2.2)) else (if (q.2.2.2.1 33 4) ≤ q.1 then some (.inr (q.1, q.2.1, q.2.2.1, q.2.2.2)) else (if jin ((q.2.2.1 * 8) + q.1) 384 = true then (if (((q.2.2.2.1 37 (Int32.toNatClampNeg ((q.2.2.1 * 8) + q.1))) >>> (q.2.1 &&& 31)) &&& (1 : Int32)) = 1 then (if jin q.1 8 = true then ((F_X3_leastsAt nd (q.2.2.2.1 38 (Int32.toNatClampNeg q.1)) (((q.2.2.2.1 33 11) + q.2.2.1) - ((q.2.2.2.1 33 11) + q.2.2.1) / 24 * 24) q.2.2.2).bind fun p95 => (jl (upI q.2.2.2 35 (Int32.toNatClampNeg q.1) (((Int64.toInt32 (p95 >>> (((q.2.1 * 6) : Int32).toInt64 &&& 63))) &&& (63 : Int32)) >>> ((3 : Int32) &&& 31))) fun s122_8 => (if jin q.2.2.1 48 = true then (jl (upI s122_8 34 (Int32.toNatClampNeg q.2.2.1) ((10 * (((Int64.toInt32 (p95 >>> (((q.2.1 * 6) : Int32).toInt64 &&& 63))) &&& (63 : Int32)) &&& (7 : Int32))) + (s122_8.1 35 (Int32.toNatClampNeg q.1)))) fun s144_10 => some (.inl ((q.1 + 1), 0, (q.2.2.1 + 1), s144_10))) else none))) else none) else (if jin q.2.2.1 48 = true then (jl (upI q.2.2.2 34 (Int32.toNatClampNeg q.2.2.1) 0) fun s160_5 => (if jin q.1 8 = true then some (.inl (q.1, (if ((q.2.1 + 1) : Int32) < (s160_5.1 39 (Int32.toNatClampNeg q.1)) then (q.2.1 + 1) else (s160_5.1 39 (Int32.toNatClampNeg q.1))), (q.2.2.1 + 1), s160_5)) else none)) else none)) else none))))
def F_X7_walk (nd : Nat) (n : Nat) (v1 : Int32) (s : jS) : Option jS :=
  (jl (upI s 33 0 (v1 >>> ((6 : Int32) &&& 31))) fun s5_1 => (jl (upI s5_1 33 1 (v1 &&& (63 : Int32))) fun s13_2 => ((F_J7_fill_53178_35 n 0 s13_2).bind fun p21 => ((lp (B_X7_walk_31 nd n) n (0, 0, 0, p21)).bind fun e31 => some e31.2.2.2))))
def rm_X7_walk : Room := { frames := 1, cells := 0, slots := 0, locals := 26 }
set_option maxHeartbeats 4000000 in
set_option maxRecDepth 100000 in
theorem m_X7_walk {l : Launch} {D : va_G} {G : Nat → ClassId} {KV : jV} {ad : Nat → Nat} (nd : Nat) (n : Nat) (v1 : Int32) (s : jS) {p : jS} (h : F_X7_walk nd n v1 s = some p) : jM l D G KV yX7_walk cX7_walk 8 none rm_X7_walk [.ref (ad 33), .int v1] (jw 54 (cellC G nd) ad s) 0 0 (fun v u => v = none ∧ u = jw 54 (cellC G nd) ad p) := by
  refine jM.of (by decide) (Nat.le_of_ble_eq_true rfl) ?_
  intro K C
  unfold F_X7_walk at h
  have lo31 : ∀ (s : jS) (k : Nat) (q : Int32 × Int32 × Int32 × jS) (e : Int32 × Int32 × Int32 × jS), lp (B_X7_walk_31 nd n) k q = some e → K 0 0 (jw 54 (cellC G nd) ad e.2.2.2) 180 [] [] → K 0 0 (jw 54 (cellC G nd) ad q.2.2.2) 31 [(0, .ref (ad 33)), (2, .int q.1), (3, .int q.2.1), (4, .int q.2.2.1)] [] := by
    intro s k q e he hE
    refine jlp (KH := fun q => K 0 0 (jw 54 (cellC G nd) ad q.2.2.2) 31 [(0, .ref (ad 33)), (2, .int q.1), (3, .int q.2.1), (4, .int q.2.2.1)] []) (KE := fun e => K 0 0 (jw 54 (cellC G nd) ad e.2.2.2) 180 [] []) ?_ k q e he hE
    intro q o hb hin hout
    unfold B_X7_walk_31 at hb
    show K 0 0 (jw 54 (cellC G nd) ad q.2.2.2) 31 [(0, .ref (ad 33)), (2, .int q.1), (3, .int q.2.1), (4, .int q.2.2.1)] []
    refine j_iload C dX7_walk_31 3 rfl ?_
    refine j_aload_n C dX7_walk_33 0 rfl ?_
    refine j_getW C dX7_walk_34 inX7 rfl (by decide) rfl 1 (by decide) w_232 rfl rfl ?_
    refine j_icmp_ge C dX7_walk_37 (tgt := 180) (by decide) (fun cq => ?_) (fun cq => ?_)
    · have hb := jite_t hb cq
      refine j_loc C [] rfl ?_
      have hx := hout _ (jinr hb)
      exact hx
    · have hb := jite_f hb cq
      refine j_iload C dX7_walk_40 3 rfl ?_
      refine j_bipush C dX7_walk_42 (v := 48) (by decide) ?_
      refine j_icmp_ge C dX7_walk_44 (tgt := 180) (by decide) (fun cq => ?_) (fun cq => ?_)
      · have hb := jite_t hb cq
        refine j_loc C [] rfl ?_
        have hx := hout _ (jinr hb)
        exact hx
      · have hb := jite_f hb cq
        refine j_iload_n C dX7_walk_47 1 rfl ?_
        refine j_aload_n C dX7_walk_48 0 rfl ?_
        refine j_getW C dX7_walk_49 inX7 rfl (by decide) rfl 4 (by decide) w_238 rfl rfl ?_
        refine j_icmp_ge C dX7_walk_52 (tgt := 180) (by decide) (fun cq => ?_) (fun cq => ?_)
        · have hb := jite_t hb cq
          refine j_loc C [] rfl ?_
          have hx := hout _ (jinr hb)
          exact hx
        · have hb := jite_f hb cq
          refine j_aload_n C dX7_walk_55 0 rfl ?_
          refine j_getW C dX7_walk_56 inX7 rfl (by decide) rfl 8 (by decide) w_242 rfl rfl ?_
          refine j_iload C dX7_walk_59 3 rfl ?_
          refine j_bipush C dX7_walk_61 (v := 8) (by decide) ?_
          refine j_imul C dX7_walk_63 ?_
          refine j_iload_n C dX7_walk_64 1 rfl ?_
          refine j_iadd C dX7_walk_65 ?_
          obtain ⟨c66_3, hb⟩ := jchk hb
          refine j_ialdW C dX7_walk_66 (by decide) rfl (jin_vp c66_3) ?_
          refine j_iload_n C dX7_walk_67 2 rfl ?_
          refine j_ishr C dX7_walk_68 ?_
          refine j_iconst C dX7_walk_69 (v := 1) (by decide) ?_
          refine j_iand C dX7_walk_70 ?_
          refine j_iconst C dX7_walk_71 (v := 1) (by decide) ?_
          refine j_icmp_ne C dX7_walk_72 (tgt := 153) (by decide) (fun cq => ?_) (fun cq => ?_)
          · have hb := jite_f hb cq
            refine j_aload_n C dX7_walk_153 0 rfl ?_
            refine j_getW C dX7_walk_154 inX7 rfl (by decide) rfl 2 (by decide) w_234 rfl rfl ?_
            refine j_iload C dX7_walk_157 3 rfl ?_
            refine j_iconst C dX7_walk_159 (v := 0) (by decide) ?_
            obtain ⟨c160_4, hb⟩ := jchk hb
            refine j_iastW C dX7_walk_160 (by decide) (fun _ => rfl) (jin_vp c160_4) (fun s160_5 hs160_5 => ?_)
            have hb := jlet hb hs160_5
            refine j_aload_n C dX7_walk_161 0 rfl ?_
            refine j_getW C dX7_walk_162 inX7 rfl (by decide) rfl 10 (by decide) w_244 rfl rfl ?_
            refine j_iload_n C dX7_walk_165 1 rfl ?_
            obtain ⟨c166_6, hb⟩ := jchk hb
            refine j_ialdW C dX7_walk_166 (by decide) rfl (jin_vp c166_6) ?_
            refine j_iload_n C dX7_walk_167 2 rfl ?_
            refine j_iconst C dX7_walk_168 (v := 1) (by decide) ?_
            refine j_iadd C dX7_walk_169 ?_
            refine j_mmin C dX7_walk_170 w_794 w_27 w_2 w_28 (Nat.le_of_ble_eq_true rfl) (Nat.le_of_ble_eq_true rfl) (Nat.zero_le _) (Nat.zero_le _) ?_
            refine j_istore_n C dX7_walk_173 (by decide) rfl ?_
            refine j_iinc C dX7_walk_174 3 rfl (v := (q.2.2.1 + 1)) rfl (by decide) rfl ?_
            refine j_goto C dX7_walk_177 (tgt := 31) (by decide) ?_
            refine j_loc C [2, 3, 1, 0] rfl ?_
            have hx := hin _ (jinl hb)
            exact hx
          · have hb := jite_t hb cq
            refine j_aload_n C dX7_walk_75 0 rfl ?_
            refine j_getW C dX7_walk_76 inX7 rfl (by decide) rfl 6 (by decide) w_240 rfl rfl ?_
            refine j_aload_n C dX7_walk_79 0 rfl ?_
            refine j_getW C dX7_walk_80 inX7 rfl (by decide) rfl 9 (by decide) w_243 rfl rfl ?_
            refine j_iload_n C dX7_walk_83 1 rfl ?_
            obtain ⟨c84_7, hb⟩ := jchk hb
            refine j_ialdW C dX7_walk_84 (by decide) rfl (jin_vp c84_7) ?_
            refine j_aload_n C dX7_walk_85 0 rfl ?_
            refine j_getW C dX7_walk_86 inX7 rfl (by decide) rfl 11 (by decide) w_245 rfl rfl ?_
            refine j_iload C dX7_walk_89 3 rfl ?_
            refine j_iadd C dX7_walk_91 ?_
            refine j_bipush C dX7_walk_92 (v := 24) (by decide) ?_
            refine j_irem C dX7_walk_94 (by decide) ?_
            obtain ⟨p95, he95, hb⟩ := jbind hb
            refine j_cV1 C dX7_walk_95 (m_X3_leastsAt nd (q.2.2.2.1 38 (Int32.toNatClampNeg q.1)) (((q.2.2.2.1 33 11) + q.2.2.1) - ((q.2.2.2.1 33 11) + q.2.2.1) / 24 * 24) q.2.2.2 he95) kc_X3_leastsAt w_795 w_796 w_797 w_7 jy_X3_leastsAt ⟨⟨Nat.le_of_ble_eq_true rfl, Nat.le_of_ble_eq_true rfl⟩, ⟨rfl, rfl⟩, ⟨Nat.zero_le _, Nat.zero_le _⟩⟩ (Nat.le_of_ble_eq_true rfl) (by decide) rfl (r := (RX3, TX3, 7)) rfl rfl rfl (fun _ _ h => h) ?_
            refine j_lstore C dX7_walk_98 (by decide) rfl ?_
            refine j_lload C dX7_walk_100 0 rfl ?_
            refine j_iload_n C dX7_walk_102 3 rfl ?_
            refine j_bipush C dX7_walk_103 (v := 6) (by decide) ?_
            refine j_imul C dX7_walk_105 ?_
            refine j_lshr C dX7_walk_106 ?_
            refine j_l2i C dX7_walk_107 ?_
            refine j_bipush C dX7_walk_108 (v := 63) (by decide) ?_
            refine j_iand C dX7_walk_110 ?_
            refine j_istore C dX7_walk_111 (by decide) rfl ?_
            refine j_aload_n C dX7_walk_113 2 rfl ?_
            refine j_getW C dX7_walk_114 inX7 rfl (by decide) rfl 3 (by decide) w_236 rfl rfl ?_
            refine j_iload_n C dX7_walk_117 3 rfl ?_
            refine j_iload C dX7_walk_118 0 rfl ?_
            refine j_iconst C dX7_walk_120 (v := 3) (by decide) ?_
            refine j_ishr C dX7_walk_121 ?_
            refine j_iastW C dX7_walk_122 (by decide) (fun _ => rfl) (jin_vp c84_7) (fun s122_8 hs122_8 => ?_)
            have hb := jlet hb hs122_8
            refine j_aload_n C dX7_walk_123 2 rfl ?_
            refine j_getW C dX7_walk_124 inX7 rfl (by decide) rfl 2 (by decide) w_234 rfl rfl ?_
            refine j_iload C dX7_walk_127 5 rfl ?_
            refine j_bipush C dX7_walk_129 (v := 10) (by decide) ?_
            refine j_iload C dX7_walk_131 0 rfl ?_
            refine j_bipush C dX7_walk_133 (v := 7) (by decide) ?_
            refine j_iand C dX7_walk_135 ?_
            refine j_imul C dX7_walk_136 ?_
            refine j_aload_n C dX7_walk_137 2 rfl ?_
            refine j_getW C dX7_walk_138 inX7 rfl (by decide) rfl 3 (by decide) w_236 rfl rfl ?_
            refine j_iload_n C dX7_walk_141 3 rfl ?_
            refine j_ialdW C dX7_walk_142 (by decide) rfl (jin_vp c84_7) ?_
            refine j_iadd C dX7_walk_143 ?_
            obtain ⟨c144_9, hb⟩ := jchk hb
            refine j_iastW C dX7_walk_144 (by decide) (fun _ => rfl) (jin_vp c144_9) (fun s144_10 hs144_10 => ?_)
            have hb := jlet hb hs144_10
            refine j_iinc C dX7_walk_145 3 rfl (v := (q.1 + 1)) rfl (by decide) rfl ?_
            refine j_iconst C dX7_walk_148 (v := 0) (by decide) ?_
            refine j_istore_n C dX7_walk_149 (by decide) rfl ?_
            refine j_goto C dX7_walk_150 (tgt := 174) (by decide) ?_
            refine j_iinc C dX7_walk_174 5 rfl (v := (q.2.2.1 + 1)) rfl (by decide) rfl ?_
            refine j_goto C dX7_walk_177 (tgt := 31) (by decide) ?_
            refine j_loc C [5, 2, 1, 0] rfl ?_
            have hx := hin _ (jinl hb)
            exact hx
  show K 0 0 (jw 54 (cellC G nd) ad s) 0 [(0, .ref (ad 33)), (1, .int v1)] []
  refine j_aload_n C dX7_walk_0 0 rfl ?_
  refine j_iload_n C dX7_walk_1 1 rfl ?_
  refine j_bipush C dX7_walk_2 (v := 6) (by decide) ?_
  refine j_ishr C dX7_walk_4 ?_
  refine j_putI C dX7_walk_5 inX7 tyX7 tyX7_ok nmX7 rfl (by decide) 0 rfl rfl (by decide) w_230 rfl rfl rfl rfl (Nat.le_of_ble_eq_true rfl) (fun s5_1 hs5_1 => ?_)
  have h := jlet h hs5_1
  refine j_aload_n C dX7_walk_8 0 rfl ?_
  refine j_iload_n C dX7_walk_9 1 rfl ?_
  refine j_bipush C dX7_walk_10 (v := 63) (by decide) ?_
  refine j_iand C dX7_walk_12 ?_
  refine j_putI C dX7_walk_13 inX7 tyX7 tyX7_ok nmX7 rfl (by decide) 1 rfl rfl (by decide) w_232 rfl rfl rfl rfl (Nat.le_of_ble_eq_true rfl) (fun s13_2 hs13_2 => ?_)
  have h := jlet h hs13_2
  refine j_aload_n C dX7_walk_16 0 rfl ?_
  refine j_getW C dX7_walk_17 inX7 rfl (by decide) rfl 3 (by decide) w_236 rfl rfl ?_
  refine j_iconst C dX7_walk_20 (v := 0) (by decide) ?_
  obtain ⟨p21, he21, h⟩ := jbind h
  refine j_cS0 C dX7_walk_21 (m_J7_fill_53178_35 n 0 s13_2 he21) kc_J7_fill_53178 w_807 w_808 w_17 jy_J7_fill_53178 ⟨⟨Nat.le_of_ble_eq_true rfl, Nat.le_of_ble_eq_true rfl⟩, ⟨rfl, rfl⟩, ⟨Nat.zero_le _, Nat.zero_le _⟩⟩ (Nat.le_of_ble_eq_true rfl) rfl (fun _ _ h => h) ?_
  refine j_iconst C dX7_walk_24 (v := 0) (by decide) ?_
  refine j_istore_n C dX7_walk_25 (by decide) rfl ?_
  refine j_iconst C dX7_walk_26 (v := 0) (by decide) ?_
  refine j_istore_n C dX7_walk_27 (by decide) rfl ?_
  refine j_iconst C dX7_walk_28 (v := 0) (by decide) ?_
  refine j_istore C dX7_walk_29 (by decide) rfl ?_
  refine j_loc C [3, 2, 1, 0] rfl ?_
  obtain ⟨e31, he31, h⟩ := jbind h
  refine lo31  p21  n (0, 0, 0, p21) e31 he31 ?_
  exact j_vret C dX7_walk_180 rfl (Nat.zero_le _) (Nat.zero_le _) (jretWV h)
-- X7_findCheapest_21
def J_X7_findCheapest_21_48 (nd : Nat) (n : Nat) (v7 : Int32) (k0 : Bool) (s : jS) : Option (Bool × jS) :=
  (if k0 = true then ((F_X7_walk nd n v7 s).bind fun p58 => some (k0, p58)) else some (k0, s))
def J_X7_findCheapest_21_47 (nd : Nat) (n : Nat) (v7 : Int32) (s : jS) : Option (Bool × jS) :=
  J_X7_findCheapest_21_48 nd n v7 false s
def F_X7_findCheapest_21 (nd : Nat) (n : Nat) (v2 : Int32) (v3 : Int32) (v4 : Int32) (v5 : Int32) (v6 : Int32) (s : jS) : Option (Bool × jS) :=
  ((F_X7_canPass_21 n v2 v3 s).bind fun p4 => (if p4.1 = true then (jl (upI p4.2 33 11 v4) fun s15_1 => ((F_X7_cheapest nd n v5 s15_1).bind fun p21 => (if 1048576 ≤ p21.1 then J_X7_findCheapest_21_47 nd n p21.1 p21.2 else (if v6 < (p21.1 >>> ((6 : Int32) &&& 31)) then J_X7_findCheapest_21_47 nd n p21.1 p21.2 else J_X7_findCheapest_21_48 nd n p21.1 true p21.2)))) else some (false, p4.2)))
def rm_X7_findCheapest_21 : Room := { frames := 3, cells := 0, slots := 0, locals := 70 }
set_option maxHeartbeats 4000000 in
set_option maxRecDepth 100000 in
theorem m_X7_findCheapest_21 {l : Launch} {D : va_G} {G : Nat → ClassId} {KV : jV} {ad : Nat → Nat} (nd : Nat) (n : Nat) (v2 : Int32) (v3 : Int32) (v4 : Int32) (v5 : Int32) (v6 : Int32) (s : jS) {p : Bool × jS} (h : F_X7_findCheapest_21 nd n v2 v3 v4 v5 v6 s = some p) : jM l D G KV yX7_findCheapest cX7_findCheapest 9 (some .boolean) rm_X7_findCheapest_21 [.ref (ad 33), .ref (ad 21), .int v2, .int v3, .int v4, .int v5, .int v6] (jw 54 (cellC G nd) ad s) 0 0 (fun v u => v = some (.int (jb p.1)) ∧ u = jw 54 (cellC G nd) ad p.2) := by
  refine jM.of (by decide) (Nat.le_of_ble_eq_true rfl) ?_
  intro K C
  unfold F_X7_findCheapest_21 at h
  have jn48 : ∀ (v7 : Int32) (k0 : Bool) (s : jS) (_ : J_X7_findCheapest_21_48 nd n v7 k0 s = some p), K 0 0 (jw 54 (cellC G nd) ad s) 48 [(0, .ref (ad 33)), (7, .int v7)] [.int (jb k0)] := by
    intro v7 k0 s h
    unfold J_X7_findCheapest_21_48 at h
    refine j_istore C dX7_findCheapest_48 (by decide) rfl ?_
    refine j_iload C dX7_findCheapest_50 0 rfl ?_
    refine j_if_eq C dX7_findCheapest_52 (tgt := 61) (by decide) (fun cq => ?_) (fun cq => ?_)
    · have h := jite_f h (jb_f cq)
      refine j_iload C dX7_findCheapest_61 0 rfl ?_
      exact j_iret C dX7_findCheapest_63 rfl (jb_nar k0) (Nat.zero_le _) (Nat.zero_le _) (jretWB h)
    · have h := jite_t h (jb_t cq)
      refine j_aload_n C dX7_findCheapest_55 1 rfl ?_
      refine j_iload C dX7_findCheapest_56 2 rfl ?_
      obtain ⟨p58, he58, h⟩ := jbind h
      refine j_cV0 C dX7_findCheapest_58 (m_X7_walk nd n v7 s he58) kc_X7_walk w_803 w_805 wp_36 w_8 jy_X7_walk ⟨⟨Nat.le_of_ble_eq_true rfl, Nat.le_of_ble_eq_true rfl⟩, ⟨rfl, rfl⟩, ⟨Nat.zero_le _, Nat.zero_le _⟩⟩ (Nat.le_of_ble_eq_true rfl) (by decide) rfl (r := (RX7, TX7, 12)) rfl rfl rfl (fun _ _ h => h) ?_
      refine j_iload C dX7_findCheapest_61 0 rfl ?_
      exact j_iret C dX7_findCheapest_63 rfl (jb_nar k0) (Nat.zero_le _) (Nat.zero_le _) (jretWB h)
  have jn47 : ∀ (v7 : Int32) (s : jS) (_ : J_X7_findCheapest_21_47 nd n v7 s = some p), K 0 0 (jw 54 (cellC G nd) ad s) 47 [(0, .ref (ad 33)), (7, .int v7)] [] := by
    intro v7 s h
    unfold J_X7_findCheapest_21_47 at h
    refine j_iconst C dX7_findCheapest_47 (v := 0) (by decide) ?_
    refine j_loc C [0, 1] rfl ?_
    exact jn48 v7 false s  h
  show K 0 0 (jw 54 (cellC G nd) ad s) 0 [(0, .ref (ad 33)), (1, .ref (ad 21)), (2, .int v2), (3, .int v3), (4, .int v4), (5, .int v5), (6, .int v6)] []
  refine j_aload_n C dX7_findCheapest_0 0 rfl ?_
  refine j_aload_n C dX7_findCheapest_1 1 rfl ?_
  refine j_iload_n C dX7_findCheapest_2 2 rfl ?_
  refine j_iload_n C dX7_findCheapest_3 3 rfl ?_
  obtain ⟨p4, he4, h⟩ := jbind h
  refine j_cV1 C dX7_findCheapest_4 (m_X7_canPass_21 n v2 v3 s he4) kc_X7_canPass w_772 w_774 wp_33 w_8 jy_X7_canPass ⟨⟨Nat.le_of_ble_eq_true rfl, Nat.le_of_ble_eq_true rfl⟩, ⟨rfl, rfl⟩, ⟨Nat.zero_le _, Nat.zero_le _⟩⟩ (Nat.le_of_ble_eq_true rfl) (by decide) rfl (r := (RX7, TX7, 12)) rfl rfl rfl (fun _ _ h => h) ?_
  refine j_if_ne C dX7_findCheapest_7 (tgt := 12) (by decide) (fun cq => ?_) (fun cq => ?_)
  · have h := jite_t h (jb_t cq)
    refine j_aload_n C dX7_findCheapest_12 0 rfl ?_
    refine j_iload C dX7_findCheapest_13 4 rfl ?_
    refine j_putI C dX7_findCheapest_15 inX7 tyX7 tyX7_ok nmX7 rfl (by decide) 11 rfl rfl (by decide) w_245 rfl rfl rfl rfl (Nat.le_of_ble_eq_true rfl) (fun s15_1 hs15_1 => ?_)
    have h := jlet h hs15_1
    refine j_aload_n C dX7_findCheapest_18 0 rfl ?_
    refine j_iload C dX7_findCheapest_19 5 rfl ?_
    obtain ⟨p21, he21, h⟩ := jbind h
    refine j_cV1 C dX7_findCheapest_21 (m_X7_cheapest nd n v5 s15_1 he21) kc_X7_cheapest w_783 w_785 wp_34 w_8 jy_X7_cheapest ⟨⟨Nat.le_of_ble_eq_true rfl, Nat.le_of_ble_eq_true rfl⟩, ⟨rfl, rfl⟩, ⟨Nat.zero_le _, Nat.zero_le _⟩⟩ (Nat.le_of_ble_eq_true rfl) (by decide) rfl (r := (RX7, TX7, 12)) rfl rfl rfl (fun _ _ h => h) ?_
    refine j_istore C dX7_findCheapest_24 (by decide) rfl ?_
    refine j_iload C dX7_findCheapest_26 0 rfl ?_
    refine j_ldc C dX7_findCheapest_28 (v := 1048576) w_787 ?_
    refine j_icmp_ge C dX7_findCheapest_30 (tgt := 47) (by decide) (fun cq => ?_) (fun cq => ?_)
    · have h := jite_t h cq
      refine j_loc C [1, 0] rfl ?_
      exact jn47 p21.1 p21.2  h
    · have h := jite_f h cq
      refine j_iload C dX7_findCheapest_33 0 rfl ?_
      refine j_bipush C dX7_findCheapest_35 (v := 6) (by decide) ?_
      refine j_ishr C dX7_findCheapest_37 ?_
      refine j_iload C dX7_findCheapest_38 7 rfl ?_
      refine j_icmp_gt C dX7_findCheapest_40 (tgt := 47) (by decide) (fun cq => ?_) (fun cq => ?_)
      · have h := jite_t h cq
        refine j_loc C [1, 0] rfl ?_
        exact jn47 p21.1 p21.2  h
      · have h := jite_f h cq
        refine j_iconst C dX7_findCheapest_43 (v := 1) (by decide) ?_
        refine j_goto C dX7_findCheapest_44 (tgt := 48) (by decide) ?_
        refine j_loc C [1, 0] rfl ?_
        exact jn48 p21.1 true p21.2  h
  · have h := jite_f h (jb_f cq)
    refine j_iconst C dX7_findCheapest_10 (v := 0) (by decide) ?_
    exact j_iret C dX7_findCheapest_11 rfl (jb_nar false) (Nat.zero_le _) (Nat.zero_le _) (jretWB h)
