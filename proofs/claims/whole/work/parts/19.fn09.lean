theorem dX7_findSoonest_0 : decode cX7_findSoonest 0 = .ok (.aload_n 0, 1) := by decide +kernel
theorem dX7_findSoonest_1 : decode cX7_findSoonest 1 = .ok (.aload_n 1, 1) := by decide +kernel
theorem dX7_findSoonest_2 : decode cX7_findSoonest 2 = .ok (.iload_n 2, 1) := by decide +kernel
theorem dX7_findSoonest_3 : decode cX7_findSoonest 3 = .ok (.iload_n 3, 1) := by decide +kernel
theorem dX7_findSoonest_4 : decode cX7_findSoonest 4 = .ok (.iload 4, 2) := by decide +kernel
theorem dX7_findSoonest_6 : decode cX7_findSoonest 6 = .ok (.iload 5, 2) := by decide +kernel
theorem dX7_findSoonest_8 : decode cX7_findSoonest 8 = .ok (.iload 6, 2) := by decide +kernel
theorem dX7_findSoonest_10 : decode cX7_findSoonest 10 = .ok (.invokevirtual 58, 3) := by decide +kernel
theorem dX7_findSoonest_13 : decode cX7_findSoonest 13 = .ok (.ifCond .ne 5, 3) := by decide +kernel
theorem dX7_findSoonest_16 : decode cX7_findSoonest 16 = .ok (.iconst 0, 1) := by decide +kernel
theorem dX7_findSoonest_17 : decode cX7_findSoonest 17 = .ok (.ireturn, 1) := by decide +kernel
theorem dX7_findSoonest_18 : decode cX7_findSoonest 18 = .ok (.aload_n 0, 1) := by decide +kernel
theorem dX7_findSoonest_19 : decode cX7_findSoonest 19 = .ok (.getfield 30, 3) := by decide +kernel
theorem dX7_findSoonest_22 : decode cX7_findSoonest 22 = .ok (.istore 7, 2) := by decide +kernel
theorem dX7_findSoonest_24 : decode cX7_findSoonest 24 = .ok (.iload 5, 2) := by decide +kernel
theorem dX7_findSoonest_26 : decode cX7_findSoonest 26 = .ok (.istore 8, 2) := by decide +kernel
theorem dX7_findSoonest_28 : decode cX7_findSoonest 28 = .ok (.iconst 0, 1) := by decide +kernel
theorem dX7_findSoonest_29 : decode cX7_findSoonest 29 = .ok (.istore 9, 2) := by decide +kernel
theorem dX7_findSoonest_31 : decode cX7_findSoonest 31 = .ok (.iload 9, 2) := by decide +kernel
theorem dX7_findSoonest_33 : decode cX7_findSoonest 33 = .ok (.bipush 48, 2) := by decide +kernel
theorem dX7_findSoonest_35 : decode cX7_findSoonest 35 = .ok (.if_icmp .ge 52, 3) := by decide +kernel
theorem dX7_findSoonest_38 : decode cX7_findSoonest 38 = .ok (.iload 7, 2) := by decide +kernel
theorem dX7_findSoonest_40 : decode cX7_findSoonest 40 = .ok (.iload 8, 2) := by decide +kernel
theorem dX7_findSoonest_42 : decode cX7_findSoonest 42 = .ok (.if_icmp .ge 45, 3) := by decide +kernel
theorem dX7_findSoonest_45 : decode cX7_findSoonest 45 = .ok (.iload 7, 2) := by decide +kernel
theorem dX7_findSoonest_47 : decode cX7_findSoonest 47 = .ok (.iload 8, 2) := by decide +kernel
theorem dX7_findSoonest_49 : decode cX7_findSoonest 49 = .ok (.iadd, 1) := by decide +kernel
theorem dX7_findSoonest_50 : decode cX7_findSoonest 50 = .ok (.iconst 2, 1) := by decide +kernel
theorem dX7_findSoonest_51 : decode cX7_findSoonest 51 = .ok (.idiv, 1) := by decide +kernel
theorem dX7_findSoonest_52 : decode cX7_findSoonest 52 = .ok (.istore 10, 2) := by decide +kernel
theorem dX7_findSoonest_54 : decode cX7_findSoonest 54 = .ok (.aload_n 0, 1) := by decide +kernel
theorem dX7_findSoonest_55 : decode cX7_findSoonest 55 = .ok (.iload 10, 2) := by decide +kernel
theorem dX7_findSoonest_57 : decode cX7_findSoonest 57 = .ok (.invokevirtual 49, 3) := by decide +kernel
theorem dX7_findSoonest_60 : decode cX7_findSoonest 60 = .ok (.bipush 6, 2) := by decide +kernel
theorem dX7_findSoonest_62 : decode cX7_findSoonest 62 = .ok (.ishr, 1) := by decide +kernel
theorem dX7_findSoonest_63 : decode cX7_findSoonest 63 = .ok (.iload 6, 2) := by decide +kernel
theorem dX7_findSoonest_65 : decode cX7_findSoonest 65 = .ok (.if_icmp .gt 10, 3) := by decide +kernel
theorem dX7_findSoonest_68 : decode cX7_findSoonest 68 = .ok (.iload 10, 2) := by decide +kernel
theorem dX7_findSoonest_70 : decode cX7_findSoonest 70 = .ok (.istore 8, 2) := by decide +kernel
theorem dX7_findSoonest_72 : decode cX7_findSoonest 72 = .ok (.goto 9, 3) := by decide +kernel
theorem dX7_findSoonest_75 : decode cX7_findSoonest 75 = .ok (.iload 10, 2) := by decide +kernel
theorem dX7_findSoonest_77 : decode cX7_findSoonest 77 = .ok (.iconst 1, 1) := by decide +kernel
theorem dX7_findSoonest_78 : decode cX7_findSoonest 78 = .ok (.iadd, 1) := by decide +kernel
theorem dX7_findSoonest_79 : decode cX7_findSoonest 79 = .ok (.istore 7, 2) := by decide +kernel
theorem dX7_findSoonest_81 : decode cX7_findSoonest 81 = .ok (.iinc 9 1, 3) := by decide +kernel
theorem dX7_findSoonest_84 : decode cX7_findSoonest 84 = .ok (.goto (-53), 3) := by decide +kernel
theorem dX7_findSoonest_87 : decode cX7_findSoonest 87 = .ok (.aload_n 0, 1) := by decide +kernel
theorem dX7_findSoonest_88 : decode cX7_findSoonest 88 = .ok (.aload_n 0, 1) := by decide +kernel
theorem dX7_findSoonest_89 : decode cX7_findSoonest 89 = .ok (.iload 8, 2) := by decide +kernel
theorem dX7_findSoonest_91 : decode cX7_findSoonest 91 = .ok (.invokevirtual 49, 3) := by decide +kernel
theorem dX7_findSoonest_94 : decode cX7_findSoonest 94 = .ok (.invokevirtual 54, 3) := by decide +kernel
theorem dX7_findSoonest_97 : decode cX7_findSoonest 97 = .ok (.iconst 1, 1) := by decide +kernel
theorem dX7_findSoonest_98 : decode cX7_findSoonest 98 = .ok (.ireturn, 1) := by decide +kernel
theorem dX8_way_0 : decode cX8_way 0 = .ok (.aload_n 0, 1) := by decide +kernel
theorem dX8_way_1 : decode cX8_way 1 = .ok (.iload_n 1, 1) := by decide +kernel
theorem dX8_way_2 : decode cX8_way 2 = .ok (.iload_n 2, 1) := by decide +kernel
theorem dX8_way_3 : decode cX8_way 3 = .ok (.iload_n 3, 1) := by decide +kernel
theorem dX8_way_4 : decode cX8_way 4 = .ok (.iload 5, 2) := by decide +kernel
theorem dX8_way_6 : decode cX8_way 6 = .ok (.invokevirtual 141, 3) := by decide +kernel
theorem dX8_way_9 : decode cX8_way 9 = .ok (.ifCond .eq 14, 3) := by decide +kernel
theorem dX8_way_12 : decode cX8_way 12 = .ok (.iload 4, 2) := by decide +kernel
theorem dX8_way_14 : decode cX8_way 14 = .ok (.iconst 1, 1) := by decide +kernel
theorem dX8_way_15 : decode cX8_way 15 = .ok (.bipush 48, 2) := by decide +kernel
theorem dX8_way_17 : decode cX8_way 17 = .ok (.invokestatic 86, 3) := by decide +kernel
theorem dX8_way_20 : decode cX8_way 20 = .ok (.ifCond .ne 6, 3) := by decide +kernel
theorem dX8_way_23 : decode cX8_way 23 = .ok (.bipush (-3), 2) := by decide +kernel
theorem dX8_way_25 : decode cX8_way 25 = .ok (.ireturn, 1) := by decide +kernel
theorem dX8_way_26 : decode cX8_way 26 = .ok (.iconst 0, 1) := by decide +kernel
theorem dX8_way_27 : decode cX8_way 27 = .ok (.istore 8, 2) := by decide +kernel
theorem dX8_way_29 : decode cX8_way 29 = .ok (.iload 8, 2) := by decide +kernel
theorem dX8_way_31 : decode cX8_way 31 = .ok (.aload_n 0, 1) := by decide +kernel
theorem dX8_way_32 : decode cX8_way 32 = .ok (.getfield 37, 3) := by decide +kernel
theorem dX8_way_35 : decode cX8_way 35 = .ok (.if_icmp .ge 51, 3) := by decide +kernel
theorem dX8_way_38 : decode cX8_way 38 = .ok (.aload_n 0, 1) := by decide +kernel
theorem dX8_way_39 : decode cX8_way 39 = .ok (.getfield 41, 3) := by decide +kernel
theorem dX8_way_42 : decode cX8_way 42 = .ok (.getfield 103, 3) := by decide +kernel
theorem dX8_way_45 : decode cX8_way 45 = .ok (.iload 8, 2) := by decide +kernel
theorem dX8_way_47 : decode cX8_way 47 = .ok (.baload, 1) := by decide +kernel
theorem dX8_way_48 : decode cX8_way 48 = .ok (.ifCond .ne 32, 3) := by decide +kernel
theorem dX8_way_51 : decode cX8_way 51 = .ok (.iload_n 2, 1) := by decide +kernel
theorem dX8_way_52 : decode cX8_way 52 = .ok (.iload 8, 2) := by decide +kernel
theorem dX8_way_54 : decode cX8_way 54 = .ok (.invokestatic 204, 3) := by decide +kernel
theorem dX8_way_57 : decode cX8_way 57 = .ok (.ifCond .ne 23, 3) := by decide +kernel
theorem dX8_way_60 : decode cX8_way 60 = .ok (.aload_n 0, 1) := by decide +kernel
theorem dX8_way_61 : decode cX8_way 61 = .ok (.getfield 65, 3) := by decide +kernel
theorem dX8_way_64 : decode cX8_way 64 = .ok (.aload_n 0, 1) := by decide +kernel
theorem dX8_way_65 : decode cX8_way 65 = .ok (.getfield 41, 3) := by decide +kernel
theorem dX8_way_68 : decode cX8_way 68 = .ok (.getfield 130, 3) := by decide +kernel
theorem dX8_way_71 : decode cX8_way 71 = .ok (.iload 8, 2) := by decide +kernel
theorem dX8_way_73 : decode cX8_way 73 = .ok (.iaload, 1) := by decide +kernel
theorem dX8_way_74 : decode cX8_way 74 = .ok (.iload 8, 2) := by decide +kernel
theorem dX8_way_76 : decode cX8_way 76 = .ok (.iload_n 1, 1) := by decide +kernel
theorem dX8_way_77 : decode cX8_way 77 = .ok (.invokevirtual 207, 3) := by decide +kernel
theorem dX8_way_80 : decode cX8_way 80 = .ok (.iinc 8 1, 3) := by decide +kernel
theorem dX8_way_83 : decode cX8_way 83 = .ok (.goto (-54), 3) := by decide +kernel
theorem dX8_way_86 : decode cX8_way 86 = .ok (.iload 6, 2) := by decide +kernel
theorem dX8_way_88 : decode cX8_way 88 = .ok (.ifCond .eq 27, 3) := by decide +kernel
theorem dX8_way_91 : decode cX8_way 91 = .ok (.aload_n 0, 1) := by decide +kernel
theorem dX8_way_92 : decode cX8_way 92 = .ok (.getfield 69, 3) := by decide +kernel
theorem dX8_way_95 : decode cX8_way 95 = .ok (.aload_n 0, 1) := by decide +kernel
theorem dX8_way_96 : decode cX8_way 96 = .ok (.getfield 41, 3) := by decide +kernel
theorem dX8_way_99 : decode cX8_way 99 = .ok (.getfield 130, 3) := by decide +kernel
theorem dX8_way_102 : decode cX8_way 102 = .ok (.iload_n 1, 1) := by decide +kernel
theorem dX8_way_103 : decode cX8_way 103 = .ok (.iload_n 2, 1) := by decide +kernel
theorem dX8_way_104 : decode cX8_way 104 = .ok (.iload_n 3, 1) := by decide +kernel
theorem dX8_way_105 : decode cX8_way 105 = .ok (.iload 4, 2) := by decide +kernel
theorem dX8_way_107 : decode cX8_way 107 = .ok (.iload 5, 2) := by decide +kernel
theorem dX8_way_109 : decode cX8_way 109 = .ok (.invokevirtual 211, 3) := by decide +kernel
theorem dX8_way_112 : decode cX8_way 112 = .ok (.goto 24, 3) := by decide +kernel
theorem dX8_way_115 : decode cX8_way 115 = .ok (.aload_n 0, 1) := by decide +kernel
theorem dX8_way_116 : decode cX8_way 116 = .ok (.getfield 69, 3) := by decide +kernel
theorem dX8_way_119 : decode cX8_way 119 = .ok (.aload_n 0, 1) := by decide +kernel
theorem dX8_way_120 : decode cX8_way 120 = .ok (.getfield 41, 3) := by decide +kernel
theorem dX8_way_123 : decode cX8_way 123 = .ok (.getfield 130, 3) := by decide +kernel
theorem dX8_way_126 : decode cX8_way 126 = .ok (.iload_n 1, 1) := by decide +kernel
theorem dX8_way_127 : decode cX8_way 127 = .ok (.iload_n 2, 1) := by decide +kernel
theorem dX8_way_128 : decode cX8_way 128 = .ok (.iload_n 3, 1) := by decide +kernel
theorem dX8_way_129 : decode cX8_way 129 = .ok (.iload 4, 2) := by decide +kernel
theorem dX8_way_131 : decode cX8_way 131 = .ok (.iload 5, 2) := by decide +kernel
theorem dX8_way_133 : decode cX8_way 133 = .ok (.invokevirtual 215, 3) := by decide +kernel
theorem dX8_way_136 : decode cX8_way 136 = .ok (.istore 8, 2) := by decide +kernel
theorem dX8_way_138 : decode cX8_way 138 = .ok (.iload 8, 2) := by decide +kernel
theorem dX8_way_140 : decode cX8_way 140 = .ok (.ifCond .ne 6, 3) := by decide +kernel
theorem dX8_way_143 : decode cX8_way 143 = .ok (.bipush (-3), 2) := by decide +kernel
theorem dX8_way_145 : decode cX8_way 145 = .ok (.ireturn, 1) := by decide +kernel
theorem dX8_way_146 : decode cX8_way 146 = .ok (.iload 7, 2) := by decide +kernel
theorem dX8_way_148 : decode cX8_way 148 = .ok (.iconst (-1), 1) := by decide +kernel
theorem dX8_way_149 : decode cX8_way 149 = .ok (.if_icmp .ne 11, 3) := by decide +kernel
theorem dX8_way_152 : decode cX8_way 152 = .ok (.aload_n 0, 1) := by decide +kernel
theorem dX8_way_153 : decode cX8_way 153 = .ok (.getfield 69, 3) := by decide +kernel
theorem dX8_way_156 : decode cX8_way 156 = .ok (.getfield 218, 3) := by decide +kernel
theorem dX8_way_159 : decode cX8_way 159 = .ok (.ireturn, 1) := by decide +kernel
theorem dX8_way_160 : decode cX8_way 160 = .ok (.iload 7, 2) := by decide +kernel
theorem dX8_way_162 : decode cX8_way 162 = .ok (.bipush (-2), 2) := by decide +kernel
theorem dX8_way_164 : decode cX8_way 164 = .ok (.if_icmp .ne 11, 3) := by decide +kernel
theorem dX8_way_167 : decode cX8_way 167 = .ok (.aload_n 0, 1) := by decide +kernel
theorem dX8_way_168 : decode cX8_way 168 = .ok (.getfield 69, 3) := by decide +kernel
theorem dX8_way_171 : decode cX8_way 171 = .ok (.getfield 221, 3) := by decide +kernel
theorem dX8_way_174 : decode cX8_way 174 = .ok (.ireturn, 1) := by decide +kernel
theorem dX8_way_175 : decode cX8_way 175 = .ok (.iload 7, 2) := by decide +kernel
theorem dX8_way_177 : decode cX8_way 177 = .ok (.iconst 0, 1) := by decide +kernel
theorem dX8_way_178 : decode cX8_way 178 = .ok (.aload_n 0, 1) := by decide +kernel
theorem dX8_way_179 : decode cX8_way 179 = .ok (.getfield 69, 3) := by decide +kernel
theorem dX8_way_182 : decode cX8_way 182 = .ok (.getfield 221, 3) := by decide +kernel
theorem dX8_way_185 : decode cX8_way 185 = .ok (.iconst 1, 1) := by decide +kernel
theorem dX8_way_186 : decode cX8_way 186 = .ok (.isub, 1) := by decide +kernel
theorem dX8_way_187 : decode cX8_way 187 = .ok (.invokestatic 86, 3) := by decide +kernel
theorem dX8_way_190 : decode cX8_way 190 = .ok (.ifCond .eq 23, 3) := by decide +kernel
theorem dX8_way_193 : decode cX8_way 193 = .ok (.iload 7, 2) := by decide +kernel
theorem dX8_way_195 : decode cX8_way 195 = .ok (.bipush 48, 2) := by decide +kernel
theorem dX8_way_197 : decode cX8_way 197 = .ok (.if_icmp .ge 16, 3) := by decide +kernel
theorem dX8_way_200 : decode cX8_way 200 = .ok (.aload_n 0, 1) := by decide +kernel
theorem dX8_way_201 : decode cX8_way 201 = .ok (.getfield 69, 3) := by decide +kernel
theorem dX8_way_204 : decode cX8_way 204 = .ok (.getfield 224, 3) := by decide +kernel
theorem dX8_way_207 : decode cX8_way 207 = .ok (.iload 7, 2) := by decide +kernel
theorem dX8_way_209 : decode cX8_way 209 = .ok (.iaload, 1) := by decide +kernel
theorem dX8_way_210 : decode cX8_way 210 = .ok (.goto 5, 3) := by decide +kernel
theorem dX8_way_213 : decode cX8_way 213 = .ok (.bipush (-3), 2) := by decide +kernel
theorem dX8_way_215 : decode cX8_way 215 = .ok (.ireturn, 1) := by decide +kernel
theorem dX2_addGuest_0 : decode cX2_addGuest 0 = .ok (.aload_n 0, 1) := by decide +kernel
theorem dX2_addGuest_1 : decode cX2_addGuest 1 = .ok (.getfield 38, 3) := by decide +kernel
theorem dX2_addGuest_4 : decode cX2_addGuest 4 = .ok (.iconst 0, 1) := by decide +kernel
theorem dX2_addGuest_5 : decode cX2_addGuest 5 = .ok (.iconst 5, 1) := by decide +kernel
theorem dX2_addGuest_6 : decode cX2_addGuest 6 = .ok (.invokestatic 42, 3) := by decide +kernel
theorem dX2_addGuest_9 : decode cX2_addGuest 9 = .ok (.ifCond .ne 4, 3) := by decide +kernel
theorem dX2_addGuest_12 : decode cX2_addGuest 12 = .ok (.return_, 1) := by decide +kernel
theorem dX2_addGuest_13 : decode cX2_addGuest 13 = .ok (.aload_n 0, 1) := by decide +kernel
theorem dX2_addGuest_14 : decode cX2_addGuest 14 = .ok (.getfield 38, 3) := by decide +kernel
theorem dX2_addGuest_17 : decode cX2_addGuest 17 = .ok (.iconst 4, 1) := by decide +kernel
theorem dX2_addGuest_18 : decode cX2_addGuest 18 = .ok (.imul, 1) := by decide +kernel
theorem dX2_addGuest_19 : decode cX2_addGuest 19 = .ok (.istore 5, 2) := by decide +kernel
theorem dX2_addGuest_21 : decode cX2_addGuest 21 = .ok (.aload_n 0, 1) := by decide +kernel
theorem dX2_addGuest_22 : decode cX2_addGuest 22 = .ok (.getfield 25, 3) := by decide +kernel
theorem dX2_addGuest_25 : decode cX2_addGuest 25 = .ok (.iload 5, 2) := by decide +kernel
theorem dX2_addGuest_27 : decode cX2_addGuest 27 = .ok (.iload_n 1, 1) := by decide +kernel
theorem dX2_addGuest_28 : decode cX2_addGuest 28 = .ok (.iastore, 1) := by decide +kernel
theorem dX2_addGuest_29 : decode cX2_addGuest 29 = .ok (.aload_n 0, 1) := by decide +kernel
theorem dX2_addGuest_30 : decode cX2_addGuest 30 = .ok (.getfield 25, 3) := by decide +kernel
theorem dX2_addGuest_33 : decode cX2_addGuest 33 = .ok (.iload 5, 2) := by decide +kernel
theorem dX2_addGuest_35 : decode cX2_addGuest 35 = .ok (.iconst 1, 1) := by decide +kernel
theorem dX2_addGuest_36 : decode cX2_addGuest 36 = .ok (.iadd, 1) := by decide +kernel
theorem dX2_addGuest_37 : decode cX2_addGuest 37 = .ok (.iload_n 2, 1) := by decide +kernel
theorem dX2_addGuest_38 : decode cX2_addGuest 38 = .ok (.iastore, 1) := by decide +kernel
theorem dX2_addGuest_39 : decode cX2_addGuest 39 = .ok (.aload_n 0, 1) := by decide +kernel
theorem dX2_addGuest_40 : decode cX2_addGuest 40 = .ok (.getfield 25, 3) := by decide +kernel
theorem dX2_addGuest_43 : decode cX2_addGuest 43 = .ok (.iload 5, 2) := by decide +kernel
theorem dX2_addGuest_45 : decode cX2_addGuest 45 = .ok (.iconst 2, 1) := by decide +kernel
theorem dX2_addGuest_46 : decode cX2_addGuest 46 = .ok (.iadd, 1) := by decide +kernel
theorem dX2_addGuest_47 : decode cX2_addGuest 47 = .ok (.iload_n 3, 1) := by decide +kernel
theorem dX2_addGuest_48 : decode cX2_addGuest 48 = .ok (.iastore, 1) := by decide +kernel
theorem dX2_addGuest_49 : decode cX2_addGuest 49 = .ok (.aload_n 0, 1) := by decide +kernel
theorem dX2_addGuest_50 : decode cX2_addGuest 50 = .ok (.getfield 25, 3) := by decide +kernel
theorem dX2_addGuest_53 : decode cX2_addGuest 53 = .ok (.iload 5, 2) := by decide +kernel
theorem dX2_addGuest_55 : decode cX2_addGuest 55 = .ok (.iconst 3, 1) := by decide +kernel
theorem dX2_addGuest_56 : decode cX2_addGuest 56 = .ok (.iadd, 1) := by decide +kernel
theorem dX2_addGuest_57 : decode cX2_addGuest 57 = .ok (.iload 4, 2) := by decide +kernel
theorem dX2_addGuest_59 : decode cX2_addGuest 59 = .ok (.iastore, 1) := by decide +kernel
theorem dX2_addGuest_60 : decode cX2_addGuest 60 = .ok (.aload_n 0, 1) := by decide +kernel
theorem dX2_addGuest_61 : decode cX2_addGuest 61 = .ok (.dup, 1) := by decide +kernel
theorem dX2_addGuest_62 : decode cX2_addGuest 62 = .ok (.getfield 38, 3) := by decide +kernel
theorem dX2_addGuest_65 : decode cX2_addGuest 65 = .ok (.iconst 1, 1) := by decide +kernel
theorem dX2_addGuest_66 : decode cX2_addGuest 66 = .ok (.iadd, 1) := by decide +kernel
theorem dX2_addGuest_67 : decode cX2_addGuest 67 = .ok (.putfield 38, 3) := by decide +kernel
theorem dX2_addGuest_70 : decode cX2_addGuest 70 = .ok (.return_, 1) := by decide +kernel
theorem dX8_guest_0 : decode cX8_guest 0 = .ok (.aload_n 0, 1) := by decide +kernel
theorem dX8_guest_1 : decode cX8_guest 1 = .ok (.iload_n 1, 1) := by decide +kernel
theorem dX8_guest_2 : decode cX8_guest 2 = .ok (.iload_n 2, 1) := by decide +kernel
theorem dX8_guest_3 : decode cX8_guest 3 = .ok (.iload_n 3, 1) := by decide +kernel
theorem dX8_guest_4 : decode cX8_guest 4 = .ok (.iload 4, 2) := by decide +kernel
theorem dX8_guest_6 : decode cX8_guest 6 = .ok (.invokevirtual 141, 3) := by decide +kernel
theorem dX8_guest_9 : decode cX8_guest 9 = .ok (.ifCond .eq 15, 3) := by decide +kernel
theorem dX8_guest_12 : decode cX8_guest 12 = .ok (.aload_n 0, 1) := by decide +kernel
theorem dX8_guest_13 : decode cX8_guest 13 = .ok (.getfield 41, 3) := by decide +kernel
theorem dX8_guest_16 : decode cX8_guest 16 = .ok (.getfield 227, 3) := by decide +kernel
theorem dX8_guest_19 : decode cX8_guest 19 = .ok (.bipush 6, 2) := by decide +kernel
theorem dX8_guest_21 : decode cX8_guest 21 = .ok (.if_icmp .lt 5, 3) := by decide +kernel
theorem dX8_guest_24 : decode cX8_guest 24 = .ok (.iconst (-1), 1) := by decide +kernel
theorem dX8_guest_25 : decode cX8_guest 25 = .ok (.ireturn, 1) := by decide +kernel
theorem dX8_guest_26 : decode cX8_guest 26 = .ok (.aload_n 0, 1) := by decide +kernel
theorem dX8_guest_27 : decode cX8_guest 27 = .ok (.getfield 41, 3) := by decide +kernel
theorem dX8_guest_30 : decode cX8_guest 30 = .ok (.iload_n 1, 1) := by decide +kernel
theorem dX8_guest_31 : decode cX8_guest 31 = .ok (.iload_n 2, 1) := by decide +kernel
theorem dX8_guest_32 : decode cX8_guest 32 = .ok (.iload_n 3, 1) := by decide +kernel
theorem dX8_guest_33 : decode cX8_guest 33 = .ok (.iload 4, 2) := by decide +kernel
theorem dX8_guest_35 : decode cX8_guest 35 = .ok (.invokevirtual 230, 3) := by decide +kernel
theorem dX8_guest_38 : decode cX8_guest 38 = .ok (.aload_n 0, 1) := by decide +kernel
theorem dX8_guest_39 : decode cX8_guest 39 = .ok (.getfield 78, 3) := by decide +kernel
theorem dX8_guest_42 : decode cX8_guest 42 = .ok (.invokevirtual 107, 3) := by decide +kernel
theorem dX8_guest_45 : decode cX8_guest 45 = .ok (.aload_n 0, 1) := by decide +kernel
theorem dX8_guest_46 : decode cX8_guest 46 = .ok (.getfield 41, 3) := by decide +kernel
theorem dX8_guest_49 : decode cX8_guest 49 = .ok (.getfield 227, 3) := by decide +kernel
theorem dX8_guest_52 : decode cX8_guest 52 = .ok (.ireturn, 1) := by decide +kernel
theorem dX8_clear_0 : decode cX8_clear 0 = .ok (.aload_n 0, 1) := by decide +kernel
theorem dX8_clear_1 : decode cX8_clear 1 = .ok (.getfield 41, 3) := by decide +kernel
theorem dX8_clear_4 : decode cX8_clear 4 = .ok (.getfield 227, 3) := by decide +kernel
theorem dX8_clear_7 : decode cX8_clear 7 = .ok (.istore_n 1, 1) := by decide +kernel
theorem dX8_clear_8 : decode cX8_clear 8 = .ok (.aload_n 0, 1) := by decide +kernel
theorem dX8_clear_9 : decode cX8_clear 9 = .ok (.getfield 41, 3) := by decide +kernel
theorem dX8_clear_12 : decode cX8_clear 12 = .ok (.iconst 0, 1) := by decide +kernel
theorem dX8_clear_13 : decode cX8_clear 13 = .ok (.putfield 227, 3) := by decide +kernel
theorem dX8_clear_16 : decode cX8_clear 16 = .ok (.aload_n 0, 1) := by decide +kernel
theorem dX8_clear_17 : decode cX8_clear 17 = .ok (.getfield 78, 3) := by decide +kernel
theorem dX8_clear_20 : decode cX8_clear 20 = .ok (.invokevirtual 107, 3) := by decide +kernel
theorem dX8_clear_23 : decode cX8_clear 23 = .ok (.iload_n 1, 1) := by decide +kernel
theorem dX8_clear_24 : decode cX8_clear 24 = .ok (.ireturn, 1) := by decide +kernel
theorem dX0_startTrial_0 : decode cX0_startTrial 0 = .ok (.aload_n 0, 1) := by decide +kernel
theorem dX0_startTrial_1 : decode cX0_startTrial 1 = .ok (.iconst 0, 1) := by decide +kernel
theorem dX0_startTrial_2 : decode cX0_startTrial 2 = .ok (.putfield 34, 3) := by decide +kernel
theorem dX0_startTrial_5 : decode cX0_startTrial 5 = .ok (.aload_n 0, 1) := by decide +kernel
theorem dX0_startTrial_6 : decode cX0_startTrial 6 = .ok (.getfield 22, 3) := by decide +kernel
theorem dX0_startTrial_9 : decode cX0_startTrial 9 = .ok (.getfield 60, 3) := by decide +kernel
theorem dX0_startTrial_12 : decode cX0_startTrial 12 = .ok (.iconst 0, 1) := by decide +kernel
theorem dX0_startTrial_13 : decode cX0_startTrial 13 = .ok (.aload_n 0, 1) := by decide +kernel
theorem dX0_startTrial_14 : decode cX0_startTrial 14 = .ok (.getfield 9, 3) := by decide +kernel
theorem dX0_startTrial_17 : decode cX0_startTrial 17 = .ok (.iconst 0, 1) := by decide +kernel
theorem dX0_startTrial_18 : decode cX0_startTrial 18 = .ok (.bipush 8, 2) := by decide +kernel
theorem dX0_startTrial_20 : decode cX0_startTrial 20 = .ok (.invokestatic 65, 3) := by decide +kernel
theorem dX0_startTrial_23 : decode cX0_startTrial 23 = .ok (.iconst 0, 1) := by decide +kernel
theorem dX0_startTrial_24 : decode cX0_startTrial 24 = .ok (.istore_n 2, 1) := by decide +kernel
theorem dX0_startTrial_25 : decode cX0_startTrial 25 = .ok (.iload_n 2, 1) := by decide +kernel
theorem dX0_startTrial_26 : decode cX0_startTrial 26 = .ok (.aload_n 0, 1) := by decide +kernel
theorem dX0_startTrial_27 : decode cX0_startTrial 27 = .ok (.getfield 22, 3) := by decide +kernel
theorem dX0_startTrial_30 : decode cX0_startTrial 30 = .ok (.getfield 71, 3) := by decide +kernel
theorem dX0_startTrial_33 : decode cX0_startTrial 33 = .ok (.if_icmp .ge 132, 3) := by decide +kernel
theorem dX0_startTrial_36 : decode cX0_startTrial 36 = .ok (.iload_n 2, 1) := by decide +kernel
theorem dX0_startTrial_37 : decode cX0_startTrial 37 = .ok (.bipush 6, 2) := by decide +kernel
theorem dX0_startTrial_39 : decode cX0_startTrial 39 = .ok (.if_icmp .ge 126, 3) := by decide +kernel
theorem dX0_startTrial_42 : decode cX0_startTrial 42 = .ok (.iconst 0, 1) := by decide +kernel
theorem dX0_startTrial_43 : decode cX0_startTrial 43 = .ok (.istore_n 3, 1) := by decide +kernel
theorem dX0_startTrial_44 : decode cX0_startTrial 44 = .ok (.iload_n 3, 1) := by decide +kernel
theorem dX0_startTrial_45 : decode cX0_startTrial 45 = .ok (.aload_n 0, 1) := by decide +kernel
theorem dX0_startTrial_46 : decode cX0_startTrial 46 = .ok (.getfield 18, 3) := by decide +kernel
theorem dX0_startTrial_49 : decode cX0_startTrial 49 = .ok (.if_icmp .ge 110, 3) := by decide +kernel
theorem dX0_startTrial_52 : decode cX0_startTrial 52 = .ok (.aload_n 0, 1) := by decide +kernel
theorem dX0_startTrial_53 : decode cX0_startTrial 53 = .ok (.getfield 22, 3) := by decide +kernel
theorem dX0_startTrial_56 : decode cX0_startTrial 56 = .ok (.getfield 74, 3) := by decide +kernel
theorem dX0_startTrial_59 : decode cX0_startTrial 59 = .ok (.iload_n 3, 1) := by decide +kernel
theorem dX0_startTrial_60 : decode cX0_startTrial 60 = .ok (.baload, 1) := by decide +kernel
theorem dX0_startTrial_61 : decode cX0_startTrial 61 = .ok (.ifCond .ne 27, 3) := by decide +kernel
theorem dX0_startTrial_64 : decode cX0_startTrial 64 = .ok (.aload_n 0, 1) := by decide +kernel
theorem dX0_startTrial_65 : decode cX0_startTrial 65 = .ok (.getfield 22, 3) := by decide +kernel
theorem dX0_startTrial_68 : decode cX0_startTrial 68 = .ok (.getfield 78, 3) := by decide +kernel
theorem dX0_startTrial_71 : decode cX0_startTrial 71 = .ok (.iload_n 2, 1) := by decide +kernel
theorem dX0_startTrial_72 : decode cX0_startTrial 72 = .ok (.iconst 4, 1) := by decide +kernel
theorem dX0_startTrial_73 : decode cX0_startTrial 73 = .ok (.imul, 1) := by decide +kernel
theorem dX0_startTrial_74 : decode cX0_startTrial 74 = .ok (.iconst 1, 1) := by decide +kernel
theorem dX0_startTrial_75 : decode cX0_startTrial 75 = .ok (.iadd, 1) := by decide +kernel
theorem dX0_startTrial_76 : decode cX0_startTrial 76 = .ok (.iaload, 1) := by decide +kernel
theorem dX0_startTrial_77 : decode cX0_startTrial 77 = .ok (.iload_n 3, 1) := by decide +kernel
theorem dX0_startTrial_78 : decode cX0_startTrial 78 = .ok (.invokestatic 81, 3) := by decide +kernel
theorem dX0_startTrial_81 : decode cX0_startTrial 81 = .ok (.ifCond .ne 7, 3) := by decide +kernel
theorem dX0_startTrial_84 : decode cX0_startTrial 84 = .ok (.iconst 1, 1) := by decide +kernel
theorem dX0_startTrial_85 : decode cX0_startTrial 85 = .ok (.goto 4, 3) := by decide +kernel
theorem dX0_startTrial_88 : decode cX0_startTrial 88 = .ok (.iconst 0, 1) := by decide +kernel
theorem dX0_startTrial_89 : decode cX0_startTrial 89 = .ok (.istore 4, 2) := by decide +kernel
theorem dX0_startTrial_91 : decode cX0_startTrial 91 = .ok (.iconst 0, 1) := by decide +kernel
theorem dX0_startTrial_92 : decode cX0_startTrial 92 = .ok (.istore 5, 2) := by decide +kernel
theorem dX0_startTrial_94 : decode cX0_startTrial 94 = .ok (.iload 5, 2) := by decide +kernel
theorem dX0_startTrial_96 : decode cX0_startTrial 96 = .ok (.aload_n 0, 1) := by decide +kernel
theorem dX0_startTrial_97 : decode cX0_startTrial 97 = .ok (.getfield 22, 3) := by decide +kernel
theorem dX0_startTrial_100 : decode cX0_startTrial 100 = .ok (.getfield 85, 3) := by decide +kernel
theorem dX0_startTrial_103 : decode cX0_startTrial 103 = .ok (.if_icmp .ge 50, 3) := by decide +kernel
theorem dX0_startTrial_106 : decode cX0_startTrial 106 = .ok (.iload 4, 2) := by decide +kernel
theorem dX0_startTrial_108 : decode cX0_startTrial 108 = .ok (.ifCond .eq 39, 3) := by decide +kernel
theorem dX0_startTrial_111 : decode cX0_startTrial 111 = .ok (.iload_n 1, 1) := by decide +kernel
theorem dX0_startTrial_112 : decode cX0_startTrial 112 = .ok (.ifCond .ne 14, 3) := by decide +kernel
theorem dX0_startTrial_115 : decode cX0_startTrial 115 = .ok (.iload 5, 2) := by decide +kernel
theorem dX0_startTrial_117 : decode cX0_startTrial 117 = .ok (.aload_n 0, 1) := by decide +kernel
theorem dX0_startTrial_118 : decode cX0_startTrial 118 = .ok (.getfield 9, 3) := by decide +kernel
theorem dX0_startTrial_121 : decode cX0_startTrial 121 = .ok (.iload_n 3, 1) := by decide +kernel
theorem dX0_startTrial_122 : decode cX0_startTrial 122 = .ok (.iaload, 1) := by decide +kernel
theorem dX0_startTrial_123 : decode cX0_startTrial 123 = .ok (.if_icmp .ne 24, 3) := by decide +kernel
theorem dX0_startTrial_126 : decode cX0_startTrial 126 = .ok (.aload_n 0, 1) := by decide +kernel
theorem dX0_startTrial_127 : decode cX0_startTrial 127 = .ok (.getfield 26, 3) := by decide +kernel
theorem dX0_startTrial_130 : decode cX0_startTrial 130 = .ok (.iload 5, 2) := by decide +kernel
theorem dX0_startTrial_132 : decode cX0_startTrial 132 = .ok (.iload_n 3, 1) := by decide +kernel
theorem dX0_startTrial_133 : decode cX0_startTrial 133 = .ok (.aload_n 0, 1) := by decide +kernel
theorem dX0_startTrial_134 : decode cX0_startTrial 134 = .ok (.getfield 22, 3) := by decide +kernel
theorem dX0_startTrial_137 : decode cX0_startTrial 137 = .ok (.getfield 78, 3) := by decide +kernel
theorem dX0_startTrial_140 : decode cX0_startTrial 140 = .ok (.iload_n 2, 1) := by decide +kernel
theorem dX0_startTrial_141 : decode cX0_startTrial 141 = .ok (.iconst 4, 1) := by decide +kernel
theorem dX0_startTrial_142 : decode cX0_startTrial 142 = .ok (.imul, 1) := by decide +kernel
theorem dX0_startTrial_143 : decode cX0_startTrial 143 = .ok (.iaload, 1) := by decide +kernel
theorem dX0_startTrial_144 : decode cX0_startTrial 144 = .ok (.invokevirtual 88, 3) := by decide +kernel
theorem dX0_startTrial_147 : decode cX0_startTrial 147 = .ok (.iinc 5 1, 3) := by decide +kernel
theorem dX0_startTrial_150 : decode cX0_startTrial 150 = .ok (.goto (-56), 3) := by decide +kernel
theorem dX0_startTrial_153 : decode cX0_startTrial 153 = .ok (.iinc 3 1, 3) := by decide +kernel
theorem dX0_startTrial_156 : decode cX0_startTrial 156 = .ok (.goto (-112), 3) := by decide +kernel
theorem dX0_startTrial_159 : decode cX0_startTrial 159 = .ok (.iinc 2 1, 3) := by decide +kernel
theorem dX0_startTrial_162 : decode cX0_startTrial 162 = .ok (.goto (-137), 3) := by decide +kernel
theorem dX0_startTrial_165 : decode cX0_startTrial 165 = .ok (.return_, 1) := by decide +kernel
-- X7_findSoonest_21
def B_X7_findSoonest_21_31 (nd : Nat) (n : Nat) (v6 : Int32) (q : Int32 × Int32 × Int32 × jS) : Option ((Int32 × Int32 × Int32 × jS) ⊕ (Int32 × Int32 × Int32 × jS)) :=
  (if 48 ≤ q.2.2.1 then some (.inr (q.1, q.2.1, q.2.2.1, q.2.2.2)) else (if q.2.1 ≤ q.1 then some (.inr (q.1, q.2.1, q.2.2.1, q.2.2.2)) else ((F_X7_cheapest nd n ((q.1 + q.2.1) / 2) q.2.2.2).bind fun p57 => (if v6 < (p57.1 >>> ((6 : Int32) &&& 31)) then some (.inl ((((q.1 + q.2.1) / 2) + 1), q.2.1, (q.2.2.1 + 1), p57.2)) else some (.inl (q.1, ((q.1 + q.2.1) / 2), (q.2.2.1 + 1), p57.2))))))
def F_X7_findSoonest_21 (nd : Nat) (n : Nat) (v2 : Int32) (v3 : Int32) (v4 : Int32) (v5 : Int32) (v6 : Int32) (s : jS) : Option (Bool × jS) :=
  ((F_X7_findCheapest_21 nd n v2 v3 v4 v5 v6 s).bind fun p10 => (if p10.1 = true then ((lp (B_X7_findSoonest_21_31 nd n v6) n ((p10.2.1 33 4), v5, 0, p10.2)).bind fun e31 => ((F_X7_cheapest nd n e31.2.1 e31.2.2.2).bind fun p91 => ((F_X7_walk nd n p91.1 p91.2).bind fun p94 => some (true, p94)))) else some (false, p10.2)))
def rm_X7_findSoonest_21 : Room := { frames := 4, cells := 0, slots := 0, locals := 98 }
set_option maxHeartbeats 4000000 in
set_option maxRecDepth 100000 in
theorem m_X7_findSoonest_21 {l : Launch} {D : va_G} {G : Nat → ClassId} {KV : jV} {ad : Nat → Nat} (nd : Nat) (n : Nat) (v2 : Int32) (v3 : Int32) (v4 : Int32) (v5 : Int32) (v6 : Int32) (s : jS) {p : Bool × jS} (h : F_X7_findSoonest_21 nd n v2 v3 v4 v5 v6 s = some p) : jM l D G KV yX7_findSoonest cX7_findSoonest 11 (some .boolean) rm_X7_findSoonest_21 [.ref (ad 33), .ref (ad 21), .int v2, .int v3, .int v4, .int v5, .int v6] (jw 54 (cellC G nd) ad s) 0 0 (fun v u => v = some (.int (jb p.1)) ∧ u = jw 54 (cellC G nd) ad p.2) := by
  refine jM.of (by decide) (Nat.le_of_ble_eq_true rfl) ?_
  intro K C
  unfold F_X7_findSoonest_21 at h
  have lo31 : ∀ (v6 : Int32) (s : jS) (k : Nat) (q : Int32 × Int32 × Int32 × jS) (e : Int32 × Int32 × Int32 × jS), lp (B_X7_findSoonest_21_31 nd n v6) k q = some e → K 0 0 (jw 54 (cellC G nd) ad e.2.2.2) 87 [(0, .ref (ad 33)), (8, .int e.2.1)] [] → K 0 0 (jw 54 (cellC G nd) ad q.2.2.2) 31 [(0, .ref (ad 33)), (6, .int v6), (7, .int q.1), (8, .int q.2.1), (9, .int q.2.2.1)] [] := by
    intro v6 s k q e he hE
    refine jlp (KH := fun q => K 0 0 (jw 54 (cellC G nd) ad q.2.2.2) 31 [(0, .ref (ad 33)), (6, .int v6), (7, .int q.1), (8, .int q.2.1), (9, .int q.2.2.1)] []) (KE := fun e => K 0 0 (jw 54 (cellC G nd) ad e.2.2.2) 87 [(0, .ref (ad 33)), (8, .int e.2.1)] []) ?_ k q e he hE
    intro q o hb hin hout
    unfold B_X7_findSoonest_21_31 at hb
    show K 0 0 (jw 54 (cellC G nd) ad q.2.2.2) 31 [(0, .ref (ad 33)), (6, .int v6), (7, .int q.1), (8, .int q.2.1), (9, .int q.2.2.1)] []
    refine j_iload C dX7_findSoonest_31 4 rfl ?_
    refine j_bipush C dX7_findSoonest_33 (v := 48) (by decide) ?_
    refine j_icmp_ge C dX7_findSoonest_35 (tgt := 87) (by decide) (fun cq => ?_) (fun cq => ?_)
    · have hb := jite_t hb cq
      refine j_loc C [0, 3] rfl ?_
      have hx := hout _ (jinr hb)
      exact hx
    · have hb := jite_f hb cq
      refine j_iload C dX7_findSoonest_38 2 rfl ?_
      refine j_iload C dX7_findSoonest_40 3 rfl ?_
      refine j_icmp_ge C dX7_findSoonest_42 (tgt := 87) (by decide) (fun cq => ?_) (fun cq => ?_)
      · have hb := jite_t hb cq
        refine j_loc C [0, 3] rfl ?_
        have hx := hout _ (jinr hb)
        exact hx
      · have hb := jite_f hb cq
        refine j_iload C dX7_findSoonest_45 2 rfl ?_
        refine j_iload C dX7_findSoonest_47 3 rfl ?_
        refine j_iadd C dX7_findSoonest_49 ?_
        refine j_iconst C dX7_findSoonest_50 (v := 2) (by decide) ?_
        refine j_idiv C dX7_findSoonest_51 (by decide) ?_
        refine j_istore C dX7_findSoonest_52 (by decide) rfl ?_
        refine j_aload_n C dX7_findSoonest_54 1 rfl ?_
        refine j_iload C dX7_findSoonest_55 0 rfl ?_
        obtain ⟨p57, he57, hb⟩ := jbind hb
        refine j_cV1 C dX7_findSoonest_57 (m_X7_cheapest nd n ((q.1 + q.2.1) / 2) q.2.2.2 he57) kc_X7_cheapest w_783 w_785 wp_34 w_8 jy_X7_cheapest ⟨⟨Nat.le_of_ble_eq_true rfl, Nat.le_of_ble_eq_true rfl⟩, ⟨rfl, rfl⟩, ⟨Nat.zero_le _, Nat.zero_le _⟩⟩ (Nat.le_of_ble_eq_true rfl) (by decide) rfl (r := (RX7, TX7, 12)) rfl rfl rfl (fun _ _ h => h) ?_
        refine j_bipush C dX7_findSoonest_60 (v := 6) (by decide) ?_
        refine j_ishr C dX7_findSoonest_62 ?_
        refine j_iload C dX7_findSoonest_63 2 rfl ?_
        refine j_icmp_gt C dX7_findSoonest_65 (tgt := 75) (by decide) (fun cq => ?_) (fun cq => ?_)
        · have hb := jite_t hb cq
          refine j_iload C dX7_findSoonest_75 0 rfl ?_
          refine j_iconst C dX7_findSoonest_77 (v := 1) (by decide) ?_
          refine j_iadd C dX7_findSoonest_78 ?_
          refine j_istore C dX7_findSoonest_79 (by decide) rfl ?_
          refine j_iinc C dX7_findSoonest_81 5 rfl (v := (q.2.2.1 + 1)) rfl (by decide) rfl ?_
          refine j_goto C dX7_findSoonest_84 (tgt := 31) (by decide) ?_
          refine j_loc C [3, 4, 1, 5, 0] rfl ?_
          have hx := hin _ (jinl hb)
          exact hx
        · have hb := jite_f hb cq
          refine j_iload C dX7_findSoonest_68 0 rfl ?_
          refine j_istore C dX7_findSoonest_70 (by decide) rfl ?_
          refine j_goto C dX7_findSoonest_72 (tgt := 81) (by decide) ?_
          refine j_iinc C dX7_findSoonest_81 5 rfl (v := (q.2.2.1 + 1)) rfl (by decide) rfl ?_
          refine j_goto C dX7_findSoonest_84 (tgt := 31) (by decide) ?_
          refine j_loc C [3, 4, 5, 1, 0] rfl ?_
          have hx := hin _ (jinl hb)
          exact hx
  show K 0 0 (jw 54 (cellC G nd) ad s) 0 [(0, .ref (ad 33)), (1, .ref (ad 21)), (2, .int v2), (3, .int v3), (4, .int v4), (5, .int v5), (6, .int v6)] []
  refine j_aload_n C dX7_findSoonest_0 0 rfl ?_
  refine j_aload_n C dX7_findSoonest_1 1 rfl ?_
  refine j_iload_n C dX7_findSoonest_2 2 rfl ?_
  refine j_iload_n C dX7_findSoonest_3 3 rfl ?_
  refine j_iload C dX7_findSoonest_4 4 rfl ?_
  refine j_iload C dX7_findSoonest_6 5 rfl ?_
  refine j_iload C dX7_findSoonest_8 6 rfl ?_
  obtain ⟨p10, he10, h⟩ := jbind h
  refine j_cV1 C dX7_findSoonest_10 (m_X7_findCheapest_21 nd n v2 v3 v4 v5 v6 s he10) kc_X7_findCheapest w_768 w_769 w_770 w_8 jy_X7_findCheapest ⟨⟨Nat.le_of_ble_eq_true rfl, Nat.le_of_ble_eq_true rfl⟩, ⟨rfl, rfl⟩, ⟨Nat.zero_le _, Nat.zero_le _⟩⟩ (Nat.le_of_ble_eq_true rfl) (by decide) rfl (r := (RX7, TX7, 12)) rfl rfl rfl (fun _ _ h => h) ?_
  refine j_if_ne C dX7_findSoonest_13 (tgt := 18) (by decide) (fun cq => ?_) (fun cq => ?_)
  · have h := jite_t h (jb_t cq)
    refine j_aload_n C dX7_findSoonest_18 0 rfl ?_
    refine j_getW C dX7_findSoonest_19 inX7 rfl (by decide) rfl 4 (by decide) w_238 rfl rfl ?_
    refine j_istore C dX7_findSoonest_22 (by decide) rfl ?_
    refine j_iload C dX7_findSoonest_24 6 rfl ?_
    refine j_istore C dX7_findSoonest_26 (by decide) rfl ?_
    refine j_iconst C dX7_findSoonest_28 (v := 0) (by decide) ?_
    refine j_istore C dX7_findSoonest_29 (by decide) rfl ?_
    refine j_loc C [3, 9, 2, 1, 0] rfl ?_
    obtain ⟨e31, he31, h⟩ := jbind h
    refine lo31 v6 p10.2  n ((p10.2.1 33 4), v5, 0, p10.2) e31 he31 ?_
    refine j_aload_n C dX7_findSoonest_87 0 rfl ?_
    refine j_aload_n C dX7_findSoonest_88 0 rfl ?_
    refine j_iload C dX7_findSoonest_89 1 rfl ?_
    obtain ⟨p91, he91, h⟩ := jbind h
    refine j_cV1 C dX7_findSoonest_91 (m_X7_cheapest nd n e31.2.1 e31.2.2.2 he91) kc_X7_cheapest w_783 w_785 wp_34 w_8 jy_X7_cheapest ⟨⟨Nat.le_of_ble_eq_true rfl, Nat.le_of_ble_eq_true rfl⟩, ⟨rfl, rfl⟩, ⟨Nat.zero_le _, Nat.zero_le _⟩⟩ (Nat.le_of_ble_eq_true rfl) (by decide) rfl (r := (RX7, TX7, 12)) rfl rfl rfl (fun _ _ h => h) ?_
    obtain ⟨p94, he94, h⟩ := jbind h
    refine j_cV0 C dX7_findSoonest_94 (m_X7_walk nd n p91.1 p91.2 he94) kc_X7_walk w_803 w_805 wp_36 w_8 jy_X7_walk ⟨⟨Nat.le_of_ble_eq_true rfl, Nat.le_of_ble_eq_true rfl⟩, ⟨rfl, rfl⟩, ⟨Nat.zero_le _, Nat.zero_le _⟩⟩ (Nat.le_of_ble_eq_true rfl) (by decide) rfl (r := (RX7, TX7, 12)) rfl rfl rfl (fun _ _ h => h) ?_
    refine j_iconst C dX7_findSoonest_97 (v := 1) (by decide) ?_
    exact j_iret C dX7_findSoonest_98 rfl (jb_nar true) (Nat.zero_le _) (Nat.zero_le _) (jretWB h)
  · have h := jite_f h (jb_f cq)
    refine j_iconst C dX7_findSoonest_16 (v := 0) (by decide) ?_
    exact j_iret C dX7_findSoonest_17 rfl (jb_nar false) (Nat.zero_le _) (Nat.zero_le _) (jretWB h)
-- X8_way
def B_X8_way_29 (nd : Nat) (n : Nat) (v1 : Int32) (v2 : Int32) (v3 : Int32) (v4 : Int32) (v5 : Int32) (v6 : Bool) (v7 : Int32) (q : Int32 × jS) : Option ((Int32 × jS) ⊕ (Int32 × jS)) :=
  (if (q.2.1 0 0) ≤ q.1 then some (.inr (q.1, q.2)) else (if jin q.1 8 = true then (if (jz (q.2.1 22 (Int32.toNatClampNeg q.1))) = true then some (.inl ((q.1 + 1), q.2)) else (if (F_X8_hasKey v2 q.1) = true then some (.inl ((q.1 + 1), q.2)) else ((F_X3_learn nd n (q.2.1 21 (Int32.toNatClampNeg q.1)) q.1 v1 q.2).bind fun p77 => some (.inl ((q.1 + 1), p77))))) else none))
def J_X8_way_136 (nd : Nat) (n : Nat) (v7 : Int32) (k0 : Bool) (s : jS) : Option (Int32 × jS) :=
  (if k0 = true then (if v7 = (-1) then some ((s.1 33 0), s) else (if v7 = (-2) then some ((s.1 33 1), s) else (if (F_X8_within v7 0 ((s.1 33 1) - 1)) = true then (if 48 ≤ v7 then some ((-3), s) else (if jin v7 48 = true then some ((s.1 34 (Int32.toNatClampNeg v7)), s) else none)) else some ((-3), s)))) else some ((-3), s))
def F_X8_way (nd : Nat) (n : Nat) (v1 : Int32) (v2 : Int32) (v3 : Int32) (v4 : Int32) (v5 : Int32) (v6 : Bool) (v7 : Int32) (s : jS) : Option (Int32 × jS) :=
  (if (F_X8_isTraveller v1 v2 v3 v5 s) = true then (if (F_X8_within v4 1 48) = true then ((lp (B_X8_way_29 nd n v1 v2 v3 v4 v5 v6 v7) n (0, s)).bind fun e29 => (if v6 = true then ((F_X7_findSoonest_21 nd n v1 v2 v3 v4 v5 e29.2).bind fun p109 => J_X8_way_136 nd n v7 p109.1 p109.2) else ((F_X7_findCheapest_21 nd n v1 v2 v3 v4 v5 e29.2).bind fun p133 => J_X8_way_136 nd n v7 p133.1 p133.2))) else some ((-3), s)) else some ((-3), s))
def rm_X8_way : Room := { frames := 5, cells := 0, slots := 0, locals := 128 }
set_option maxHeartbeats 4000000 in
set_option maxRecDepth 100000 in
theorem m_X8_way {l : Launch} {D : va_G} {G : Nat → ClassId} {KV : jV} {ad : Nat → Nat} (nd : Nat) (n : Nat) (v1 : Int32) (v2 : Int32) (v3 : Int32) (v4 : Int32) (v5 : Int32) (v6 : Bool) (v7 : Int32) (s : jS) {p : Int32 × jS} (h : F_X8_way nd n v1 v2 v3 v4 v5 v6 v7 s = some p) : jM l D G KV yX8_way cX8_way 9 (some .int) rm_X8_way [.ref (ad 0), .int v1, .int v2, .int v3, .int v4, .int v5, .int (jb v6), .int v7] (jw 54 (cellC G nd) ad s) 0 0 (fun v u => v = some (.int p.1) ∧ u = jw 54 (cellC G nd) ad p.2) := by
  refine jM.of (by decide) (Nat.le_of_ble_eq_true rfl) ?_
  intro K C
  unfold F_X8_way at h
  have lo29 : ∀ (v1 : Int32) (v2 : Int32) (v3 : Int32) (v4 : Int32) (v5 : Int32) (v6 : Bool) (v7 : Int32) (s : jS) (k : Nat) (q : Int32 × jS) (e : Int32 × jS), lp (B_X8_way_29 nd n v1 v2 v3 v4 v5 v6 v7) k q = some e → K 0 0 (jw 54 (cellC G nd) ad e.2) 86 [(0, .ref (ad 0)), (1, .int v1), (2, .int v2), (3, .int v3), (4, .int v4), (5, .int v5), (6, .int (jb v6)), (7, .int v7)] [] → K 0 0 (jw 54 (cellC G nd) ad q.2) 29 [(0, .ref (ad 0)), (1, .int v1), (2, .int v2), (3, .int v3), (4, .int v4), (5, .int v5), (6, .int (jb v6)), (7, .int v7), (8, .int q.1)] [] := by
    intro v1 v2 v3 v4 v5 v6 v7 s k q e he hE
    refine jlp (KH := fun q => K 0 0 (jw 54 (cellC G nd) ad q.2) 29 [(0, .ref (ad 0)), (1, .int v1), (2, .int v2), (3, .int v3), (4, .int v4), (5, .int v5), (6, .int (jb v6)), (7, .int v7), (8, .int q.1)] []) (KE := fun e => K 0 0 (jw 54 (cellC G nd) ad e.2) 86 [(0, .ref (ad 0)), (1, .int v1), (2, .int v2), (3, .int v3), (4, .int v4), (5, .int v5), (6, .int (jb v6)), (7, .int v7)] []) ?_ k q e he hE
    intro q o hb hin hout
    unfold B_X8_way_29 at hb
    show K 0 0 (jw 54 (cellC G nd) ad q.2) 29 [(0, .ref (ad 0)), (1, .int v1), (2, .int v2), (3, .int v3), (4, .int v4), (5, .int v5), (6, .int (jb v6)), (7, .int v7), (8, .int q.1)] []
    refine j_iload C dX8_way_29 8 rfl ?_
    refine j_aload_n C dX8_way_31 0 rfl ?_
    refine j_getW C dX8_way_32 inX8 rfl (by decide) rfl 0 (by decide) w_342 rfl rfl ?_
    refine j_icmp_ge C dX8_way_35 (tgt := 86) (by decide) (fun cq => ?_) (fun cq => ?_)
    · have hb := jite_t hb cq
      refine j_loc C [0, 1, 2, 3, 4, 5, 6, 7] rfl ?_
      have hx := hout _ (jinr hb)
      exact hx
    · have hb := jite_f hb cq
      refine j_aload_n C dX8_way_38 0 rfl ?_
      refine j_getW C dX8_way_39 inX8 rfl (by decide) rfl 1 (by decide) w_343 rfl rfl ?_
      refine j_getW C dX8_way_42 inX2 rfl (by decide) rfl 3 (by decide) w_127 rfl rfl ?_
      refine j_iload C dX8_way_45 8 rfl ?_
      obtain ⟨c47_1, hb⟩ := jchk hb
      refine j_zaldW C dX8_way_47 (by decide) rfl (jin_vp c47_1) ?_
      refine j_if_ne C dX8_way_48 (tgt := 80) (by decide) (fun cq => ?_) (fun cq => ?_)
      · have hb := jite_t hb (jb_t cq)
        refine j_iinc C dX8_way_80 8 rfl (v := (q.1 + 1)) rfl (by decide) rfl ?_
        refine j_goto C dX8_way_83 (tgt := 29) (by decide) ?_
        refine j_loc C [1, 2, 3, 4, 5, 6, 7, 8, 0] rfl ?_
        have hx := hin _ (jinl hb)
        exact hx
      · have hb := jite_f hb (jb_f cq)
        refine j_iload_n C dX8_way_51 2 rfl ?_
        refine j_iload C dX8_way_52 8 rfl ?_
        refine j_cS1 C dX8_way_54 (m_X8_hasKey v2 q.1 rfl) kc_X8_hasKey w_693 w_694 w_1 jy_X8_hasKey ⟨⟨Nat.le_of_ble_eq_true rfl, Nat.le_of_ble_eq_true rfl⟩, ⟨rfl, rfl⟩, ⟨Nat.zero_le _, Nat.zero_le _⟩⟩ (Nat.le_of_ble_eq_true rfl) rfl (fun _ _ h => h) ?_
        refine j_if_ne C dX8_way_57 (tgt := 80) (by decide) (fun cq => ?_) (fun cq => ?_)
        · have hb := jite_t hb (jb_t cq)
          refine j_iinc C dX8_way_80 8 rfl (v := (q.1 + 1)) rfl (by decide) rfl ?_
          refine j_goto C dX8_way_83 (tgt := 29) (by decide) ?_
          refine j_loc C [1, 2, 3, 4, 5, 6, 7, 8, 0] rfl ?_
          have hx := hin _ (jinl hb)
          exact hx
        · have hb := jite_f hb (jb_f cq)
          refine j_aload_n C dX8_way_60 0 rfl ?_
          refine j_getW C dX8_way_61 inX8 rfl (by decide) rfl 6 (by decide) w_348 rfl rfl ?_
          refine j_aload_n C dX8_way_64 0 rfl ?_
          refine j_getW C dX8_way_65 inX8 rfl (by decide) rfl 1 (by decide) w_343 rfl rfl ?_
          refine j_getW C dX8_way_68 inX2 rfl (by decide) rfl 2 (by decide) w_124 rfl rfl ?_
          refine j_iload C dX8_way_71 8 rfl ?_
          refine j_ialdW C dX8_way_73 (by decide) rfl (jin_vp c47_1) ?_
          refine j_iload C dX8_way_74 8 rfl ?_
          refine j_iload_n C dX8_way_76 1 rfl ?_
          obtain ⟨p77, he77, hb⟩ := jbind hb
          refine j_cV0 C dX8_way_77 (m_X3_learn nd n (q.2.1 21 (Int32.toNatClampNeg q.1)) q.1 v1 q.2 he77) kc_X3_learn w_749 w_750 w_751 w_7 jy_X3_learn ⟨⟨Nat.le_of_ble_eq_true rfl, Nat.le_of_ble_eq_true rfl⟩, ⟨rfl, rfl⟩, ⟨Nat.zero_le _, Nat.zero_le _⟩⟩ (Nat.le_of_ble_eq_true rfl) (by decide) rfl (r := (RX3, TX3, 7)) rfl rfl rfl (fun _ _ h => h) ?_
          refine j_iinc C dX8_way_80 8 rfl (v := (q.1 + 1)) rfl (by decide) rfl ?_
          refine j_goto C dX8_way_83 (tgt := 29) (by decide) ?_
          refine j_loc C [1, 2, 3, 4, 5, 6, 7, 8, 0] rfl ?_
          have hx := hin _ (jinl hb)
          exact hx
  have jn136 : ∀ (v7 : Int32) (k0 : Bool) (s : jS) (_ : J_X8_way_136 nd n v7 k0 s = some p), K 0 0 (jw 54 (cellC G nd) ad s) 136 [(0, .ref (ad 0)), (7, .int v7)] [.int (jb k0)] := by
    intro v7 k0 s h
    unfold J_X8_way_136 at h
    refine j_istore C dX8_way_136 (by decide) rfl ?_
    refine j_iload C dX8_way_138 0 rfl ?_
    refine j_if_ne C dX8_way_140 (tgt := 146) (by decide) (fun cq => ?_) (fun cq => ?_)
    · have h := jite_t h (jb_t cq)
      refine j_iload C dX8_way_146 2 rfl ?_
      refine j_iconst C dX8_way_148 (v := (-1)) (by decide) ?_
      refine j_icmp_ne C dX8_way_149 (tgt := 160) (by decide) (fun cq => ?_) (fun cq => ?_)
      · have h := jite_f h cq
        refine j_iload C dX8_way_160 2 rfl ?_
        refine j_bipush C dX8_way_162 (v := (-2)) (by decide) ?_
        refine j_icmp_ne C dX8_way_164 (tgt := 175) (by decide) (fun cq => ?_) (fun cq => ?_)
        · have h := jite_f h cq
          refine j_iload C dX8_way_175 2 rfl ?_
          refine j_iconst C dX8_way_177 (v := 0) (by decide) ?_
          refine j_aload_n C dX8_way_178 1 rfl ?_
          refine j_getW C dX8_way_179 inX8 rfl (by decide) rfl 7 (by decide) w_349 rfl rfl ?_
          refine j_getW C dX8_way_182 inX7 rfl (by decide) rfl 1 (by decide) w_233 rfl rfl ?_
          refine j_iconst C dX8_way_185 (v := 1) (by decide) ?_
          refine j_isub C dX8_way_186 ?_
          refine j_cS1 C dX8_way_187 (m_X8_within v7 0 ((s.1 33 1) - 1) rfl) kc_X8_within w_377 w_378 w_1 jy_X8_within ⟨⟨Nat.le_of_ble_eq_true rfl, Nat.le_of_ble_eq_true rfl⟩, ⟨rfl, rfl⟩, ⟨Nat.zero_le _, Nat.zero_le _⟩⟩ (Nat.le_of_ble_eq_true rfl) rfl (fun _ _ h => h) ?_
          refine j_if_eq C dX8_way_190 (tgt := 213) (by decide) (fun cq => ?_) (fun cq => ?_)
          · have h := jite_f h (jb_f cq)
            refine j_bipush C dX8_way_213 (v := (-3)) (by decide) ?_
            exact j_iret C dX8_way_215 rfl rfl (Nat.zero_le _) (Nat.zero_le _) (jretWI h)
          · have h := jite_t h (jb_t cq)
            refine j_iload C dX8_way_193 2 rfl ?_
            refine j_bipush C dX8_way_195 (v := 48) (by decide) ?_
            refine j_icmp_ge C dX8_way_197 (tgt := 213) (by decide) (fun cq => ?_) (fun cq => ?_)
            · have h := jite_t h cq
              refine j_bipush C dX8_way_213 (v := (-3)) (by decide) ?_
              exact j_iret C dX8_way_215 rfl rfl (Nat.zero_le _) (Nat.zero_le _) (jretWI h)
            · have h := jite_f h cq
              refine j_aload_n C dX8_way_200 1 rfl ?_
              refine j_getW C dX8_way_201 inX8 rfl (by decide) rfl 7 (by decide) w_349 rfl rfl ?_
              refine j_getW C dX8_way_204 inX7 rfl (by decide) rfl 2 (by decide) w_235 rfl rfl ?_
              refine j_iload C dX8_way_207 2 rfl ?_
              obtain ⟨c209_2, h⟩ := jchk h
              refine j_ialdW C dX8_way_209 (by decide) rfl (jin_vp c209_2) ?_
              refine j_goto C dX8_way_210 (tgt := 215) (by decide) ?_
              exact j_iret C dX8_way_215 rfl rfl (Nat.zero_le _) (Nat.zero_le _) (jretWI h)
        · have h := jite_t h cq
          refine j_aload_n C dX8_way_167 1 rfl ?_
          refine j_getW C dX8_way_168 inX8 rfl (by decide) rfl 7 (by decide) w_349 rfl rfl ?_
          refine j_getW C dX8_way_171 inX7 rfl (by decide) rfl 1 (by decide) w_233 rfl rfl ?_
          exact j_iret C dX8_way_174 rfl rfl (Nat.zero_le _) (Nat.zero_le _) (jretWI h)
      · have h := jite_t h cq
        refine j_aload_n C dX8_way_152 1 rfl ?_
        refine j_getW C dX8_way_153 inX8 rfl (by decide) rfl 7 (by decide) w_349 rfl rfl ?_
        refine j_getW C dX8_way_156 inX7 rfl (by decide) rfl 0 (by decide) w_231 rfl rfl ?_
        exact j_iret C dX8_way_159 rfl rfl (Nat.zero_le _) (Nat.zero_le _) (jretWI h)
    · have h := jite_f h (jb_f cq)
      refine j_bipush C dX8_way_143 (v := (-3)) (by decide) ?_
      exact j_iret C dX8_way_145 rfl rfl (Nat.zero_le _) (Nat.zero_le _) (jretWI h)
  show K 0 0 (jw 54 (cellC G nd) ad s) 0 [(0, .ref (ad 0)), (1, .int v1), (2, .int v2), (3, .int v3), (4, .int v4), (5, .int v5), (6, .int (jb v6)), (7, .int v7)] []
  refine j_aload_n C dX8_way_0 0 rfl ?_
  refine j_iload_n C dX8_way_1 1 rfl ?_
  refine j_iload_n C dX8_way_2 2 rfl ?_
  refine j_iload_n C dX8_way_3 3 rfl ?_
  refine j_iload C dX8_way_4 5 rfl ?_
  refine j_cV1 C dX8_way_6 (m_X8_isTraveller v1 v2 v3 v5 s rfl) kc_X8_isTraveller w_673 w_675 wp_26 w_1 jy_X8_isTraveller ⟨⟨Nat.le_of_ble_eq_true rfl, Nat.le_of_ble_eq_true rfl⟩, ⟨rfl, rfl⟩, ⟨Nat.zero_le _, Nat.zero_le _⟩⟩ (Nat.le_of_ble_eq_true rfl) (by decide) rfl (r := (RX8, TX8, 9)) rfl rfl rfl (fun _ _ h => h) ?_
  refine j_if_eq C dX8_way_9 (tgt := 23) (by decide) (fun cq => ?_) (fun cq => ?_)
  · have h := jite_f h (jb_f cq)
    refine j_bipush C dX8_way_23 (v := (-3)) (by decide) ?_
    exact j_iret C dX8_way_25 rfl rfl (Nat.zero_le _) (Nat.zero_le _) (jretWI h)
  · have h := jite_t h (jb_t cq)
    refine j_iload C dX8_way_12 4 rfl ?_
    refine j_iconst C dX8_way_14 (v := 1) (by decide) ?_
    refine j_bipush C dX8_way_15 (v := 48) (by decide) ?_
    refine j_cS1 C dX8_way_17 (m_X8_within v4 1 48 rfl) kc_X8_within w_377 w_378 w_1 jy_X8_within ⟨⟨Nat.le_of_ble_eq_true rfl, Nat.le_of_ble_eq_true rfl⟩, ⟨rfl, rfl⟩, ⟨Nat.zero_le _, Nat.zero_le _⟩⟩ (Nat.le_of_ble_eq_true rfl) rfl (fun _ _ h => h) ?_
    refine j_if_ne C dX8_way_20 (tgt := 26) (by decide) (fun cq => ?_) (fun cq => ?_)
    · have h := jite_t h (jb_t cq)
      refine j_iconst C dX8_way_26 (v := 0) (by decide) ?_
      refine j_istore C dX8_way_27 (by decide) rfl ?_
      refine j_loc C [1, 2, 3, 4, 5, 6, 7, 8, 0] rfl ?_
      obtain ⟨e29, he29, h⟩ := jbind h
      refine lo29 v1 v2 v3 v4 v5 v6 v7 s  n (0, s) e29 he29 ?_
      refine j_iload C dX8_way_86 6 rfl ?_
      refine j_if_eq C dX8_way_88 (tgt := 115) (by decide) (fun cq => ?_) (fun cq => ?_)
      · have h := jite_f h (jb_f cq)
        refine j_aload_n C dX8_way_115 0 rfl ?_
        refine j_getW C dX8_way_116 inX8 rfl (by decide) rfl 7 (by decide) w_349 rfl rfl ?_
        refine j_aload_n C dX8_way_119 0 rfl ?_
        refine j_getW C dX8_way_120 inX8 rfl (by decide) rfl 1 (by decide) w_343 rfl rfl ?_
        refine j_getW C dX8_way_123 inX2 rfl (by decide) rfl 2 (by decide) w_124 rfl rfl ?_
        refine j_iload_n C dX8_way_126 1 rfl ?_
        refine j_iload_n C dX8_way_127 2 rfl ?_
        refine j_iload_n C dX8_way_128 3 rfl ?_
        refine j_iload C dX8_way_129 4 rfl ?_
        refine j_iload C dX8_way_131 5 rfl ?_
        obtain ⟨p133, he133, h⟩ := jbind h
        refine j_cV1 C dX8_way_133 (m_X7_findCheapest_21 nd n v1 v2 v3 v4 v5 e29.2 he133) kc_X7_findCheapest w_810 w_769 w_770 w_8 jy_X7_findCheapest ⟨⟨Nat.le_of_ble_eq_true rfl, Nat.le_of_ble_eq_true rfl⟩, ⟨rfl, rfl⟩, ⟨Nat.zero_le _, Nat.zero_le _⟩⟩ (Nat.le_of_ble_eq_true rfl) (by decide) rfl (r := (RX7, TX7, 12)) rfl rfl rfl (fun _ _ h => h) ?_
        refine j_loc C [0, 7] rfl ?_
        exact jn136 v7 p133.1 p133.2  h
      · have h := jite_t h (jb_t cq)
        refine j_aload_n C dX8_way_91 0 rfl ?_
        refine j_getW C dX8_way_92 inX8 rfl (by decide) rfl 7 (by decide) w_349 rfl rfl ?_
        refine j_aload_n C dX8_way_95 0 rfl ?_
        refine j_getW C dX8_way_96 inX8 rfl (by decide) rfl 1 (by decide) w_343 rfl rfl ?_
        refine j_getW C dX8_way_99 inX2 rfl (by decide) rfl 2 (by decide) w_124 rfl rfl ?_
        refine j_iload_n C dX8_way_102 1 rfl ?_
        refine j_iload_n C dX8_way_103 2 rfl ?_
        refine j_iload_n C dX8_way_104 3 rfl ?_
        refine j_iload C dX8_way_105 4 rfl ?_
        refine j_iload C dX8_way_107 5 rfl ?_
        obtain ⟨p109, he109, h⟩ := jbind h
        refine j_cV1 C dX8_way_109 (m_X7_findSoonest_21 nd n v1 v2 v3 v4 v5 e29.2 he109) kc_X7_findSoonest w_764 w_765 w_766 w_8 jy_X7_findSoonest ⟨⟨Nat.le_of_ble_eq_true rfl, Nat.le_of_ble_eq_true rfl⟩, ⟨rfl, rfl⟩, ⟨Nat.zero_le _, Nat.zero_le _⟩⟩ (Nat.le_of_ble_eq_true rfl) (by decide) rfl (r := (RX7, TX7, 12)) rfl rfl rfl (fun _ _ h => h) ?_
        refine j_goto C dX8_way_112 (tgt := 136) (by decide) ?_
        refine j_loc C [0, 7] rfl ?_
        exact jn136 v7 p109.1 p109.2  h
    · have h := jite_f h (jb_f cq)
      refine j_bipush C dX8_way_23 (v := (-3)) (by decide) ?_
      exact j_iret C dX8_way_25 rfl rfl (Nat.zero_le _) (Nat.zero_le _) (jretWI h)
-- X2_addGuest_18
def F_X2_addGuest_18 (v1 : Int32) (v2 : Int32) (v3 : Int32) (v4 : Int32) (s : jS) : Option jS :=
  (if (F_X8_within (s.1 18 8) 0 5) = true then (if jin ((s.1 18 8) * 4) 24 = true then (jl (upI s 23 (Int32.toNatClampNeg ((s.1 18 8) * 4)) v1) fun s28_2 => (if jin (((s.1 18 8) * 4) + 1) 24 = true then (jl (upI s28_2 23 (Int32.toNatClampNeg (((s.1 18 8) * 4) + 1)) v2) fun s38_4 => (if jin (((s.1 18 8) * 4) + 2) 24 = true then (jl (upI s38_4 23 (Int32.toNatClampNeg (((s.1 18 8) * 4) + 2)) v3) fun s48_6 => (if jin (((s.1 18 8) * 4) + 3) 24 = true then (jl (upI s48_6 23 (Int32.toNatClampNeg (((s.1 18 8) * 4) + 3)) v4) fun s59_8 => (jl (upI s59_8 18 8 ((s59_8.1 18 8) + 1)) fun s67_9 => some s67_9)) else none)) else none)) else none)) else none) else some s)
def rm_X2_addGuest_18 : Room := { frames := 1, cells := 0, slots := 0, locals := 22 }
set_option maxHeartbeats 4000000 in
set_option maxRecDepth 100000 in
theorem m_X2_addGuest_18 {l : Launch} {D : va_G} {G : Nat → ClassId} {KV : jV} {ad : Nat → Nat} {nd : Nat} (v1 : Int32) (v2 : Int32) (v3 : Int32) (v4 : Int32) (s : jS) {p : jS} (h : F_X2_addGuest_18 v1 v2 v3 v4 s = some p) : jM l D G KV yX2_addGuest cX2_addGuest 6 none rm_X2_addGuest_18 [.ref (ad 18), .int v1, .int v2, .int v3, .int v4] (jw 54 (cellC G nd) ad s) 0 0 (fun v u => v = none ∧ u = jw 54 (cellC G nd) ad p) := by
  refine jM.of (by decide) (Nat.le_of_ble_eq_true rfl) ?_
  intro K C
  unfold F_X2_addGuest_18 at h
  show K 0 0 (jw 54 (cellC G nd) ad s) 0 [(0, .ref (ad 18)), (1, .int v1), (2, .int v2), (3, .int v3), (4, .int v4)] []
  refine j_aload_n C dX2_addGuest_0 0 rfl ?_
  refine j_getW C dX2_addGuest_1 inX2 rfl (by decide) rfl 8 (by decide) w_139 rfl rfl ?_
  refine j_iconst C dX2_addGuest_4 (v := 0) (by decide) ?_
  refine j_iconst C dX2_addGuest_5 (v := 5) (by decide) ?_
  refine j_cSN1 C (host := "RoadOfDoors") dX2_addGuest_6 (m_X8_within (s.1 18 8) 0 5 rfl) kc_X8_within (by decide +kernel) w_378 w_1 jy_X8_within ⟨⟨Nat.le_of_ble_eq_true rfl, Nat.le_of_ble_eq_true rfl⟩, ⟨rfl, rfl⟩, ⟨Nat.zero_le _, Nat.zero_le _⟩⟩ (Nat.le_of_ble_eq_true rfl) rfl (fun _ _ h => h) ?_
  refine j_if_ne C dX2_addGuest_9 (tgt := 13) (by decide) (fun cq => ?_) (fun cq => ?_)
  · have h := jite_t h (jb_t cq)
    refine j_aload_n C dX2_addGuest_13 0 rfl ?_
    refine j_getW C dX2_addGuest_14 inX2 rfl (by decide) rfl 8 (by decide) w_139 rfl rfl ?_
    refine j_iconst C dX2_addGuest_17 (v := 4) (by decide) ?_
    refine j_imul C dX2_addGuest_18 ?_
    refine j_istore C dX2_addGuest_19 (by decide) rfl ?_
    refine j_aload_n C dX2_addGuest_21 1 rfl ?_
    refine j_getW C dX2_addGuest_22 inX2 rfl (by decide) rfl 4 (by decide) w_129 rfl rfl ?_
    refine j_iload C dX2_addGuest_25 0 rfl ?_
    refine j_iload_n C dX2_addGuest_27 2 rfl ?_
    obtain ⟨c28_1, h⟩ := jchk h
    refine j_iastW C dX2_addGuest_28 (by decide) (fun _ => rfl) (jin_vp c28_1) (fun s28_2 hs28_2 => ?_)
    have h := jlet h hs28_2
    refine j_aload_n C dX2_addGuest_29 1 rfl ?_
    refine j_getW C dX2_addGuest_30 inX2 rfl (by decide) rfl 4 (by decide) w_129 rfl rfl ?_
    refine j_iload C dX2_addGuest_33 0 rfl ?_
    refine j_iconst C dX2_addGuest_35 (v := 1) (by decide) ?_
    refine j_iadd C dX2_addGuest_36 ?_
    refine j_iload_n C dX2_addGuest_37 3 rfl ?_
    obtain ⟨c38_3, h⟩ := jchk h
    refine j_iastW C dX2_addGuest_38 (by decide) (fun _ => rfl) (jin_vp c38_3) (fun s38_4 hs38_4 => ?_)
    have h := jlet h hs38_4
    refine j_aload_n C dX2_addGuest_39 1 rfl ?_
    refine j_getW C dX2_addGuest_40 inX2 rfl (by decide) rfl 4 (by decide) w_129 rfl rfl ?_
    refine j_iload C dX2_addGuest_43 0 rfl ?_
    refine j_iconst C dX2_addGuest_45 (v := 2) (by decide) ?_
    refine j_iadd C dX2_addGuest_46 ?_
    refine j_iload_n C dX2_addGuest_47 4 rfl ?_
    obtain ⟨c48_5, h⟩ := jchk h
    refine j_iastW C dX2_addGuest_48 (by decide) (fun _ => rfl) (jin_vp c48_5) (fun s48_6 hs48_6 => ?_)
    have h := jlet h hs48_6
    refine j_aload_n C dX2_addGuest_49 1 rfl ?_
    refine j_getW C dX2_addGuest_50 inX2 rfl (by decide) rfl 4 (by decide) w_129 rfl rfl ?_
    refine j_iload C dX2_addGuest_53 0 rfl ?_
    refine j_iconst C dX2_addGuest_55 (v := 3) (by decide) ?_
    refine j_iadd C dX2_addGuest_56 ?_
    refine j_iload C dX2_addGuest_57 5 rfl ?_
    obtain ⟨c59_7, h⟩ := jchk h
    refine j_iastW C dX2_addGuest_59 (by decide) (fun _ => rfl) (jin_vp c59_7) (fun s59_8 hs59_8 => ?_)
    have h := jlet h hs59_8
    refine j_aload_n C dX2_addGuest_60 1 rfl ?_
    refine j_dup C dX2_addGuest_61 rfl ?_
    refine j_getW C dX2_addGuest_62 inX2 rfl (by decide) rfl 8 (by decide) w_139 rfl rfl ?_
    refine j_iconst C dX2_addGuest_65 (v := 1) (by decide) ?_
    refine j_iadd C dX2_addGuest_66 ?_
    refine j_putI C dX2_addGuest_67 inX2 tyX2 tyX2_ok nmX2 rfl (by decide) 8 rfl rfl (by decide) w_139 rfl rfl rfl rfl (Nat.le_of_ble_eq_true rfl) (fun s67_9 hs67_9 => ?_)
    have h := jlet h hs67_9
    exact j_vret C dX2_addGuest_70 rfl (Nat.zero_le _) (Nat.zero_le _) (jretWV h)
  · have h := jite_f h (jb_f cq)
    exact j_vret C dX2_addGuest_12 rfl (Nat.zero_le _) (Nat.zero_le _) (jretWV h)
-- X8_guest
def F_X8_guest (v1 : Int32) (v2 : Int32) (v3 : Int32) (v4 : Int32) (s : jS) : Option (Int32 × jS) :=
  (if (F_X8_isTraveller v1 v2 v3 v4 s) = true then (if (s.1 18 8) < 6 then ((F_X2_addGuest_18 v1 v2 v3 v4 s).bind fun p35 => ((F_X0_forget p35).bind fun p42 => some ((p42.1 18 8), p42))) else some ((-1), s)) else some ((-1), s))
def rm_X8_guest : Room := { frames := 3, cells := 0, slots := 0, locals := 66 }
set_option maxHeartbeats 4000000 in
set_option maxRecDepth 100000 in
theorem m_X8_guest {l : Launch} {D : va_G} {G : Nat → ClassId} {KV : jV} {ad : Nat → Nat} {nd : Nat} (v1 : Int32) (v2 : Int32) (v3 : Int32) (v4 : Int32) (s : jS) {p : Int32 × jS} (h : F_X8_guest v1 v2 v3 v4 s = some p) : jM l D G KV yX8_guest cX8_guest 5 (some .int) rm_X8_guest [.ref (ad 0), .int v1, .int v2, .int v3, .int v4] (jw 54 (cellC G nd) ad s) 0 0 (fun v u => v = some (.int p.1) ∧ u = jw 54 (cellC G nd) ad p.2) := by
  refine jM.of (by decide) (Nat.le_of_ble_eq_true rfl) ?_
  intro K C
  unfold F_X8_guest at h
  show K 0 0 (jw 54 (cellC G nd) ad s) 0 [(0, .ref (ad 0)), (1, .int v1), (2, .int v2), (3, .int v3), (4, .int v4)] []
  refine j_aload_n C dX8_guest_0 0 rfl ?_
  refine j_iload_n C dX8_guest_1 1 rfl ?_
  refine j_iload_n C dX8_guest_2 2 rfl ?_
  refine j_iload_n C dX8_guest_3 3 rfl ?_
  refine j_iload C dX8_guest_4 4 rfl ?_
  refine j_cV1 C dX8_guest_6 (m_X8_isTraveller v1 v2 v3 v4 s rfl) kc_X8_isTraveller w_673 w_675 wp_26 w_1 jy_X8_isTraveller ⟨⟨Nat.le_of_ble_eq_true rfl, Nat.le_of_ble_eq_true rfl⟩, ⟨rfl, rfl⟩, ⟨Nat.zero_le _, Nat.zero_le _⟩⟩ (Nat.le_of_ble_eq_true rfl) (by decide) rfl (r := (RX8, TX8, 9)) rfl rfl rfl (fun _ _ h => h) ?_
  refine j_if_eq C dX8_guest_9 (tgt := 24) (by decide) (fun cq => ?_) (fun cq => ?_)
  · have h := jite_f h (jb_f cq)
    refine j_iconst C dX8_guest_24 (v := (-1)) (by decide) ?_
    exact j_iret C dX8_guest_25 rfl rfl (Nat.zero_le _) (Nat.zero_le _) (jretWI h)
  · have h := jite_t h (jb_t cq)
    refine j_aload_n C dX8_guest_12 0 rfl ?_
    refine j_getW C dX8_guest_13 inX8 rfl (by decide) rfl 1 (by decide) w_343 rfl rfl ?_
    refine j_getW C dX8_guest_16 inX2 rfl (by decide) rfl 8 (by decide) w_141 rfl rfl ?_
    refine j_bipush C dX8_guest_19 (v := 6) (by decide) ?_
    refine j_icmp_lt C dX8_guest_21 (tgt := 26) (by decide) (fun cq => ?_) (fun cq => ?_)
    · have h := jite_t h cq
      refine j_aload_n C dX8_guest_26 0 rfl ?_
      refine j_getW C dX8_guest_27 inX8 rfl (by decide) rfl 1 (by decide) w_343 rfl rfl ?_
      refine j_iload_n C dX8_guest_30 1 rfl ?_
      refine j_iload_n C dX8_guest_31 2 rfl ?_
      refine j_iload_n C dX8_guest_32 3 rfl ?_
      refine j_iload C dX8_guest_33 4 rfl ?_
      obtain ⟨p35, he35, h⟩ := jbind h
      refine j_cV0 C dX8_guest_35 (m_X2_addGuest_18 v1 v2 v3 v4 s he35) kc_X2_addGuest w_815 w_816 w_817 w_4 jy_X2_addGuest ⟨⟨Nat.le_of_ble_eq_true rfl, Nat.le_of_ble_eq_true rfl⟩, ⟨rfl, rfl⟩, ⟨Nat.zero_le _, Nat.zero_le _⟩⟩ (Nat.le_of_ble_eq_true rfl) (by decide) rfl (r := (RX2, TX2, 10)) rfl rfl rfl (fun _ _ h => h) ?_
      refine j_aload_n C dX8_guest_38 0 rfl ?_
      refine j_getW C dX8_guest_39 inX8 rfl (by decide) rfl 8 (by decide) w_350 rfl rfl ?_
      obtain ⟨p42, he42, h⟩ := jbind h
      refine j_cV0 C dX8_guest_42 (m_X0_forget p35 he42) kc_X0_forget w_388 w_389 w_390 w_10 jy_X0_forget ⟨⟨Nat.le_of_ble_eq_true rfl, Nat.le_of_ble_eq_true rfl⟩, ⟨rfl, rfl⟩, ⟨Nat.zero_le _, Nat.zero_le _⟩⟩ (Nat.le_of_ble_eq_true rfl) (by decide) rfl (r := (RX0, TX0, 8)) rfl rfl rfl (fun _ _ h => h) ?_
      refine j_aload_n C dX8_guest_45 0 rfl ?_
      refine j_getW C dX8_guest_46 inX8 rfl (by decide) rfl 1 (by decide) w_343 rfl rfl ?_
      refine j_getW C dX8_guest_49 inX2 rfl (by decide) rfl 8 (by decide) w_141 rfl rfl ?_
      exact j_iret C dX8_guest_52 rfl rfl (Nat.zero_le _) (Nat.zero_le _) (jretWI h)
    · have h := jite_f h cq
      refine j_iconst C dX8_guest_24 (v := (-1)) (by decide) ?_
      exact j_iret C dX8_guest_25 rfl rfl (Nat.zero_le _) (Nat.zero_le _) (jretWI h)
-- X8_clear
def F_X8_clear (s : jS) : Option (Int32 × jS) :=
  (jl (upI s 18 8 0) fun s13_1 => ((F_X0_forget s13_1).bind fun p20 => some ((s.1 18 8), p20)))
def rm_X8_clear : Room := { frames := 1, cells := 0, slots := 0, locals := 20 }
set_option maxHeartbeats 4000000 in
set_option maxRecDepth 100000 in
theorem m_X8_clear {l : Launch} {D : va_G} {G : Nat → ClassId} {KV : jV} {ad : Nat → Nat} {nd : Nat} (s : jS) {p : Int32 × jS} (h : F_X8_clear s = some p) : jM l D G KV yX8_clear cX8_clear 2 (some .int) rm_X8_clear [.ref (ad 0)] (jw 54 (cellC G nd) ad s) 0 0 (fun v u => v = some (.int p.1) ∧ u = jw 54 (cellC G nd) ad p.2) := by
  refine jM.of (by decide) (Nat.le_of_ble_eq_true rfl) ?_
  intro K C
  unfold F_X8_clear at h
  show K 0 0 (jw 54 (cellC G nd) ad s) 0 [(0, .ref (ad 0))] []
  refine j_aload_n C dX8_clear_0 0 rfl ?_
  refine j_getW C dX8_clear_1 inX8 rfl (by decide) rfl 1 (by decide) w_343 rfl rfl ?_
  refine j_getW C dX8_clear_4 inX2 rfl (by decide) rfl 8 (by decide) w_141 rfl rfl ?_
  refine j_istore_n C dX8_clear_7 (by decide) rfl ?_
  refine j_aload_n C dX8_clear_8 1 rfl ?_
  refine j_getW C dX8_clear_9 inX8 rfl (by decide) rfl 1 (by decide) w_343 rfl rfl ?_
  refine j_iconst C dX8_clear_12 (v := 0) (by decide) ?_
  refine j_putI C dX8_clear_13 inX2 tyX2 tyX2_ok nmX2 rfl (by decide) 8 rfl rfl (by decide) w_141 rfl rfl rfl rfl (Nat.le_of_ble_eq_true rfl) (fun s13_1 hs13_1 => ?_)
  have h := jlet h hs13_1
  refine j_aload_n C dX8_clear_16 1 rfl ?_
  refine j_getW C dX8_clear_17 inX8 rfl (by decide) rfl 8 (by decide) w_350 rfl rfl ?_
  obtain ⟨p20, he20, h⟩ := jbind h
  refine j_cV0 C dX8_clear_20 (m_X0_forget s13_1 he20) kc_X0_forget w_388 w_389 w_390 w_10 jy_X0_forget ⟨⟨Nat.le_of_ble_eq_true rfl, Nat.le_of_ble_eq_true rfl⟩, ⟨rfl, rfl⟩, ⟨Nat.zero_le _, Nat.zero_le _⟩⟩ (Nat.le_of_ble_eq_true rfl) (by decide) rfl (r := (RX0, TX0, 8)) rfl rfl rfl (fun _ _ h => h) ?_
  refine j_iload_n C dX8_clear_23 0 rfl ?_
  exact j_iret C dX8_clear_24 rfl rfl (Nat.zero_le _) (Nat.zero_le _) (jretWI h)
-- X0_startTrial
def J_X0_startTrial_126 (nd : Nat) (n : Nat) (v1 : Bool) (v2 : Int32) (v3 : Int32) (v4 : Bool) (v5 : Int32) (s : jS) : Option ((Int32 × jS) ⊕ (Int32 × jS)) :=
  (if jin (v2 * 4) 24 = true then ((F_X3_learn nd n v5 v3 (s.1 23 (Int32.toNatClampNeg (v2 * 4))) s).bind fun p144 => some (.inl ((v5 + 1), p144))) else none)
def B_X0_startTrial_94 (nd : Nat) (n : Nat) (v1 : Bool) (v2 : Int32) (v3 : Int32) (v4 : Bool) (q : Int32 × jS) : Option ((Int32 × jS) ⊕ (Int32 × jS)) :=
  (if (q.2.1 18 7) ≤ q.1 then some (.inr (q.1, q.2)) else (if v4 = true then (if v1 = true then J_X0_startTrial_126 nd n v1 v2 v3 v4 q.1 q.2 else (if jin v3 8 = true then (if q.1 = (q.2.1 52 (Int32.toNatClampNeg v3)) then J_X0_startTrial_126 nd n v1 v2 v3 v4 q.1 q.2 else some (.inl ((q.1 + 1), q.2))) else none)) else some (.inl ((q.1 + 1), q.2))))
def B_X0_startTrial_44 (nd : Nat) (n : Nat) (v1 : Bool) (v2 : Int32) (q : Int32 × jS) : Option ((Int32 × jS) ⊕ (Int32 × jS)) :=
  (if (q.2.1 51 1) ≤ q.1 then some (.inr (q.1, q.2)) else (if jin q.1 8 = true then (if (jz (q.2.1 22 (Int32.toNatClampNeg q.1))) = true then ((lp (B_X0_startTrial_94 nd n v1 v2 q.1 false) n (0, q.2)).bind fun e94 => some (.inl ((q.1 + 1), e94.2))) else (if jin ((v2 * 4) + 1) 24 = true then (if (F_X8_hasKey (q.2.1 23 (Int32.toNatClampNeg ((v2 * 4) + 1))) q.1) = true then ((lp (B_X0_startTrial_94 nd n v1 v2 q.1 false) n (0, q.2)).bind fun e94 => some (.inl ((q.1 + 1), e94.2))) else ((lp (B_X0_startTrial_94 nd n v1 v2 q.1 true) n (0, q.2)).bind fun e94 => some (.inl ((q.1 + 1), e94.2)))) else none)) else none))
def B_X0_startTrial_25 (nd : Nat) (n : Nat) (v1 : Bool) (q : Int32 × jS) : Option ((Int32 × jS) ⊕ (Int32 × jS)) :=
  (if (q.2.1 18 8) ≤ q.1 then some (.inr (q.1, q.2)) else (if 6 ≤ q.1 then some (.inr (q.1, q.2)) else ((lp (B_X0_startTrial_44 nd n v1 q.1) n (0, q.2)).bind fun e44 => some (.inl ((q.1 + 1), e44.2)))))
def F_X0_startTrial (nd : Nat) (n : Nat) (v1 : Bool) (s : jS) : Option jS :=
  (jl (upI s 51 7 (jb false)) fun s2_1 => (jl (upR s2_1 52 (va_cpy (s2_1.1 21) (s2_1.1 52) (Int32.toNatClampNeg 0) (Int32.toNatClampNeg 0) (Int32.toNatClampNeg 8))) fun s20_2 => ((lp (B_X0_startTrial_25 nd n v1) n (0, s20_2)).bind fun e25 => some e25.2)))
def rm_X0_startTrial : Room := { frames := 4, cells := 0, slots := 0, locals := 106 }
set_option maxHeartbeats 4000000 in
set_option maxRecDepth 100000 in
theorem m_X0_startTrial {l : Launch} {D : va_G} {G : Nat → ClassId} {KV : jV} {ad : Nat → Nat} (nd : Nat) (n : Nat) (v1 : Bool) (s : jS) {p : jS} (h : F_X0_startTrial nd n v1 s = some p) : jM l D G KV yX0_startTrial cX0_startTrial 6 none rm_X0_startTrial [.ref (ad 51), .int (jb v1)] (jw 54 (cellC G nd) ad s) 0 0 (fun v u => v = none ∧ u = jw 54 (cellC G nd) ad p) := by
  refine jM.of (by decide) (Nat.le_of_ble_eq_true rfl) ?_
  intro K C
  unfold F_X0_startTrial at h
  have jn126_94 : ∀ (v1 : Bool) (v2 : Int32) (v3 : Int32) (v4 : Bool) (v5 : Int32) (s : jS) (o : (Int32 × jS) ⊕ (Int32 × jS)), J_X0_startTrial_126 nd n v1 v2 v3 v4 v5 s = some o → (∀ q, o = .inl q → K 0 0 (jw 54 (cellC G nd) ad q.2) 94 [(0, .ref (ad 51)), (1, .int (jb v1)), (2, .int v2), (3, .int v3), (4, .int (jb v4)), (5, .int q.1)] []) → (∀ e, o = .inr e → K 0 0 (jw 54 (cellC G nd) ad e.2) 153 [(0, .ref (ad 51)), (1, .int (jb v1)), (2, .int v2), (3, .int v3)] []) → K 0 0 (jw 54 (cellC G nd) ad s) 126 [(0, .ref (ad 51)), (1, .int (jb v1)), (2, .int v2), (3, .int v3), (4, .int (jb v4)), (5, .int v5)] [] := by
    intro v1 v2 v3 v4 v5 s o hb hin hout
    unfold J_X0_startTrial_126 at hb
    refine j_aload_n C dX0_startTrial_126 0 rfl ?_
    refine j_getW C dX0_startTrial_127 inX0 rfl (by decide) rfl 3 (by decide) w_320 rfl rfl ?_
    refine j_iload C dX0_startTrial_130 5 rfl ?_
    refine j_iload_n C dX0_startTrial_132 3 rfl ?_
    refine j_aload_n C dX0_startTrial_133 0 rfl ?_
    refine j_getW C dX0_startTrial_134 inX0 rfl (by decide) rfl 2 (by decide) w_319 rfl rfl ?_
    refine j_getW C dX0_startTrial_137 inX2 rfl (by decide) rfl 4 (by decide) w_130 rfl rfl ?_
    refine j_iload_n C dX0_startTrial_140 2 rfl ?_
    refine j_iconst C dX0_startTrial_141 (v := 4) (by decide) ?_
    refine j_imul C dX0_startTrial_142 ?_
    obtain ⟨c143_4, hb⟩ := jchk hb
    refine j_ialdW C dX0_startTrial_143 (by decide) rfl (jin_vp c143_4) ?_
    obtain ⟨p144, he144, hb⟩ := jbind hb
    refine j_cV0 C dX0_startTrial_144 (m_X3_learn nd n v5 v3 (s.1 23 (Int32.toNatClampNeg (v2 * 4))) s he144) kc_X3_learn w_838 w_750 w_751 w_7 jy_X3_learn ⟨⟨Nat.le_of_ble_eq_true rfl, Nat.le_of_ble_eq_true rfl⟩, ⟨rfl, rfl⟩, ⟨Nat.zero_le _, Nat.zero_le _⟩⟩ (Nat.le_of_ble_eq_true rfl) (by decide) rfl (r := (RX3, TX3, 7)) rfl rfl rfl (fun _ _ h => h) ?_
    refine j_iinc C dX0_startTrial_147 5 rfl (v := (v5 + 1)) rfl (by decide) rfl ?_
    refine j_goto C dX0_startTrial_150 (tgt := 94) (by decide) ?_
    refine j_loc C [1, 2, 3, 4, 5, 0] rfl ?_
    have hx := hin _ (jinl hb)
    exact hx
  have lo94 : ∀ (v1 : Bool) (v2 : Int32) (v3 : Int32) (v4 : Bool) (s : jS) (k : Nat) (q : Int32 × jS) (e : Int32 × jS), lp (B_X0_startTrial_94 nd n v1 v2 v3 v4) k q = some e → K 0 0 (jw 54 (cellC G nd) ad e.2) 153 [(0, .ref (ad 51)), (1, .int (jb v1)), (2, .int v2), (3, .int v3)] [] → K 0 0 (jw 54 (cellC G nd) ad q.2) 94 [(0, .ref (ad 51)), (1, .int (jb v1)), (2, .int v2), (3, .int v3), (4, .int (jb v4)), (5, .int q.1)] [] := by
    intro v1 v2 v3 v4 s k q e he hE
    refine jlp (KH := fun q => K 0 0 (jw 54 (cellC G nd) ad q.2) 94 [(0, .ref (ad 51)), (1, .int (jb v1)), (2, .int v2), (3, .int v3), (4, .int (jb v4)), (5, .int q.1)] []) (KE := fun e => K 0 0 (jw 54 (cellC G nd) ad e.2) 153 [(0, .ref (ad 51)), (1, .int (jb v1)), (2, .int v2), (3, .int v3)] []) ?_ k q e he hE
    intro q o hb hin hout
    unfold B_X0_startTrial_94 at hb
    show K 0 0 (jw 54 (cellC G nd) ad q.2) 94 [(0, .ref (ad 51)), (1, .int (jb v1)), (2, .int v2), (3, .int v3), (4, .int (jb v4)), (5, .int q.1)] []
    refine j_iload C dX0_startTrial_94 5 rfl ?_
    refine j_aload_n C dX0_startTrial_96 0 rfl ?_
    refine j_getW C dX0_startTrial_97 inX0 rfl (by decide) rfl 2 (by decide) w_319 rfl rfl ?_
    refine j_getW C dX0_startTrial_100 inX2 rfl (by decide) rfl 7 (by decide) w_137 rfl rfl ?_
    refine j_icmp_ge C dX0_startTrial_103 (tgt := 153) (by decide) (fun cq => ?_) (fun cq => ?_)
    · have hb := jite_t hb cq
      refine j_loc C [0, 1, 2, 3] rfl ?_
      have hx := hout _ (jinr hb)
      exact hx
    · have hb := jite_f hb cq
      refine j_iload C dX0_startTrial_106 4 rfl ?_
      refine j_if_eq C dX0_startTrial_108 (tgt := 147) (by decide) (fun cq => ?_) (fun cq => ?_)
      · have hb := jite_f hb (jb_f cq)
        refine j_iinc C dX0_startTrial_147 5 rfl (v := (q.1 + 1)) rfl (by decide) rfl ?_
        refine j_goto C dX0_startTrial_150 (tgt := 94) (by decide) ?_
        refine j_loc C [1, 2, 3, 4, 5, 0] rfl ?_
        have hx := hin _ (jinl hb)
        exact hx
      · have hb := jite_t hb (jb_t cq)
        refine j_iload_n C dX0_startTrial_111 1 rfl ?_
        refine j_if_ne C dX0_startTrial_112 (tgt := 126) (by decide) (fun cq => ?_) (fun cq => ?_)
        · have hb := jite_t hb (jb_t cq)
          refine j_loc C [0, 1, 2, 3, 4, 5] rfl ?_
          exact jn126_94 v1 v2 v3 v4 q.1 q.2   _ hb hin hout
        · have hb := jite_f hb (jb_f cq)
          refine j_iload C dX0_startTrial_115 5 rfl ?_
          refine j_aload_n C dX0_startTrial_117 0 rfl ?_
          refine j_getW C dX0_startTrial_118 inX0 rfl (by decide) rfl 0 (by decide) w_316 rfl rfl ?_
          refine j_iload_n C dX0_startTrial_121 3 rfl ?_
          obtain ⟨c122_5, hb⟩ := jchk hb
          refine j_ialdW C dX0_startTrial_122 (by decide) rfl (jin_vp c122_5) ?_
          refine j_icmp_ne C dX0_startTrial_123 (tgt := 147) (by decide) (fun cq => ?_) (fun cq => ?_)
          · have hb := jite_f hb cq
            refine j_iinc C dX0_startTrial_147 5 rfl (v := (q.1 + 1)) rfl (by decide) rfl ?_
            refine j_goto C dX0_startTrial_150 (tgt := 94) (by decide) ?_
            refine j_loc C [1, 2, 3, 4, 5, 0] rfl ?_
            have hx := hin _ (jinl hb)
            exact hx
          · have hb := jite_t hb cq
            refine j_loc C [0, 1, 2, 3, 4, 5] rfl ?_
            exact jn126_94 v1 v2 v3 v4 q.1 q.2   _ hb hin hout
  have lo44 : ∀ (v1 : Bool) (v2 : Int32) (s : jS) (k : Nat) (q : Int32 × jS) (e : Int32 × jS), lp (B_X0_startTrial_44 nd n v1 v2) k q = some e → K 0 0 (jw 54 (cellC G nd) ad e.2) 159 [(0, .ref (ad 51)), (1, .int (jb v1)), (2, .int v2)] [] → K 0 0 (jw 54 (cellC G nd) ad q.2) 44 [(0, .ref (ad 51)), (1, .int (jb v1)), (2, .int v2), (3, .int q.1)] [] := by
    intro v1 v2 s k q e he hE
    refine jlp (KH := fun q => K 0 0 (jw 54 (cellC G nd) ad q.2) 44 [(0, .ref (ad 51)), (1, .int (jb v1)), (2, .int v2), (3, .int q.1)] []) (KE := fun e => K 0 0 (jw 54 (cellC G nd) ad e.2) 159 [(0, .ref (ad 51)), (1, .int (jb v1)), (2, .int v2)] []) ?_ k q e he hE
    intro q o hb hin hout
    unfold B_X0_startTrial_44 at hb
    show K 0 0 (jw 54 (cellC G nd) ad q.2) 44 [(0, .ref (ad 51)), (1, .int (jb v1)), (2, .int v2), (3, .int q.1)] []
    refine j_iload_n C dX0_startTrial_44 3 rfl ?_
    refine j_aload_n C dX0_startTrial_45 0 rfl ?_
    refine j_getW C dX0_startTrial_46 inX0 rfl (by decide) rfl 1 (by decide) w_318 rfl rfl ?_
    refine j_icmp_ge C dX0_startTrial_49 (tgt := 159) (by decide) (fun cq => ?_) (fun cq => ?_)
    · have hb := jite_t hb cq
      refine j_loc C [0, 1, 2] rfl ?_
      have hx := hout _ (jinr hb)
      exact hx
    · have hb := jite_f hb cq
      refine j_aload_n C dX0_startTrial_52 0 rfl ?_
      refine j_getW C dX0_startTrial_53 inX0 rfl (by decide) rfl 2 (by decide) w_319 rfl rfl ?_
      refine j_getW C dX0_startTrial_56 inX2 rfl (by decide) rfl 3 (by decide) w_128 rfl rfl ?_
      refine j_iload_n C dX0_startTrial_59 3 rfl ?_
      obtain ⟨c60_3, hb⟩ := jchk hb
      refine j_zaldW C dX0_startTrial_60 (by decide) rfl (jin_vp c60_3) ?_
      refine j_if_ne C dX0_startTrial_61 (tgt := 88) (by decide) (fun cq => ?_) (fun cq => ?_)
      · have hb := jite_t hb (jb_t cq)
        refine j_iconst C dX0_startTrial_88 (v := 0) (by decide) ?_
        refine j_istore C dX0_startTrial_89 (by decide) rfl ?_
        refine j_iconst C dX0_startTrial_91 (v := 0) (by decide) ?_
        refine j_istore C dX0_startTrial_92 (by decide) rfl ?_
        refine j_loc C [2, 3, 4, 5, 1, 0] rfl ?_
        obtain ⟨e94, he94, hb⟩ := jbind hb
        refine lo94 v1 v2 q.1 false q.2  n (0, q.2) e94 he94 ?_
        refine j_iinc C dX0_startTrial_153 3 rfl (v := (q.1 + 1)) rfl (by decide) rfl ?_
        refine j_goto C dX0_startTrial_156 (tgt := 44) (by decide) ?_
        refine j_loc C [1, 2, 3, 0] rfl ?_
        have hx := hin _ (jinl hb)
        exact hx
      · have hb := jite_f hb (jb_f cq)
        refine j_aload_n C dX0_startTrial_64 0 rfl ?_
        refine j_getW C dX0_startTrial_65 inX0 rfl (by decide) rfl 2 (by decide) w_319 rfl rfl ?_
        refine j_getW C dX0_startTrial_68 inX2 rfl (by decide) rfl 4 (by decide) w_130 rfl rfl ?_
        refine j_iload_n C dX0_startTrial_71 2 rfl ?_
        refine j_iconst C dX0_startTrial_72 (v := 4) (by decide) ?_
        refine j_imul C dX0_startTrial_73 ?_
        refine j_iconst C dX0_startTrial_74 (v := 1) (by decide) ?_
        refine j_iadd C dX0_startTrial_75 ?_
        obtain ⟨c76_6, hb⟩ := jchk hb
        refine j_ialdW C dX0_startTrial_76 (by decide) rfl (jin_vp c76_6) ?_
        refine j_iload_n C dX0_startTrial_77 3 rfl ?_
        refine j_cSN1 C (host := "RoadOfDoors") dX0_startTrial_78 (m_X8_hasKey (q.2.1 23 (Int32.toNatClampNeg ((v2 * 4) + 1))) q.1 rfl) kc_X8_hasKey (by decide +kernel) w_694 w_1 jy_X8_hasKey ⟨⟨Nat.le_of_ble_eq_true rfl, Nat.le_of_ble_eq_true rfl⟩, ⟨rfl, rfl⟩, ⟨Nat.zero_le _, Nat.zero_le _⟩⟩ (Nat.le_of_ble_eq_true rfl) rfl (fun _ _ h => h) ?_
        refine j_if_ne C dX0_startTrial_81 (tgt := 88) (by decide) (fun cq => ?_) (fun cq => ?_)
        · have hb := jite_t hb (jb_t cq)
          refine j_iconst C dX0_startTrial_88 (v := 0) (by decide) ?_
          refine j_istore C dX0_startTrial_89 (by decide) rfl ?_
          refine j_iconst C dX0_startTrial_91 (v := 0) (by decide) ?_
          refine j_istore C dX0_startTrial_92 (by decide) rfl ?_
          refine j_loc C [2, 3, 4, 5, 1, 0] rfl ?_
          obtain ⟨e94, he94, hb⟩ := jbind hb
          refine lo94 v1 v2 q.1 false q.2  n (0, q.2) e94 he94 ?_
          refine j_iinc C dX0_startTrial_153 3 rfl (v := (q.1 + 1)) rfl (by decide) rfl ?_
          refine j_goto C dX0_startTrial_156 (tgt := 44) (by decide) ?_
          refine j_loc C [1, 2, 3, 0] rfl ?_
          have hx := hin _ (jinl hb)
          exact hx
        · have hb := jite_f hb (jb_f cq)
          refine j_iconst C dX0_startTrial_84 (v := 1) (by decide) ?_
          refine j_goto C dX0_startTrial_85 (tgt := 89) (by decide) ?_
          refine j_istore C dX0_startTrial_89 (by decide) rfl ?_
          refine j_iconst C dX0_startTrial_91 (v := 0) (by decide) ?_
          refine j_istore C dX0_startTrial_92 (by decide) rfl ?_
          refine j_loc C [2, 3, 4, 5, 1, 0] rfl ?_
          obtain ⟨e94, he94, hb⟩ := jbind hb
          refine lo94 v1 v2 q.1 true q.2  n (0, q.2) e94 he94 ?_
          refine j_iinc C dX0_startTrial_153 3 rfl (v := (q.1 + 1)) rfl (by decide) rfl ?_
          refine j_goto C dX0_startTrial_156 (tgt := 44) (by decide) ?_
          refine j_loc C [1, 2, 3, 0] rfl ?_
          have hx := hin _ (jinl hb)
          exact hx
  have lo25 : ∀ (v1 : Bool) (s : jS) (k : Nat) (q : Int32 × jS) (e : Int32 × jS), lp (B_X0_startTrial_25 nd n v1) k q = some e → K 0 0 (jw 54 (cellC G nd) ad e.2) 165 [] [] → K 0 0 (jw 54 (cellC G nd) ad q.2) 25 [(0, .ref (ad 51)), (1, .int (jb v1)), (2, .int q.1)] [] := by
    intro v1 s k q e he hE
    refine jlp (KH := fun q => K 0 0 (jw 54 (cellC G nd) ad q.2) 25 [(0, .ref (ad 51)), (1, .int (jb v1)), (2, .int q.1)] []) (KE := fun e => K 0 0 (jw 54 (cellC G nd) ad e.2) 165 [] []) ?_ k q e he hE
    intro q o hb hin hout
    unfold B_X0_startTrial_25 at hb
    show K 0 0 (jw 54 (cellC G nd) ad q.2) 25 [(0, .ref (ad 51)), (1, .int (jb v1)), (2, .int q.1)] []
    refine j_iload_n C dX0_startTrial_25 2 rfl ?_
    refine j_aload_n C dX0_startTrial_26 0 rfl ?_
    refine j_getW C dX0_startTrial_27 inX0 rfl (by decide) rfl 2 (by decide) w_319 rfl rfl ?_
    refine j_getW C dX0_startTrial_30 inX2 rfl (by decide) rfl 8 (by decide) w_140 rfl rfl ?_
    refine j_icmp_ge C dX0_startTrial_33 (tgt := 165) (by decide) (fun cq => ?_) (fun cq => ?_)
    · have hb := jite_t hb cq
      refine j_loc C [] rfl ?_
      have hx := hout _ (jinr hb)
      exact hx
    · have hb := jite_f hb cq
      refine j_iload_n C dX0_startTrial_36 2 rfl ?_
      refine j_bipush C dX0_startTrial_37 (v := 6) (by decide) ?_
      refine j_icmp_ge C dX0_startTrial_39 (tgt := 165) (by decide) (fun cq => ?_) (fun cq => ?_)
      · have hb := jite_t hb cq
        refine j_loc C [] rfl ?_
        have hx := hout _ (jinr hb)
        exact hx
      · have hb := jite_f hb cq
        refine j_iconst C dX0_startTrial_42 (v := 0) (by decide) ?_
        refine j_istore_n C dX0_startTrial_43 (by decide) rfl ?_
        refine j_loc C [1, 2, 3, 0] rfl ?_
        obtain ⟨e44, he44, hb⟩ := jbind hb
        refine lo44 v1 q.1 q.2  n (0, q.2) e44 he44 ?_
        refine j_iinc C dX0_startTrial_159 2 rfl (v := (q.1 + 1)) rfl (by decide) rfl ?_
        refine j_goto C dX0_startTrial_162 (tgt := 25) (by decide) ?_
        refine j_loc C [1, 2, 0] rfl ?_
        have hx := hin _ (jinl hb)
        exact hx
  show K 0 0 (jw 54 (cellC G nd) ad s) 0 [(0, .ref (ad 51)), (1, .int (jb v1))] []
  refine j_aload_n C dX0_startTrial_0 0 rfl ?_
  refine j_iconst C dX0_startTrial_1 (v := 0) (by decide) ?_
  refine j_putI C dX0_startTrial_2 inX0 tyX0 tyX0_ok nmX0 rfl (by decide) 7 (x := jb false) rfl rfl (by decide) w_324 rfl rfl (jb_nar false) (jb_fit false) (Nat.le_of_ble_eq_true rfl) (fun s2_1 hs2_1 => ?_)
  have h := jlet h hs2_1
  refine j_aload_n C dX0_startTrial_5 0 rfl ?_
  refine j_getW C dX0_startTrial_6 inX0 rfl (by decide) rfl 2 (by decide) w_319 rfl rfl ?_
  refine j_getW C dX0_startTrial_9 inX2 rfl (by decide) rfl 2 (by decide) w_123 rfl rfl ?_
  refine j_iconst C dX0_startTrial_12 (v := 0) (by decide) ?_
  refine j_aload_n C dX0_startTrial_13 0 rfl ?_
  refine j_getW C dX0_startTrial_14 inX0 rfl (by decide) rfl 0 (by decide) w_316 rfl rfl ?_
  refine j_iconst C dX0_startTrial_17 (v := 0) (by decide) ?_
  refine j_bipush C dX0_startTrial_18 (v := 8) (by decide) ?_
  refine j_copyI C dX0_startTrial_20 w_836 w_702 w_701 w_16 (by decide) (by decide) (fun _ => rfl) (fun _ => rfl) (by decide) (by decide) (by decide) (by decide) (by decide) (Nat.le_of_ble_eq_true rfl) (Nat.le_of_ble_eq_true rfl) (fun s20_2 hs20_2 => ?_)
  have h := jlet h hs20_2
  refine j_iconst C dX0_startTrial_23 (v := 0) (by decide) ?_
  refine j_istore_n C dX0_startTrial_24 (by decide) rfl ?_
  refine j_loc C [1, 2, 0] rfl ?_
  obtain ⟨e25, he25, h⟩ := jbind h
  refine lo25 v1 s20_2  n (0, s20_2) e25 he25 ?_
  exact j_vret C dX0_startTrial_165 rfl (Nat.zero_le _) (Nat.zero_le _) (jretWV h)
