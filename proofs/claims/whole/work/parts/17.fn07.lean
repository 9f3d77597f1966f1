theorem dX3_searched_0 : decode cX3_searched 0 = .ok (.lconst 0, 1) := by decide +kernel
theorem dX3_searched_1 : decode cX3_searched 1 = .ok (.lstore_n 2, 1) := by decide +kernel
theorem dX3_searched_2 : decode cX3_searched 2 = .ok (.aload_n 1, 1) := by decide +kernel
theorem dX3_searched_3 : decode cX3_searched 3 = .ok (.getfield 48, 3) := by decide +kernel
theorem dX3_searched_6 : decode cX3_searched 6 = .ok (.bipush 64, 2) := by decide +kernel
theorem dX3_searched_8 : decode cX3_searched 8 = .ok (.iand, 1) := by decide +kernel
theorem dX3_searched_9 : decode cX3_searched 9 = .ok (.ifCond .eq 8, 3) := by decide +kernel
theorem dX3_searched_12 : decode cX3_searched 12 = .ok (.bipush 9, 2) := by decide +kernel
theorem dX3_searched_14 : decode cX3_searched 14 = .ok (.goto 4, 3) := by decide +kernel
theorem dX3_searched_17 : decode cX3_searched 17 = .ok (.iconst 0, 1) := by decide +kernel
theorem dX3_searched_18 : decode cX3_searched 18 = .ok (.istore 4, 2) := by decide +kernel
theorem dX3_searched_20 : decode cX3_searched 20 = .ok (.aload_n 1, 1) := by decide +kernel
theorem dX3_searched_21 : decode cX3_searched 21 = .ok (.getfield 48, 3) := by decide +kernel
theorem dX3_searched_24 : decode cX3_searched 24 = .ok (.bipush 16, 2) := by decide +kernel
theorem dX3_searched_26 : decode cX3_searched 26 = .ok (.iand, 1) := by decide +kernel
theorem dX3_searched_27 : decode cX3_searched 27 = .ok (.ifCond .eq 7, 3) := by decide +kernel
theorem dX3_searched_30 : decode cX3_searched 30 = .ok (.iconst 5, 1) := by decide +kernel
theorem dX3_searched_31 : decode cX3_searched 31 = .ok (.goto 4, 3) := by decide +kernel
theorem dX3_searched_34 : decode cX3_searched 34 = .ok (.iconst 0, 1) := by decide +kernel
theorem dX3_searched_35 : decode cX3_searched 35 = .ok (.istore 5, 2) := by decide +kernel
theorem dX3_searched_37 : decode cX3_searched 37 = .ok (.aload_n 1, 1) := by decide +kernel
theorem dX3_searched_38 : decode cX3_searched 38 = .ok (.getfield 48, 3) := by decide +kernel
theorem dX3_searched_41 : decode cX3_searched 41 = .ok (.bipush 32, 2) := by decide +kernel
theorem dX3_searched_43 : decode cX3_searched 43 = .ok (.iand, 1) := by decide +kernel
theorem dX3_searched_44 : decode cX3_searched 44 = .ok (.ifCond .eq 8, 3) := by decide +kernel
theorem dX3_searched_47 : decode cX3_searched 47 = .ok (.bipush 7, 2) := by decide +kernel
theorem dX3_searched_49 : decode cX3_searched 49 = .ok (.goto 4, 3) := by decide +kernel
theorem dX3_searched_52 : decode cX3_searched 52 = .ok (.iconst 1, 1) := by decide +kernel
theorem dX3_searched_53 : decode cX3_searched 53 = .ok (.istore 6, 2) := by decide +kernel
theorem dX3_searched_55 : decode cX3_searched 55 = .ok (.iconst 0, 1) := by decide +kernel
theorem dX3_searched_56 : decode cX3_searched 56 = .ok (.istore 7, 2) := by decide +kernel
theorem dX3_searched_58 : decode cX3_searched 58 = .ok (.iload 7, 2) := by decide +kernel
theorem dX3_searched_60 : decode cX3_searched 60 = .ok (.iload 4, 2) := by decide +kernel
theorem dX3_searched_62 : decode cX3_searched 62 = .ok (.if_icmp .gt 118, 3) := by decide +kernel
theorem dX3_searched_65 : decode cX3_searched 65 = .ok (.aload_n 0, 1) := by decide +kernel
theorem dX3_searched_66 : decode cX3_searched 66 = .ok (.getfield 9, 3) := by decide +kernel
theorem dX3_searched_69 : decode cX3_searched 69 = .ok (.bipush 6, 2) := by decide +kernel
theorem dX3_searched_71 : decode cX3_searched 71 = .ok (.iload 7, 2) := by decide +kernel
theorem dX3_searched_73 : decode cX3_searched 73 = .ok (.iastore, 1) := by decide +kernel
theorem dX3_searched_74 : decode cX3_searched 74 = .ok (.bipush 8, 2) := by decide +kernel
theorem dX3_searched_76 : decode cX3_searched 76 = .ok (.istore 8, 2) := by decide +kernel
theorem dX3_searched_78 : decode cX3_searched 78 = .ok (.iconst 0, 1) := by decide +kernel
theorem dX3_searched_79 : decode cX3_searched 79 = .ok (.istore 9, 2) := by decide +kernel
theorem dX3_searched_81 : decode cX3_searched 81 = .ok (.iload 9, 2) := by decide +kernel
theorem dX3_searched_83 : decode cX3_searched 83 = .ok (.iload 5, 2) := by decide +kernel
theorem dX3_searched_85 : decode cX3_searched 85 = .ok (.if_icmp .gt 77, 3) := by decide +kernel
theorem dX3_searched_88 : decode cX3_searched 88 = .ok (.iload 8, 2) := by decide +kernel
theorem dX3_searched_90 : decode cX3_searched 90 = .ok (.bipush 8, 2) := by decide +kernel
theorem dX3_searched_92 : decode cX3_searched 92 = .ok (.if_icmp .ne 70, 3) := by decide +kernel
theorem dX3_searched_95 : decode cX3_searched 95 = .ok (.aload_n 0, 1) := by decide +kernel
theorem dX3_searched_96 : decode cX3_searched 96 = .ok (.getfield 9, 3) := by decide +kernel
theorem dX3_searched_99 : decode cX3_searched 99 = .ok (.iconst 4, 1) := by decide +kernel
theorem dX3_searched_100 : decode cX3_searched 100 = .ok (.iload 9, 2) := by decide +kernel
theorem dX3_searched_102 : decode cX3_searched 102 = .ok (.iastore, 1) := by decide +kernel
theorem dX3_searched_103 : decode cX3_searched 103 = .ok (.iconst 1, 1) := by decide +kernel
theorem dX3_searched_104 : decode cX3_searched 104 = .ok (.istore 10, 2) := by decide +kernel
theorem dX3_searched_106 : decode cX3_searched 106 = .ok (.iload 10, 2) := by decide +kernel
theorem dX3_searched_108 : decode cX3_searched 108 = .ok (.iload 6, 2) := by decide +kernel
theorem dX3_searched_110 : decode cX3_searched 110 = .ok (.if_icmp .gt 46, 3) := by decide +kernel
theorem dX3_searched_113 : decode cX3_searched 113 = .ok (.iload 8, 2) := by decide +kernel
theorem dX3_searched_115 : decode cX3_searched 115 = .ok (.bipush 8, 2) := by decide +kernel
theorem dX3_searched_117 : decode cX3_searched 117 = .ok (.if_icmp .ne 39, 3) := by decide +kernel
theorem dX3_searched_120 : decode cX3_searched 120 = .ok (.aload_n 0, 1) := by decide +kernel
theorem dX3_searched_121 : decode cX3_searched 121 = .ok (.getfield 9, 3) := by decide +kernel
theorem dX3_searched_124 : decode cX3_searched 124 = .ok (.iconst 5, 1) := by decide +kernel
theorem dX3_searched_125 : decode cX3_searched 125 = .ok (.iload 10, 2) := by decide +kernel
theorem dX3_searched_127 : decode cX3_searched 127 = .ok (.iastore, 1) := by decide +kernel
theorem dX3_searched_128 : decode cX3_searched 128 = .ok (.aload_n 0, 1) := by decide +kernel
theorem dX3_searched_129 : decode cX3_searched 129 = .ok (.aload_n 1, 1) := by decide +kernel
theorem dX3_searched_130 : decode cX3_searched 130 = .ok (.invokevirtual 59, 3) := by decide +kernel
theorem dX3_searched_133 : decode cX3_searched 133 = .ok (.ifCond .eq 13, 3) := by decide +kernel
theorem dX3_searched_136 : decode cX3_searched 136 = .ok (.iload 9, 2) := by decide +kernel
theorem dX3_searched_138 : decode cX3_searched 138 = .ok (.iconst 3, 1) := by decide +kernel
theorem dX3_searched_139 : decode cX3_searched 139 = .ok (.ishl, 1) := by decide +kernel
theorem dX3_searched_140 : decode cX3_searched 140 = .ok (.iload 10, 2) := by decide +kernel
theorem dX3_searched_142 : decode cX3_searched 142 = .ok (.iadd, 1) := by decide +kernel
theorem dX3_searched_143 : decode cX3_searched 143 = .ok (.goto 5, 3) := by decide +kernel
theorem dX3_searched_146 : decode cX3_searched 146 = .ok (.bipush 8, 2) := by decide +kernel
theorem dX3_searched_148 : decode cX3_searched 148 = .ok (.istore 8, 2) := by decide +kernel
theorem dX3_searched_150 : decode cX3_searched 150 = .ok (.iinc 10 1, 3) := by decide +kernel
theorem dX3_searched_153 : decode cX3_searched 153 = .ok (.goto (-47), 3) := by decide +kernel
theorem dX3_searched_156 : decode cX3_searched 156 = .ok (.iinc 9 1, 3) := by decide +kernel
theorem dX3_searched_159 : decode cX3_searched 159 = .ok (.goto (-78), 3) := by decide +kernel
theorem dX3_searched_162 : decode cX3_searched 162 = .ok (.lload_n 2, 1) := by decide +kernel
theorem dX3_searched_163 : decode cX3_searched 163 = .ok (.iload 8, 2) := by decide +kernel
theorem dX3_searched_165 : decode cX3_searched 165 = .ok (.i2l, 1) := by decide +kernel
theorem dX3_searched_166 : decode cX3_searched 166 = .ok (.iload 7, 2) := by decide +kernel
theorem dX3_searched_168 : decode cX3_searched 168 = .ok (.bipush 6, 2) := by decide +kernel
theorem dX3_searched_170 : decode cX3_searched 170 = .ok (.imul, 1) := by decide +kernel
theorem dX3_searched_171 : decode cX3_searched 171 = .ok (.lshl, 1) := by decide +kernel
theorem dX3_searched_172 : decode cX3_searched 172 = .ok (.lor, 1) := by decide +kernel
theorem dX3_searched_173 : decode cX3_searched 173 = .ok (.lstore_n 2, 1) := by decide +kernel
theorem dX3_searched_174 : decode cX3_searched 174 = .ok (.iinc 7 1, 3) := by decide +kernel
theorem dX3_searched_177 : decode cX3_searched 177 = .ok (.goto (-119), 3) := by decide +kernel
theorem dX3_searched_180 : decode cX3_searched 180 = .ok (.lload_n 2, 1) := by decide +kernel
theorem dX3_searched_181 : decode cX3_searched 181 = .ok (.lreturn, 1) := by decide +kernel
theorem dX3_learn_0 : decode cX3_learn 0 = .ok (.aload_n 0, 1) := by decide +kernel
theorem dX3_learn_1 : decode cX3_learn 1 = .ok (.getfield 34, 3) := by decide +kernel
theorem dX3_learn_4 : decode cX3_learn 4 = .ok (.ifCond .eq 16, 3) := by decide +kernel
theorem dX3_learn_7 : decode cX3_learn 7 = .ok (.aload_n 0, 1) := by decide +kernel
theorem dX3_learn_8 : decode cX3_learn 8 = .ok (.getfield 30, 3) := by decide +kernel
theorem dX3_learn_11 : decode cX3_learn 11 = .ok (.lconst 0, 1) := by decide +kernel
theorem dX3_learn_12 : decode cX3_learn 12 = .ok (.invokestatic 63, 3) := by decide +kernel
theorem dX3_learn_15 : decode cX3_learn 15 = .ok (.aload_n 0, 1) := by decide +kernel
theorem dX3_learn_16 : decode cX3_learn 16 = .ok (.iconst 0, 1) := by decide +kernel
theorem dX3_learn_17 : decode cX3_learn 17 = .ok (.putfield 34, 3) := by decide +kernel
theorem dX3_learn_20 : decode cX3_learn 20 = .ok (.aload_n 0, 1) := by decide +kernel
theorem dX3_learn_21 : decode cX3_learn 21 = .ok (.iload_n 1, 1) := by decide +kernel
theorem dX3_learn_22 : decode cX3_learn 22 = .ok (.invokevirtual 51, 3) := by decide +kernel
theorem dX3_learn_25 : decode cX3_learn 25 = .ok (.ifCond .eq 13, 3) := by decide +kernel
theorem dX3_learn_28 : decode cX3_learn 28 = .ok (.aload_n 0, 1) := by decide +kernel
theorem dX3_learn_29 : decode cX3_learn 29 = .ok (.iload_n 1, 1) := by decide +kernel
theorem dX3_learn_30 : decode cX3_learn 30 = .ok (.iload_n 2, 1) := by decide +kernel
theorem dX3_learn_31 : decode cX3_learn 31 = .ok (.iload_n 3, 1) := by decide +kernel
theorem dX3_learn_32 : decode cX3_learn 32 = .ok (.invokevirtual 69, 3) := by decide +kernel
theorem dX3_learn_35 : decode cX3_learn 35 = .ok (.goto 4, 3) := by decide +kernel
theorem dX3_learn_38 : decode cX3_learn 38 = .ok (.iconst (-1), 1) := by decide +kernel
theorem dX3_learn_39 : decode cX3_learn 39 = .ok (.istore 4, 2) := by decide +kernel
theorem dX3_learn_41 : decode cX3_learn 41 = .ok (.iload 4, 2) := by decide +kernel
theorem dX3_learn_43 : decode cX3_learn 43 = .ok (.ifCond .lt 28, 3) := by decide +kernel
theorem dX3_learn_46 : decode cX3_learn 46 = .ok (.iload 4, 2) := by decide +kernel
theorem dX3_learn_48 : decode cX3_learn 48 = .ok (.aload_n 0, 1) := by decide +kernel
theorem dX3_learn_49 : decode cX3_learn 49 = .ok (.getfield 30, 3) := by decide +kernel
theorem dX3_learn_52 : decode cX3_learn 52 = .ok (.arraylength, 1) := by decide +kernel
theorem dX3_learn_53 : decode cX3_learn 53 = .ok (.bipush 24, 2) := by decide +kernel
theorem dX3_learn_55 : decode cX3_learn 55 = .ok (.isub, 1) := by decide +kernel
theorem dX3_learn_56 : decode cX3_learn 56 = .ok (.if_icmp .gt 15, 3) := by decide +kernel
theorem dX3_learn_59 : decode cX3_learn 59 = .ok (.aload_n 0, 1) := by decide +kernel
theorem dX3_learn_60 : decode cX3_learn 60 = .ok (.getfield 30, 3) := by decide +kernel
theorem dX3_learn_63 : decode cX3_learn 63 = .ok (.iload 4, 2) := by decide +kernel
theorem dX3_learn_65 : decode cX3_learn 65 = .ok (.laload, 1) := by decide +kernel
theorem dX3_learn_66 : decode cX3_learn 66 = .ok (.lconst 0, 1) := by decide +kernel
theorem dX3_learn_67 : decode cX3_learn 67 = .ok (.lcmp, 1) := by decide +kernel
theorem dX3_learn_68 : decode cX3_learn 68 = .ok (.ifCond .eq 4, 3) := by decide +kernel
theorem dX3_learn_71 : decode cX3_learn 71 = .ok (.return_, 1) := by decide +kernel
theorem dX3_learn_72 : decode cX3_learn 72 = .ok (.aload_n 0, 1) := by decide +kernel
theorem dX3_learn_73 : decode cX3_learn 73 = .ok (.getfield 26, 3) := by decide +kernel
theorem dX3_learn_76 : decode cX3_learn 76 = .ok (.iload_n 1, 1) := by decide +kernel
theorem dX3_learn_77 : decode cX3_learn 77 = .ok (.aaload, 1) := by decide +kernel
theorem dX3_learn_78 : decode cX3_learn 78 = .ok (.astore 5, 2) := by decide +kernel
theorem dX3_learn_80 : decode cX3_learn 80 = .ok (.aload 5, 2) := by decide +kernel
theorem dX3_learn_82 : decode cX3_learn 82 = .ok (.getfield 48, 3) := by decide +kernel
theorem dX3_learn_85 : decode cX3_learn 85 = .ok (.bipush 6, 2) := by decide +kernel
theorem dX3_learn_87 : decode cX3_learn 87 = .ok (.iand, 1) := by decide +kernel
theorem dX3_learn_88 : decode cX3_learn 88 = .ok (.ifCond .eq 7, 3) := by decide +kernel
theorem dX3_learn_91 : decode cX3_learn 91 = .ok (.iconst 1, 1) := by decide +kernel
theorem dX3_learn_92 : decode cX3_learn 92 = .ok (.goto 4, 3) := by decide +kernel
theorem dX3_learn_95 : decode cX3_learn 95 = .ok (.iconst 0, 1) := by decide +kernel
theorem dX3_learn_96 : decode cX3_learn 96 = .ok (.istore 6, 2) := by decide +kernel
theorem dX3_learn_98 : decode cX3_learn 98 = .ok (.iconst 0, 1) := by decide +kernel
theorem dX3_learn_99 : decode cX3_learn 99 = .ok (.istore 7, 2) := by decide +kernel
theorem dX3_learn_101 : decode cX3_learn 101 = .ok (.iload 7, 2) := by decide +kernel
theorem dX3_learn_103 : decode cX3_learn 103 = .ok (.bipush 24, 2) := by decide +kernel
theorem dX3_learn_105 : decode cX3_learn 105 = .ok (.if_icmp .ge 63, 3) := by decide +kernel
theorem dX3_learn_108 : decode cX3_learn 108 = .ok (.iload 7, 2) := by decide +kernel
theorem dX3_learn_110 : decode cX3_learn 110 = .ok (.ifCond .eq 8, 3) := by decide +kernel
theorem dX3_learn_113 : decode cX3_learn 113 = .ok (.iload 6, 2) := by decide +kernel
theorem dX3_learn_115 : decode cX3_learn 115 = .ok (.ifCond .eq 30, 3) := by decide +kernel
theorem dX3_learn_118 : decode cX3_learn 118 = .ok (.aload_n 0, 1) := by decide +kernel
theorem dX3_learn_119 : decode cX3_learn 119 = .ok (.iload_n 2, 1) := by decide +kernel
theorem dX3_learn_120 : decode cX3_learn 120 = .ok (.iload 7, 2) := by decide +kernel
theorem dX3_learn_122 : decode cX3_learn 122 = .ok (.iload_n 3, 1) := by decide +kernel
theorem dX3_learn_123 : decode cX3_learn 123 = .ok (.invokevirtual 55, 3) := by decide +kernel
theorem dX3_learn_126 : decode cX3_learn 126 = .ok (.aload_n 0, 1) := by decide +kernel
theorem dX3_learn_127 : decode cX3_learn 127 = .ok (.getfield 30, 3) := by decide +kernel
theorem dX3_learn_130 : decode cX3_learn 130 = .ok (.iload 4, 2) := by decide +kernel
theorem dX3_learn_132 : decode cX3_learn 132 = .ok (.iload 7, 2) := by decide +kernel
theorem dX3_learn_134 : decode cX3_learn 134 = .ok (.iadd, 1) := by decide +kernel
theorem dX3_learn_135 : decode cX3_learn 135 = .ok (.aload_n 0, 1) := by decide +kernel
theorem dX3_learn_136 : decode cX3_learn 136 = .ok (.aload 5, 2) := by decide +kernel
theorem dX3_learn_138 : decode cX3_learn 138 = .ok (.invokevirtual 73, 3) := by decide +kernel
theorem dX3_learn_141 : decode cX3_learn 141 = .ok (.lastore, 1) := by decide +kernel
theorem dX3_learn_142 : decode cX3_learn 142 = .ok (.goto 20, 3) := by decide +kernel
theorem dX3_learn_145 : decode cX3_learn 145 = .ok (.aload_n 0, 1) := by decide +kernel
theorem dX3_learn_146 : decode cX3_learn 146 = .ok (.getfield 30, 3) := by decide +kernel
theorem dX3_learn_149 : decode cX3_learn 149 = .ok (.iload 4, 2) := by decide +kernel
theorem dX3_learn_151 : decode cX3_learn 151 = .ok (.iload 7, 2) := by decide +kernel
theorem dX3_learn_153 : decode cX3_learn 153 = .ok (.iadd, 1) := by decide +kernel
theorem dX3_learn_154 : decode cX3_learn 154 = .ok (.aload_n 0, 1) := by decide +kernel
theorem dX3_learn_155 : decode cX3_learn 155 = .ok (.getfield 30, 3) := by decide +kernel
theorem dX3_learn_158 : decode cX3_learn 158 = .ok (.iload 4, 2) := by decide +kernel
theorem dX3_learn_160 : decode cX3_learn 160 = .ok (.laload, 1) := by decide +kernel
theorem dX3_learn_161 : decode cX3_learn 161 = .ok (.lastore, 1) := by decide +kernel
theorem dX3_learn_162 : decode cX3_learn 162 = .ok (.iinc 7 1, 3) := by decide +kernel
theorem dX3_learn_165 : decode cX3_learn 165 = .ok (.goto (-64), 3) := by decide +kernel
theorem dX3_learn_168 : decode cX3_learn 168 = .ok (.return_, 1) := by decide +kernel
theorem dX3_looksAtWaited_0 : decode cX3_looksAtWaited 0 = .ok (.iload_n 1, 1) := by decide +kernel
theorem dX3_looksAtWaited_1 : decode cX3_looksAtWaited 1 = .ok (.ifCond .lt 27, 3) := by decide +kernel
theorem dX3_looksAtWaited_4 : decode cX3_looksAtWaited 4 = .ok (.iload_n 1, 1) := by decide +kernel
theorem dX3_looksAtWaited_5 : decode cX3_looksAtWaited 5 = .ok (.iconst 4, 1) := by decide +kernel
theorem dX3_looksAtWaited_6 : decode cX3_looksAtWaited 6 = .ok (.if_icmp .ge 22, 3) := by decide +kernel
theorem dX3_looksAtWaited_9 : decode cX3_looksAtWaited 9 = .ok (.aload_n 0, 1) := by decide +kernel
theorem dX3_looksAtWaited_10 : decode cX3_looksAtWaited 10 = .ok (.getfield 26, 3) := by decide +kernel
theorem dX3_looksAtWaited_13 : decode cX3_looksAtWaited 13 = .ok (.iload_n 1, 1) := by decide +kernel
theorem dX3_looksAtWaited_14 : decode cX3_looksAtWaited 14 = .ok (.aaload, 1) := by decide +kernel
theorem dX3_looksAtWaited_15 : decode cX3_looksAtWaited 15 = .ok (.getfield 48, 3) := by decide +kernel
theorem dX3_looksAtWaited_18 : decode cX3_looksAtWaited 18 = .ok (.bipush 64, 2) := by decide +kernel
theorem dX3_looksAtWaited_20 : decode cX3_looksAtWaited 20 = .ok (.iand, 1) := by decide +kernel
theorem dX3_looksAtWaited_21 : decode cX3_looksAtWaited 21 = .ok (.ifCond .eq 7, 3) := by decide +kernel
theorem dX3_looksAtWaited_24 : decode cX3_looksAtWaited 24 = .ok (.iconst 1, 1) := by decide +kernel
theorem dX3_looksAtWaited_25 : decode cX3_looksAtWaited 25 = .ok (.goto 4, 3) := by decide +kernel
theorem dX3_looksAtWaited_28 : decode cX3_looksAtWaited 28 = .ok (.iconst 0, 1) := by decide +kernel
theorem dX3_looksAtWaited_29 : decode cX3_looksAtWaited 29 = .ok (.ireturn, 1) := by decide +kernel
theorem dX7_canPass_0 : decode cX7_canPass 0 = .ok (.iconst 0, 1) := by decide +kernel
theorem dX7_canPass_1 : decode cX7_canPass 1 = .ok (.istore 4, 2) := by decide +kernel
theorem dX7_canPass_3 : decode cX7_canPass 3 = .ok (.iload 4, 2) := by decide +kernel
theorem dX7_canPass_5 : decode cX7_canPass 5 = .ok (.aload_n 0, 1) := by decide +kernel
theorem dX7_canPass_6 : decode cX7_canPass 6 = .ok (.getfield 30, 3) := by decide +kernel
theorem dX7_canPass_9 : decode cX7_canPass 9 = .ok (.if_icmp .ge 128, 3) := by decide +kernel
theorem dX7_canPass_12 : decode cX7_canPass 12 = .ok (.iload 4, 2) := by decide +kernel
theorem dX7_canPass_14 : decode cX7_canPass 14 = .ok (.aload_n 1, 1) := by decide +kernel
theorem dX7_canPass_15 : decode cX7_canPass 15 = .ok (.arraylength, 1) := by decide +kernel
theorem dX7_canPass_16 : decode cX7_canPass 16 = .ok (.if_icmp .ge 121, 3) := by decide +kernel
theorem dX7_canPass_19 : decode cX7_canPass 19 = .ok (.aload_n 0, 1) := by decide +kernel
theorem dX7_canPass_20 : decode cX7_canPass 20 = .ok (.getfield 34, 3) := by decide +kernel
theorem dX7_canPass_23 : decode cX7_canPass 23 = .ok (.getfield 62, 3) := by decide +kernel
theorem dX7_canPass_26 : decode cX7_canPass 26 = .ok (.iload 4, 2) := by decide +kernel
theorem dX7_canPass_28 : decode cX7_canPass 28 = .ok (.baload, 1) := by decide +kernel
theorem dX7_canPass_29 : decode cX7_canPass 29 = .ok (.ifCond .ne 12, 3) := by decide +kernel
theorem dX7_canPass_32 : decode cX7_canPass 32 = .ok (.iload_n 3, 1) := by decide +kernel
theorem dX7_canPass_33 : decode cX7_canPass 33 = .ok (.iload 4, 2) := by decide +kernel
theorem dX7_canPass_35 : decode cX7_canPass 35 = .ok (.invokestatic 68, 3) := by decide +kernel
theorem dX7_canPass_38 : decode cX7_canPass 38 = .ok (.ifCond .eq 7, 3) := by decide +kernel
theorem dX7_canPass_41 : decode cX7_canPass 41 = .ok (.iconst 1, 1) := by decide +kernel
theorem dX7_canPass_42 : decode cX7_canPass 42 = .ok (.goto 4, 3) := by decide +kernel
theorem dX7_canPass_45 : decode cX7_canPass 45 = .ok (.iconst 0, 1) := by decide +kernel
theorem dX7_canPass_46 : decode cX7_canPass 46 = .ok (.istore 5, 2) := by decide +kernel
theorem dX7_canPass_48 : decode cX7_canPass 48 = .ok (.iload 5, 2) := by decide +kernel
theorem dX7_canPass_50 : decode cX7_canPass 50 = .ok (.ifCond .ne 19, 3) := by decide +kernel
theorem dX7_canPass_53 : decode cX7_canPass 53 = .ok (.aload_n 0, 1) := by decide +kernel
theorem dX7_canPass_54 : decode cX7_canPass 54 = .ok (.getfield 38, 3) := by decide +kernel
theorem dX7_canPass_57 : decode cX7_canPass 57 = .ok (.aload_n 1, 1) := by decide +kernel
theorem dX7_canPass_58 : decode cX7_canPass 58 = .ok (.iload 4, 2) := by decide +kernel
theorem dX7_canPass_60 : decode cX7_canPass 60 = .ok (.iaload, 1) := by decide +kernel
theorem dX7_canPass_61 : decode cX7_canPass 61 = .ok (.invokevirtual 72, 3) := by decide +kernel
theorem dX7_canPass_64 : decode cX7_canPass 64 = .ok (.ifCond .ne 5, 3) := by decide +kernel
theorem dX7_canPass_67 : decode cX7_canPass 67 = .ok (.iconst 0, 1) := by decide +kernel
theorem dX7_canPass_68 : decode cX7_canPass 68 = .ok (.ireturn, 1) := by decide +kernel
theorem dX7_canPass_69 : decode cX7_canPass 69 = .ok (.aload_n 0, 1) := by decide +kernel
theorem dX7_canPass_70 : decode cX7_canPass 70 = .ok (.getfield 24, 3) := by decide +kernel
theorem dX7_canPass_73 : decode cX7_canPass 73 = .ok (.iload 4, 2) := by decide +kernel
theorem dX7_canPass_75 : decode cX7_canPass 75 = .ok (.iload 5, 2) := by decide +kernel
theorem dX7_canPass_77 : decode cX7_canPass 77 = .ok (.ifCond .eq 7, 3) := by decide +kernel
theorem dX7_canPass_80 : decode cX7_canPass 80 = .ok (.iconst (-1), 1) := by decide +kernel
theorem dX7_canPass_81 : decode cX7_canPass 81 = .ok (.goto 17, 3) := by decide +kernel
theorem dX7_canPass_84 : decode cX7_canPass 84 = .ok (.aload_n 0, 1) := by decide +kernel
theorem dX7_canPass_85 : decode cX7_canPass 85 = .ok (.getfield 38, 3) := by decide +kernel
theorem dX7_canPass_88 : decode cX7_canPass 88 = .ok (.aload_n 1, 1) := by decide +kernel
theorem dX7_canPass_89 : decode cX7_canPass 89 = .ok (.iload 4, 2) := by decide +kernel
theorem dX7_canPass_91 : decode cX7_canPass 91 = .ok (.iaload, 1) := by decide +kernel
theorem dX7_canPass_92 : decode cX7_canPass 92 = .ok (.iload 4, 2) := by decide +kernel
theorem dX7_canPass_94 : decode cX7_canPass 94 = .ok (.iload_n 2, 1) := by decide +kernel
theorem dX7_canPass_95 : decode cX7_canPass 95 = .ok (.invokevirtual 78, 3) := by decide +kernel
theorem dX7_canPass_98 : decode cX7_canPass 98 = .ok (.iastore, 1) := by decide +kernel
theorem dX7_canPass_99 : decode cX7_canPass 99 = .ok (.aload_n 0, 1) := by decide +kernel
theorem dX7_canPass_100 : decode cX7_canPass 100 = .ok (.getfield 27, 3) := by decide +kernel
theorem dX7_canPass_103 : decode cX7_canPass 103 = .ok (.iload 4, 2) := by decide +kernel
theorem dX7_canPass_105 : decode cX7_canPass 105 = .ok (.iload 5, 2) := by decide +kernel
theorem dX7_canPass_107 : decode cX7_canPass 107 = .ok (.ifCond .ne 22, 3) := by decide +kernel
theorem dX7_canPass_110 : decode cX7_canPass 110 = .ok (.aload_n 0, 1) := by decide +kernel
theorem dX7_canPass_111 : decode cX7_canPass 111 = .ok (.getfield 38, 3) := by decide +kernel
theorem dX7_canPass_114 : decode cX7_canPass 114 = .ok (.aload_n 1, 1) := by decide +kernel
theorem dX7_canPass_115 : decode cX7_canPass 115 = .ok (.iload 4, 2) := by decide +kernel
theorem dX7_canPass_117 : decode cX7_canPass 117 = .ok (.iaload, 1) := by decide +kernel
theorem dX7_canPass_118 : decode cX7_canPass 118 = .ok (.invokevirtual 82, 3) := by decide +kernel
theorem dX7_canPass_121 : decode cX7_canPass 121 = .ok (.ifCond .eq 8, 3) := by decide +kernel
theorem dX7_canPass_124 : decode cX7_canPass 124 = .ok (.bipush 9, 2) := by decide +kernel
theorem dX7_canPass_126 : decode cX7_canPass 126 = .ok (.goto 4, 3) := by decide +kernel
theorem dX7_canPass_129 : decode cX7_canPass 129 = .ok (.iconst 0, 1) := by decide +kernel
theorem dX7_canPass_130 : decode cX7_canPass 130 = .ok (.iastore, 1) := by decide +kernel
theorem dX7_canPass_131 : decode cX7_canPass 131 = .ok (.iinc 4 1, 3) := by decide +kernel
theorem dX7_canPass_134 : decode cX7_canPass 134 = .ok (.goto (-131), 3) := by decide +kernel
theorem dX7_canPass_137 : decode cX7_canPass 137 = .ok (.iconst 1, 1) := by decide +kernel
theorem dX7_canPass_138 : decode cX7_canPass 138 = .ok (.ireturn, 1) := by decide +kernel
theorem dJ7_rangeCheck_23922_0 : decode cJ7_rangeCheck_23922 0 = .ok (.iload_n 1, 1) := by decide +kernel
theorem dJ7_rangeCheck_23922_1 : decode cJ7_rangeCheck_23922 1 = .ok (.iload_n 2, 1) := by decide +kernel
theorem dJ7_rangeCheck_23922_2 : decode cJ7_rangeCheck_23922 2 = .ok (.if_icmp .le 44, 3) := by decide +kernel
theorem dJ7_rangeCheck_23922_5 : decode cJ7_rangeCheck_23922 5 = .ok (.new 43, 3) := by decide +kernel
theorem dJ7_rangeCheck_23922_46 : decode cJ7_rangeCheck_23922 46 = .ok (.iload_n 1, 1) := by decide +kernel
theorem dJ7_rangeCheck_23922_47 : decode cJ7_rangeCheck_23922 47 = .ok (.ifCond .ge 12, 3) := by decide +kernel
theorem dJ7_rangeCheck_23922_50 : decode cJ7_rangeCheck_23922 50 = .ok (.new 68, 3) := by decide +kernel
theorem dJ7_rangeCheck_23922_59 : decode cJ7_rangeCheck_23922 59 = .ok (.iload_n 2, 1) := by decide +kernel
theorem dJ7_rangeCheck_23922_60 : decode cJ7_rangeCheck_23922 60 = .ok (.iload_n 0, 1) := by decide +kernel
theorem dJ7_rangeCheck_23922_61 : decode cJ7_rangeCheck_23922 61 = .ok (.if_icmp .le 12, 3) := by decide +kernel
theorem dJ7_rangeCheck_23922_64 : decode cJ7_rangeCheck_23922 64 = .ok (.new 68, 3) := by decide +kernel
theorem dJ7_rangeCheck_23922_73 : decode cJ7_rangeCheck_23922 73 = .ok (.return_, 1) := by decide +kernel
theorem dJ7_fill_fda19_0 : decode cJ7_fill_fda19 0 = .ok (.aload_n 0, 1) := by decide +kernel
theorem dJ7_fill_fda19_1 : decode cJ7_fill_fda19 1 = .ok (.arraylength, 1) := by decide +kernel
theorem dJ7_fill_fda19_2 : decode cJ7_fill_fda19 2 = .ok (.iload_n 1, 1) := by decide +kernel
theorem dJ7_fill_fda19_3 : decode cJ7_fill_fda19 3 = .ok (.iload_n 2, 1) := by decide +kernel
theorem dJ7_fill_fda19_4 : decode cJ7_fill_fda19 4 = .ok (.invokestatic 13, 3) := by decide +kernel
theorem dJ7_fill_fda19_7 : decode cJ7_fill_fda19 7 = .ok (.iload_n 1, 1) := by decide +kernel
theorem dJ7_fill_fda19_8 : decode cJ7_fill_fda19 8 = .ok (.istore 4, 2) := by decide +kernel
theorem dJ7_fill_fda19_10 : decode cJ7_fill_fda19 10 = .ok (.iload 4, 2) := by decide +kernel
theorem dJ7_fill_fda19_12 : decode cJ7_fill_fda19 12 = .ok (.iload_n 2, 1) := by decide +kernel
theorem dJ7_fill_fda19_13 : decode cJ7_fill_fda19 13 = .ok (.if_icmp .ge 14, 3) := by decide +kernel
theorem dJ7_fill_fda19_16 : decode cJ7_fill_fda19 16 = .ok (.aload_n 0, 1) := by decide +kernel
theorem dJ7_fill_fda19_17 : decode cJ7_fill_fda19 17 = .ok (.iload 4, 2) := by decide +kernel
theorem dJ7_fill_fda19_19 : decode cJ7_fill_fda19 19 = .ok (.iload_n 3, 1) := by decide +kernel
theorem dJ7_fill_fda19_20 : decode cJ7_fill_fda19 20 = .ok (.iastore, 1) := by decide +kernel
theorem dJ7_fill_fda19_21 : decode cJ7_fill_fda19 21 = .ok (.iinc 4 1, 3) := by decide +kernel
theorem dJ7_fill_fda19_24 : decode cJ7_fill_fda19 24 = .ok (.goto (-14), 3) := by decide +kernel
theorem dJ7_fill_fda19_27 : decode cJ7_fill_fda19 27 = .ok (.return_, 1) := by decide +kernel
-- X3_searched_T
def B_X3_searched_T_106 (n : Nat) (t1 : Nat) (v2 : Int64) (v4 : Int32) (v5 : Int32) (v6 : Int32) (v7 : Int32) (v9 : Int32) (q : Int32 × Int32 × jS) : Option ((Int32 × Int32 × jS) ⊕ (Int32 × Int32 × jS)) :=
  (if v6 < q.2.1 then some (.inr (q.1, q.2.1, q.2.2)) else (if q.1 = 8 then (jl (upI q.2.2 30 (Int32.toNatClampNeg 5) q.2.1) fun s127_3 => ((F_X3_holds_T n t1 s127_3).bind fun p130 => (if p130.1 = true then some (.inl (((v9 <<< ((3 : Int32) &&& 31)) + q.2.1), (q.2.1 + 1), p130.2)) else some (.inl (8, (q.2.1 + 1), p130.2))))) else some (.inr (q.1, q.2.1, q.2.2))))
def B_X3_searched_T_81 (n : Nat) (t1 : Nat) (v2 : Int64) (v4 : Int32) (v5 : Int32) (v6 : Int32) (v7 : Int32) (q : Int32 × Int32 × jS) : Option ((Int32 × Int32 × jS) ⊕ (Int32 × Int32 × jS)) :=
  (if v5 < q.2.1 then some (.inr (q.1, q.2.1, q.2.2)) else (if q.1 = 8 then (jl (upI q.2.2 30 (Int32.toNatClampNeg 4) q.2.1) fun s102_2 => ((lp (B_X3_searched_T_106 n t1 v2 v4 v5 v6 v7 q.2.1) n (q.1, 1, s102_2)).bind fun e106 => some (.inl (e106.1, (q.2.1 + 1), e106.2.2)))) else some (.inr (q.1, q.2.1, q.2.2))))
def B_X3_searched_T_58 (n : Nat) (t1 : Nat) (v4 : Int32) (v5 : Int32) (v6 : Int32) (q : Int64 × Int32 × jS) : Option ((Int64 × Int32 × jS) ⊕ (Int64 × Int32 × jS)) :=
  (if v4 < q.2.1 then some (.inr (q.1, q.2.1, q.2.2)) else (jl (upI q.2.2 30 (Int32.toNatClampNeg 6) q.2.1) fun s73_1 => ((lp (B_X3_searched_T_81 n t1 q.1 v4 v5 v6 q.2.1) n (8, 0, s73_1)).bind fun e81 => some (.inl ((q.1 ||| ((Int32.toInt64 e81.1) <<< (((q.2.1 * 6) : Int32).toInt64 &&& 63))), (q.2.1 + 1), e81.2.2)))))
def J_X3_searched_T_35 (n : Nat) (t1 : Nat) (v2 : Int64) (v4 : Int32) (k0 : Int32) (s : jS) : Option (Int64 × jS) :=
  (if ((s.1 (2 + 4 * t1) 5) &&& (32 : Int32)) = 0 then ((lp (B_X3_searched_T_58 n t1 v4 k0 1) n (v2, 0, s)).bind fun e58 => some (e58.1, e58.2.2)) else ((lp (B_X3_searched_T_58 n t1 v4 k0 7) n (v2, 0, s)).bind fun e58 => some (e58.1, e58.2.2)))
def J_X3_searched_T_18 (n : Nat) (t1 : Nat) (v2 : Int64) (k0 : Int32) (s : jS) : Option (Int64 × jS) :=
  (if ((s.1 (2 + 4 * t1) 5) &&& (16 : Int32)) = 0 then J_X3_searched_T_35 n t1 v2 k0 0 s else J_X3_searched_T_35 n t1 v2 k0 5 s)
def F_X3_searched_T (n : Nat) (t1 : Nat) (s : jS) : Option (Int64 × jS) :=
  (if ((s.1 (2 + 4 * t1) 5) &&& (64 : Int32)) = 0 then J_X3_searched_T_18 n t1 0 0 s else J_X3_searched_T_18 n t1 0 9 s)
def rm_X3_searched_T : Room := { frames := 2, cells := 0, slots := 0, locals := 49 }
set_option maxHeartbeats 4000000 in
set_option maxRecDepth 100000 in
theorem m_X3_searched_T {l : Launch} {D : va_G} {G : Nat → ClassId} {KV : jV} {ad : Nat → Nat} {nd : Nat} (n : Nat) (t1 : Nat) (s : jS) (ht1 : t1 < 4) {p : Int64 × jS} (h : F_X3_searched_T n t1 s = some p) : jM l D G KV yX3_searched cX3_searched 11 (some .long) rm_X3_searched_T [.ref (ad 29), .ref (ad (2 + 4 * t1))] (jw 54 (cellC G nd) ad s) 0 0 (fun v u => v = some (.long p.1) ∧ u = jw 54 (cellC G nd) ad p.2) := by
  refine jM.of (by decide) (Nat.le_of_ble_eq_true rfl) ?_
  intro K C
  unfold F_X3_searched_T at h
  have lo106 : ∀ (t1 : Nat) (v2 : Int64) (v4 : Int32) (v5 : Int32) (v6 : Int32) (v7 : Int32) (v9 : Int32) (s : jS) (ht1 : t1 < 4) (k : Nat) (q : Int32 × Int32 × jS) (e : Int32 × Int32 × jS), lp (B_X3_searched_T_106 n t1 v2 v4 v5 v6 v7 v9) k q = some e → K 0 0 (jw 54 (cellC G nd) ad e.2.2) 156 [(0, .ref (ad 29)), (1, .ref (ad (2 + 4 * t1))), (2, .long v2), (4, .int v4), (5, .int v5), (6, .int v6), (7, .int v7), (8, .int e.1), (9, .int v9)] [] → K 0 0 (jw 54 (cellC G nd) ad q.2.2) 106 [(0, .ref (ad 29)), (1, .ref (ad (2 + 4 * t1))), (2, .long v2), (4, .int v4), (5, .int v5), (6, .int v6), (7, .int v7), (8, .int q.1), (9, .int v9), (10, .int q.2.1)] [] := by
    intro t1 v2 v4 v5 v6 v7 v9 s ht1 k q e he hE
    refine jlp (KH := fun q => K 0 0 (jw 54 (cellC G nd) ad q.2.2) 106 [(0, .ref (ad 29)), (1, .ref (ad (2 + 4 * t1))), (2, .long v2), (4, .int v4), (5, .int v5), (6, .int v6), (7, .int v7), (8, .int q.1), (9, .int v9), (10, .int q.2.1)] []) (KE := fun e => K 0 0 (jw 54 (cellC G nd) ad e.2.2) 156 [(0, .ref (ad 29)), (1, .ref (ad (2 + 4 * t1))), (2, .long v2), (4, .int v4), (5, .int v5), (6, .int v6), (7, .int v7), (8, .int e.1), (9, .int v9)] []) ?_ k q e he hE
    intro q o hb hin hout
    unfold B_X3_searched_T_106 at hb
    show K 0 0 (jw 54 (cellC G nd) ad q.2.2) 106 [(0, .ref (ad 29)), (1, .ref (ad (2 + 4 * t1))), (2, .long v2), (4, .int v4), (5, .int v5), (6, .int v6), (7, .int v7), (8, .int q.1), (9, .int v9), (10, .int q.2.1)] []
    refine j_iload C dX3_searched_106 9 rfl ?_
    refine j_iload C dX3_searched_108 5 rfl ?_
    refine j_icmp_gt C dX3_searched_110 (tgt := 156) (by decide) (fun cq => ?_) (fun cq => ?_)
    · have hb := jite_t hb cq
      refine j_loc C [0, 1, 2, 3, 4, 5, 6, 7, 8] rfl ?_
      have hx := hout _ (jinr hb)
      exact hx
    · have hb := jite_f hb cq
      refine j_iload C dX3_searched_113 7 rfl ?_
      refine j_bipush C dX3_searched_115 (v := 8) (by decide) ?_
      refine j_icmp_ne C dX3_searched_117 (tgt := 156) (by decide) (fun cq => ?_) (fun cq => ?_)
      · have hb := jite_f hb cq
        refine j_loc C [0, 1, 2, 3, 4, 5, 6, 7, 8] rfl ?_
        have hx := hout _ (jinr hb)
        exact hx
      · have hb := jite_t hb cq
        refine j_aload_n C dX3_searched_120 0 rfl ?_
        refine j_getW C dX3_searched_121 inX3 rfl (by decide) rfl 3 (by decide) w_204 rfl rfl ?_
        refine j_iconst C dX3_searched_124 (v := 5) (by decide) ?_
        refine j_iload C dX3_searched_125 9 rfl ?_
        refine j_iastW C dX3_searched_127 (by decide) (fun _ => rfl) (jin_vp (i := 5) (n := 8) (by decide)) (fun s127_3 hs127_3 => ?_)
        have hb := jlet hb hs127_3
        refine j_aload_n C dX3_searched_128 0 rfl ?_
        refine j_aload_n C dX3_searched_129 1 rfl ?_
        obtain ⟨p130, he130, hb⟩ := jbind hb
        refine j_cV1 C dX3_searched_130 (m_X3_holds_T n t1 s127_3 ht1 he130) kc_X3_holds w_658 w_660 wp_25 w_7 jy_X3_holds ⟨⟨Nat.le_of_ble_eq_true rfl, Nat.le_of_ble_eq_true rfl⟩, ⟨rfl, rfl⟩, ⟨Nat.zero_le _, Nat.zero_le _⟩⟩ (Nat.le_of_ble_eq_true rfl) (by decide) rfl (r := (RX3, TX3, 7)) rfl rfl rfl (fun _ _ h => h) ?_
        refine j_if_eq C dX3_searched_133 (tgt := 146) (by decide) (fun cq => ?_) (fun cq => ?_)
        · have hb := jite_f hb (jb_f cq)
          refine j_bipush C dX3_searched_146 (v := 8) (by decide) ?_
          refine j_istore C dX3_searched_148 (by decide) rfl ?_
          refine j_iinc C dX3_searched_150 9 rfl (v := (q.2.1 + 1)) rfl (by decide) rfl ?_
          refine j_goto C dX3_searched_153 (tgt := 106) (by decide) ?_
          refine j_loc C [2, 3, 4, 5, 6, 7, 8, 1, 9, 0] rfl ?_
          have hx := hin _ (jinl hb)
          exact hx
        · have hb := jite_t hb (jb_t cq)
          refine j_iload C dX3_searched_136 8 rfl ?_
          refine j_iconst C dX3_searched_138 (v := 3) (by decide) ?_
          refine j_ishl C dX3_searched_139 ?_
          refine j_iload C dX3_searched_140 9 rfl ?_
          refine j_iadd C dX3_searched_142 ?_
          refine j_goto C dX3_searched_143 (tgt := 148) (by decide) ?_
          refine j_istore C dX3_searched_148 (by decide) rfl ?_
          refine j_iinc C dX3_searched_150 9 rfl (v := (q.2.1 + 1)) rfl (by decide) rfl ?_
          refine j_goto C dX3_searched_153 (tgt := 106) (by decide) ?_
          refine j_loc C [2, 3, 4, 5, 6, 7, 8, 1, 9, 0] rfl ?_
          have hx := hin _ (jinl hb)
          exact hx
  have lo81 : ∀ (t1 : Nat) (v2 : Int64) (v4 : Int32) (v5 : Int32) (v6 : Int32) (v7 : Int32) (s : jS) (ht1 : t1 < 4) (k : Nat) (q : Int32 × Int32 × jS) (e : Int32 × Int32 × jS), lp (B_X3_searched_T_81 n t1 v2 v4 v5 v6 v7) k q = some e → K 0 0 (jw 54 (cellC G nd) ad e.2.2) 162 [(0, .ref (ad 29)), (1, .ref (ad (2 + 4 * t1))), (2, .long v2), (4, .int v4), (5, .int v5), (6, .int v6), (7, .int v7), (8, .int e.1)] [] → K 0 0 (jw 54 (cellC G nd) ad q.2.2) 81 [(0, .ref (ad 29)), (1, .ref (ad (2 + 4 * t1))), (2, .long v2), (4, .int v4), (5, .int v5), (6, .int v6), (7, .int v7), (8, .int q.1), (9, .int q.2.1)] [] := by
    intro t1 v2 v4 v5 v6 v7 s ht1 k q e he hE
    refine jlp (KH := fun q => K 0 0 (jw 54 (cellC G nd) ad q.2.2) 81 [(0, .ref (ad 29)), (1, .ref (ad (2 + 4 * t1))), (2, .long v2), (4, .int v4), (5, .int v5), (6, .int v6), (7, .int v7), (8, .int q.1), (9, .int q.2.1)] []) (KE := fun e => K 0 0 (jw 54 (cellC G nd) ad e.2.2) 162 [(0, .ref (ad 29)), (1, .ref (ad (2 + 4 * t1))), (2, .long v2), (4, .int v4), (5, .int v5), (6, .int v6), (7, .int v7), (8, .int e.1)] []) ?_ k q e he hE
    intro q o hb hin hout
    unfold B_X3_searched_T_81 at hb
    show K 0 0 (jw 54 (cellC G nd) ad q.2.2) 81 [(0, .ref (ad 29)), (1, .ref (ad (2 + 4 * t1))), (2, .long v2), (4, .int v4), (5, .int v5), (6, .int v6), (7, .int v7), (8, .int q.1), (9, .int q.2.1)] []
    refine j_iload C dX3_searched_81 8 rfl ?_
    refine j_iload C dX3_searched_83 4 rfl ?_
    refine j_icmp_gt C dX3_searched_85 (tgt := 162) (by decide) (fun cq => ?_) (fun cq => ?_)
    · have hb := jite_t hb cq
      refine j_loc C [0, 1, 2, 3, 4, 5, 6, 7] rfl ?_
      have hx := hout _ (jinr hb)
      exact hx
    · have hb := jite_f hb cq
      refine j_iload C dX3_searched_88 7 rfl ?_
      refine j_bipush C dX3_searched_90 (v := 8) (by decide) ?_
      refine j_icmp_ne C dX3_searched_92 (tgt := 162) (by decide) (fun cq => ?_) (fun cq => ?_)
      · have hb := jite_f hb cq
        refine j_loc C [0, 1, 2, 3, 4, 5, 6, 7] rfl ?_
        have hx := hout _ (jinr hb)
        exact hx
      · have hb := jite_t hb cq
        refine j_aload_n C dX3_searched_95 0 rfl ?_
        refine j_getW C dX3_searched_96 inX3 rfl (by decide) rfl 3 (by decide) w_204 rfl rfl ?_
        refine j_iconst C dX3_searched_99 (v := 4) (by decide) ?_
        refine j_iload C dX3_searched_100 8 rfl ?_
        refine j_iastW C dX3_searched_102 (by decide) (fun _ => rfl) (jin_vp (i := 4) (n := 8) (by decide)) (fun s102_2 hs102_2 => ?_)
        have hb := jlet hb hs102_2
        refine j_iconst C dX3_searched_103 (v := 1) (by decide) ?_
        refine j_istore C dX3_searched_104 (by decide) rfl ?_
        refine j_loc C [1, 2, 3, 4, 5, 6, 7, 8, 9, 0] rfl ?_
        obtain ⟨e106, he106, hb⟩ := jbind hb
        refine lo106 t1 v2 v4 v5 v6 v7 q.2.1 s102_2 ht1 n (q.1, 1, s102_2) e106 he106 ?_
        refine j_iinc C dX3_searched_156 8 rfl (v := (q.2.1 + 1)) rfl (by decide) rfl ?_
        refine j_goto C dX3_searched_159 (tgt := 81) (by decide) ?_
        refine j_loc C [1, 2, 3, 4, 5, 6, 7, 8, 0] rfl ?_
        have hx := hin _ (jinl hb)
        exact hx
  have lo58 : ∀ (t1 : Nat) (v4 : Int32) (v5 : Int32) (v6 : Int32) (s : jS) (ht1 : t1 < 4) (k : Nat) (q : Int64 × Int32 × jS) (e : Int64 × Int32 × jS), lp (B_X3_searched_T_58 n t1 v4 v5 v6) k q = some e → K 0 0 (jw 54 (cellC G nd) ad e.2.2) 180 [(2, .long e.1)] [] → K 0 0 (jw 54 (cellC G nd) ad q.2.2) 58 [(0, .ref (ad 29)), (1, .ref (ad (2 + 4 * t1))), (2, .long q.1), (4, .int v4), (5, .int v5), (6, .int v6), (7, .int q.2.1)] [] := by
    intro t1 v4 v5 v6 s ht1 k q e he hE
    refine jlp (KH := fun q => K 0 0 (jw 54 (cellC G nd) ad q.2.2) 58 [(0, .ref (ad 29)), (1, .ref (ad (2 + 4 * t1))), (2, .long q.1), (4, .int v4), (5, .int v5), (6, .int v6), (7, .int q.2.1)] []) (KE := fun e => K 0 0 (jw 54 (cellC G nd) ad e.2.2) 180 [(2, .long e.1)] []) ?_ k q e he hE
    intro q o hb hin hout
    unfold B_X3_searched_T_58 at hb
    show K 0 0 (jw 54 (cellC G nd) ad q.2.2) 58 [(0, .ref (ad 29)), (1, .ref (ad (2 + 4 * t1))), (2, .long q.1), (4, .int v4), (5, .int v5), (6, .int v6), (7, .int q.2.1)] []
    refine j_iload C dX3_searched_58 6 rfl ?_
    refine j_iload C dX3_searched_60 3 rfl ?_
    refine j_icmp_gt C dX3_searched_62 (tgt := 180) (by decide) (fun cq => ?_) (fun cq => ?_)
    · have hb := jite_t hb cq
      refine j_loc C [2] rfl ?_
      have hx := hout _ (jinr hb)
      exact hx
    · have hb := jite_f hb cq
      refine j_aload_n C dX3_searched_65 0 rfl ?_
      refine j_getW C dX3_searched_66 inX3 rfl (by decide) rfl 3 (by decide) w_204 rfl rfl ?_
      refine j_bipush C dX3_searched_69 (v := 6) (by decide) ?_
      refine j_iload C dX3_searched_71 6 rfl ?_
      refine j_iastW C dX3_searched_73 (by decide) (fun _ => rfl) (jin_vp (i := 6) (n := 8) (by decide)) (fun s73_1 hs73_1 => ?_)
      have hb := jlet hb hs73_1
      refine j_bipush C dX3_searched_74 (v := 8) (by decide) ?_
      refine j_istore C dX3_searched_76 (by decide) rfl ?_
      refine j_iconst C dX3_searched_78 (v := 0) (by decide) ?_
      refine j_istore C dX3_searched_79 (by decide) rfl ?_
      refine j_loc C [2, 3, 4, 5, 6, 7, 8, 1, 0] rfl ?_
      obtain ⟨e81, he81, hb⟩ := jbind hb
      refine lo81 t1 q.1 v4 v5 v6 q.2.1 s73_1 ht1 n (8, 0, s73_1) e81 he81 ?_
      refine j_lload_n C dX3_searched_162 2 rfl ?_
      refine j_iload C dX3_searched_163 7 rfl ?_
      refine j_i2l C dX3_searched_165 ?_
      refine j_iload C dX3_searched_166 6 rfl ?_
      refine j_bipush C dX3_searched_168 (v := 6) (by decide) ?_
      refine j_imul C dX3_searched_170 ?_
      refine j_lshl C dX3_searched_171 ?_
      refine j_lor C dX3_searched_172 ?_
      refine j_lstore_n C dX3_searched_173 (by decide) rfl ?_
      refine j_iinc C dX3_searched_174 6 rfl (v := (q.2.1 + 1)) rfl (by decide) rfl ?_
      refine j_goto C dX3_searched_177 (tgt := 58) (by decide) ?_
      refine j_loc C [2, 3, 1, 4, 5, 6, 0] rfl ?_
      have hx := hin _ (jinl hb)
      exact hx
  have jn35 : ∀ (t1 : Nat) (v2 : Int64) (v4 : Int32) (k0 : Int32) (s : jS) (ht1 : t1 < 4) (_ : J_X3_searched_T_35 n t1 v2 v4 k0 s = some p), K 0 0 (jw 54 (cellC G nd) ad s) 35 [(0, .ref (ad 29)), (1, .ref (ad (2 + 4 * t1))), (2, .long v2), (4, .int v4)] [.int k0] := by
    intro t1 v2 v4 k0 s ht1 h
    unfold J_X3_searched_T_35 at h
    refine j_istore C dX3_searched_35 (by decide) rfl ?_
    refine j_aload_n C dX3_searched_37 2 rfl ?_
    refine j_getW C dX3_searched_38 inX5 rfl (cTq0 ht1) (cT0 ht1) 5 (by decide) w_51 rfl rfl ?_
    refine j_bipush C dX3_searched_41 (v := 32) (by decide) ?_
    refine j_iand C dX3_searched_43 ?_
    refine j_if_eq C dX3_searched_44 (tgt := 52) (by decide) (fun cq => ?_) (fun cq => ?_)
    · have h := jite_t h cq
      refine j_iconst C dX3_searched_52 (v := 1) (by decide) ?_
      refine j_istore C dX3_searched_53 (by decide) rfl ?_
      refine j_iconst C dX3_searched_55 (v := 0) (by decide) ?_
      refine j_istore C dX3_searched_56 (by decide) rfl ?_
      refine j_loc C [3, 4, 5, 6, 2, 1, 0] rfl ?_
      obtain ⟨e58, he58, h⟩ := jbind h
      refine lo58 t1 v4 k0 1 s ht1 n (v2, 0, s) e58 he58 ?_
      refine j_lload_n C dX3_searched_180 0 rfl ?_
      exact j_lret C dX3_searched_181 rfl (Nat.zero_le _) (Nat.zero_le _) (jretWL h)
    · have h := jite_f h cq
      refine j_bipush C dX3_searched_47 (v := 7) (by decide) ?_
      refine j_goto C dX3_searched_49 (tgt := 53) (by decide) ?_
      refine j_istore C dX3_searched_53 (by decide) rfl ?_
      refine j_iconst C dX3_searched_55 (v := 0) (by decide) ?_
      refine j_istore C dX3_searched_56 (by decide) rfl ?_
      refine j_loc C [3, 4, 5, 6, 2, 1, 0] rfl ?_
      obtain ⟨e58, he58, h⟩ := jbind h
      refine lo58 t1 v4 k0 7 s ht1 n (v2, 0, s) e58 he58 ?_
      refine j_lload_n C dX3_searched_180 0 rfl ?_
      exact j_lret C dX3_searched_181 rfl (Nat.zero_le _) (Nat.zero_le _) (jretWL h)
  have jn18 : ∀ (t1 : Nat) (v2 : Int64) (k0 : Int32) (s : jS) (ht1 : t1 < 4) (_ : J_X3_searched_T_18 n t1 v2 k0 s = some p), K 0 0 (jw 54 (cellC G nd) ad s) 18 [(0, .ref (ad 29)), (1, .ref (ad (2 + 4 * t1))), (2, .long v2)] [.int k0] := by
    intro t1 v2 k0 s ht1 h
    unfold J_X3_searched_T_18 at h
    refine j_istore C dX3_searched_18 (by decide) rfl ?_
    refine j_aload_n C dX3_searched_20 2 rfl ?_
    refine j_getW C dX3_searched_21 inX5 rfl (cTq0 ht1) (cT0 ht1) 5 (by decide) w_51 rfl rfl ?_
    refine j_bipush C dX3_searched_24 (v := 16) (by decide) ?_
    refine j_iand C dX3_searched_26 ?_
    refine j_if_eq C dX3_searched_27 (tgt := 34) (by decide) (fun cq => ?_) (fun cq => ?_)
    · have h := jite_t h cq
      refine j_iconst C dX3_searched_34 (v := 0) (by decide) ?_
      refine j_loc C [1, 2, 3, 0] rfl ?_
      exact jn35 t1 v2 k0 0 s ht1 h
    · have h := jite_f h cq
      refine j_iconst C dX3_searched_30 (v := 5) (by decide) ?_
      refine j_goto C dX3_searched_31 (tgt := 35) (by decide) ?_
      refine j_loc C [1, 2, 3, 0] rfl ?_
      exact jn35 t1 v2 k0 5 s ht1 h
  show K 0 0 (jw 54 (cellC G nd) ad s) 0 [(0, .ref (ad 29)), (1, .ref (ad (2 + 4 * t1)))] []
  refine j_lconst C dX3_searched_0 (v := 0) (by decide) ?_
  refine j_lstore_n C dX3_searched_1 (by decide) rfl ?_
  refine j_aload_n C dX3_searched_2 2 rfl ?_
  refine j_getW C dX3_searched_3 inX5 rfl (cTq0 ht1) (cT0 ht1) 5 (by decide) w_51 rfl rfl ?_
  refine j_bipush C dX3_searched_6 (v := 64) (by decide) ?_
  refine j_iand C dX3_searched_8 ?_
  refine j_if_eq C dX3_searched_9 (tgt := 17) (by decide) (fun cq => ?_) (fun cq => ?_)
  · have h := jite_t h cq
    refine j_iconst C dX3_searched_17 (v := 0) (by decide) ?_
    refine j_loc C [1, 2, 0] rfl ?_
    exact jn18 t1 0 0 s ht1 h
  · have h := jite_f h cq
    refine j_bipush C dX3_searched_12 (v := 9) (by decide) ?_
    refine j_goto C dX3_searched_14 (tgt := 18) (by decide) ?_
    refine j_loc C [1, 2, 0] rfl ?_
    exact jn18 t1 0 9 s ht1 h
-- X3_learn
def J_X3_learn_118 (nd : Nat) (n : Nat) (v2 : Int32) (v3 : Int32) (v4 : Int32) (t5 : Nat) (v6 : Bool) (v7 : Int32) (s : jS) : Option ((Int32 × jS) ⊕ (Int32 × jS)) :=
  ((F_X3_face v2 v7 v3 s).bind fun p123 => ((F_X3_searched_T n t5 p123).bind fun p138 => (if jin (v4 + v7) (960 * nd) = true then (jl (upL p138.2 32 (Int32.toNatClampNeg (v4 + v7)) p138.1) fun s141_4 => some (.inl ((v7 + 1), s141_4))) else none)))
def B_X3_learn_101 (nd : Nat) (n : Nat) (v2 : Int32) (v3 : Int32) (v4 : Int32) (t5 : Nat) (v6 : Bool) (q : Int32 × jS) : Option ((Int32 × jS) ⊕ (Int32 × jS)) :=
  (if 24 ≤ q.1 then some (.inr (q.1, q.2)) else (if q.1 = 0 then J_X3_learn_118 nd n v2 v3 v4 t5 v6 q.1 q.2 else (if v6 = true then J_X3_learn_118 nd n v2 v3 v4 t5 v6 q.1 q.2 else (if jin v4 (960 * nd) = true then (if jin (v4 + q.1) (960 * nd) = true then (jl (upL q.2 32 (Int32.toNatClampNeg (v4 + q.1)) (q.2.2 32 (Int32.toNatClampNeg v4))) fun s161_7 => some (.inl ((q.1 + 1), s161_7))) else none) else none))))
def J_X3_learn_39 (nd : Nat) (n : Nat) (v1 : Int32) (v2 : Int32) (v3 : Int32) (k0 : Int32) (s : jS) : Option jS :=
  (if k0 < 0 then some s else (if ((Int32.ofNat (960 * nd)) - 24) < k0 then some s else (if jin k0 (960 * nd) = true then (if (lg_cmp (s.2 32 (Int32.toNatClampNeg k0)) 0) = 0 then (if jin v1 4 = true then (if ((s.1 (2 + 4 * (Int32.toNatClampNeg v1)) 5) &&& (6 : Int32)) = 0 then ((lp (B_X3_learn_101 nd n v2 v3 k0 (Int32.toNatClampNeg v1) false) n (0, s)).bind fun e101 => some e101.2) else ((lp (B_X3_learn_101 nd n v2 v3 k0 (Int32.toNatClampNeg v1) true) n (0, s)).bind fun e101 => some e101.2)) else none) else some s) else none)))
def J_X3_learn_20 (nd : Nat) (n : Nat) (v1 : Int32) (v2 : Int32) (v3 : Int32) (s : jS) : Option jS :=
  ((F_X3_isOpening v1 s).bind fun p22 => (if p22 = true then ((F_X3_placeOf v1 v2 v3 s).bind fun p32 => J_X3_learn_39 nd n v1 v2 v3 p32 s) else J_X3_learn_39 nd n v1 v2 v3 (-1) s))
def F_X3_learn (nd : Nat) (n : Nat) (v1 : Int32) (v2 : Int32) (v3 : Int32) (s : jS) : Option jS :=
  (if (jz (s.1 29 6)) = true then ((F_J7_fill_d0a16_32 nd n 0 s).bind fun p12 => (jl (upI p12 29 6 (jb false)) fun s17_8 => J_X3_learn_20 nd n v1 v2 v3 s17_8)) else J_X3_learn_20 nd n v1 v2 v3 s)
def rm_X3_learn : Room := { frames := 3, cells := 0, slots := 0, locals := 79 }
set_option maxHeartbeats 4000000 in
set_option maxRecDepth 100000 in
theorem m_X3_learn {l : Launch} {D : va_G} {G : Nat → ClassId} {KV : jV} {ad : Nat → Nat} (nd : Nat) (n : Nat) (v1 : Int32) (v2 : Int32) (v3 : Int32) (s : jS) {p : jS} (h : F_X3_learn nd n v1 v2 v3 s = some p) : jM l D G KV yX3_learn cX3_learn 8 none rm_X3_learn [.ref (ad 29), .int v1, .int v2, .int v3] (jw 54 (cellC G nd) ad s) 0 0 (fun v u => v = none ∧ u = jw 54 (cellC G nd) ad p) := by
  refine jM.of (by decide) (Nat.le_of_ble_eq_true rfl) ?_
  intro K C
  unfold F_X3_learn at h
  have jn118_101 : ∀ (v2 : Int32) (v3 : Int32) (v4 : Int32) (t5 : Nat) (v6 : Bool) (v7 : Int32) (s : jS) (ht5 : t5 < 4) (o : (Int32 × jS) ⊕ (Int32 × jS)), J_X3_learn_118 nd n v2 v3 v4 t5 v6 v7 s = some o → (∀ q, o = .inl q → K 0 0 (jw 54 (cellC G nd) ad q.2) 101 [(0, .ref (ad 29)), (2, .int v2), (3, .int v3), (4, .int v4), (5, .ref (ad (2 + 4 * t5))), (6, .int (jb v6)), (7, .int q.1)] []) → (∀ e, o = .inr e → K 0 0 (jw 54 (cellC G nd) ad e.2) 168 [] []) → K 0 0 (jw 54 (cellC G nd) ad s) 118 [(0, .ref (ad 29)), (2, .int v2), (3, .int v3), (4, .int v4), (5, .ref (ad (2 + 4 * t5))), (6, .int (jb v6)), (7, .int v7)] [] := by
    intro v2 v3 v4 t5 v6 v7 s ht5 o hb hin hout
    unfold J_X3_learn_118 at hb
    refine j_aload_n C dX3_learn_118 0 rfl ?_
    refine j_iload_n C dX3_learn_119 1 rfl ?_
    refine j_iload C dX3_learn_120 6 rfl ?_
    refine j_iload_n C dX3_learn_122 2 rfl ?_
    obtain ⟨p123, he123, hb⟩ := jbind hb
    refine j_cV0 C dX3_learn_123 (m_X3_face v2 v7 v3 s he123) kc_X3_face w_654 w_656 wp_24 w_7 jy_X3_face ⟨⟨Nat.le_of_ble_eq_true rfl, Nat.le_of_ble_eq_true rfl⟩, ⟨rfl, rfl⟩, ⟨Nat.zero_le _, Nat.zero_le _⟩⟩ (Nat.le_of_ble_eq_true rfl) (by decide) rfl (r := (RX3, TX3, 7)) rfl rfl rfl (fun _ _ h => h) ?_
    refine j_aload_n C dX3_learn_126 0 rfl ?_
    refine j_getW C dX3_learn_127 inX3 rfl (by decide) rfl 5 (by decide) w_206 rfl rfl ?_
    refine j_iload C dX3_learn_130 3 rfl ?_
    refine j_iload C dX3_learn_132 6 rfl ?_
    refine j_iadd C dX3_learn_134 ?_
    refine j_aload_n C dX3_learn_135 0 rfl ?_
    refine j_aload C dX3_learn_136 4 rfl ?_
    obtain ⟨p138, he138, hb⟩ := jbind hb
    refine j_cV1 C dX3_learn_138 (m_X3_searched_T n t5 p123 ht5 he138) kc_X3_searched w_760 w_762 wp_32 w_7 jy_X3_searched ⟨⟨Nat.le_of_ble_eq_true rfl, Nat.le_of_ble_eq_true rfl⟩, ⟨rfl, rfl⟩, ⟨Nat.zero_le _, Nat.zero_le _⟩⟩ (Nat.le_of_ble_eq_true rfl) (by decide) rfl (r := (RX3, TX3, 7)) rfl rfl rfl (fun _ _ h => h) ?_
    obtain ⟨c141_3, hb⟩ := jchk hb
    refine j_lastW C dX3_learn_141 (by decide) (fun _ => rfl) (jin_vp c141_3) (fun s141_4 hs141_4 => ?_)
    have hb := jlet hb hs141_4
    refine j_goto C dX3_learn_142 (tgt := 162) (by decide) ?_
    refine j_iinc C dX3_learn_162 6 rfl (v := (v7 + 1)) rfl (by decide) rfl ?_
    refine j_goto C dX3_learn_165 (tgt := 101) (by decide) ?_
    refine j_loc C [1, 2, 3, 4, 5, 6, 0] rfl ?_
    have hx := hin _ (jinl hb)
    exact hx
  have lo101 : ∀ (v2 : Int32) (v3 : Int32) (v4 : Int32) (t5 : Nat) (v6 : Bool) (s : jS) (ht5 : t5 < 4) (k : Nat) (q : Int32 × jS) (e : Int32 × jS), lp (B_X3_learn_101 nd n v2 v3 v4 t5 v6) k q = some e → K 0 0 (jw 54 (cellC G nd) ad e.2) 168 [] [] → K 0 0 (jw 54 (cellC G nd) ad q.2) 101 [(0, .ref (ad 29)), (2, .int v2), (3, .int v3), (4, .int v4), (5, .ref (ad (2 + 4 * t5))), (6, .int (jb v6)), (7, .int q.1)] [] := by
    intro v2 v3 v4 t5 v6 s ht5 k q e he hE
    refine jlp (KH := fun q => K 0 0 (jw 54 (cellC G nd) ad q.2) 101 [(0, .ref (ad 29)), (2, .int v2), (3, .int v3), (4, .int v4), (5, .ref (ad (2 + 4 * t5))), (6, .int (jb v6)), (7, .int q.1)] []) (KE := fun e => K 0 0 (jw 54 (cellC G nd) ad e.2) 168 [] []) ?_ k q e he hE
    intro q o hb hin hout
    unfold B_X3_learn_101 at hb
    show K 0 0 (jw 54 (cellC G nd) ad q.2) 101 [(0, .ref (ad 29)), (2, .int v2), (3, .int v3), (4, .int v4), (5, .ref (ad (2 + 4 * t5))), (6, .int (jb v6)), (7, .int q.1)] []
    refine j_iload C dX3_learn_101 6 rfl ?_
    refine j_bipush C dX3_learn_103 (v := 24) (by decide) ?_
    refine j_icmp_ge C dX3_learn_105 (tgt := 168) (by decide) (fun cq => ?_) (fun cq => ?_)
    · have hb := jite_t hb cq
      refine j_loc C [] rfl ?_
      have hx := hout _ (jinr hb)
      exact hx
    · have hb := jite_f hb cq
      refine j_iload C dX3_learn_108 6 rfl ?_
      refine j_if_eq C dX3_learn_110 (tgt := 118) (by decide) (fun cq => ?_) (fun cq => ?_)
      · have hb := jite_t hb cq
        refine j_loc C [0, 1, 2, 3, 4, 5, 6] rfl ?_
        exact jn118_101 v2 v3 v4 t5 v6 q.1 q.2  ht5 _ hb hin hout
      · have hb := jite_f hb cq
        refine j_iload C dX3_learn_113 5 rfl ?_
        refine j_if_eq C dX3_learn_115 (tgt := 145) (by decide) (fun cq => ?_) (fun cq => ?_)
        · have hb := jite_f hb (jb_f cq)
          refine j_aload_n C dX3_learn_145 0 rfl ?_
          refine j_getW C dX3_learn_146 inX3 rfl (by decide) rfl 5 (by decide) w_206 rfl rfl ?_
          refine j_iload C dX3_learn_149 3 rfl ?_
          refine j_iload C dX3_learn_151 6 rfl ?_
          refine j_iadd C dX3_learn_153 ?_
          refine j_aload_n C dX3_learn_154 0 rfl ?_
          refine j_getW C dX3_learn_155 inX3 rfl (by decide) rfl 5 (by decide) w_206 rfl rfl ?_
          refine j_iload C dX3_learn_158 3 rfl ?_
          obtain ⟨c160_5, hb⟩ := jchk hb
          refine j_laldW C dX3_learn_160 (by decide) rfl (jin_vp c160_5) ?_
          obtain ⟨c161_6, hb⟩ := jchk hb
          refine j_lastW C dX3_learn_161 (by decide) (fun _ => rfl) (jin_vp c161_6) (fun s161_7 hs161_7 => ?_)
          have hb := jlet hb hs161_7
          refine j_iinc C dX3_learn_162 6 rfl (v := (q.1 + 1)) rfl (by decide) rfl ?_
          refine j_goto C dX3_learn_165 (tgt := 101) (by decide) ?_
          refine j_loc C [1, 2, 3, 4, 5, 6, 0] rfl ?_
          have hx := hin _ (jinl hb)
          exact hx
        · have hb := jite_t hb (jb_t cq)
          refine j_loc C [0, 1, 2, 3, 4, 5, 6] rfl ?_
          exact jn118_101 v2 v3 v4 t5 v6 q.1 q.2  ht5 _ hb hin hout
  have jn39 : ∀ (v1 : Int32) (v2 : Int32) (v3 : Int32) (k0 : Int32) (s : jS) (_ : J_X3_learn_39 nd n v1 v2 v3 k0 s = some p), K 0 0 (jw 54 (cellC G nd) ad s) 39 [(0, .ref (ad 29)), (1, .int v1), (2, .int v2), (3, .int v3)] [.int k0] := by
    intro v1 v2 v3 k0 s h
    unfold J_X3_learn_39 at h
    refine j_istore C dX3_learn_39 (by decide) rfl ?_
    refine j_iload C dX3_learn_41 0 rfl ?_
    refine j_if_lt C dX3_learn_43 (tgt := 71) (by decide) (fun cq => ?_) (fun cq => ?_)
    · have h := jite_t h cq
      exact j_vret C dX3_learn_71 rfl (Nat.zero_le _) (Nat.zero_le _) (jretWV h)
    · have h := jite_f h cq
      refine j_iload C dX3_learn_46 0 rfl ?_
      refine j_aload_n C dX3_learn_48 1 rfl ?_
      refine j_getW C dX3_learn_49 inX3 rfl (by decide) rfl 5 (by decide) w_206 rfl rfl ?_
      refine j_alenW C dX3_learn_52 (by decide) rfl (by decide) (v := (Int32.ofNat (960 * nd))) rfl ?_
      refine j_bipush C dX3_learn_53 (v := 24) (by decide) ?_
      refine j_isub C dX3_learn_55 ?_
      refine j_icmp_gt C dX3_learn_56 (tgt := 71) (by decide) (fun cq => ?_) (fun cq => ?_)
      · have h := jite_t h cq
        exact j_vret C dX3_learn_71 rfl (Nat.zero_le _) (Nat.zero_le _) (jretWV h)
      · have h := jite_f h cq
        refine j_aload_n C dX3_learn_59 1 rfl ?_
        refine j_getW C dX3_learn_60 inX3 rfl (by decide) rfl 5 (by decide) w_206 rfl rfl ?_
        refine j_iload C dX3_learn_63 0 rfl ?_
        obtain ⟨c65_1, h⟩ := jchk h
        refine j_laldW C dX3_learn_65 (by decide) rfl (jin_vp c65_1) ?_
        refine j_lconst C dX3_learn_66 (v := 0) (by decide) ?_
        refine j_lcmp C dX3_learn_67 ?_
        refine j_if_eq C dX3_learn_68 (tgt := 72) (by decide) (fun cq => ?_) (fun cq => ?_)
        · have h := jite_t h cq
          refine j_aload_n C dX3_learn_72 1 rfl ?_
          refine j_getW C dX3_learn_73 inX3 rfl (by decide) rfl 2 (by decide) w_203 rfl rfl ?_
          refine j_iload_n C dX3_learn_76 2 rfl ?_
          obtain ⟨c77_2, h⟩ := jchk h
          refine j_aaldT C dX3_learn_77 (by decide) rfl c77_2 ?_
          refine j_astore C dX3_learn_78 (by decide) rfl ?_
          refine j_aload C dX3_learn_80 0 rfl ?_
          refine j_getW C dX3_learn_82 inX5 rfl (cTq0 (jin_lt (i := v1) (n := 4) c77_2)) (cT0 (jin_lt (i := v1) (n := 4) c77_2)) 5 (by decide) w_51 rfl rfl ?_
          refine j_bipush C dX3_learn_85 (v := 6) (by decide) ?_
          refine j_iand C dX3_learn_87 ?_
          refine j_if_eq C dX3_learn_88 (tgt := 95) (by decide) (fun cq => ?_) (fun cq => ?_)
          · have h := jite_t h cq
            refine j_iconst C dX3_learn_95 (v := 0) (by decide) ?_
            refine j_istore C dX3_learn_96 (by decide) rfl ?_
            refine j_iconst C dX3_learn_98 (v := 0) (by decide) ?_
            refine j_istore C dX3_learn_99 (by decide) rfl ?_
            refine j_loc C [4, 6, 7, 3, 2, 1, 0] rfl ?_
            obtain ⟨e101, he101, h⟩ := jbind h
            refine lo101 v2 v3 k0 (Int32.toNatClampNeg v1) false s (jin_lt (i := v1) (n := 4) c77_2) n (0, s) e101 he101 ?_
            exact j_vret C dX3_learn_168 rfl (Nat.zero_le _) (Nat.zero_le _) (jretWV h)
          · have h := jite_f h cq
            refine j_iconst C dX3_learn_91 (v := 1) (by decide) ?_
            refine j_goto C dX3_learn_92 (tgt := 96) (by decide) ?_
            refine j_istore C dX3_learn_96 (by decide) rfl ?_
            refine j_iconst C dX3_learn_98 (v := 0) (by decide) ?_
            refine j_istore C dX3_learn_99 (by decide) rfl ?_
            refine j_loc C [4, 6, 7, 3, 2, 1, 0] rfl ?_
            obtain ⟨e101, he101, h⟩ := jbind h
            refine lo101 v2 v3 k0 (Int32.toNatClampNeg v1) true s (jin_lt (i := v1) (n := 4) c77_2) n (0, s) e101 he101 ?_
            exact j_vret C dX3_learn_168 rfl (Nat.zero_le _) (Nat.zero_le _) (jretWV h)
        · have h := jite_f h cq
          exact j_vret C dX3_learn_71 rfl (Nat.zero_le _) (Nat.zero_le _) (jretWV h)
  have jn20 : ∀ (v1 : Int32) (v2 : Int32) (v3 : Int32) (s : jS) (_ : J_X3_learn_20 nd n v1 v2 v3 s = some p), K 0 0 (jw 54 (cellC G nd) ad s) 20 [(0, .ref (ad 29)), (1, .int v1), (2, .int v2), (3, .int v3)] [] := by
    intro v1 v2 v3 s h
    unfold J_X3_learn_20 at h
    refine j_aload_n C dX3_learn_20 0 rfl ?_
    refine j_iload_n C dX3_learn_21 1 rfl ?_
    obtain ⟨p22, he22, h⟩ := jbind h
    refine j_cV1 C dX3_learn_22 (m_X3_isOpening v1 s he22) kc_X3_isOpening w_650 w_651 w_652 w_7 jy_X3_isOpening ⟨⟨Nat.le_of_ble_eq_true rfl, Nat.le_of_ble_eq_true rfl⟩, ⟨rfl, rfl⟩, ⟨Nat.zero_le _, Nat.zero_le _⟩⟩ (Nat.le_of_ble_eq_true rfl) (by decide) rfl (r := (RX3, TX3, 7)) rfl rfl rfl (fun _ _ h => h) ?_
    refine j_if_eq C dX3_learn_25 (tgt := 38) (by decide) (fun cq => ?_) (fun cq => ?_)
    · have h := jite_f h (jb_f cq)
      refine j_iconst C dX3_learn_38 (v := (-1)) (by decide) ?_
      refine j_loc C [0, 1, 2, 3] rfl ?_
      exact jn39 v1 v2 v3 (-1) s  h
    · have h := jite_t h (jb_t cq)
      refine j_aload_n C dX3_learn_28 0 rfl ?_
      refine j_iload_n C dX3_learn_29 1 rfl ?_
      refine j_iload_n C dX3_learn_30 2 rfl ?_
      refine j_iload_n C dX3_learn_31 3 rfl ?_
      obtain ⟨p32, he32, h⟩ := jbind h
      refine j_cV1 C dX3_learn_32 (m_X3_placeOf v1 v2 v3 s he32) kc_X3_placeOf w_756 w_757 w_758 w_7 jy_X3_placeOf ⟨⟨Nat.le_of_ble_eq_true rfl, Nat.le_of_ble_eq_true rfl⟩, ⟨rfl, rfl⟩, ⟨Nat.zero_le _, Nat.zero_le _⟩⟩ (Nat.le_of_ble_eq_true rfl) (by decide) rfl (r := (RX3, TX3, 7)) rfl rfl rfl (fun _ _ h => h) ?_
      refine j_goto C dX3_learn_35 (tgt := 39) (by decide) ?_
      refine j_loc C [0, 1, 2, 3] rfl ?_
      exact jn39 v1 v2 v3 p32 s  h
  show K 0 0 (jw 54 (cellC G nd) ad s) 0 [(0, .ref (ad 29)), (1, .int v1), (2, .int v2), (3, .int v3)] []
  refine j_aload_n C dX3_learn_0 0 rfl ?_
  refine j_getW C dX3_learn_1 inX3 rfl (by decide) rfl 6 (by decide) w_207 rfl rfl ?_
  refine j_if_eq C dX3_learn_4 (tgt := 20) (by decide) (fun cq => ?_) (fun cq => ?_)
  · have h := jite_f h (jb_f cq)
    refine j_loc C [0, 1, 2, 3] rfl ?_
    exact jn20 v1 v2 v3 s  h
  · have h := jite_t h (jb_t cq)
    refine j_aload_n C dX3_learn_7 0 rfl ?_
    refine j_getW C dX3_learn_8 inX3 rfl (by decide) rfl 5 (by decide) w_206 rfl rfl ?_
    refine j_lconst C dX3_learn_11 (v := 0) (by decide) ?_
    obtain ⟨p12, he12, h⟩ := jbind h
    refine j_cS0 C dX3_learn_12 (m_J7_fill_d0a16_32 nd n 0 s he12) kc_J7_fill_d0a16 w_753 w_754 w_17 jy_J7_fill_d0a16 ⟨⟨Nat.le_of_ble_eq_true rfl, Nat.le_of_ble_eq_true rfl⟩, ⟨rfl, rfl⟩, ⟨Nat.zero_le _, Nat.zero_le _⟩⟩ (Nat.le_of_ble_eq_true rfl) rfl (fun _ _ h => h) ?_
    refine j_aload_n C dX3_learn_15 0 rfl ?_
    refine j_iconst C dX3_learn_16 (v := 0) (by decide) ?_
    refine j_putI C dX3_learn_17 inX3 tyX3 tyX3_ok nmX3 rfl (by decide) 6 (x := jb false) rfl rfl (by decide) w_207 rfl rfl (jb_nar false) (jb_fit false) (Nat.le_of_ble_eq_true rfl) (fun s17_8 hs17_8 => ?_)
    have h := jlet h hs17_8
    refine j_loc C [0, 1, 2, 3] rfl ?_
    exact jn20 v1 v2 v3 s17_8  h
-- X3_looksAtWaited
def F_X3_looksAtWaited (v1 : Int32) (s : jS) : Option Bool :=
  (if v1 < 0 then some false else (if 4 ≤ v1 then some false else (if jin v1 4 = true then (if ((s.1 (2 + 4 * (Int32.toNatClampNeg v1)) 5) &&& (64 : Int32)) = 0 then some false else some true) else none)))
def rm_X3_looksAtWaited : Room := { frames := 0, cells := 0, slots := 0, locals := 0 }
set_option maxHeartbeats 4000000 in
set_option maxRecDepth 100000 in
theorem m_X3_looksAtWaited {l : Launch} {D : va_G} {G : Nat → ClassId} {KV : jV} {ad : Nat → Nat} {nd : Nat} (v1 : Int32) (s : jS) {p : Bool} (h : F_X3_looksAtWaited v1 s = some p) : jM l D G KV yX3_looksAtWaited cX3_looksAtWaited 2 (some .boolean) rm_X3_looksAtWaited [.ref (ad 29), .int v1] (jw 54 (cellC G nd) ad s) 0 0 (fun v u => v = some (.int (jb p)) ∧ u = jw 54 (cellC G nd) ad s) := by
  refine jM.of (by decide) (Nat.le_of_ble_eq_true rfl) ?_
  intro K C
  unfold F_X3_looksAtWaited at h
  show K 0 0 (jw 54 (cellC G nd) ad s) 0 [(0, .ref (ad 29)), (1, .int v1)] []
  refine j_iload_n C dX3_looksAtWaited_0 1 rfl ?_
  refine j_if_lt C dX3_looksAtWaited_1 (tgt := 28) (by decide) (fun cq => ?_) (fun cq => ?_)
  · have h := jite_t h cq
    refine j_iconst C dX3_looksAtWaited_28 (v := 0) (by decide) ?_
    exact j_iret C dX3_looksAtWaited_29 rfl (jb_nar false) (Nat.zero_le _) (Nat.zero_le _) (jretPB h)
  · have h := jite_f h cq
    refine j_iload_n C dX3_looksAtWaited_4 1 rfl ?_
    refine j_iconst C dX3_looksAtWaited_5 (v := 4) (by decide) ?_
    refine j_icmp_ge C dX3_looksAtWaited_6 (tgt := 28) (by decide) (fun cq => ?_) (fun cq => ?_)
    · have h := jite_t h cq
      refine j_iconst C dX3_looksAtWaited_28 (v := 0) (by decide) ?_
      exact j_iret C dX3_looksAtWaited_29 rfl (jb_nar false) (Nat.zero_le _) (Nat.zero_le _) (jretPB h)
    · have h := jite_f h cq
      refine j_aload_n C dX3_looksAtWaited_9 0 rfl ?_
      refine j_getW C dX3_looksAtWaited_10 inX3 rfl (by decide) rfl 2 (by decide) w_203 rfl rfl ?_
      refine j_iload_n C dX3_looksAtWaited_13 1 rfl ?_
      obtain ⟨c14_1, h⟩ := jchk h
      refine j_aaldT C dX3_looksAtWaited_14 (by decide) rfl c14_1 ?_
      refine j_getW C dX3_looksAtWaited_15 inX5 rfl (cTq0 (jin_lt (i := v1) (n := 4) c14_1)) (cT0 (jin_lt (i := v1) (n := 4) c14_1)) 5 (by decide) w_51 rfl rfl ?_
      refine j_bipush C dX3_looksAtWaited_18 (v := 64) (by decide) ?_
      refine j_iand C dX3_looksAtWaited_20 ?_
      refine j_if_eq C dX3_looksAtWaited_21 (tgt := 28) (by decide) (fun cq => ?_) (fun cq => ?_)
      · have h := jite_t h cq
        refine j_iconst C dX3_looksAtWaited_28 (v := 0) (by decide) ?_
        exact j_iret C dX3_looksAtWaited_29 rfl (jb_nar false) (Nat.zero_le _) (Nat.zero_le _) (jretPB h)
      · have h := jite_f h cq
        refine j_iconst C dX3_looksAtWaited_24 (v := 1) (by decide) ?_
        refine j_goto C dX3_looksAtWaited_25 (tgt := 29) (by decide) ?_
        exact j_iret C dX3_looksAtWaited_29 rfl (jb_nar true) (Nat.zero_le _) (Nat.zero_le _) (jretPB h)
-- X7_canPass_21
def J_X7_canPass_21_98 (n : Nat) (v2 : Int32) (v3 : Int32) (v4 : Int32) (v5 : Bool) (k1 : Int32) (k2 : Int32) (s : jS) : Option ((Int32 × jS) ⊕ ((Int32 × jS) ⊕ ((Bool × jS)))) :=
  (if jin k1 8 = true then (jl (upI s 38 (Int32.toNatClampNeg k1) k2) fun s98_4 => (if v5 = true then (if jin v4 8 = true then (jl (upI s98_4 39 (Int32.toNatClampNeg v4) 0) fun s130_6 => some (.inl ((v4 + 1), s130_6))) else none) else (if jin v4 8 = true then ((F_X3_looksAtWaited (s98_4.1 21 (Int32.toNatClampNeg v4)) s98_4).bind fun p118 => (if p118 = true then (jl (upI s98_4 39 (Int32.toNatClampNeg v4) 9) fun s130_9 => some (.inl ((v4 + 1), s130_9))) else (jl (upI s98_4 39 (Int32.toNatClampNeg v4) 0) fun s130_8 => some (.inl ((v4 + 1), s130_8))))) else none))) else none)
def J_X7_canPass_21_69 (n : Nat) (v2 : Int32) (v3 : Int32) (v4 : Int32) (v5 : Bool) (s : jS) : Option ((Int32 × jS) ⊕ ((Int32 × jS) ⊕ ((Bool × jS)))) :=
  (if v5 = true then J_X7_canPass_21_98 n v2 v3 v4 v5 v4 (-1) s else (if jin v4 8 = true then ((F_X3_placeOf (s.1 21 (Int32.toNatClampNeg v4)) v4 v2 s).bind fun p95 => J_X7_canPass_21_98 n v2 v3 v4 v5 v4 p95 s) else none))
def J_X7_canPass_21_46 (n : Nat) (v2 : Int32) (v3 : Int32) (v4 : Int32) (k0 : Bool) (s : jS) : Option ((Int32 × jS) ⊕ ((Int32 × jS) ⊕ ((Bool × jS)))) :=
  (if k0 = true then J_X7_canPass_21_69 n v2 v3 v4 k0 s else (if jin v4 8 = true then ((F_X3_isOpening (s.1 21 (Int32.toNatClampNeg v4)) s).bind fun p61 => (if p61 = true then J_X7_canPass_21_69 n v2 v3 v4 k0 s else some (.inr (.inr (false, s))))) else none))
def J_X7_canPass_21_41 (n : Nat) (v2 : Int32) (v3 : Int32) (v4 : Int32) (s : jS) : Option ((Int32 × jS) ⊕ ((Int32 × jS) ⊕ ((Bool × jS)))) :=
  J_X7_canPass_21_46 n v2 v3 v4 true s
def B_X7_canPass_21_3 (n : Nat) (v2 : Int32) (v3 : Int32) (q : Int32 × jS) : Option ((Int32 × jS) ⊕ ((Int32 × jS) ⊕ ((Bool × jS)))) :=
  (if (q.2.1 33 4) ≤ q.1 then some (.inr (.inl (q.1, q.2))) else (if 8 ≤ q.1 then some (.inr (.inl (q.1, q.2))) else (if jin q.1 8 = true then (if (jz (q.2.1 22 (Int32.toNatClampNeg q.1))) = true then J_X7_canPass_21_41 n v2 v3 q.1 q.2 else (if (F_X8_hasKey v3 q.1) = true then J_X7_canPass_21_41 n v2 v3 q.1 q.2 else J_X7_canPass_21_46 n v2 v3 q.1 false q.2)) else none)))
def F_X7_canPass_21 (n : Nat) (v2 : Int32) (v3 : Int32) (s : jS) : Option (Bool × jS) :=
  ((lp (B_X7_canPass_21_3 n v2 v3) n (0, s)).bind fun e => Sum.elim (fun e3 => some (true, e3.2)) (fun r3 => some r3) e)
def rm_X7_canPass_21 : Room := { frames := 1, cells := 0, slots := 0, locals := 26 }
set_option maxHeartbeats 4000000 in
set_option maxRecDepth 100000 in
theorem m_X7_canPass_21 {l : Launch} {D : va_G} {G : Nat → ClassId} {KV : jV} {ad : Nat → Nat} {nd : Nat} (n : Nat) (v2 : Int32) (v3 : Int32) (s : jS) {p : Bool × jS} (h : F_X7_canPass_21 n v2 v3 s = some p) : jM l D G KV yX7_canPass cX7_canPass 6 (some .boolean) rm_X7_canPass_21 [.ref (ad 33), .ref (ad 21), .int v2, .int v3] (jw 54 (cellC G nd) ad s) 0 0 (fun v u => v = some (.int (jb p.1)) ∧ u = jw 54 (cellC G nd) ad p.2) := by
  refine jM.of (by decide) (Nat.le_of_ble_eq_true rfl) ?_
  intro K C
  unfold F_X7_canPass_21 at h
  have jn98_3 : ∀ (v2 : Int32) (v3 : Int32) (v4 : Int32) (v5 : Bool) (k1 : Int32) (k2 : Int32) (s : jS) (o : (Int32 × jS) ⊕ ((Int32 × jS) ⊕ ((Bool × jS)))), J_X7_canPass_21_98 n v2 v3 v4 v5 k1 k2 s = some o → (∀ q, o = .inl q → K 0 0 (jw 54 (cellC G nd) ad q.2) 3 [(0, .ref (ad 33)), (1, .ref (ad 21)), (2, .int v2), (3, .int v3), (4, .int q.1)] []) → (∀ e, o = .inr e → Sum.elim (fun e => K 0 0 (jw 54 (cellC G nd) ad e.2) 137 [] []) (fun r => some r = some p) e) → K 0 0 (jw 54 (cellC G nd) ad s) 98 [(0, .ref (ad 33)), (1, .ref (ad 21)), (2, .int v2), (3, .int v3), (4, .int v4), (5, .int (jb v5))] [.int k2, .int k1, .ref (ad 38)] := by
    intro v2 v3 v4 v5 k1 k2 s o hb hin hout
    unfold J_X7_canPass_21_98 at hb
    obtain ⟨c98_3, hb⟩ := jchk hb
    refine j_iastW C dX7_canPass_98 (by decide) (fun _ => rfl) (jin_vp c98_3) (fun s98_4 hs98_4 => ?_)
    have hb := jlet hb hs98_4
    refine j_aload_n C dX7_canPass_99 0 rfl ?_
    refine j_getW C dX7_canPass_100 inX7 rfl (by decide) rfl 10 (by decide) w_244 rfl rfl ?_
    refine j_iload C dX7_canPass_103 4 rfl ?_
    refine j_iload C dX7_canPass_105 5 rfl ?_
    refine j_if_ne C dX7_canPass_107 (tgt := 129) (by decide) (fun cq => ?_) (fun cq => ?_)
    · have hb := jite_t hb (jb_t cq)
      refine j_iconst C dX7_canPass_129 (v := 0) (by decide) ?_
      obtain ⟨c130_5, hb⟩ := jchk hb
      refine j_iastW C dX7_canPass_130 (by decide) (fun _ => rfl) (jin_vp c130_5) (fun s130_6 hs130_6 => ?_)
      have hb := jlet hb hs130_6
      refine j_iinc C dX7_canPass_131 4 rfl (v := (v4 + 1)) rfl (by decide) rfl ?_
      refine j_goto C dX7_canPass_134 (tgt := 3) (by decide) ?_
      refine j_loc C [1, 2, 3, 4, 0] rfl ?_
      have hx := hin _ (jinl hb)
      exact hx
    · have hb := jite_f hb (jb_f cq)
      refine j_aload_n C dX7_canPass_110 0 rfl ?_
      refine j_getW C dX7_canPass_111 inX7 rfl (by decide) rfl 6 (by decide) w_240 rfl rfl ?_
      refine j_aload_n C dX7_canPass_114 1 rfl ?_
      refine j_iload C dX7_canPass_115 4 rfl ?_
      obtain ⟨c117_7, hb⟩ := jchk hb
      refine j_ialdW C dX7_canPass_117 (by decide) rfl (jin_vp c117_7) ?_
      obtain ⟨p118, he118, hb⟩ := jbind hb
      refine j_cV1 C dX7_canPass_118 (m_X3_looksAtWaited (s98_4.1 21 (Int32.toNatClampNeg v4)) s98_4 he118) kc_X3_looksAtWaited w_779 w_780 w_781 w_7 jy_X3_looksAtWaited ⟨⟨Nat.le_of_ble_eq_true rfl, Nat.le_of_ble_eq_true rfl⟩, ⟨rfl, rfl⟩, ⟨Nat.zero_le _, Nat.zero_le _⟩⟩ (Nat.le_of_ble_eq_true rfl) (by decide) rfl (r := (RX3, TX3, 7)) rfl rfl rfl (fun _ _ h => h) ?_
      refine j_if_eq C dX7_canPass_121 (tgt := 129) (by decide) (fun cq => ?_) (fun cq => ?_)
      · have hb := jite_f hb (jb_f cq)
        refine j_iconst C dX7_canPass_129 (v := 0) (by decide) ?_
        refine j_iastW C dX7_canPass_130 (by decide) (fun _ => rfl) (jin_vp c117_7) (fun s130_8 hs130_8 => ?_)
        have hb := jlet hb hs130_8
        refine j_iinc C dX7_canPass_131 4 rfl (v := (v4 + 1)) rfl (by decide) rfl ?_
        refine j_goto C dX7_canPass_134 (tgt := 3) (by decide) ?_
        refine j_loc C [1, 2, 3, 4, 0] rfl ?_
        have hx := hin _ (jinl hb)
        exact hx
      · have hb := jite_t hb (jb_t cq)
        refine j_bipush C dX7_canPass_124 (v := 9) (by decide) ?_
        refine j_goto C dX7_canPass_126 (tgt := 130) (by decide) ?_
        refine j_iastW C dX7_canPass_130 (by decide) (fun _ => rfl) (jin_vp c117_7) (fun s130_9 hs130_9 => ?_)
        have hb := jlet hb hs130_9
        refine j_iinc C dX7_canPass_131 4 rfl (v := (v4 + 1)) rfl (by decide) rfl ?_
        refine j_goto C dX7_canPass_134 (tgt := 3) (by decide) ?_
        refine j_loc C [1, 2, 3, 4, 0] rfl ?_
        have hx := hin _ (jinl hb)
        exact hx
  have jn69_3 : ∀ (v2 : Int32) (v3 : Int32) (v4 : Int32) (v5 : Bool) (s : jS) (o : (Int32 × jS) ⊕ ((Int32 × jS) ⊕ ((Bool × jS)))), J_X7_canPass_21_69 n v2 v3 v4 v5 s = some o → (∀ q, o = .inl q → K 0 0 (jw 54 (cellC G nd) ad q.2) 3 [(0, .ref (ad 33)), (1, .ref (ad 21)), (2, .int v2), (3, .int v3), (4, .int q.1)] []) → (∀ e, o = .inr e → Sum.elim (fun e => K 0 0 (jw 54 (cellC G nd) ad e.2) 137 [] []) (fun r => some r = some p) e) → K 0 0 (jw 54 (cellC G nd) ad s) 69 [(0, .ref (ad 33)), (1, .ref (ad 21)), (2, .int v2), (3, .int v3), (4, .int v4), (5, .int (jb v5))] [] := by
    intro v2 v3 v4 v5 s o hb hin hout
    unfold J_X7_canPass_21_69 at hb
    refine j_aload_n C dX7_canPass_69 0 rfl ?_
    refine j_getW C dX7_canPass_70 inX7 rfl (by decide) rfl 9 (by decide) w_243 rfl rfl ?_
    refine j_iload C dX7_canPass_73 4 rfl ?_
    refine j_iload C dX7_canPass_75 5 rfl ?_
    refine j_if_eq C dX7_canPass_77 (tgt := 84) (by decide) (fun cq => ?_) (fun cq => ?_)
    · have hb := jite_f hb (jb_f cq)
      refine j_aload_n C dX7_canPass_84 0 rfl ?_
      refine j_getW C dX7_canPass_85 inX7 rfl (by decide) rfl 6 (by decide) w_240 rfl rfl ?_
      refine j_aload_n C dX7_canPass_88 1 rfl ?_
      refine j_iload C dX7_canPass_89 4 rfl ?_
      obtain ⟨c91_2, hb⟩ := jchk hb
      refine j_ialdW C dX7_canPass_91 (by decide) rfl (jin_vp c91_2) ?_
      refine j_iload C dX7_canPass_92 4 rfl ?_
      refine j_iload_n C dX7_canPass_94 2 rfl ?_
      obtain ⟨p95, he95, hb⟩ := jbind hb
      refine j_cV1 C dX7_canPass_95 (m_X3_placeOf (s.1 21 (Int32.toNatClampNeg v4)) v4 v2 s he95) kc_X3_placeOf w_778 w_757 w_758 w_7 jy_X3_placeOf ⟨⟨Nat.le_of_ble_eq_true rfl, Nat.le_of_ble_eq_true rfl⟩, ⟨rfl, rfl⟩, ⟨Nat.zero_le _, Nat.zero_le _⟩⟩ (Nat.le_of_ble_eq_true rfl) (by decide) rfl (r := (RX3, TX3, 7)) rfl rfl rfl (fun _ _ h => h) ?_
      refine j_loc C [0, 1, 2, 3, 4, 5] rfl ?_
      exact jn98_3 v2 v3 v4 v5 v4 p95 s   _ hb hin hout
    · have hb := jite_t hb (jb_t cq)
      refine j_iconst C dX7_canPass_80 (v := (-1)) (by decide) ?_
      refine j_goto C dX7_canPass_81 (tgt := 98) (by decide) ?_
      refine j_loc C [0, 1, 2, 3, 4, 5] rfl ?_
      exact jn98_3 v2 v3 v4 v5 v4 (-1) s   _ hb hin hout
  have jn46_3 : ∀ (v2 : Int32) (v3 : Int32) (v4 : Int32) (k0 : Bool) (s : jS) (o : (Int32 × jS) ⊕ ((Int32 × jS) ⊕ ((Bool × jS)))), J_X7_canPass_21_46 n v2 v3 v4 k0 s = some o → (∀ q, o = .inl q → K 0 0 (jw 54 (cellC G nd) ad q.2) 3 [(0, .ref (ad 33)), (1, .ref (ad 21)), (2, .int v2), (3, .int v3), (4, .int q.1)] []) → (∀ e, o = .inr e → Sum.elim (fun e => K 0 0 (jw 54 (cellC G nd) ad e.2) 137 [] []) (fun r => some r = some p) e) → K 0 0 (jw 54 (cellC G nd) ad s) 46 [(0, .ref (ad 33)), (1, .ref (ad 21)), (2, .int v2), (3, .int v3), (4, .int v4)] [.int (jb k0)] := by
    intro v2 v3 v4 k0 s o hb hin hout
    unfold J_X7_canPass_21_46 at hb
    refine j_istore C dX7_canPass_46 (by decide) rfl ?_
    refine j_iload C dX7_canPass_48 0 rfl ?_
    refine j_if_ne C dX7_canPass_50 (tgt := 69) (by decide) (fun cq => ?_) (fun cq => ?_)
    · have hb := jite_t hb (jb_t cq)
      refine j_loc C [1, 2, 3, 4, 5, 0] rfl ?_
      exact jn69_3 v2 v3 v4 k0 s   _ hb hin hout
    · have hb := jite_f hb (jb_f cq)
      refine j_aload_n C dX7_canPass_53 1 rfl ?_
      refine j_getW C dX7_canPass_54 inX7 rfl (by decide) rfl 6 (by decide) w_240 rfl rfl ?_
      refine j_aload_n C dX7_canPass_57 2 rfl ?_
      refine j_iload C dX7_canPass_58 5 rfl ?_
      obtain ⟨c60_10, hb⟩ := jchk hb
      refine j_ialdW C dX7_canPass_60 (by decide) rfl (jin_vp c60_10) ?_
      obtain ⟨p61, he61, hb⟩ := jbind hb
      refine j_cV1 C dX7_canPass_61 (m_X3_isOpening (s.1 21 (Int32.toNatClampNeg v4)) s he61) kc_X3_isOpening w_777 w_651 w_652 w_7 jy_X3_isOpening ⟨⟨Nat.le_of_ble_eq_true rfl, Nat.le_of_ble_eq_true rfl⟩, ⟨rfl, rfl⟩, ⟨Nat.zero_le _, Nat.zero_le _⟩⟩ (Nat.le_of_ble_eq_true rfl) (by decide) rfl (r := (RX3, TX3, 7)) rfl rfl rfl (fun _ _ h => h) ?_
      refine j_if_ne C dX7_canPass_64 (tgt := 69) (by decide) (fun cq => ?_) (fun cq => ?_)
      · have hb := jite_t hb (jb_t cq)
        refine j_loc C [1, 2, 3, 4, 5, 0] rfl ?_
        exact jn69_3 v2 v3 v4 k0 s   _ hb hin hout
      · have hb := jite_f hb (jb_f cq)
        refine j_iconst C dX7_canPass_67 (v := 0) (by decide) ?_
        exact j_iret C dX7_canPass_68 rfl (jb_nar false) (Nat.zero_le _) (Nat.zero_le _) (jretWB (jretL hb hout))
  have jn41_3 : ∀ (v2 : Int32) (v3 : Int32) (v4 : Int32) (s : jS) (o : (Int32 × jS) ⊕ ((Int32 × jS) ⊕ ((Bool × jS)))), J_X7_canPass_21_41 n v2 v3 v4 s = some o → (∀ q, o = .inl q → K 0 0 (jw 54 (cellC G nd) ad q.2) 3 [(0, .ref (ad 33)), (1, .ref (ad 21)), (2, .int v2), (3, .int v3), (4, .int q.1)] []) → (∀ e, o = .inr e → Sum.elim (fun e => K 0 0 (jw 54 (cellC G nd) ad e.2) 137 [] []) (fun r => some r = some p) e) → K 0 0 (jw 54 (cellC G nd) ad s) 41 [(0, .ref (ad 33)), (1, .ref (ad 21)), (2, .int v2), (3, .int v3), (4, .int v4)] [] := by
    intro v2 v3 v4 s o hb hin hout
    unfold J_X7_canPass_21_41 at hb
    refine j_iconst C dX7_canPass_41 (v := 1) (by decide) ?_
    refine j_goto C dX7_canPass_42 (tgt := 46) (by decide) ?_
    refine j_loc C [0, 1, 2, 3, 4] rfl ?_
    exact jn46_3 v2 v3 v4 true s   _ hb hin hout
  have lo3 : ∀ (v2 : Int32) (v3 : Int32) (s : jS) (k : Nat) (q : Int32 × jS) (e : (Int32 × jS) ⊕ ((Bool × jS))), lp (B_X7_canPass_21_3 n v2 v3) k q = some e → Sum.elim (fun e => K 0 0 (jw 54 (cellC G nd) ad e.2) 137 [] []) (fun r => some r = some p) e → K 0 0 (jw 54 (cellC G nd) ad q.2) 3 [(0, .ref (ad 33)), (1, .ref (ad 21)), (2, .int v2), (3, .int v3), (4, .int q.1)] [] := by
    intro v2 v3 s k q e he hE
    refine jlp (KH := fun q => K 0 0 (jw 54 (cellC G nd) ad q.2) 3 [(0, .ref (ad 33)), (1, .ref (ad 21)), (2, .int v2), (3, .int v3), (4, .int q.1)] []) (KE := fun e => Sum.elim (fun e => K 0 0 (jw 54 (cellC G nd) ad e.2) 137 [] []) (fun r => some r = some p) e) ?_ k q e he hE
    intro q o hb hin hout
    unfold B_X7_canPass_21_3 at hb
    show K 0 0 (jw 54 (cellC G nd) ad q.2) 3 [(0, .ref (ad 33)), (1, .ref (ad 21)), (2, .int v2), (3, .int v3), (4, .int q.1)] []
    refine j_iload C dX7_canPass_3 4 rfl ?_
    refine j_aload_n C dX7_canPass_5 0 rfl ?_
    refine j_getW C dX7_canPass_6 inX7 rfl (by decide) rfl 4 (by decide) w_238 rfl rfl ?_
    refine j_icmp_ge C dX7_canPass_9 (tgt := 137) (by decide) (fun cq => ?_) (fun cq => ?_)
    · have hb := jite_t hb cq
      refine j_loc C [] rfl ?_
      have hx := hout _ (jinr hb)
      exact hx
    · have hb := jite_f hb cq
      refine j_iload C dX7_canPass_12 4 rfl ?_
      refine j_aload_n C dX7_canPass_14 1 rfl ?_
      refine j_alenW C dX7_canPass_15 (by decide) rfl (by decide) (v := 8) rfl ?_
      refine j_icmp_ge C dX7_canPass_16 (tgt := 137) (by decide) (fun cq => ?_) (fun cq => ?_)
      · have hb := jite_t hb cq
        refine j_loc C [] rfl ?_
        have hx := hout _ (jinr hb)
        exact hx
      · have hb := jite_f hb cq
        refine j_aload_n C dX7_canPass_19 0 rfl ?_
        refine j_getW C dX7_canPass_20 inX7 rfl (by decide) rfl 5 (by decide) w_239 rfl rfl ?_
        refine j_getW C dX7_canPass_23 inX2 rfl (by decide) rfl 3 (by decide) w_126 rfl rfl ?_
        refine j_iload C dX7_canPass_26 4 rfl ?_
        obtain ⟨c28_1, hb⟩ := jchk hb
        refine j_zaldW C dX7_canPass_28 (by decide) rfl (jin_vp c28_1) ?_
        refine j_if_ne C dX7_canPass_29 (tgt := 41) (by decide) (fun cq => ?_) (fun cq => ?_)
        · have hb := jite_t hb (jb_t cq)
          refine j_loc C [0, 1, 2, 3, 4] rfl ?_
          exact jn41_3 v2 v3 q.1 q.2   _ hb hin hout
        · have hb := jite_f hb (jb_f cq)
          refine j_iload_n C dX7_canPass_32 3 rfl ?_
          refine j_iload C dX7_canPass_33 4 rfl ?_
          refine j_cSN1 C (host := "RoadOfDoors") dX7_canPass_35 (m_X8_hasKey v3 q.1 rfl) kc_X8_hasKey (by decide +kernel) w_694 w_1 jy_X8_hasKey ⟨⟨Nat.le_of_ble_eq_true rfl, Nat.le_of_ble_eq_true rfl⟩, ⟨rfl, rfl⟩, ⟨Nat.zero_le _, Nat.zero_le _⟩⟩ (Nat.le_of_ble_eq_true rfl) rfl (fun _ _ h => h) ?_
          refine j_if_eq C dX7_canPass_38 (tgt := 45) (by decide) (fun cq => ?_) (fun cq => ?_)
          · have hb := jite_f hb (jb_f cq)
            refine j_iconst C dX7_canPass_45 (v := 0) (by decide) ?_
            refine j_loc C [0, 1, 2, 3, 4] rfl ?_
            exact jn46_3 v2 v3 q.1 false q.2   _ hb hin hout
          · have hb := jite_t hb (jb_t cq)
            refine j_loc C [0, 1, 2, 3, 4] rfl ?_
            exact jn41_3 v2 v3 q.1 q.2   _ hb hin hout
  show K 0 0 (jw 54 (cellC G nd) ad s) 0 [(0, .ref (ad 33)), (1, .ref (ad 21)), (2, .int v2), (3, .int v3)] []
  refine j_iconst C dX7_canPass_0 (v := 0) (by decide) ?_
  refine j_istore C dX7_canPass_1 (by decide) rfl ?_
  refine j_loc C [1, 2, 3, 4, 0] rfl ?_
  obtain ⟨e3, he3, h⟩ := jbind h
  refine lo3 v2 v3 s  n (0, s) e3 he3 ?_
  rcases e3 with e3 | r3
  · show K _ _ _ _ _ _
    refine j_iconst C dX7_canPass_137 (v := 1) (by decide) ?_
    exact j_iret C dX7_canPass_138 rfl (jb_nar true) (Nat.zero_le _) (Nat.zero_le _) (jretWB h)
  · exact h
-- J7_rangeCheck_23922
def F_J7_rangeCheck_23922 (v0 : Int32) (v1 : Int32) (v2 : Int32) (s : jS) : Option jS :=
  (if v1 ≤ v2 then (if 0 ≤ v1 then (if v2 ≤ v0 then some s else none) else none) else none)
def rm_J7_rangeCheck_23922 : Room := { frames := 0, cells := 0, slots := 0, locals := 0 }
set_option maxHeartbeats 4000000 in
set_option maxRecDepth 100000 in
theorem m_J7_rangeCheck_23922 {l : Launch} {D : va_G} {G : Nat → ClassId} {KV : jV} {ad : Nat → Nat} {nd : Nat} (v0 : Int32) (v1 : Int32) (v2 : Int32) (s : jS) {p : jS} (h : F_J7_rangeCheck_23922 v0 v1 v2 s = some p) : jM l D G KV yJ7_rangeCheck_23922 cJ7_rangeCheck_23922 3 none rm_J7_rangeCheck_23922 [.int v0, .int v1, .int v2] (jw 54 (cellC G nd) ad s) 0 0 (fun v u => v = none ∧ u = jw 54 (cellC G nd) ad p) := by
  refine jM.of (by decide) (Nat.le_of_ble_eq_true rfl) ?_
  intro K C
  unfold F_J7_rangeCheck_23922 at h
  show K 0 0 (jw 54 (cellC G nd) ad s) 0 [(0, .int v0), (1, .int v1), (2, .int v2)] []
  refine j_iload_n C dJ7_rangeCheck_23922_0 1 rfl ?_
  refine j_iload_n C dJ7_rangeCheck_23922_1 2 rfl ?_
  refine j_icmp_le C dJ7_rangeCheck_23922_2 (tgt := 46) (by decide) (fun cq => ?_) (fun cq => ?_)
  · have h := jite_t h cq
    refine j_iload_n C dJ7_rangeCheck_23922_46 1 rfl ?_
    refine j_if_ge C dJ7_rangeCheck_23922_47 (tgt := 59) (by decide) (fun cq => ?_) (fun cq => ?_)
    · have h := jite_t h cq
      refine j_iload_n C dJ7_rangeCheck_23922_59 2 rfl ?_
      refine j_iload_n C dJ7_rangeCheck_23922_60 0 rfl ?_
      refine j_icmp_le C dJ7_rangeCheck_23922_61 (tgt := 73) (by decide) (fun cq => ?_) (fun cq => ?_)
      · have h := jite_t h cq
        exact j_vret C dJ7_rangeCheck_23922_73 rfl (Nat.zero_le _) (Nat.zero_le _) (jretWV h)
      · have h := jite_f h cq
        exact absurd h (by simp)
    · have h := jite_f h cq
      exact absurd h (by simp)
  · have h := jite_f h cq
    exact absurd h (by simp)
-- J7_fill_fda19_36
def B_J7_fill_fda19_36_10 (n : Nat) (v2 : Int32) (v3 : Int32) (q : Int32 × jS) : Option ((Int32 × jS) ⊕ (Int32 × jS)) :=
  (if v2 ≤ q.1 then some (.inr (q.1, q.2)) else (if jin q.1 180 = true then (jl (upI q.2 36 (Int32.toNatClampNeg q.1) v3) fun s20_2 => some (.inl ((q.1 + 1), s20_2))) else none))
def F_J7_fill_fda19_36 (n : Nat) (v1 : Int32) (v2 : Int32) (v3 : Int32) (s : jS) : Option jS :=
  ((F_J7_rangeCheck_23922 180 v1 v2 s).bind fun p4 => ((lp (B_J7_fill_fda19_36_10 n v2 v3) n (v1, p4)).bind fun e10 => some e10.2))
def rm_J7_fill_fda19_36 : Room := { frames := 1, cells := 0, slots := 0, locals := 22 }
set_option maxHeartbeats 4000000 in
set_option maxRecDepth 100000 in
theorem m_J7_fill_fda19_36 {l : Launch} {D : va_G} {G : Nat → ClassId} {KV : jV} {ad : Nat → Nat} {nd : Nat} (n : Nat) (v1 : Int32) (v2 : Int32) (v3 : Int32) (s : jS) {p : jS} (h : F_J7_fill_fda19_36 n v1 v2 v3 s = some p) : jM l D G KV yJ7_fill_fda19 cJ7_fill_fda19 5 none rm_J7_fill_fda19_36 [.ref (ad 36), .int v1, .int v2, .int v3] (jw 54 (cellC G nd) ad s) 0 0 (fun v u => v = none ∧ u = jw 54 (cellC G nd) ad p) := by
  refine jM.of (by decide) (Nat.le_of_ble_eq_true rfl) ?_
  intro K C
  unfold F_J7_fill_fda19_36 at h
  have lo10 : ∀ (v2 : Int32) (v3 : Int32) (s : jS) (k : Nat) (q : Int32 × jS) (e : Int32 × jS), lp (B_J7_fill_fda19_36_10 n v2 v3) k q = some e → K 0 0 (jw 54 (cellC G nd) ad e.2) 27 [] [] → K 0 0 (jw 54 (cellC G nd) ad q.2) 10 [(0, .ref (ad 36)), (2, .int v2), (3, .int v3), (4, .int q.1)] [] := by
    intro v2 v3 s k q e he hE
    refine jlp (KH := fun q => K 0 0 (jw 54 (cellC G nd) ad q.2) 10 [(0, .ref (ad 36)), (2, .int v2), (3, .int v3), (4, .int q.1)] []) (KE := fun e => K 0 0 (jw 54 (cellC G nd) ad e.2) 27 [] []) ?_ k q e he hE
    intro q o hb hin hout
    unfold B_J7_fill_fda19_36_10 at hb
    show K 0 0 (jw 54 (cellC G nd) ad q.2) 10 [(0, .ref (ad 36)), (2, .int v2), (3, .int v3), (4, .int q.1)] []
    refine j_iload C dJ7_fill_fda19_10 3 rfl ?_
    refine j_iload_n C dJ7_fill_fda19_12 1 rfl ?_
    refine j_icmp_ge C dJ7_fill_fda19_13 (tgt := 27) (by decide) (fun cq => ?_) (fun cq => ?_)
    · have hb := jite_t hb cq
      refine j_loc C [] rfl ?_
      have hx := hout _ (jinr hb)
      exact hx
    · have hb := jite_f hb cq
      refine j_aload_n C dJ7_fill_fda19_16 0 rfl ?_
      refine j_iload C dJ7_fill_fda19_17 3 rfl ?_
      refine j_iload_n C dJ7_fill_fda19_19 2 rfl ?_
      obtain ⟨c20_1, hb⟩ := jchk hb
      refine j_iastW C dJ7_fill_fda19_20 (by decide) (fun _ => rfl) (jin_vp c20_1) (fun s20_2 hs20_2 => ?_)
      have hb := jlet hb hs20_2
      refine j_iinc C dJ7_fill_fda19_21 3 rfl (v := (q.1 + 1)) rfl (by decide) rfl ?_
      refine j_goto C dJ7_fill_fda19_24 (tgt := 10) (by decide) ?_
      refine j_loc C [1, 2, 3, 0] rfl ?_
      have hx := hin _ (jinl hb)
      exact hx
  show K 0 0 (jw 54 (cellC G nd) ad s) 0 [(0, .ref (ad 36)), (1, .int v1), (2, .int v2), (3, .int v3)] []
  refine j_aload_n C dJ7_fill_fda19_0 0 rfl ?_
  refine j_alenW C dJ7_fill_fda19_1 (by decide) rfl (by decide) (v := 180) rfl ?_
  refine j_iload_n C dJ7_fill_fda19_2 1 rfl ?_
  refine j_iload_n C dJ7_fill_fda19_3 2 rfl ?_
  obtain ⟨p4, he4, h⟩ := jbind h
  refine j_cS0 C dJ7_fill_fda19_4 (m_J7_rangeCheck_23922 180 v1 v2 s he4) kc_J7_rangeCheck_23922 w_791 w_792 w_17 jy_J7_rangeCheck_23922 ⟨⟨Nat.le_of_ble_eq_true rfl, Nat.le_of_ble_eq_true rfl⟩, ⟨rfl, rfl⟩, ⟨Nat.zero_le _, Nat.zero_le _⟩⟩ (Nat.le_of_ble_eq_true rfl) rfl (fun _ _ h => h) ?_
  refine j_iload_n C dJ7_fill_fda19_7 1 rfl ?_
  refine j_istore C dJ7_fill_fda19_8 (by decide) rfl ?_
  refine j_loc C [1, 3, 4, 0] rfl ?_
  obtain ⟨e10, he10, h⟩ := jbind h
  refine lo10 v2 v3 p4  n (v1, p4) e10 he10 ?_
  exact j_vret C dJ7_fill_fda19_27 rfl (Nat.zero_le _) (Nat.zero_le _) (jretWV h)
