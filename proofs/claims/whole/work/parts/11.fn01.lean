theorem dX4_nameSpelt_0 : decode cX4_nameSpelt 0 = .ok (.aload_n 0, 1) := by decide +kernel
theorem dX4_nameSpelt_1 : decode cX4_nameSpelt 1 = .ok (.ldc 83, 2) := by decide +kernel
theorem dX4_nameSpelt_3 : decode cX4_nameSpelt 3 = .ok (.invokevirtual 85, 3) := by decide +kernel
theorem dX4_nameSpelt_6 : decode cX4_nameSpelt 6 = .ok (.ifCond .eq 5, 3) := by decide +kernel
theorem dX4_nameSpelt_9 : decode cX4_nameSpelt 9 = .ok (.iconst 0, 1) := by decide +kernel
theorem dX4_nameSpelt_10 : decode cX4_nameSpelt 10 = .ok (.ireturn, 1) := by decide +kernel
theorem dX4_nameSpelt_11 : decode cX4_nameSpelt 11 = .ok (.aload_n 0, 1) := by decide +kernel
theorem dX4_nameSpelt_12 : decode cX4_nameSpelt 12 = .ok (.ldc 89, 2) := by decide +kernel
theorem dX4_nameSpelt_14 : decode cX4_nameSpelt 14 = .ok (.invokevirtual 85, 3) := by decide +kernel
theorem dX4_nameSpelt_17 : decode cX4_nameSpelt 17 = .ok (.ifCond .eq 5, 3) := by decide +kernel
theorem dX4_nameSpelt_20 : decode cX4_nameSpelt 20 = .ok (.iconst 1, 1) := by decide +kernel
theorem dX4_nameSpelt_21 : decode cX4_nameSpelt 21 = .ok (.ireturn, 1) := by decide +kernel
theorem dX4_nameSpelt_22 : decode cX4_nameSpelt 22 = .ok (.aload_n 0, 1) := by decide +kernel
theorem dX4_nameSpelt_23 : decode cX4_nameSpelt 23 = .ok (.ldc 91, 2) := by decide +kernel
theorem dX4_nameSpelt_25 : decode cX4_nameSpelt 25 = .ok (.invokevirtual 85, 3) := by decide +kernel
theorem dX4_nameSpelt_28 : decode cX4_nameSpelt 28 = .ok (.ifCond .eq 5, 3) := by decide +kernel
theorem dX4_nameSpelt_31 : decode cX4_nameSpelt 31 = .ok (.iconst 2, 1) := by decide +kernel
theorem dX4_nameSpelt_32 : decode cX4_nameSpelt 32 = .ok (.ireturn, 1) := by decide +kernel
theorem dX4_nameSpelt_33 : decode cX4_nameSpelt 33 = .ok (.aload_n 0, 1) := by decide +kernel
theorem dX4_nameSpelt_34 : decode cX4_nameSpelt 34 = .ok (.ldc 93, 2) := by decide +kernel
theorem dX4_nameSpelt_36 : decode cX4_nameSpelt 36 = .ok (.invokevirtual 85, 3) := by decide +kernel
theorem dX4_nameSpelt_39 : decode cX4_nameSpelt 39 = .ok (.ifCond .eq 5, 3) := by decide +kernel
theorem dX4_nameSpelt_42 : decode cX4_nameSpelt 42 = .ok (.iconst 3, 1) := by decide +kernel
theorem dX4_nameSpelt_43 : decode cX4_nameSpelt 43 = .ok (.ireturn, 1) := by decide +kernel
theorem dX4_nameSpelt_44 : decode cX4_nameSpelt 44 = .ok (.aload_n 0, 1) := by decide +kernel
theorem dX4_nameSpelt_45 : decode cX4_nameSpelt 45 = .ok (.ldc 95, 2) := by decide +kernel
theorem dX4_nameSpelt_47 : decode cX4_nameSpelt 47 = .ok (.invokevirtual 85, 3) := by decide +kernel
theorem dX4_nameSpelt_50 : decode cX4_nameSpelt 50 = .ok (.ifCond .eq 5, 3) := by decide +kernel
theorem dX4_nameSpelt_53 : decode cX4_nameSpelt 53 = .ok (.iconst 4, 1) := by decide +kernel
theorem dX4_nameSpelt_54 : decode cX4_nameSpelt 54 = .ok (.ireturn, 1) := by decide +kernel
theorem dX4_nameSpelt_55 : decode cX4_nameSpelt 55 = .ok (.aload_n 0, 1) := by decide +kernel
theorem dX4_nameSpelt_56 : decode cX4_nameSpelt 56 = .ok (.ldc 97, 2) := by decide +kernel
theorem dX4_nameSpelt_58 : decode cX4_nameSpelt 58 = .ok (.invokevirtual 85, 3) := by decide +kernel
theorem dX4_nameSpelt_61 : decode cX4_nameSpelt 61 = .ok (.ifCond .eq 5, 3) := by decide +kernel
theorem dX4_nameSpelt_64 : decode cX4_nameSpelt 64 = .ok (.iconst 5, 1) := by decide +kernel
theorem dX4_nameSpelt_65 : decode cX4_nameSpelt 65 = .ok (.ireturn, 1) := by decide +kernel
theorem dX4_nameSpelt_66 : decode cX4_nameSpelt 66 = .ok (.aload_n 0, 1) := by decide +kernel
theorem dX4_nameSpelt_67 : decode cX4_nameSpelt 67 = .ok (.ldc 99, 2) := by decide +kernel
theorem dX4_nameSpelt_69 : decode cX4_nameSpelt 69 = .ok (.invokevirtual 85, 3) := by decide +kernel
theorem dX4_nameSpelt_72 : decode cX4_nameSpelt 72 = .ok (.ifCond .eq 6, 3) := by decide +kernel
theorem dX4_nameSpelt_75 : decode cX4_nameSpelt 75 = .ok (.bipush 6, 2) := by decide +kernel
theorem dX4_nameSpelt_77 : decode cX4_nameSpelt 77 = .ok (.ireturn, 1) := by decide +kernel
theorem dX4_nameSpelt_78 : decode cX4_nameSpelt 78 = .ok (.aload_n 0, 1) := by decide +kernel
theorem dX4_nameSpelt_79 : decode cX4_nameSpelt 79 = .ok (.ldc 101, 2) := by decide +kernel
theorem dX4_nameSpelt_81 : decode cX4_nameSpelt 81 = .ok (.invokevirtual 85, 3) := by decide +kernel
theorem dX4_nameSpelt_84 : decode cX4_nameSpelt 84 = .ok (.ifCond .eq 8, 3) := by decide +kernel
theorem dX4_nameSpelt_87 : decode cX4_nameSpelt 87 = .ok (.bipush 7, 2) := by decide +kernel
theorem dX4_nameSpelt_89 : decode cX4_nameSpelt 89 = .ok (.goto 4, 3) := by decide +kernel
theorem dX4_nameSpelt_92 : decode cX4_nameSpelt 92 = .ok (.iconst (-1), 1) := by decide +kernel
theorem dX4_nameSpelt_93 : decode cX4_nameSpelt 93 = .ok (.ireturn, 1) := by decide +kernel
theorem dX4_wordSpelt_0 : decode cX4_wordSpelt 0 = .ok (.aload_n 0, 1) := by decide +kernel
theorem dX4_wordSpelt_1 : decode cX4_wordSpelt 1 = .ok (.ldc 103, 2) := by decide +kernel
theorem dX4_wordSpelt_3 : decode cX4_wordSpelt 3 = .ok (.invokevirtual 85, 3) := by decide +kernel
theorem dX4_wordSpelt_6 : decode cX4_wordSpelt 6 = .ok (.ifCond .eq 5, 3) := by decide +kernel
theorem dX4_wordSpelt_9 : decode cX4_wordSpelt 9 = .ok (.iconst 4, 1) := by decide +kernel
theorem dX4_wordSpelt_10 : decode cX4_wordSpelt 10 = .ok (.ireturn, 1) := by decide +kernel
theorem dX4_wordSpelt_11 : decode cX4_wordSpelt 11 = .ok (.aload_n 0, 1) := by decide +kernel
theorem dX4_wordSpelt_12 : decode cX4_wordSpelt 12 = .ok (.ldc 105, 2) := by decide +kernel
theorem dX4_wordSpelt_14 : decode cX4_wordSpelt 14 = .ok (.invokevirtual 85, 3) := by decide +kernel
theorem dX4_wordSpelt_17 : decode cX4_wordSpelt 17 = .ok (.ifCond .eq 5, 3) := by decide +kernel
theorem dX4_wordSpelt_20 : decode cX4_wordSpelt 20 = .ok (.iconst 5, 1) := by decide +kernel
theorem dX4_wordSpelt_21 : decode cX4_wordSpelt 21 = .ok (.ireturn, 1) := by decide +kernel
theorem dX4_wordSpelt_22 : decode cX4_wordSpelt 22 = .ok (.aload_n 0, 1) := by decide +kernel
theorem dX4_wordSpelt_23 : decode cX4_wordSpelt 23 = .ok (.ldc 107, 2) := by decide +kernel
theorem dX4_wordSpelt_25 : decode cX4_wordSpelt 25 = .ok (.invokevirtual 85, 3) := by decide +kernel
theorem dX4_wordSpelt_28 : decode cX4_wordSpelt 28 = .ok (.ifCond .eq 6, 3) := by decide +kernel
theorem dX4_wordSpelt_31 : decode cX4_wordSpelt 31 = .ok (.bipush 6, 2) := by decide +kernel
theorem dX4_wordSpelt_33 : decode cX4_wordSpelt 33 = .ok (.ireturn, 1) := by decide +kernel
theorem dX4_wordSpelt_34 : decode cX4_wordSpelt 34 = .ok (.aload_n 0, 1) := by decide +kernel
theorem dX4_wordSpelt_35 : decode cX4_wordSpelt 35 = .ok (.ldc 109, 2) := by decide +kernel
theorem dX4_wordSpelt_37 : decode cX4_wordSpelt 37 = .ok (.invokevirtual 85, 3) := by decide +kernel
theorem dX4_wordSpelt_40 : decode cX4_wordSpelt 40 = .ok (.ifCond .eq 6, 3) := by decide +kernel
theorem dX4_wordSpelt_43 : decode cX4_wordSpelt 43 = .ok (.bipush 7, 2) := by decide +kernel
theorem dX4_wordSpelt_45 : decode cX4_wordSpelt 45 = .ok (.ireturn, 1) := by decide +kernel
theorem dX4_wordSpelt_46 : decode cX4_wordSpelt 46 = .ok (.aload_n 0, 1) := by decide +kernel
theorem dX4_wordSpelt_47 : decode cX4_wordSpelt 47 = .ok (.ldc 111, 2) := by decide +kernel
theorem dX4_wordSpelt_49 : decode cX4_wordSpelt 49 = .ok (.invokevirtual 85, 3) := by decide +kernel
theorem dX4_wordSpelt_52 : decode cX4_wordSpelt 52 = .ok (.ifCond .eq 6, 3) := by decide +kernel
theorem dX4_wordSpelt_55 : decode cX4_wordSpelt 55 = .ok (.bipush 11, 2) := by decide +kernel
theorem dX4_wordSpelt_57 : decode cX4_wordSpelt 57 = .ok (.ireturn, 1) := by decide +kernel
theorem dX4_wordSpelt_58 : decode cX4_wordSpelt 58 = .ok (.aload_n 0, 1) := by decide +kernel
theorem dX4_wordSpelt_59 : decode cX4_wordSpelt 59 = .ok (.ldc 113, 2) := by decide +kernel
theorem dX4_wordSpelt_61 : decode cX4_wordSpelt 61 = .ok (.invokevirtual 85, 3) := by decide +kernel
theorem dX4_wordSpelt_64 : decode cX4_wordSpelt 64 = .ok (.ifCond .eq 6, 3) := by decide +kernel
theorem dX4_wordSpelt_67 : decode cX4_wordSpelt 67 = .ok (.bipush 12, 2) := by decide +kernel
theorem dX4_wordSpelt_69 : decode cX4_wordSpelt 69 = .ok (.ireturn, 1) := by decide +kernel
theorem dX4_wordSpelt_70 : decode cX4_wordSpelt 70 = .ok (.aload_n 0, 1) := by decide +kernel
theorem dX4_wordSpelt_71 : decode cX4_wordSpelt 71 = .ok (.ldc 115, 2) := by decide +kernel
theorem dX4_wordSpelt_73 : decode cX4_wordSpelt 73 = .ok (.invokevirtual 85, 3) := by decide +kernel
theorem dX4_wordSpelt_76 : decode cX4_wordSpelt 76 = .ok (.ifCond .eq 8, 3) := by decide +kernel
theorem dX4_wordSpelt_79 : decode cX4_wordSpelt 79 = .ok (.bipush 13, 2) := by decide +kernel
theorem dX4_wordSpelt_81 : decode cX4_wordSpelt 81 = .ok (.goto 4, 3) := by decide +kernel
theorem dX4_wordSpelt_84 : decode cX4_wordSpelt 84 = .ok (.iconst 0, 1) := by decide +kernel
theorem dX4_wordSpelt_85 : decode cX4_wordSpelt 85 = .ok (.ireturn, 1) := by decide +kernel
theorem dX4_readWord_0 : decode cX4_readWord 0 = .ok (.aload_n 0, 1) := by decide +kernel
theorem dX4_readWord_1 : decode cX4_readWord 1 = .ok (.getfield 30, 3) := by decide +kernel
theorem dX4_readWord_4 : decode cX4_readWord 4 = .ok (.istore_n 1, 1) := by decide +kernel
theorem dX4_readWord_5 : decode cX4_readWord 5 = .ok (.iload_n 1, 1) := by decide +kernel
theorem dX4_readWord_6 : decode cX4_readWord 6 = .ok (.aload_n 0, 1) := by decide +kernel
theorem dX4_readWord_7 : decode cX4_readWord 7 = .ok (.getfield 15, 3) := by decide +kernel
theorem dX4_readWord_10 : decode cX4_readWord 10 = .ok (.if_icmp .ge 20, 3) := by decide +kernel
theorem dX4_readWord_13 : decode cX4_readWord 13 = .ok (.aload_n 0, 1) := by decide +kernel
theorem dX4_readWord_14 : decode cX4_readWord 14 = .ok (.iload_n 1, 1) := by decide +kernel
theorem dX4_readWord_15 : decode cX4_readWord 15 = .ok (.invokevirtual 22, 3) := by decide +kernel
theorem dX4_readWord_18 : decode cX4_readWord 18 = .ok (.invokestatic 42, 3) := by decide +kernel
theorem dX4_readWord_21 : decode cX4_readWord 21 = .ok (.ifCond .eq 9, 3) := by decide +kernel
theorem dX4_readWord_24 : decode cX4_readWord 24 = .ok (.iinc 1 1, 3) := by decide +kernel
theorem dX4_readWord_27 : decode cX4_readWord 27 = .ok (.goto (-22), 3) := by decide +kernel
theorem dX4_readWord_30 : decode cX4_readWord 30 = .ok (.aload_n 0, 1) := by decide +kernel
theorem dX4_readWord_31 : decode cX4_readWord 31 = .ok (.iload_n 1, 1) := by decide +kernel
theorem dX4_readWord_32 : decode cX4_readWord 32 = .ok (.putfield 19, 3) := by decide +kernel
theorem dX4_readWord_35 : decode cX4_readWord 35 = .ok (.aload_n 0, 1) := by decide +kernel
theorem dX4_readWord_36 : decode cX4_readWord 36 = .ok (.aload_n 0, 1) := by decide +kernel
theorem dX4_readWord_37 : decode cX4_readWord 37 = .ok (.invokevirtual 68, 3) := by decide +kernel
theorem dX4_readWord_40 : decode cX4_readWord 40 = .ok (.putfield 65, 3) := by decide +kernel
theorem dX4_readWord_43 : decode cX4_readWord 43 = .ok (.aload_n 0, 1) := by decide +kernel
theorem dX4_readWord_44 : decode cX4_readWord 44 = .ok (.aload_n 0, 1) := by decide +kernel
theorem dX4_readWord_45 : decode cX4_readWord 45 = .ok (.getfield 65, 3) := by decide +kernel
theorem dX4_readWord_48 : decode cX4_readWord 48 = .ok (.iconst (-1), 1) := by decide +kernel
theorem dX4_readWord_49 : decode cX4_readWord 49 = .ok (.if_icmp .ne 10, 3) := by decide +kernel
theorem dX4_readWord_52 : decode cX4_readWord 52 = .ok (.aload_n 0, 1) := by decide +kernel
theorem dX4_readWord_53 : decode cX4_readWord 53 = .ok (.invokevirtual 72, 3) := by decide +kernel
theorem dX4_readWord_56 : decode cX4_readWord 56 = .ok (.goto 4, 3) := by decide +kernel
theorem dX4_readWord_59 : decode cX4_readWord 59 = .ok (.iconst 3, 1) := by decide +kernel
theorem dX4_readWord_60 : decode cX4_readWord 60 = .ok (.putfield 39, 3) := by decide +kernel
theorem dX4_readWord_63 : decode cX4_readWord 63 = .ok (.return_, 1) := by decide +kernel
theorem dX4_isDigit_0 : decode cX4_isDigit 0 = .ok (.iload_n 0, 1) := by decide +kernel
theorem dX4_isDigit_1 : decode cX4_isDigit 1 = .ok (.bipush 48, 2) := by decide +kernel
theorem dX4_isDigit_3 : decode cX4_isDigit 3 = .ok (.bipush 57, 2) := by decide +kernel
theorem dX4_isDigit_5 : decode cX4_isDigit 5 = .ok (.invokestatic 61, 3) := by decide +kernel
theorem dX4_isDigit_8 : decode cX4_isDigit 8 = .ok (.ireturn, 1) := by decide +kernel
theorem dX4_readNumber_0 : decode cX4_readNumber 0 = .ok (.aload_n 0, 1) := by decide +kernel
theorem dX4_readNumber_1 : decode cX4_readNumber 1 = .ok (.getfield 30, 3) := by decide +kernel
theorem dX4_readNumber_4 : decode cX4_readNumber 4 = .ok (.istore_n 1, 1) := by decide +kernel
theorem dX4_readNumber_5 : decode cX4_readNumber 5 = .ok (.iconst 0, 1) := by decide +kernel
theorem dX4_readNumber_6 : decode cX4_readNumber 6 = .ok (.istore_n 2, 1) := by decide +kernel
theorem dX4_readNumber_7 : decode cX4_readNumber 7 = .ok (.iload_n 1, 1) := by decide +kernel
theorem dX4_readNumber_8 : decode cX4_readNumber 8 = .ok (.aload_n 0, 1) := by decide +kernel
theorem dX4_readNumber_9 : decode cX4_readNumber 9 = .ok (.getfield 15, 3) := by decide +kernel
theorem dX4_readNumber_12 : decode cX4_readNumber 12 = .ok (.if_icmp .ge 40, 3) := by decide +kernel
theorem dX4_readNumber_15 : decode cX4_readNumber 15 = .ok (.aload_n 0, 1) := by decide +kernel
theorem dX4_readNumber_16 : decode cX4_readNumber 16 = .ok (.iload_n 1, 1) := by decide +kernel
theorem dX4_readNumber_17 : decode cX4_readNumber 17 = .ok (.invokevirtual 22, 3) := by decide +kernel
theorem dX4_readNumber_20 : decode cX4_readNumber 20 = .ok (.invokestatic 48, 3) := by decide +kernel
theorem dX4_readNumber_23 : decode cX4_readNumber 23 = .ok (.ifCond .eq 29, 3) := by decide +kernel
theorem dX4_readNumber_26 : decode cX4_readNumber 26 = .ok (.sipush 10000, 3) := by decide +kernel
theorem dX4_readNumber_29 : decode cX4_readNumber 29 = .ok (.iload_n 2, 1) := by decide +kernel
theorem dX4_readNumber_30 : decode cX4_readNumber 30 = .ok (.bipush 10, 2) := by decide +kernel
theorem dX4_readNumber_32 : decode cX4_readNumber 32 = .ok (.imul, 1) := by decide +kernel
theorem dX4_readNumber_33 : decode cX4_readNumber 33 = .ok (.aload_n 0, 1) := by decide +kernel
theorem dX4_readNumber_34 : decode cX4_readNumber 34 = .ok (.iload_n 1, 1) := by decide +kernel
theorem dX4_readNumber_35 : decode cX4_readNumber 35 = .ok (.invokevirtual 22, 3) := by decide +kernel
theorem dX4_readNumber_38 : decode cX4_readNumber 38 = .ok (.iadd, 1) := by decide +kernel
theorem dX4_readNumber_39 : decode cX4_readNumber 39 = .ok (.bipush 48, 2) := by decide +kernel
theorem dX4_readNumber_41 : decode cX4_readNumber 41 = .ok (.isub, 1) := by decide +kernel
theorem dX4_readNumber_42 : decode cX4_readNumber 42 = .ok (.invokestatic 33, 3) := by decide +kernel
theorem dX4_readNumber_45 : decode cX4_readNumber 45 = .ok (.istore_n 2, 1) := by decide +kernel
theorem dX4_readNumber_46 : decode cX4_readNumber 46 = .ok (.iinc 1 1, 3) := by decide +kernel
theorem dX4_readNumber_49 : decode cX4_readNumber 49 = .ok (.goto (-42), 3) := by decide +kernel
theorem dX4_readNumber_52 : decode cX4_readNumber 52 = .ok (.aload_n 0, 1) := by decide +kernel
theorem dX4_readNumber_53 : decode cX4_readNumber 53 = .ok (.iload_n 1, 1) := by decide +kernel
theorem dX4_readNumber_54 : decode cX4_readNumber 54 = .ok (.putfield 19, 3) := by decide +kernel
theorem dX4_readNumber_57 : decode cX4_readNumber 57 = .ok (.aload_n 0, 1) := by decide +kernel
theorem dX4_readNumber_58 : decode cX4_readNumber 58 = .ok (.iload_n 2, 1) := by decide +kernel
theorem dX4_readNumber_59 : decode cX4_readNumber 59 = .ok (.putfield 65, 3) := by decide +kernel
theorem dX4_readNumber_62 : decode cX4_readNumber 62 = .ok (.aload_n 0, 1) := by decide +kernel
theorem dX4_readNumber_63 : decode cX4_readNumber 63 = .ok (.iconst 2, 1) := by decide +kernel
theorem dX4_readNumber_64 : decode cX4_readNumber 64 = .ok (.putfield 39, 3) := by decide +kernel
theorem dX4_readNumber_67 : decode cX4_readNumber 67 = .ok (.return_, 1) := by decide +kernel
theorem dX4_signAt_0 : decode cX4_signAt 0 = .ok (.iload_n 0, 1) := by decide +kernel
theorem dX4_signAt_1 : decode cX4_signAt 1 = .ok (.tableswitch 178 35 62 #[154, 178, 178, 178, 178, 169, 172, 163, 157, 178, 160, 178, 166, 178, 178, 178, 178, 178, 178, 178, 178, 178, 178, 178, 175, 127, 151, 139], 127) := by decide +kernel
theorem dX4_signAt_128 : decode cX4_signAt 128 = .ok (.iload_n 1, 1) := by decide +kernel
theorem dX4_signAt_129 : decode cX4_signAt 129 = .ok (.ifCond .eq 8, 3) := by decide +kernel
theorem dX4_signAt_132 : decode cX4_signAt 132 = .ok (.bipush 15, 2) := by decide +kernel
theorem dX4_signAt_134 : decode cX4_signAt 134 = .ok (.goto 5, 3) := by decide +kernel
theorem dX4_signAt_137 : decode cX4_signAt 137 = .ok (.bipush 14, 2) := by decide +kernel
theorem dX4_signAt_139 : decode cX4_signAt 139 = .ok (.ireturn, 1) := by decide +kernel
theorem dX4_signAt_140 : decode cX4_signAt 140 = .ok (.iload_n 1, 1) := by decide +kernel
theorem dX4_signAt_141 : decode cX4_signAt 141 = .ok (.ifCond .eq 8, 3) := by decide +kernel
theorem dX4_signAt_144 : decode cX4_signAt 144 = .ok (.bipush 17, 2) := by decide +kernel
theorem dX4_signAt_146 : decode cX4_signAt 146 = .ok (.goto 5, 3) := by decide +kernel
theorem dX4_signAt_149 : decode cX4_signAt 149 = .ok (.bipush 16, 2) := by decide +kernel
theorem dX4_signAt_151 : decode cX4_signAt 151 = .ok (.ireturn, 1) := by decide +kernel
theorem dX4_signAt_152 : decode cX4_signAt 152 = .ok (.bipush 18, 2) := by decide +kernel
theorem dX4_signAt_154 : decode cX4_signAt 154 = .ok (.ireturn, 1) := by decide +kernel
theorem dX4_signAt_155 : decode cX4_signAt 155 = .ok (.bipush 19, 2) := by decide +kernel
theorem dX4_signAt_157 : decode cX4_signAt 157 = .ok (.ireturn, 1) := by decide +kernel
theorem dX4_signAt_158 : decode cX4_signAt 158 = .ok (.bipush 20, 2) := by decide +kernel
theorem dX4_signAt_160 : decode cX4_signAt 160 = .ok (.ireturn, 1) := by decide +kernel
theorem dX4_signAt_161 : decode cX4_signAt 161 = .ok (.bipush 21, 2) := by decide +kernel
theorem dX4_signAt_163 : decode cX4_signAt 163 = .ok (.ireturn, 1) := by decide +kernel
theorem dX4_signAt_164 : decode cX4_signAt 164 = .ok (.bipush 22, 2) := by decide +kernel
theorem dX4_signAt_166 : decode cX4_signAt 166 = .ok (.ireturn, 1) := by decide +kernel
theorem dX4_signAt_167 : decode cX4_signAt 167 = .ok (.bipush 23, 2) := by decide +kernel
theorem dX4_signAt_169 : decode cX4_signAt 169 = .ok (.ireturn, 1) := by decide +kernel
theorem dX4_signAt_170 : decode cX4_signAt 170 = .ok (.bipush 9, 2) := by decide +kernel
theorem dX4_signAt_172 : decode cX4_signAt 172 = .ok (.ireturn, 1) := by decide +kernel
theorem dX4_signAt_173 : decode cX4_signAt 173 = .ok (.bipush 10, 2) := by decide +kernel
theorem dX4_signAt_175 : decode cX4_signAt 175 = .ok (.ireturn, 1) := by decide +kernel
theorem dX4_signAt_176 : decode cX4_signAt 176 = .ok (.bipush 8, 2) := by decide +kernel
theorem dX4_signAt_178 : decode cX4_signAt 178 = .ok (.ireturn, 1) := by decide +kernel
theorem dX4_signAt_179 : decode cX4_signAt 179 = .ok (.iconst 0, 1) := by decide +kernel
theorem dX4_signAt_180 : decode cX4_signAt 180 = .ok (.ireturn, 1) := by decide +kernel
theorem dX4_isTwoSigned_0 : decode cX4_isTwoSigned 0 = .ok (.iload_n 0, 1) := by decide +kernel
theorem dX4_isTwoSigned_1 : decode cX4_isTwoSigned 1 = .ok (.bipush 15, 2) := by decide +kernel
theorem dX4_isTwoSigned_3 : decode cX4_isTwoSigned 3 = .ok (.if_icmp .eq 9, 3) := by decide +kernel
theorem dX4_isTwoSigned_6 : decode cX4_isTwoSigned 6 = .ok (.iload_n 0, 1) := by decide +kernel
theorem dX4_isTwoSigned_7 : decode cX4_isTwoSigned 7 = .ok (.bipush 17, 2) := by decide +kernel
theorem dX4_isTwoSigned_9 : decode cX4_isTwoSigned 9 = .ok (.if_icmp .ne 7, 3) := by decide +kernel
theorem dX4_isTwoSigned_12 : decode cX4_isTwoSigned 12 = .ok (.iconst 1, 1) := by decide +kernel
theorem dX4_isTwoSigned_13 : decode cX4_isTwoSigned 13 = .ok (.goto 4, 3) := by decide +kernel
theorem dX4_isTwoSigned_16 : decode cX4_isTwoSigned 16 = .ok (.iconst 0, 1) := by decide +kernel
theorem dX4_isTwoSigned_17 : decode cX4_isTwoSigned 17 = .ok (.ireturn, 1) := by decide +kernel
theorem dX4_nextToken_0 : decode cX4_nextToken 0 = .ok (.aload_n 0, 1) := by decide +kernel
theorem dX4_nextToken_1 : decode cX4_nextToken 1 = .ok (.getfield 19, 3) := by decide +kernel
theorem dX4_nextToken_4 : decode cX4_nextToken 4 = .ok (.istore_n 1, 1) := by decide +kernel
theorem dX4_nextToken_5 : decode cX4_nextToken 5 = .ok (.iload_n 1, 1) := by decide +kernel
theorem dX4_nextToken_6 : decode cX4_nextToken 6 = .ok (.aload_n 0, 1) := by decide +kernel
theorem dX4_nextToken_7 : decode cX4_nextToken 7 = .ok (.getfield 15, 3) := by decide +kernel
theorem dX4_nextToken_10 : decode cX4_nextToken 10 = .ok (.if_icmp .ge 20, 3) := by decide +kernel
theorem dX4_nextToken_13 : decode cX4_nextToken 13 = .ok (.aload_n 0, 1) := by decide +kernel
theorem dX4_nextToken_14 : decode cX4_nextToken 14 = .ok (.iload_n 1, 1) := by decide +kernel
theorem dX4_nextToken_15 : decode cX4_nextToken 15 = .ok (.invokevirtual 22, 3) := by decide +kernel
theorem dX4_nextToken_18 : decode cX4_nextToken 18 = .ok (.invokestatic 26, 3) := by decide +kernel
theorem dX4_nextToken_21 : decode cX4_nextToken 21 = .ok (.ifCond .eq 9, 3) := by decide +kernel
theorem dX4_nextToken_24 : decode cX4_nextToken 24 = .ok (.iinc 1 1, 3) := by decide +kernel
theorem dX4_nextToken_27 : decode cX4_nextToken 27 = .ok (.goto (-22), 3) := by decide +kernel
theorem dX4_nextToken_30 : decode cX4_nextToken 30 = .ok (.aload_n 0, 1) := by decide +kernel
theorem dX4_nextToken_31 : decode cX4_nextToken 31 = .ok (.iload_n 1, 1) := by decide +kernel
theorem dX4_nextToken_32 : decode cX4_nextToken 32 = .ok (.putfield 30, 3) := by decide +kernel
theorem dX4_nextToken_35 : decode cX4_nextToken 35 = .ok (.aload_n 0, 1) := by decide +kernel
theorem dX4_nextToken_36 : decode cX4_nextToken 36 = .ok (.aload_n 0, 1) := by decide +kernel
theorem dX4_nextToken_37 : decode cX4_nextToken 37 = .ok (.getfield 15, 3) := by decide +kernel
theorem dX4_nextToken_40 : decode cX4_nextToken 40 = .ok (.iload_n 1, 1) := by decide +kernel
theorem dX4_nextToken_41 : decode cX4_nextToken 41 = .ok (.iconst 1, 1) := by decide +kernel
theorem dX4_nextToken_42 : decode cX4_nextToken 42 = .ok (.iadd, 1) := by decide +kernel
theorem dX4_nextToken_43 : decode cX4_nextToken 43 = .ok (.invokestatic 33, 3) := by decide +kernel
theorem dX4_nextToken_46 : decode cX4_nextToken 46 = .ok (.putfield 19, 3) := by decide +kernel
theorem dX4_nextToken_49 : decode cX4_nextToken 49 = .ok (.aload_n 0, 1) := by decide +kernel
theorem dX4_nextToken_50 : decode cX4_nextToken 50 = .ok (.aload_n 0, 1) := by decide +kernel
theorem dX4_nextToken_51 : decode cX4_nextToken 51 = .ok (.getfield 30, 3) := by decide +kernel
theorem dX4_nextToken_54 : decode cX4_nextToken 54 = .ok (.invokevirtual 22, 3) := by decide +kernel
theorem dX4_nextToken_57 : decode cX4_nextToken 57 = .ok (.istore_n 2, 1) := by decide +kernel
theorem dX4_nextToken_58 : decode cX4_nextToken 58 = .ok (.iload_n 2, 1) := by decide +kernel
theorem dX4_nextToken_59 : decode cX4_nextToken 59 = .ok (.ifCond .ge 11, 3) := by decide +kernel
theorem dX4_nextToken_62 : decode cX4_nextToken 62 = .ok (.aload_n 0, 1) := by decide +kernel
theorem dX4_nextToken_63 : decode cX4_nextToken 63 = .ok (.iconst 1, 1) := by decide +kernel
theorem dX4_nextToken_64 : decode cX4_nextToken 64 = .ok (.putfield 39, 3) := by decide +kernel
theorem dX4_nextToken_67 : decode cX4_nextToken 67 = .ok (.goto 81, 3) := by decide +kernel
theorem dX4_nextToken_70 : decode cX4_nextToken 70 = .ok (.iload_n 2, 1) := by decide +kernel
theorem dX4_nextToken_71 : decode cX4_nextToken 71 = .ok (.invokestatic 42, 3) := by decide +kernel
theorem dX4_nextToken_74 : decode cX4_nextToken 74 = .ok (.ifCond .eq 10, 3) := by decide +kernel
theorem dX4_nextToken_77 : decode cX4_nextToken 77 = .ok (.aload_n 0, 1) := by decide +kernel
theorem dX4_nextToken_78 : decode cX4_nextToken 78 = .ok (.invokevirtual 45, 3) := by decide +kernel
theorem dX4_nextToken_81 : decode cX4_nextToken 81 = .ok (.goto 67, 3) := by decide +kernel
theorem dX4_nextToken_84 : decode cX4_nextToken 84 = .ok (.iload_n 2, 1) := by decide +kernel
theorem dX4_nextToken_85 : decode cX4_nextToken 85 = .ok (.invokestatic 48, 3) := by decide +kernel
theorem dX4_nextToken_88 : decode cX4_nextToken 88 = .ok (.ifCond .eq 10, 3) := by decide +kernel
theorem dX4_nextToken_91 : decode cX4_nextToken 91 = .ok (.aload_n 0, 1) := by decide +kernel
theorem dX4_nextToken_92 : decode cX4_nextToken 92 = .ok (.invokevirtual 51, 3) := by decide +kernel
theorem dX4_nextToken_95 : decode cX4_nextToken 95 = .ok (.goto 53, 3) := by decide +kernel
theorem dX4_nextToken_98 : decode cX4_nextToken 98 = .ok (.aload_n 0, 1) := by decide +kernel
theorem dX4_nextToken_99 : decode cX4_nextToken 99 = .ok (.iload_n 2, 1) := by decide +kernel
theorem dX4_nextToken_100 : decode cX4_nextToken 100 = .ok (.aload_n 0, 1) := by decide +kernel
theorem dX4_nextToken_101 : decode cX4_nextToken 101 = .ok (.aload_n 0, 1) := by decide +kernel
theorem dX4_nextToken_102 : decode cX4_nextToken 102 = .ok (.getfield 19, 3) := by decide +kernel
theorem dX4_nextToken_105 : decode cX4_nextToken 105 = .ok (.invokevirtual 22, 3) := by decide +kernel
theorem dX4_nextToken_108 : decode cX4_nextToken 108 = .ok (.bipush 61, 2) := by decide +kernel
theorem dX4_nextToken_110 : decode cX4_nextToken 110 = .ok (.if_icmp .ne 7, 3) := by decide +kernel
theorem dX4_nextToken_113 : decode cX4_nextToken 113 = .ok (.iconst 1, 1) := by decide +kernel
theorem dX4_nextToken_114 : decode cX4_nextToken 114 = .ok (.goto 4, 3) := by decide +kernel
theorem dX4_nextToken_117 : decode cX4_nextToken 117 = .ok (.iconst 0, 1) := by decide +kernel
theorem dX4_nextToken_118 : decode cX4_nextToken 118 = .ok (.invokestatic 54, 3) := by decide +kernel
theorem dX4_nextToken_121 : decode cX4_nextToken 121 = .ok (.putfield 39, 3) := by decide +kernel
theorem dX4_nextToken_124 : decode cX4_nextToken 124 = .ok (.aload_n 0, 1) := by decide +kernel
theorem dX4_nextToken_125 : decode cX4_nextToken 125 = .ok (.dup, 1) := by decide +kernel
theorem dX4_nextToken_126 : decode cX4_nextToken 126 = .ok (.getfield 19, 3) := by decide +kernel
theorem dX4_nextToken_129 : decode cX4_nextToken 129 = .ok (.aload_n 0, 1) := by decide +kernel
theorem dX4_nextToken_130 : decode cX4_nextToken 130 = .ok (.getfield 39, 3) := by decide +kernel
theorem dX4_nextToken_133 : decode cX4_nextToken 133 = .ok (.invokestatic 58, 3) := by decide +kernel
theorem dX4_nextToken_136 : decode cX4_nextToken 136 = .ok (.ifCond .eq 7, 3) := by decide +kernel
theorem dX4_nextToken_139 : decode cX4_nextToken 139 = .ok (.iconst 1, 1) := by decide +kernel
theorem dX4_nextToken_140 : decode cX4_nextToken 140 = .ok (.goto 4, 3) := by decide +kernel
theorem dX4_nextToken_143 : decode cX4_nextToken 143 = .ok (.iconst 0, 1) := by decide +kernel
theorem dX4_nextToken_144 : decode cX4_nextToken 144 = .ok (.iadd, 1) := by decide +kernel
theorem dX4_nextToken_145 : decode cX4_nextToken 145 = .ok (.putfield 19, 3) := by decide +kernel
theorem dX4_nextToken_148 : decode cX4_nextToken 148 = .ok (.return_, 1) := by decide +kernel
theorem dX1_refuse_0 : decode cX1_refuse 0 = .ok (.aload_n 0, 1) := by decide +kernel
theorem dX1_refuse_1 : decode cX1_refuse 1 = .ok (.iload_n 1, 1) := by decide +kernel
theorem dX1_refuse_2 : decode cX1_refuse 2 = .ok (.putfield 9, 3) := by decide +kernel
theorem dX1_refuse_5 : decode cX1_refuse 5 = .ok (.aload_n 0, 1) := by decide +kernel
theorem dX1_refuse_6 : decode cX1_refuse 6 = .ok (.aload_n 0, 1) := by decide +kernel
theorem dX1_refuse_7 : decode cX1_refuse 7 = .ok (.getfield 22, 3) := by decide +kernel
theorem dX1_refuse_10 : decode cX1_refuse 10 = .ok (.getfield 53, 3) := by decide +kernel
theorem dX1_refuse_13 : decode cX1_refuse 13 = .ok (.putfield 15, 3) := by decide +kernel
theorem dX1_refuse_16 : decode cX1_refuse 16 = .ok (.return_, 1) := by decide +kernel
-- X4_nameSpelt
def F_X4_nameSpelt (n : Nat) (s : jS) : Option Int32 :=
  ((F_X4_spells n 0 s).bind fun p3 => (if p3 = true then some 0 else ((F_X4_spells n 1 s).bind fun p14 => (if p14 = true then some 1 else ((F_X4_spells n 2 s).bind fun p25 => (if p25 = true then some 2 else ((F_X4_spells n 3 s).bind fun p36 => (if p36 = true then some 3 else ((F_X4_spells n 4 s).bind fun p47 => (if p47 = true then some 4 else ((F_X4_spells n 5 s).bind fun p58 => (if p58 = true then some 5 else ((F_X4_spells n 6 s).bind fun p69 => (if p69 = true then some 6 else ((F_X4_spells n 7 s).bind fun p81 => (if p81 = true then some 7 else some (-1)))))))))))))))))
def rm_X4_nameSpelt : Room := { frames := 8, cells := 0, slots := 0, locals := 222 }
set_option maxHeartbeats 4000000 in
set_option maxRecDepth 100000 in
theorem m_X4_nameSpelt {l : Launch} {D : va_G} {G : Nat → ClassId} {KV : jV} {ad : Nat → Nat} {nd : Nat} (n : Nat) (s : jS) {p : Int32} (h : F_X4_nameSpelt n s = some p) : jM l D G KV yX4_nameSpelt cX4_nameSpelt 1 (some .int) rm_X4_nameSpelt [.ref (ad 27)] (jw 54 (cellC G nd) ad s) 0 0 (fun v u => v = some (.int p) ∧ u = jw 54 (cellC G nd) ad s) := by
  refine jM.of (by decide) (Nat.le_of_ble_eq_true rfl) ?_
  intro K C
  unfold F_X4_nameSpelt at h
  show K 0 0 (jw 54 (cellC G nd) ad s) 0 [(0, .ref (ad 27))] []
  refine j_aload_n C dX4_nameSpelt_0 0 rfl ?_
  refine j_ldcS C dX4_nameSpelt_1 (i := 0) (by decide) rfl rfl ?_
  obtain ⟨p3, he3, h⟩ := jbind h
  refine j_cV1 C dX4_nameSpelt_3 (m_X4_spells n 0 s (by decide) he3) kc_X4_spells w_461 w_463 wp_5 w_6 jy_X4_spells ⟨⟨Nat.le_of_ble_eq_true rfl, Nat.le_of_ble_eq_true rfl⟩, ⟨rfl, rfl⟩, ⟨Nat.zero_le _, Nat.zero_le _⟩⟩ (Nat.le_of_ble_eq_true rfl) (by decide) rfl (r := (RX4, TX4, 6)) rfl rfl rfl (fun _ _ h => h) ?_
  refine j_if_eq C dX4_nameSpelt_6 (tgt := 11) (by decide) (fun cq => ?_) (fun cq => ?_)
  · have h := jite_f h (jb_f cq)
    refine j_aload_n C dX4_nameSpelt_11 0 rfl ?_
    refine j_ldcS C dX4_nameSpelt_12 (i := 1) (by decide) rfl rfl ?_
    obtain ⟨p14, he14, h⟩ := jbind h
    refine j_cV1 C dX4_nameSpelt_14 (m_X4_spells n 1 s (by decide) he14) kc_X4_spells w_461 w_463 wp_5 w_6 jy_X4_spells ⟨⟨Nat.le_of_ble_eq_true rfl, Nat.le_of_ble_eq_true rfl⟩, ⟨rfl, rfl⟩, ⟨Nat.zero_le _, Nat.zero_le _⟩⟩ (Nat.le_of_ble_eq_true rfl) (by decide) rfl (r := (RX4, TX4, 6)) rfl rfl rfl (fun _ _ h => h) ?_
    refine j_if_eq C dX4_nameSpelt_17 (tgt := 22) (by decide) (fun cq => ?_) (fun cq => ?_)
    · have h := jite_f h (jb_f cq)
      refine j_aload_n C dX4_nameSpelt_22 0 rfl ?_
      refine j_ldcS C dX4_nameSpelt_23 (i := 2) (by decide) rfl rfl ?_
      obtain ⟨p25, he25, h⟩ := jbind h
      refine j_cV1 C dX4_nameSpelt_25 (m_X4_spells n 2 s (by decide) he25) kc_X4_spells w_461 w_463 wp_5 w_6 jy_X4_spells ⟨⟨Nat.le_of_ble_eq_true rfl, Nat.le_of_ble_eq_true rfl⟩, ⟨rfl, rfl⟩, ⟨Nat.zero_le _, Nat.zero_le _⟩⟩ (Nat.le_of_ble_eq_true rfl) (by decide) rfl (r := (RX4, TX4, 6)) rfl rfl rfl (fun _ _ h => h) ?_
      refine j_if_eq C dX4_nameSpelt_28 (tgt := 33) (by decide) (fun cq => ?_) (fun cq => ?_)
      · have h := jite_f h (jb_f cq)
        refine j_aload_n C dX4_nameSpelt_33 0 rfl ?_
        refine j_ldcS C dX4_nameSpelt_34 (i := 3) (by decide) rfl rfl ?_
        obtain ⟨p36, he36, h⟩ := jbind h
        refine j_cV1 C dX4_nameSpelt_36 (m_X4_spells n 3 s (by decide) he36) kc_X4_spells w_461 w_463 wp_5 w_6 jy_X4_spells ⟨⟨Nat.le_of_ble_eq_true rfl, Nat.le_of_ble_eq_true rfl⟩, ⟨rfl, rfl⟩, ⟨Nat.zero_le _, Nat.zero_le _⟩⟩ (Nat.le_of_ble_eq_true rfl) (by decide) rfl (r := (RX4, TX4, 6)) rfl rfl rfl (fun _ _ h => h) ?_
        refine j_if_eq C dX4_nameSpelt_39 (tgt := 44) (by decide) (fun cq => ?_) (fun cq => ?_)
        · have h := jite_f h (jb_f cq)
          refine j_aload_n C dX4_nameSpelt_44 0 rfl ?_
          refine j_ldcS C dX4_nameSpelt_45 (i := 4) (by decide) rfl rfl ?_
          obtain ⟨p47, he47, h⟩ := jbind h
          refine j_cV1 C dX4_nameSpelt_47 (m_X4_spells n 4 s (by decide) he47) kc_X4_spells w_461 w_463 wp_5 w_6 jy_X4_spells ⟨⟨Nat.le_of_ble_eq_true rfl, Nat.le_of_ble_eq_true rfl⟩, ⟨rfl, rfl⟩, ⟨Nat.zero_le _, Nat.zero_le _⟩⟩ (Nat.le_of_ble_eq_true rfl) (by decide) rfl (r := (RX4, TX4, 6)) rfl rfl rfl (fun _ _ h => h) ?_
          refine j_if_eq C dX4_nameSpelt_50 (tgt := 55) (by decide) (fun cq => ?_) (fun cq => ?_)
          · have h := jite_f h (jb_f cq)
            refine j_aload_n C dX4_nameSpelt_55 0 rfl ?_
            refine j_ldcS C dX4_nameSpelt_56 (i := 5) (by decide) rfl rfl ?_
            obtain ⟨p58, he58, h⟩ := jbind h
            refine j_cV1 C dX4_nameSpelt_58 (m_X4_spells n 5 s (by decide) he58) kc_X4_spells w_461 w_463 wp_5 w_6 jy_X4_spells ⟨⟨Nat.le_of_ble_eq_true rfl, Nat.le_of_ble_eq_true rfl⟩, ⟨rfl, rfl⟩, ⟨Nat.zero_le _, Nat.zero_le _⟩⟩ (Nat.le_of_ble_eq_true rfl) (by decide) rfl (r := (RX4, TX4, 6)) rfl rfl rfl (fun _ _ h => h) ?_
            refine j_if_eq C dX4_nameSpelt_61 (tgt := 66) (by decide) (fun cq => ?_) (fun cq => ?_)
            · have h := jite_f h (jb_f cq)
              refine j_aload_n C dX4_nameSpelt_66 0 rfl ?_
              refine j_ldcS C dX4_nameSpelt_67 (i := 6) (by decide) rfl rfl ?_
              obtain ⟨p69, he69, h⟩ := jbind h
              refine j_cV1 C dX4_nameSpelt_69 (m_X4_spells n 6 s (by decide) he69) kc_X4_spells w_461 w_463 wp_5 w_6 jy_X4_spells ⟨⟨Nat.le_of_ble_eq_true rfl, Nat.le_of_ble_eq_true rfl⟩, ⟨rfl, rfl⟩, ⟨Nat.zero_le _, Nat.zero_le _⟩⟩ (Nat.le_of_ble_eq_true rfl) (by decide) rfl (r := (RX4, TX4, 6)) rfl rfl rfl (fun _ _ h => h) ?_
              refine j_if_eq C dX4_nameSpelt_72 (tgt := 78) (by decide) (fun cq => ?_) (fun cq => ?_)
              · have h := jite_f h (jb_f cq)
                refine j_aload_n C dX4_nameSpelt_78 0 rfl ?_
                refine j_ldcS C dX4_nameSpelt_79 (i := 7) (by decide) rfl rfl ?_
                obtain ⟨p81, he81, h⟩ := jbind h
                refine j_cV1 C dX4_nameSpelt_81 (m_X4_spells n 7 s (by decide) he81) kc_X4_spells w_461 w_463 wp_5 w_6 jy_X4_spells ⟨⟨Nat.le_of_ble_eq_true rfl, Nat.le_of_ble_eq_true rfl⟩, ⟨rfl, rfl⟩, ⟨Nat.zero_le _, Nat.zero_le _⟩⟩ (Nat.le_of_ble_eq_true rfl) (by decide) rfl (r := (RX4, TX4, 6)) rfl rfl rfl (fun _ _ h => h) ?_
                refine j_if_eq C dX4_nameSpelt_84 (tgt := 92) (by decide) (fun cq => ?_) (fun cq => ?_)
                · have h := jite_f h (jb_f cq)
                  refine j_iconst C dX4_nameSpelt_92 (v := (-1)) (by decide) ?_
                  exact j_iret C dX4_nameSpelt_93 rfl rfl (Nat.zero_le _) (Nat.zero_le _) (jretPI h)
                · have h := jite_t h (jb_t cq)
                  refine j_bipush C dX4_nameSpelt_87 (v := 7) (by decide) ?_
                  refine j_goto C dX4_nameSpelt_89 (tgt := 93) (by decide) ?_
                  exact j_iret C dX4_nameSpelt_93 rfl rfl (Nat.zero_le _) (Nat.zero_le _) (jretPI h)
              · have h := jite_t h (jb_t cq)
                refine j_bipush C dX4_nameSpelt_75 (v := 6) (by decide) ?_
                exact j_iret C dX4_nameSpelt_77 rfl rfl (Nat.zero_le _) (Nat.zero_le _) (jretPI h)
            · have h := jite_t h (jb_t cq)
              refine j_iconst C dX4_nameSpelt_64 (v := 5) (by decide) ?_
              exact j_iret C dX4_nameSpelt_65 rfl rfl (Nat.zero_le _) (Nat.zero_le _) (jretPI h)
          · have h := jite_t h (jb_t cq)
            refine j_iconst C dX4_nameSpelt_53 (v := 4) (by decide) ?_
            exact j_iret C dX4_nameSpelt_54 rfl rfl (Nat.zero_le _) (Nat.zero_le _) (jretPI h)
        · have h := jite_t h (jb_t cq)
          refine j_iconst C dX4_nameSpelt_42 (v := 3) (by decide) ?_
          exact j_iret C dX4_nameSpelt_43 rfl rfl (Nat.zero_le _) (Nat.zero_le _) (jretPI h)
      · have h := jite_t h (jb_t cq)
        refine j_iconst C dX4_nameSpelt_31 (v := 2) (by decide) ?_
        exact j_iret C dX4_nameSpelt_32 rfl rfl (Nat.zero_le _) (Nat.zero_le _) (jretPI h)
    · have h := jite_t h (jb_t cq)
      refine j_iconst C dX4_nameSpelt_20 (v := 1) (by decide) ?_
      exact j_iret C dX4_nameSpelt_21 rfl rfl (Nat.zero_le _) (Nat.zero_le _) (jretPI h)
  · have h := jite_t h (jb_t cq)
    refine j_iconst C dX4_nameSpelt_9 (v := 0) (by decide) ?_
    exact j_iret C dX4_nameSpelt_10 rfl rfl (Nat.zero_le _) (Nat.zero_le _) (jretPI h)
-- X4_wordSpelt
def F_X4_wordSpelt (n : Nat) (s : jS) : Option Int32 :=
  ((F_X4_spells n 8 s).bind fun p3 => (if p3 = true then some 4 else ((F_X4_spells n 9 s).bind fun p14 => (if p14 = true then some 5 else ((F_X4_spells n 10 s).bind fun p25 => (if p25 = true then some 6 else ((F_X4_spells n 11 s).bind fun p37 => (if p37 = true then some 7 else ((F_X4_spells n 12 s).bind fun p49 => (if p49 = true then some 11 else ((F_X4_spells n 13 s).bind fun p61 => (if p61 = true then some 12 else ((F_X4_spells n 14 s).bind fun p73 => (if p73 = true then some 13 else some 0))))))))))))))
def rm_X4_wordSpelt : Room := { frames := 8, cells := 0, slots := 0, locals := 222 }
set_option maxHeartbeats 4000000 in
set_option maxRecDepth 100000 in
theorem m_X4_wordSpelt {l : Launch} {D : va_G} {G : Nat → ClassId} {KV : jV} {ad : Nat → Nat} {nd : Nat} (n : Nat) (s : jS) {p : Int32} (h : F_X4_wordSpelt n s = some p) : jM l D G KV yX4_wordSpelt cX4_wordSpelt 1 (some .int) rm_X4_wordSpelt [.ref (ad 27)] (jw 54 (cellC G nd) ad s) 0 0 (fun v u => v = some (.int p) ∧ u = jw 54 (cellC G nd) ad s) := by
  refine jM.of (by decide) (Nat.le_of_ble_eq_true rfl) ?_
  intro K C
  unfold F_X4_wordSpelt at h
  show K 0 0 (jw 54 (cellC G nd) ad s) 0 [(0, .ref (ad 27))] []
  refine j_aload_n C dX4_wordSpelt_0 0 rfl ?_
  refine j_ldcS C dX4_wordSpelt_1 (i := 8) (by decide) rfl rfl ?_
  obtain ⟨p3, he3, h⟩ := jbind h
  refine j_cV1 C dX4_wordSpelt_3 (m_X4_spells n 8 s (by decide) he3) kc_X4_spells w_461 w_463 wp_5 w_6 jy_X4_spells ⟨⟨Nat.le_of_ble_eq_true rfl, Nat.le_of_ble_eq_true rfl⟩, ⟨rfl, rfl⟩, ⟨Nat.zero_le _, Nat.zero_le _⟩⟩ (Nat.le_of_ble_eq_true rfl) (by decide) rfl (r := (RX4, TX4, 6)) rfl rfl rfl (fun _ _ h => h) ?_
  refine j_if_eq C dX4_wordSpelt_6 (tgt := 11) (by decide) (fun cq => ?_) (fun cq => ?_)
  · have h := jite_f h (jb_f cq)
    refine j_aload_n C dX4_wordSpelt_11 0 rfl ?_
    refine j_ldcS C dX4_wordSpelt_12 (i := 9) (by decide) rfl rfl ?_
    obtain ⟨p14, he14, h⟩ := jbind h
    refine j_cV1 C dX4_wordSpelt_14 (m_X4_spells n 9 s (by decide) he14) kc_X4_spells w_461 w_463 wp_5 w_6 jy_X4_spells ⟨⟨Nat.le_of_ble_eq_true rfl, Nat.le_of_ble_eq_true rfl⟩, ⟨rfl, rfl⟩, ⟨Nat.zero_le _, Nat.zero_le _⟩⟩ (Nat.le_of_ble_eq_true rfl) (by decide) rfl (r := (RX4, TX4, 6)) rfl rfl rfl (fun _ _ h => h) ?_
    refine j_if_eq C dX4_wordSpelt_17 (tgt := 22) (by decide) (fun cq => ?_) (fun cq => ?_)
    · have h := jite_f h (jb_f cq)
      refine j_aload_n C dX4_wordSpelt_22 0 rfl ?_
      refine j_ldcS C dX4_wordSpelt_23 (i := 10) (by decide) rfl rfl ?_
      obtain ⟨p25, he25, h⟩ := jbind h
      refine j_cV1 C dX4_wordSpelt_25 (m_X4_spells n 10 s (by decide) he25) kc_X4_spells w_461 w_463 wp_5 w_6 jy_X4_spells ⟨⟨Nat.le_of_ble_eq_true rfl, Nat.le_of_ble_eq_true rfl⟩, ⟨rfl, rfl⟩, ⟨Nat.zero_le _, Nat.zero_le _⟩⟩ (Nat.le_of_ble_eq_true rfl) (by decide) rfl (r := (RX4, TX4, 6)) rfl rfl rfl (fun _ _ h => h) ?_
      refine j_if_eq C dX4_wordSpelt_28 (tgt := 34) (by decide) (fun cq => ?_) (fun cq => ?_)
      · have h := jite_f h (jb_f cq)
        refine j_aload_n C dX4_wordSpelt_34 0 rfl ?_
        refine j_ldcS C dX4_wordSpelt_35 (i := 11) (by decide) rfl rfl ?_
        obtain ⟨p37, he37, h⟩ := jbind h
        refine j_cV1 C dX4_wordSpelt_37 (m_X4_spells n 11 s (by decide) he37) kc_X4_spells w_461 w_463 wp_5 w_6 jy_X4_spells ⟨⟨Nat.le_of_ble_eq_true rfl, Nat.le_of_ble_eq_true rfl⟩, ⟨rfl, rfl⟩, ⟨Nat.zero_le _, Nat.zero_le _⟩⟩ (Nat.le_of_ble_eq_true rfl) (by decide) rfl (r := (RX4, TX4, 6)) rfl rfl rfl (fun _ _ h => h) ?_
        refine j_if_eq C dX4_wordSpelt_40 (tgt := 46) (by decide) (fun cq => ?_) (fun cq => ?_)
        · have h := jite_f h (jb_f cq)
          refine j_aload_n C dX4_wordSpelt_46 0 rfl ?_
          refine j_ldcS C dX4_wordSpelt_47 (i := 12) (by decide) rfl rfl ?_
          obtain ⟨p49, he49, h⟩ := jbind h
          refine j_cV1 C dX4_wordSpelt_49 (m_X4_spells n 12 s (by decide) he49) kc_X4_spells w_461 w_463 wp_5 w_6 jy_X4_spells ⟨⟨Nat.le_of_ble_eq_true rfl, Nat.le_of_ble_eq_true rfl⟩, ⟨rfl, rfl⟩, ⟨Nat.zero_le _, Nat.zero_le _⟩⟩ (Nat.le_of_ble_eq_true rfl) (by decide) rfl (r := (RX4, TX4, 6)) rfl rfl rfl (fun _ _ h => h) ?_
          refine j_if_eq C dX4_wordSpelt_52 (tgt := 58) (by decide) (fun cq => ?_) (fun cq => ?_)
          · have h := jite_f h (jb_f cq)
            refine j_aload_n C dX4_wordSpelt_58 0 rfl ?_
            refine j_ldcS C dX4_wordSpelt_59 (i := 13) (by decide) rfl rfl ?_
            obtain ⟨p61, he61, h⟩ := jbind h
            refine j_cV1 C dX4_wordSpelt_61 (m_X4_spells n 13 s (by decide) he61) kc_X4_spells w_461 w_463 wp_5 w_6 jy_X4_spells ⟨⟨Nat.le_of_ble_eq_true rfl, Nat.le_of_ble_eq_true rfl⟩, ⟨rfl, rfl⟩, ⟨Nat.zero_le _, Nat.zero_le _⟩⟩ (Nat.le_of_ble_eq_true rfl) (by decide) rfl (r := (RX4, TX4, 6)) rfl rfl rfl (fun _ _ h => h) ?_
            refine j_if_eq C dX4_wordSpelt_64 (tgt := 70) (by decide) (fun cq => ?_) (fun cq => ?_)
            · have h := jite_f h (jb_f cq)
              refine j_aload_n C dX4_wordSpelt_70 0 rfl ?_
              refine j_ldcS C dX4_wordSpelt_71 (i := 14) (by decide) rfl rfl ?_
              obtain ⟨p73, he73, h⟩ := jbind h
              refine j_cV1 C dX4_wordSpelt_73 (m_X4_spells n 14 s (by decide) he73) kc_X4_spells w_461 w_463 wp_5 w_6 jy_X4_spells ⟨⟨Nat.le_of_ble_eq_true rfl, Nat.le_of_ble_eq_true rfl⟩, ⟨rfl, rfl⟩, ⟨Nat.zero_le _, Nat.zero_le _⟩⟩ (Nat.le_of_ble_eq_true rfl) (by decide) rfl (r := (RX4, TX4, 6)) rfl rfl rfl (fun _ _ h => h) ?_
              refine j_if_eq C dX4_wordSpelt_76 (tgt := 84) (by decide) (fun cq => ?_) (fun cq => ?_)
              · have h := jite_f h (jb_f cq)
                refine j_iconst C dX4_wordSpelt_84 (v := 0) (by decide) ?_
                exact j_iret C dX4_wordSpelt_85 rfl rfl (Nat.zero_le _) (Nat.zero_le _) (jretPI h)
              · have h := jite_t h (jb_t cq)
                refine j_bipush C dX4_wordSpelt_79 (v := 13) (by decide) ?_
                refine j_goto C dX4_wordSpelt_81 (tgt := 85) (by decide) ?_
                exact j_iret C dX4_wordSpelt_85 rfl rfl (Nat.zero_le _) (Nat.zero_le _) (jretPI h)
            · have h := jite_t h (jb_t cq)
              refine j_bipush C dX4_wordSpelt_67 (v := 12) (by decide) ?_
              exact j_iret C dX4_wordSpelt_69 rfl rfl (Nat.zero_le _) (Nat.zero_le _) (jretPI h)
          · have h := jite_t h (jb_t cq)
            refine j_bipush C dX4_wordSpelt_55 (v := 11) (by decide) ?_
            exact j_iret C dX4_wordSpelt_57 rfl rfl (Nat.zero_le _) (Nat.zero_le _) (jretPI h)
        · have h := jite_t h (jb_t cq)
          refine j_bipush C dX4_wordSpelt_43 (v := 7) (by decide) ?_
          exact j_iret C dX4_wordSpelt_45 rfl rfl (Nat.zero_le _) (Nat.zero_le _) (jretPI h)
      · have h := jite_t h (jb_t cq)
        refine j_bipush C dX4_wordSpelt_31 (v := 6) (by decide) ?_
        exact j_iret C dX4_wordSpelt_33 rfl rfl (Nat.zero_le _) (Nat.zero_le _) (jretPI h)
    · have h := jite_t h (jb_t cq)
      refine j_iconst C dX4_wordSpelt_20 (v := 5) (by decide) ?_
      exact j_iret C dX4_wordSpelt_21 rfl rfl (Nat.zero_le _) (Nat.zero_le _) (jretPI h)
  · have h := jite_t h (jb_t cq)
    refine j_iconst C dX4_wordSpelt_9 (v := 4) (by decide) ?_
    exact j_iret C dX4_wordSpelt_10 rfl rfl (Nat.zero_le _) (Nat.zero_le _) (jretPI h)
-- X4_readWord
def B_X4_readWord_5 (n : Nat) (s : jS) (q : Int32) : Option (Int32 ⊕ Int32) :=
  (if (s.1 27 1) ≤ q then some (.inr q) else ((F_X4_byteAt q s).bind fun p15 => (if (F_X4_isLetter p15) = true then some (.inl (q + 1)) else some (.inr q))))
def F_X4_readWord (n : Nat) (s : jS) : Option jS :=
  ((lp (B_X4_readWord_5 n s) n (s.1 27 4)).bind fun e5 => (jl (upI s 27 5 e5) fun s32_1 => ((F_X4_nameSpelt n s32_1).bind fun p37 => (jl (upI s32_1 27 3 p37) fun s40_2 => (if (s40_2.1 27 3) = (-1) then ((F_X4_wordSpelt n s40_2).bind fun p53 => (jl (upI s40_2 27 2 p53) fun s60_4 => some s60_4)) else (jl (upI s40_2 27 2 3) fun s60_3 => some s60_3))))))
def rm_X4_readWord : Room := { frames := 9, cells := 0, slots := 0, locals := 242 }
set_option maxHeartbeats 4000000 in
set_option maxRecDepth 100000 in
theorem m_X4_readWord {l : Launch} {D : va_G} {G : Nat → ClassId} {KV : jV} {ad : Nat → Nat} {nd : Nat} (n : Nat) (s : jS) {p : jS} (h : F_X4_readWord n s = some p) : jM l D G KV yX4_readWord cX4_readWord 2 none rm_X4_readWord [.ref (ad 27)] (jw 54 (cellC G nd) ad s) 0 0 (fun v u => v = none ∧ u = jw 54 (cellC G nd) ad p) := by
  refine jM.of (by decide) (Nat.le_of_ble_eq_true rfl) ?_
  intro K C
  unfold F_X4_readWord at h
  have lo5 : ∀ (s : jS) (k : Nat) (q : Int32) (e : Int32), lp (B_X4_readWord_5 n s) k q = some e → K 0 0 (jw 54 (cellC G nd) ad s) 30 [(0, .ref (ad 27)), (1, .int e)] [] → K 0 0 (jw 54 (cellC G nd) ad s) 5 [(0, .ref (ad 27)), (1, .int q)] [] := by
    intro s k q e he hE
    refine jlp (KH := fun q => K 0 0 (jw 54 (cellC G nd) ad s) 5 [(0, .ref (ad 27)), (1, .int q)] []) (KE := fun e => K 0 0 (jw 54 (cellC G nd) ad s) 30 [(0, .ref (ad 27)), (1, .int e)] []) ?_ k q e he hE
    intro q o hb hin hout
    unfold B_X4_readWord_5 at hb
    show K 0 0 (jw 54 (cellC G nd) ad s) 5 [(0, .ref (ad 27)), (1, .int q)] []
    refine j_iload_n C dX4_readWord_5 1 rfl ?_
    refine j_aload_n C dX4_readWord_6 0 rfl ?_
    refine j_getW C dX4_readWord_7 inX4 rfl (by decide) rfl 1 (by decide) w_172 rfl rfl ?_
    refine j_icmp_ge C dX4_readWord_10 (tgt := 30) (by decide) (fun cq => ?_) (fun cq => ?_)
    · have hb := jite_t hb cq
      refine j_loc C [0, 1] rfl ?_
      have hx := hout _ (jinr hb)
      exact hx
    · have hb := jite_f hb cq
      refine j_aload_n C dX4_readWord_13 0 rfl ?_
      refine j_iload_n C dX4_readWord_14 1 rfl ?_
      obtain ⟨p15, he15, hb⟩ := jbind hb
      refine j_cV1 C dX4_readWord_15 (m_X4_byteAt q s he15) kc_X4_byteAt w_440 w_442 wp_2 w_6 jy_X4_byteAt ⟨⟨Nat.le_of_ble_eq_true rfl, Nat.le_of_ble_eq_true rfl⟩, ⟨rfl, rfl⟩, ⟨Nat.zero_le _, Nat.zero_le _⟩⟩ (Nat.le_of_ble_eq_true rfl) (by decide) rfl (r := (RX4, TX4, 6)) rfl rfl rfl (fun _ _ h => h) ?_
      refine j_cS1 C dX4_readWord_18 (m_X4_isLetter p15 rfl) kc_X4_isLetter w_448 w_449 w_6 jy_X4_isLetter ⟨⟨Nat.le_of_ble_eq_true rfl, Nat.le_of_ble_eq_true rfl⟩, ⟨rfl, rfl⟩, ⟨Nat.zero_le _, Nat.zero_le _⟩⟩ (Nat.le_of_ble_eq_true rfl) rfl (fun _ _ h => h) ?_
      refine j_if_eq C dX4_readWord_21 (tgt := 30) (by decide) (fun cq => ?_) (fun cq => ?_)
      · have hb := jite_f hb (jb_f cq)
        refine j_loc C [0, 1] rfl ?_
        have hx := hout _ (jinr hb)
        exact hx
      · have hb := jite_t hb (jb_t cq)
        refine j_iinc C dX4_readWord_24 1 rfl (v := (q + 1)) rfl (by decide) rfl ?_
        refine j_goto C dX4_readWord_27 (tgt := 5) (by decide) ?_
        refine j_loc C [1, 0] rfl ?_
        have hx := hin _ (jinl hb)
        exact hx
  show K 0 0 (jw 54 (cellC G nd) ad s) 0 [(0, .ref (ad 27))] []
  refine j_aload_n C dX4_readWord_0 0 rfl ?_
  refine j_getW C dX4_readWord_1 inX4 rfl (by decide) rfl 4 (by decide) w_179 rfl rfl ?_
  refine j_istore_n C dX4_readWord_4 (by decide) rfl ?_
  refine j_loc C [1, 0] rfl ?_
  obtain ⟨e5, he5, h⟩ := jbind h
  refine lo5  s  n (s.1 27 4) e5 he5 ?_
  refine j_aload_n C dX4_readWord_30 0 rfl ?_
  refine j_iload_n C dX4_readWord_31 1 rfl ?_
  refine j_putI C dX4_readWord_32 inX4 tyX4 tyX4_ok nmX4 rfl (by decide) 5 rfl rfl (by decide) w_180 rfl rfl rfl rfl (Nat.le_of_ble_eq_true rfl) (fun s32_1 hs32_1 => ?_)
  have h := jlet h hs32_1
  refine j_aload_n C dX4_readWord_35 0 rfl ?_
  refine j_aload_n C dX4_readWord_36 0 rfl ?_
  obtain ⟨p37, he37, h⟩ := jbind h
  refine j_cV1 C dX4_readWord_37 (m_X4_nameSpelt n s32_1 he37) kc_X4_nameSpelt w_456 w_458 wp_4 w_6 jy_X4_nameSpelt ⟨⟨Nat.le_of_ble_eq_true rfl, Nat.le_of_ble_eq_true rfl⟩, ⟨rfl, rfl⟩, ⟨Nat.zero_le _, Nat.zero_le _⟩⟩ (Nat.le_of_ble_eq_true rfl) (by decide) rfl (r := (RX4, TX4, 6)) rfl rfl rfl (fun _ _ h => h) ?_
  refine j_putI C dX4_readWord_40 inX4 tyX4 tyX4_ok nmX4 rfl (by decide) 3 rfl rfl (by decide) w_177 rfl rfl rfl rfl (Nat.le_of_ble_eq_true rfl) (fun s40_2 hs40_2 => ?_)
  have h := jlet h hs40_2
  refine j_aload_n C dX4_readWord_43 0 rfl ?_
  refine j_aload_n C dX4_readWord_44 0 rfl ?_
  refine j_getW C dX4_readWord_45 inX4 rfl (by decide) rfl 3 (by decide) w_177 rfl rfl ?_
  refine j_iconst C dX4_readWord_48 (v := (-1)) (by decide) ?_
  refine j_icmp_ne C dX4_readWord_49 (tgt := 59) (by decide) (fun cq => ?_) (fun cq => ?_)
  · have h := jite_f h cq
    refine j_iconst C dX4_readWord_59 (v := 3) (by decide) ?_
    refine j_putI C dX4_readWord_60 inX4 tyX4 tyX4_ok nmX4 rfl (by decide) 2 rfl rfl (by decide) w_175 rfl rfl rfl rfl (Nat.le_of_ble_eq_true rfl) (fun s60_3 hs60_3 => ?_)
    have h := jlet h hs60_3
    exact j_vret C dX4_readWord_63 rfl (Nat.zero_le _) (Nat.zero_le _) (jretWV h)
  · have h := jite_t h cq
    refine j_aload_n C dX4_readWord_52 0 rfl ?_
    obtain ⟨p53, he53, h⟩ := jbind h
    refine j_cV1 C dX4_readWord_53 (m_X4_wordSpelt n s40_2 he53) kc_X4_wordSpelt w_520 w_522 wp_6 w_6 jy_X4_wordSpelt ⟨⟨Nat.le_of_ble_eq_true rfl, Nat.le_of_ble_eq_true rfl⟩, ⟨rfl, rfl⟩, ⟨Nat.zero_le _, Nat.zero_le _⟩⟩ (Nat.le_of_ble_eq_true rfl) (by decide) rfl (r := (RX4, TX4, 6)) rfl rfl rfl (fun _ _ h => h) ?_
    refine j_goto C dX4_readWord_56 (tgt := 60) (by decide) ?_
    refine j_putI C dX4_readWord_60 inX4 tyX4 tyX4_ok nmX4 rfl (by decide) 2 rfl rfl (by decide) w_175 rfl rfl rfl rfl (Nat.le_of_ble_eq_true rfl) (fun s60_4 hs60_4 => ?_)
    have h := jlet h hs60_4
    exact j_vret C dX4_readWord_63 rfl (Nat.zero_le _) (Nat.zero_le _) (jretWV h)
-- X4_isDigit
def F_X4_isDigit (v0 : Int32) : Bool :=
  (F_X8_within v0 48 57)
def rm_X4_isDigit : Room := { frames := 1, cells := 0, slots := 0, locals := 22 }
set_option maxHeartbeats 4000000 in
set_option maxRecDepth 100000 in
theorem m_X4_isDigit {l : Launch} {D : va_G} {G : Nat → ClassId} {KV : jV} {ad : Nat → Nat} {nd : Nat} {s : jS} (v0 : Int32) {p : Bool} (h : F_X4_isDigit v0 = p) : jM l D G KV yX4_isDigit cX4_isDigit 1 (some .boolean) rm_X4_isDigit [.int v0] (jw 54 (cellC G nd) ad s) 0 0 (fun v u => v = some (.int (jb p)) ∧ u = jw 54 (cellC G nd) ad s) := by
  refine jM.of (by decide) (Nat.le_of_ble_eq_true rfl) ?_
  intro K C
  unfold F_X4_isDigit at h
  show K 0 0 (jw 54 (cellC G nd) ad s) 0 [(0, .int v0)] []
  refine j_iload_n C dX4_isDigit_0 0 rfl ?_
  refine j_bipush C dX4_isDigit_1 (v := 48) (by decide) ?_
  refine j_bipush C dX4_isDigit_3 (v := 57) (by decide) ?_
  refine j_cSN1 C (host := "RoadOfDoors") dX4_isDigit_5 (m_X8_within v0 48 57 rfl) kc_X8_within (by decide +kernel) w_378 w_1 jy_X8_within ⟨⟨Nat.le_of_ble_eq_true rfl, Nat.le_of_ble_eq_true rfl⟩, ⟨rfl, rfl⟩, ⟨Nat.zero_le _, Nat.zero_le _⟩⟩ (Nat.le_of_ble_eq_true rfl) rfl (fun _ _ h => h) ?_
  exact j_iret C dX4_isDigit_8 rfl (jb_nar (F_X8_within v0 48 57)) (Nat.zero_le _) (Nat.zero_le _) (jretTB h)
-- X4_readNumber
def B_X4_readNumber_7 (n : Nat) (s : jS) (q : Int32 × Int32) : Option ((Int32 × Int32) ⊕ (Int32 × Int32)) :=
  (if (s.1 27 1) ≤ q.1 then some (.inr (q.1, q.2)) else ((F_X4_byteAt q.1 s).bind fun p17 => (if (F_X4_isDigit p17) = true then ((F_X4_byteAt q.1 s).bind fun p35 => some (.inl ((q.1 + 1), (if ((((q.2 * 10) + p35) - 48) : Int32) < 10000 then (((q.2 * 10) + p35) - 48) else 10000)))) else some (.inr (q.1, q.2)))))
def F_X4_readNumber (n : Nat) (s : jS) : Option jS :=
  ((lp (B_X4_readNumber_7 n s) n ((s.1 27 4), 0)).bind fun e7 => (jl (upI s 27 5 e7.1) fun s54_1 => (jl (upI s54_1 27 3 e7.2) fun s59_2 => (jl (upI s59_2 27 2 2) fun s64_3 => some s64_3))))
def rm_X4_readNumber : Room := { frames := 2, cells := 0, slots := 0, locals := 42 }
set_option maxHeartbeats 4000000 in
set_option maxRecDepth 100000 in
theorem m_X4_readNumber {l : Launch} {D : va_G} {G : Nat → ClassId} {KV : jV} {ad : Nat → Nat} {nd : Nat} (n : Nat) (s : jS) {p : jS} (h : F_X4_readNumber n s = some p) : jM l D G KV yX4_readNumber cX4_readNumber 3 none rm_X4_readNumber [.ref (ad 27)] (jw 54 (cellC G nd) ad s) 0 0 (fun v u => v = none ∧ u = jw 54 (cellC G nd) ad p) := by
  refine jM.of (by decide) (Nat.le_of_ble_eq_true rfl) ?_
  intro K C
  unfold F_X4_readNumber at h
  have lo7 : ∀ (s : jS) (k : Nat) (q : Int32 × Int32) (e : Int32 × Int32), lp (B_X4_readNumber_7 n s) k q = some e → K 0 0 (jw 54 (cellC G nd) ad s) 52 [(0, .ref (ad 27)), (1, .int e.1), (2, .int e.2)] [] → K 0 0 (jw 54 (cellC G nd) ad s) 7 [(0, .ref (ad 27)), (1, .int q.1), (2, .int q.2)] [] := by
    intro s k q e he hE
    refine jlp (KH := fun q => K 0 0 (jw 54 (cellC G nd) ad s) 7 [(0, .ref (ad 27)), (1, .int q.1), (2, .int q.2)] []) (KE := fun e => K 0 0 (jw 54 (cellC G nd) ad s) 52 [(0, .ref (ad 27)), (1, .int e.1), (2, .int e.2)] []) ?_ k q e he hE
    intro q o hb hin hout
    unfold B_X4_readNumber_7 at hb
    show K 0 0 (jw 54 (cellC G nd) ad s) 7 [(0, .ref (ad 27)), (1, .int q.1), (2, .int q.2)] []
    refine j_iload_n C dX4_readNumber_7 1 rfl ?_
    refine j_aload_n C dX4_readNumber_8 0 rfl ?_
    refine j_getW C dX4_readNumber_9 inX4 rfl (by decide) rfl 1 (by decide) w_172 rfl rfl ?_
    refine j_icmp_ge C dX4_readNumber_12 (tgt := 52) (by decide) (fun cq => ?_) (fun cq => ?_)
    · have hb := jite_t hb cq
      refine j_loc C [0, 1, 2] rfl ?_
      have hx := hout _ (jinr hb)
      exact hx
    · have hb := jite_f hb cq
      refine j_aload_n C dX4_readNumber_15 0 rfl ?_
      refine j_iload_n C dX4_readNumber_16 1 rfl ?_
      obtain ⟨p17, he17, hb⟩ := jbind hb
      refine j_cV1 C dX4_readNumber_17 (m_X4_byteAt q.1 s he17) kc_X4_byteAt w_440 w_442 wp_2 w_6 jy_X4_byteAt ⟨⟨Nat.le_of_ble_eq_true rfl, Nat.le_of_ble_eq_true rfl⟩, ⟨rfl, rfl⟩, ⟨Nat.zero_le _, Nat.zero_le _⟩⟩ (Nat.le_of_ble_eq_true rfl) (by decide) rfl (r := (RX4, TX4, 6)) rfl rfl rfl (fun _ _ h => h) ?_
      refine j_cS1 C dX4_readNumber_20 (m_X4_isDigit p17 rfl) kc_X4_isDigit w_531 w_532 w_6 jy_X4_isDigit ⟨⟨Nat.le_of_ble_eq_true rfl, Nat.le_of_ble_eq_true rfl⟩, ⟨rfl, rfl⟩, ⟨Nat.zero_le _, Nat.zero_le _⟩⟩ (Nat.le_of_ble_eq_true rfl) rfl (fun _ _ h => h) ?_
      refine j_if_eq C dX4_readNumber_23 (tgt := 52) (by decide) (fun cq => ?_) (fun cq => ?_)
      · have hb := jite_f hb (jb_f cq)
        refine j_loc C [0, 1, 2] rfl ?_
        have hx := hout _ (jinr hb)
        exact hx
      · have hb := jite_t hb (jb_t cq)
        refine j_sipush C dX4_readNumber_26 (v := 10000) (by decide) ?_
        refine j_iload_n C dX4_readNumber_29 2 rfl ?_
        refine j_bipush C dX4_readNumber_30 (v := 10) (by decide) ?_
        refine j_imul C dX4_readNumber_32 ?_
        refine j_aload_n C dX4_readNumber_33 0 rfl ?_
        refine j_iload_n C dX4_readNumber_34 1 rfl ?_
        obtain ⟨p35, he35, hb⟩ := jbind hb
        refine j_cV1 C dX4_readNumber_35 (m_X4_byteAt q.1 s he35) kc_X4_byteAt w_440 w_442 wp_2 w_6 jy_X4_byteAt ⟨⟨Nat.le_of_ble_eq_true rfl, Nat.le_of_ble_eq_true rfl⟩, ⟨rfl, rfl⟩, ⟨Nat.zero_le _, Nat.zero_le _⟩⟩ (Nat.le_of_ble_eq_true rfl) (by decide) rfl (r := (RX4, TX4, 6)) rfl rfl rfl (fun _ _ h => h) ?_
        refine j_iadd C dX4_readNumber_38 ?_
        refine j_bipush C dX4_readNumber_39 (v := 48) (by decide) ?_
        refine j_isub C dX4_readNumber_41 ?_
        refine j_mmin C dX4_readNumber_42 w_447 w_27 w_2 w_28 (Nat.le_of_ble_eq_true rfl) (Nat.le_of_ble_eq_true rfl) (Nat.zero_le _) (Nat.zero_le _) ?_
        refine j_istore_n C dX4_readNumber_45 (by decide) rfl ?_
        refine j_iinc C dX4_readNumber_46 2 rfl (v := (q.1 + 1)) rfl (by decide) rfl ?_
        refine j_goto C dX4_readNumber_49 (tgt := 7) (by decide) ?_
        refine j_loc C [2, 0, 1] rfl ?_
        have hx := hin _ (jinl hb)
        exact hx
  show K 0 0 (jw 54 (cellC G nd) ad s) 0 [(0, .ref (ad 27))] []
  refine j_aload_n C dX4_readNumber_0 0 rfl ?_
  refine j_getW C dX4_readNumber_1 inX4 rfl (by decide) rfl 4 (by decide) w_179 rfl rfl ?_
  refine j_istore_n C dX4_readNumber_4 (by decide) rfl ?_
  refine j_iconst C dX4_readNumber_5 (v := 0) (by decide) ?_
  refine j_istore_n C dX4_readNumber_6 (by decide) rfl ?_
  refine j_loc C [2, 1, 0] rfl ?_
  obtain ⟨e7, he7, h⟩ := jbind h
  refine lo7  s  n ((s.1 27 4), 0) e7 he7 ?_
  refine j_aload_n C dX4_readNumber_52 0 rfl ?_
  refine j_iload_n C dX4_readNumber_53 1 rfl ?_
  refine j_putI C dX4_readNumber_54 inX4 tyX4 tyX4_ok nmX4 rfl (by decide) 5 rfl rfl (by decide) w_180 rfl rfl rfl rfl (Nat.le_of_ble_eq_true rfl) (fun s54_1 hs54_1 => ?_)
  have h := jlet h hs54_1
  refine j_aload_n C dX4_readNumber_57 0 rfl ?_
  refine j_iload_n C dX4_readNumber_58 2 rfl ?_
  refine j_putI C dX4_readNumber_59 inX4 tyX4 tyX4_ok nmX4 rfl (by decide) 3 rfl rfl (by decide) w_177 rfl rfl rfl rfl (Nat.le_of_ble_eq_true rfl) (fun s59_2 hs59_2 => ?_)
  have h := jlet h hs59_2
  refine j_aload_n C dX4_readNumber_62 0 rfl ?_
  refine j_iconst C dX4_readNumber_63 (v := 2) (by decide) ?_
  refine j_putI C dX4_readNumber_64 inX4 tyX4 tyX4_ok nmX4 rfl (by decide) 2 rfl rfl (by decide) w_175 rfl rfl rfl rfl (Nat.le_of_ble_eq_true rfl) (fun s64_3 hs64_3 => ?_)
  have h := jlet h hs64_3
  exact j_vret C dX4_readNumber_67 rfl (Nat.zero_le _) (Nat.zero_le _) (jretWV h)
-- X4_signAt
def F_X4_signAt (v0 : Int32) (v1 : Bool) : Int32 :=
  (if v0 = 35 then 19 else (if v0 = 36 then 0 else (if v0 = 37 then 0 else (if v0 = 38 then 0 else (if v0 = 39 then 0 else (if v0 = 40 then 9 else (if v0 = 41 then 10 else (if v0 = 42 then 22 else (if v0 = 43 then 20 else (if v0 = 44 then 0 else (if v0 = 45 then 21 else (if v0 = 46 then 0 else (if v0 = 47 then 23 else (if v0 = 48 then 0 else (if v0 = 49 then 0 else (if v0 = 50 then 0 else (if v0 = 51 then 0 else (if v0 = 52 then 0 else (if v0 = 53 then 0 else (if v0 = 54 then 0 else (if v0 = 55 then 0 else (if v0 = 56 then 0 else (if v0 = 57 then 0 else (if v0 = 58 then 0 else (if v0 = 59 then 8 else (if v0 = 60 then (if v1 = true then 15 else 14) else (if v0 = 61 then 18 else (if v0 = 62 then (if v1 = true then 17 else 16) else 0))))))))))))))))))))))))))))
def rm_X4_signAt : Room := { frames := 0, cells := 0, slots := 0, locals := 0 }
set_option maxHeartbeats 4000000 in
set_option maxRecDepth 100000 in
theorem m_X4_signAt {l : Launch} {D : va_G} {G : Nat → ClassId} {KV : jV} {ad : Nat → Nat} {nd : Nat} {s : jS} (v0 : Int32) (v1 : Bool) {p : Int32} (h : F_X4_signAt v0 v1 = p) : jM l D G KV yX4_signAt cX4_signAt 2 (some .int) rm_X4_signAt [.int v0, .int (jb v1)] (jw 54 (cellC G nd) ad s) 0 0 (fun v u => v = some (.int p) ∧ u = jw 54 (cellC G nd) ad s) := by
  refine jM.of (by decide) (Nat.le_of_ble_eq_true rfl) ?_
  intro K C
  unfold F_X4_signAt at h
  show K 0 0 (jw 54 (cellC G nd) ad s) 0 [(0, .int v0), (1, .int (jb v1))] []
  refine j_iload_n C dX4_signAt_0 0 rfl ?_
  by_cases cs35 : v0 = 35
  · have h := jite_t h cs35
    refine j_tinE C dX4_signAt_1 cs35 (by decide) (by decide) (off := 154) (by decide) (tgt := 155) (by decide) ?_
    refine j_bipush C dX4_signAt_155 (v := 19) (by decide) ?_
    exact j_iret C dX4_signAt_157 rfl rfl (Nat.zero_le _) (Nat.zero_le _) (jretTI h)
  have h := jite_f h cs35
  by_cases cs36 : v0 = 36
  · have h := jite_t h cs36
    refine j_tinE C dX4_signAt_1 cs36 (by decide) (by decide) (off := 178) (by decide) (tgt := 179) (by decide) ?_
    refine j_iconst C dX4_signAt_179 (v := 0) (by decide) ?_
    exact j_iret C dX4_signAt_180 rfl rfl (Nat.zero_le _) (Nat.zero_le _) (jretTI h)
  have h := jite_f h cs36
  by_cases cs37 : v0 = 37
  · have h := jite_t h cs37
    refine j_tinE C dX4_signAt_1 cs37 (by decide) (by decide) (off := 178) (by decide) (tgt := 179) (by decide) ?_
    refine j_iconst C dX4_signAt_179 (v := 0) (by decide) ?_
    exact j_iret C dX4_signAt_180 rfl rfl (Nat.zero_le _) (Nat.zero_le _) (jretTI h)
  have h := jite_f h cs37
  by_cases cs38 : v0 = 38
  · have h := jite_t h cs38
    refine j_tinE C dX4_signAt_1 cs38 (by decide) (by decide) (off := 178) (by decide) (tgt := 179) (by decide) ?_
    refine j_iconst C dX4_signAt_179 (v := 0) (by decide) ?_
    exact j_iret C dX4_signAt_180 rfl rfl (Nat.zero_le _) (Nat.zero_le _) (jretTI h)
  have h := jite_f h cs38
  by_cases cs39 : v0 = 39
  · have h := jite_t h cs39
    refine j_tinE C dX4_signAt_1 cs39 (by decide) (by decide) (off := 178) (by decide) (tgt := 179) (by decide) ?_
    refine j_iconst C dX4_signAt_179 (v := 0) (by decide) ?_
    exact j_iret C dX4_signAt_180 rfl rfl (Nat.zero_le _) (Nat.zero_le _) (jretTI h)
  have h := jite_f h cs39
  by_cases cs40 : v0 = 40
  · have h := jite_t h cs40
    refine j_tinE C dX4_signAt_1 cs40 (by decide) (by decide) (off := 169) (by decide) (tgt := 170) (by decide) ?_
    refine j_bipush C dX4_signAt_170 (v := 9) (by decide) ?_
    exact j_iret C dX4_signAt_172 rfl rfl (Nat.zero_le _) (Nat.zero_le _) (jretTI h)
  have h := jite_f h cs40
  by_cases cs41 : v0 = 41
  · have h := jite_t h cs41
    refine j_tinE C dX4_signAt_1 cs41 (by decide) (by decide) (off := 172) (by decide) (tgt := 173) (by decide) ?_
    refine j_bipush C dX4_signAt_173 (v := 10) (by decide) ?_
    exact j_iret C dX4_signAt_175 rfl rfl (Nat.zero_le _) (Nat.zero_le _) (jretTI h)
  have h := jite_f h cs41
  by_cases cs42 : v0 = 42
  · have h := jite_t h cs42
    refine j_tinE C dX4_signAt_1 cs42 (by decide) (by decide) (off := 163) (by decide) (tgt := 164) (by decide) ?_
    refine j_bipush C dX4_signAt_164 (v := 22) (by decide) ?_
    exact j_iret C dX4_signAt_166 rfl rfl (Nat.zero_le _) (Nat.zero_le _) (jretTI h)
  have h := jite_f h cs42
  by_cases cs43 : v0 = 43
  · have h := jite_t h cs43
    refine j_tinE C dX4_signAt_1 cs43 (by decide) (by decide) (off := 157) (by decide) (tgt := 158) (by decide) ?_
    refine j_bipush C dX4_signAt_158 (v := 20) (by decide) ?_
    exact j_iret C dX4_signAt_160 rfl rfl (Nat.zero_le _) (Nat.zero_le _) (jretTI h)
  have h := jite_f h cs43
  by_cases cs44 : v0 = 44
  · have h := jite_t h cs44
    refine j_tinE C dX4_signAt_1 cs44 (by decide) (by decide) (off := 178) (by decide) (tgt := 179) (by decide) ?_
    refine j_iconst C dX4_signAt_179 (v := 0) (by decide) ?_
    exact j_iret C dX4_signAt_180 rfl rfl (Nat.zero_le _) (Nat.zero_le _) (jretTI h)
  have h := jite_f h cs44
  by_cases cs45 : v0 = 45
  · have h := jite_t h cs45
    refine j_tinE C dX4_signAt_1 cs45 (by decide) (by decide) (off := 160) (by decide) (tgt := 161) (by decide) ?_
    refine j_bipush C dX4_signAt_161 (v := 21) (by decide) ?_
    exact j_iret C dX4_signAt_163 rfl rfl (Nat.zero_le _) (Nat.zero_le _) (jretTI h)
  have h := jite_f h cs45
  by_cases cs46 : v0 = 46
  · have h := jite_t h cs46
    refine j_tinE C dX4_signAt_1 cs46 (by decide) (by decide) (off := 178) (by decide) (tgt := 179) (by decide) ?_
    refine j_iconst C dX4_signAt_179 (v := 0) (by decide) ?_
    exact j_iret C dX4_signAt_180 rfl rfl (Nat.zero_le _) (Nat.zero_le _) (jretTI h)
  have h := jite_f h cs46
  by_cases cs47 : v0 = 47
  · have h := jite_t h cs47
    refine j_tinE C dX4_signAt_1 cs47 (by decide) (by decide) (off := 166) (by decide) (tgt := 167) (by decide) ?_
    refine j_bipush C dX4_signAt_167 (v := 23) (by decide) ?_
    exact j_iret C dX4_signAt_169 rfl rfl (Nat.zero_le _) (Nat.zero_le _) (jretTI h)
  have h := jite_f h cs47
  by_cases cs48 : v0 = 48
  · have h := jite_t h cs48
    refine j_tinE C dX4_signAt_1 cs48 (by decide) (by decide) (off := 178) (by decide) (tgt := 179) (by decide) ?_
    refine j_iconst C dX4_signAt_179 (v := 0) (by decide) ?_
    exact j_iret C dX4_signAt_180 rfl rfl (Nat.zero_le _) (Nat.zero_le _) (jretTI h)
  have h := jite_f h cs48
  by_cases cs49 : v0 = 49
  · have h := jite_t h cs49
    refine j_tinE C dX4_signAt_1 cs49 (by decide) (by decide) (off := 178) (by decide) (tgt := 179) (by decide) ?_
    refine j_iconst C dX4_signAt_179 (v := 0) (by decide) ?_
    exact j_iret C dX4_signAt_180 rfl rfl (Nat.zero_le _) (Nat.zero_le _) (jretTI h)
  have h := jite_f h cs49
  by_cases cs50 : v0 = 50
  · have h := jite_t h cs50
    refine j_tinE C dX4_signAt_1 cs50 (by decide) (by decide) (off := 178) (by decide) (tgt := 179) (by decide) ?_
    refine j_iconst C dX4_signAt_179 (v := 0) (by decide) ?_
    exact j_iret C dX4_signAt_180 rfl rfl (Nat.zero_le _) (Nat.zero_le _) (jretTI h)
  have h := jite_f h cs50
  by_cases cs51 : v0 = 51
  · have h := jite_t h cs51
    refine j_tinE C dX4_signAt_1 cs51 (by decide) (by decide) (off := 178) (by decide) (tgt := 179) (by decide) ?_
    refine j_iconst C dX4_signAt_179 (v := 0) (by decide) ?_
    exact j_iret C dX4_signAt_180 rfl rfl (Nat.zero_le _) (Nat.zero_le _) (jretTI h)
  have h := jite_f h cs51
  by_cases cs52 : v0 = 52
  · have h := jite_t h cs52
    refine j_tinE C dX4_signAt_1 cs52 (by decide) (by decide) (off := 178) (by decide) (tgt := 179) (by decide) ?_
    refine j_iconst C dX4_signAt_179 (v := 0) (by decide) ?_
    exact j_iret C dX4_signAt_180 rfl rfl (Nat.zero_le _) (Nat.zero_le _) (jretTI h)
  have h := jite_f h cs52
  by_cases cs53 : v0 = 53
  · have h := jite_t h cs53
    refine j_tinE C dX4_signAt_1 cs53 (by decide) (by decide) (off := 178) (by decide) (tgt := 179) (by decide) ?_
    refine j_iconst C dX4_signAt_179 (v := 0) (by decide) ?_
    exact j_iret C dX4_signAt_180 rfl rfl (Nat.zero_le _) (Nat.zero_le _) (jretTI h)
  have h := jite_f h cs53
  by_cases cs54 : v0 = 54
  · have h := jite_t h cs54
    refine j_tinE C dX4_signAt_1 cs54 (by decide) (by decide) (off := 178) (by decide) (tgt := 179) (by decide) ?_
    refine j_iconst C dX4_signAt_179 (v := 0) (by decide) ?_
    exact j_iret C dX4_signAt_180 rfl rfl (Nat.zero_le _) (Nat.zero_le _) (jretTI h)
  have h := jite_f h cs54
  by_cases cs55 : v0 = 55
  · have h := jite_t h cs55
    refine j_tinE C dX4_signAt_1 cs55 (by decide) (by decide) (off := 178) (by decide) (tgt := 179) (by decide) ?_
    refine j_iconst C dX4_signAt_179 (v := 0) (by decide) ?_
    exact j_iret C dX4_signAt_180 rfl rfl (Nat.zero_le _) (Nat.zero_le _) (jretTI h)
  have h := jite_f h cs55
  by_cases cs56 : v0 = 56
  · have h := jite_t h cs56
    refine j_tinE C dX4_signAt_1 cs56 (by decide) (by decide) (off := 178) (by decide) (tgt := 179) (by decide) ?_
    refine j_iconst C dX4_signAt_179 (v := 0) (by decide) ?_
    exact j_iret C dX4_signAt_180 rfl rfl (Nat.zero_le _) (Nat.zero_le _) (jretTI h)
  have h := jite_f h cs56
  by_cases cs57 : v0 = 57
  · have h := jite_t h cs57
    refine j_tinE C dX4_signAt_1 cs57 (by decide) (by decide) (off := 178) (by decide) (tgt := 179) (by decide) ?_
    refine j_iconst C dX4_signAt_179 (v := 0) (by decide) ?_
    exact j_iret C dX4_signAt_180 rfl rfl (Nat.zero_le _) (Nat.zero_le _) (jretTI h)
  have h := jite_f h cs57
  by_cases cs58 : v0 = 58
  · have h := jite_t h cs58
    refine j_tinE C dX4_signAt_1 cs58 (by decide) (by decide) (off := 178) (by decide) (tgt := 179) (by decide) ?_
    refine j_iconst C dX4_signAt_179 (v := 0) (by decide) ?_
    exact j_iret C dX4_signAt_180 rfl rfl (Nat.zero_le _) (Nat.zero_le _) (jretTI h)
  have h := jite_f h cs58
  by_cases cs59 : v0 = 59
  · have h := jite_t h cs59
    refine j_tinE C dX4_signAt_1 cs59 (by decide) (by decide) (off := 175) (by decide) (tgt := 176) (by decide) ?_
    refine j_bipush C dX4_signAt_176 (v := 8) (by decide) ?_
    exact j_iret C dX4_signAt_178 rfl rfl (Nat.zero_le _) (Nat.zero_le _) (jretTI h)
  have h := jite_f h cs59
  by_cases cs60 : v0 = 60
  · have h := jite_t h cs60
    refine j_tinE C dX4_signAt_1 cs60 (by decide) (by decide) (off := 127) (by decide) (tgt := 128) (by decide) ?_
    refine j_iload_n C dX4_signAt_128 1 rfl ?_
    refine j_if_eq C dX4_signAt_129 (tgt := 137) (by decide) (fun cq => ?_) (fun cq => ?_)
    · have h := jite_f h (jb_f cq)
      refine j_bipush C dX4_signAt_137 (v := 14) (by decide) ?_
      exact j_iret C dX4_signAt_139 rfl rfl (Nat.zero_le _) (Nat.zero_le _) (jretTI h)
    · have h := jite_t h (jb_t cq)
      refine j_bipush C dX4_signAt_132 (v := 15) (by decide) ?_
      refine j_goto C dX4_signAt_134 (tgt := 139) (by decide) ?_
      exact j_iret C dX4_signAt_139 rfl rfl (Nat.zero_le _) (Nat.zero_le _) (jretTI h)
  have h := jite_f h cs60
  by_cases cs61 : v0 = 61
  · have h := jite_t h cs61
    refine j_tinE C dX4_signAt_1 cs61 (by decide) (by decide) (off := 151) (by decide) (tgt := 152) (by decide) ?_
    refine j_bipush C dX4_signAt_152 (v := 18) (by decide) ?_
    exact j_iret C dX4_signAt_154 rfl rfl (Nat.zero_le _) (Nat.zero_le _) (jretTI h)
  have h := jite_f h cs61
  by_cases cs62 : v0 = 62
  · have h := jite_t h cs62
    refine j_tinE C dX4_signAt_1 cs62 (by decide) (by decide) (off := 139) (by decide) (tgt := 140) (by decide) ?_
    refine j_iload_n C dX4_signAt_140 1 rfl ?_
    refine j_if_eq C dX4_signAt_141 (tgt := 149) (by decide) (fun cq => ?_) (fun cq => ?_)
    · have h := jite_f h (jb_f cq)
      refine j_bipush C dX4_signAt_149 (v := 16) (by decide) ?_
      exact j_iret C dX4_signAt_151 rfl rfl (Nat.zero_le _) (Nat.zero_le _) (jretTI h)
    · have h := jite_t h (jb_t cq)
      refine j_bipush C dX4_signAt_144 (v := 17) (by decide) ?_
      refine j_goto C dX4_signAt_146 (tgt := 151) (by decide) ?_
      exact j_iret C dX4_signAt_151 rfl rfl (Nat.zero_le _) (Nat.zero_le _) (jretTI h)
  have h := jite_f h cs62
  refine j_tout C dX4_signAt_1 (jtsw (by decide) (by decide) (fun z h1 h2 => ?_)) (tgt := 179) (by decide) ?_
  · have hz : z = 35 ∨ z = 36 ∨ z = 37 ∨ z = 38 ∨ z = 39 ∨ z = 40 ∨ z = 41 ∨ z = 42 ∨ z = 43 ∨ z = 44 ∨ z = 45 ∨ z = 46 ∨ z = 47 ∨ z = 48 ∨ z = 49 ∨ z = 50 ∨ z = 51 ∨ z = 52 ∨ z = 53 ∨ z = 54 ∨ z = 55 ∨ z = 56 ∨ z = 57 ∨ z = 58 ∨ z = 59 ∨ z = 60 ∨ z = 61 ∨ z = 62 := by omega
    rcases hz with rfl | rfl | rfl | rfl | rfl | rfl | rfl | rfl | rfl | rfl | rfl | rfl | rfl | rfl | rfl | rfl | rfl | rfl | rfl | rfl | rfl | rfl | rfl | rfl | rfl | rfl | rfl | rfl
    all_goals first | exact cs35 | exact cs36 | exact cs37 | exact cs38 | exact cs39 | exact cs40 | exact cs41 | exact cs42 | exact cs43 | exact cs44 | exact cs45 | exact cs46 | exact cs47 | exact cs48 | exact cs49 | exact cs50 | exact cs51 | exact cs52 | exact cs53 | exact cs54 | exact cs55 | exact cs56 | exact cs57 | exact cs58 | exact cs59 | exact cs60 | exact cs61 | exact cs62
  refine j_iconst C dX4_signAt_179 (v := 0) (by decide) ?_
  exact j_iret C dX4_signAt_180 rfl rfl (Nat.zero_le _) (Nat.zero_le _) (jretTI h)
-- X4_isTwoSigned
def F_X4_isTwoSigned (v0 : Int32) : Bool :=
  (if v0 = 15 then true else (if v0 = 17 then true else false))
def rm_X4_isTwoSigned : Room := { frames := 0, cells := 0, slots := 0, locals := 0 }
set_option maxHeartbeats 4000000 in
set_option maxRecDepth 100000 in
theorem m_X4_isTwoSigned {l : Launch} {D : va_G} {G : Nat → ClassId} {KV : jV} {ad : Nat → Nat} {nd : Nat} {s : jS} (v0 : Int32) {p : Bool} (h : F_X4_isTwoSigned v0 = p) : jM l D G KV yX4_isTwoSigned cX4_isTwoSigned 1 (some .boolean) rm_X4_isTwoSigned [.int v0] (jw 54 (cellC G nd) ad s) 0 0 (fun v u => v = some (.int (jb p)) ∧ u = jw 54 (cellC G nd) ad s) := by
  refine jM.of (by decide) (Nat.le_of_ble_eq_true rfl) ?_
  intro K C
  unfold F_X4_isTwoSigned at h
  show K 0 0 (jw 54 (cellC G nd) ad s) 0 [(0, .int v0)] []
  refine j_iload_n C dX4_isTwoSigned_0 0 rfl ?_
  refine j_bipush C dX4_isTwoSigned_1 (v := 15) (by decide) ?_
  refine j_icmp_eq C dX4_isTwoSigned_3 (tgt := 12) (by decide) (fun cq => ?_) (fun cq => ?_)
  · have h := jite_t h cq
    refine j_iconst C dX4_isTwoSigned_12 (v := 1) (by decide) ?_
    refine j_goto C dX4_isTwoSigned_13 (tgt := 17) (by decide) ?_
    exact j_iret C dX4_isTwoSigned_17 rfl (jb_nar true) (Nat.zero_le _) (Nat.zero_le _) (jretTB h)
  · have h := jite_f h cq
    refine j_iload_n C dX4_isTwoSigned_6 0 rfl ?_
    refine j_bipush C dX4_isTwoSigned_7 (v := 17) (by decide) ?_
    refine j_icmp_ne C dX4_isTwoSigned_9 (tgt := 16) (by decide) (fun cq => ?_) (fun cq => ?_)
    · have h := jite_f h cq
      refine j_iconst C dX4_isTwoSigned_16 (v := 0) (by decide) ?_
      exact j_iret C dX4_isTwoSigned_17 rfl (jb_nar false) (Nat.zero_le _) (Nat.zero_le _) (jretTB h)
    · have h := jite_t h cq
      refine j_iconst C dX4_isTwoSigned_12 (v := 1) (by decide) ?_
      refine j_goto C dX4_isTwoSigned_13 (tgt := 17) (by decide) ?_
      exact j_iret C dX4_isTwoSigned_17 rfl (jb_nar true) (Nat.zero_le _) (Nat.zero_le _) (jretTB h)
-- X4_nextToken
def B_X4_nextToken_5 (n : Nat) (s : jS) (q : Int32) : Option (Int32 ⊕ Int32) :=
  (if (s.1 27 1) ≤ q then some (.inr q) else ((F_X4_byteAt q s).bind fun p15 => (if (F_X4_isBlank p15) = true then some (.inl (q + 1)) else some (.inr q))))
def J_X4_nextToken_118 (n : Nat) (k1 : Int32) (k2 : Bool) (s : jS) : Option jS :=
  (jl (upI s 27 2 (F_X4_signAt k1 k2)) fun s121_3 => (if (F_X4_isTwoSigned (s121_3.1 27 2)) = true then (jl (upI s121_3 27 5 ((s121_3.1 27 5) + 1)) fun s145_5 => some s145_5) else (jl (upI s121_3 27 5 ((s121_3.1 27 5) + 0)) fun s145_4 => some s145_4)))
def F_X4_nextToken (n : Nat) (s : jS) : Option jS :=
  ((lp (B_X4_nextToken_5 n s) n (s.1 27 5)).bind fun e5 => (jl (upI s 27 4 e5) fun s32_1 => (jl (upI s32_1 27 5 (if ((e5 + 1) : Int32) < (s32_1.1 27 1) then (e5 + 1) else (s32_1.1 27 1))) fun s46_2 => ((F_X4_byteAt (s46_2.1 27 4) s46_2).bind fun p54 => (if 0 ≤ p54 then (if (F_X4_isLetter p54) = true then ((F_X4_readWord n s46_2).bind fun p78 => some p78) else (if (F_X4_isDigit p54) = true then ((F_X4_readNumber n s46_2).bind fun p92 => some p92) else ((F_X4_byteAt (s46_2.1 27 5) s46_2).bind fun p105 => (if p105 = 61 then J_X4_nextToken_118 n p54 true s46_2 else J_X4_nextToken_118 n p54 false s46_2)))) else (jl (upI s46_2 27 2 1) fun s64_6 => some s64_6))))))
def rm_X4_nextToken : Room := { frames := 10, cells := 0, slots := 0, locals := 263 }
set_option maxHeartbeats 4000000 in
set_option maxRecDepth 100000 in
theorem m_X4_nextToken {l : Launch} {D : va_G} {G : Nat → ClassId} {KV : jV} {ad : Nat → Nat} {nd : Nat} (n : Nat) (s : jS) {p : jS} (h : F_X4_nextToken n s = some p) : jM l D G KV yX4_nextToken cX4_nextToken 3 none rm_X4_nextToken [.ref (ad 27)] (jw 54 (cellC G nd) ad s) 0 0 (fun v u => v = none ∧ u = jw 54 (cellC G nd) ad p) := by
  refine jM.of (by decide) (Nat.le_of_ble_eq_true rfl) ?_
  intro K C
  unfold F_X4_nextToken at h
  have lo5 : ∀ (s : jS) (k : Nat) (q : Int32) (e : Int32), lp (B_X4_nextToken_5 n s) k q = some e → K 0 0 (jw 54 (cellC G nd) ad s) 30 [(0, .ref (ad 27)), (1, .int e)] [] → K 0 0 (jw 54 (cellC G nd) ad s) 5 [(0, .ref (ad 27)), (1, .int q)] [] := by
    intro s k q e he hE
    refine jlp (KH := fun q => K 0 0 (jw 54 (cellC G nd) ad s) 5 [(0, .ref (ad 27)), (1, .int q)] []) (KE := fun e => K 0 0 (jw 54 (cellC G nd) ad s) 30 [(0, .ref (ad 27)), (1, .int e)] []) ?_ k q e he hE
    intro q o hb hin hout
    unfold B_X4_nextToken_5 at hb
    show K 0 0 (jw 54 (cellC G nd) ad s) 5 [(0, .ref (ad 27)), (1, .int q)] []
    refine j_iload_n C dX4_nextToken_5 1 rfl ?_
    refine j_aload_n C dX4_nextToken_6 0 rfl ?_
    refine j_getW C dX4_nextToken_7 inX4 rfl (by decide) rfl 1 (by decide) w_172 rfl rfl ?_
    refine j_icmp_ge C dX4_nextToken_10 (tgt := 30) (by decide) (fun cq => ?_) (fun cq => ?_)
    · have hb := jite_t hb cq
      refine j_loc C [0, 1] rfl ?_
      have hx := hout _ (jinr hb)
      exact hx
    · have hb := jite_f hb cq
      refine j_aload_n C dX4_nextToken_13 0 rfl ?_
      refine j_iload_n C dX4_nextToken_14 1 rfl ?_
      obtain ⟨p15, he15, hb⟩ := jbind hb
      refine j_cV1 C dX4_nextToken_15 (m_X4_byteAt q s he15) kc_X4_byteAt w_440 w_442 wp_2 w_6 jy_X4_byteAt ⟨⟨Nat.le_of_ble_eq_true rfl, Nat.le_of_ble_eq_true rfl⟩, ⟨rfl, rfl⟩, ⟨Nat.zero_le _, Nat.zero_le _⟩⟩ (Nat.le_of_ble_eq_true rfl) (by decide) rfl (r := (RX4, TX4, 6)) rfl rfl rfl (fun _ _ h => h) ?_
      refine j_cS1 C dX4_nextToken_18 (m_X4_isBlank p15 rfl) kc_X4_isBlank w_444 w_445 w_6 jy_X4_isBlank ⟨⟨Nat.le_of_ble_eq_true rfl, Nat.le_of_ble_eq_true rfl⟩, ⟨rfl, rfl⟩, ⟨Nat.zero_le _, Nat.zero_le _⟩⟩ (Nat.le_of_ble_eq_true rfl) rfl (fun _ _ h => h) ?_
      refine j_if_eq C dX4_nextToken_21 (tgt := 30) (by decide) (fun cq => ?_) (fun cq => ?_)
      · have hb := jite_f hb (jb_f cq)
        refine j_loc C [0, 1] rfl ?_
        have hx := hout _ (jinr hb)
        exact hx
      · have hb := jite_t hb (jb_t cq)
        refine j_iinc C dX4_nextToken_24 1 rfl (v := (q + 1)) rfl (by decide) rfl ?_
        refine j_goto C dX4_nextToken_27 (tgt := 5) (by decide) ?_
        refine j_loc C [1, 0] rfl ?_
        have hx := hin _ (jinl hb)
        exact hx
  have jn118 : ∀ (k1 : Int32) (k2 : Bool) (s : jS) (_ : J_X4_nextToken_118 n k1 k2 s = some p), K 0 0 (jw 54 (cellC G nd) ad s) 118 [(0, .ref (ad 27))] [.int (jb k2), .int k1, .ref (ad 27)] := by
    intro k1 k2 s h
    unfold J_X4_nextToken_118 at h
    refine j_cS1 C dX4_nextToken_118 (m_X4_signAt k1 k2 rfl) kc_X4_signAt w_538 w_539 w_6 jy_X4_signAt ⟨⟨Nat.le_of_ble_eq_true rfl, Nat.le_of_ble_eq_true rfl⟩, ⟨rfl, rfl⟩, ⟨Nat.zero_le _, Nat.zero_le _⟩⟩ (Nat.le_of_ble_eq_true rfl) rfl (fun _ _ h => h) ?_
    refine j_putI C dX4_nextToken_121 inX4 tyX4 tyX4_ok nmX4 rfl (by decide) 2 rfl rfl (by decide) w_175 rfl rfl rfl rfl (Nat.le_of_ble_eq_true rfl) (fun s121_3 hs121_3 => ?_)
    have h := jlet h hs121_3
    refine j_aload_n C dX4_nextToken_124 0 rfl ?_
    refine j_dup C dX4_nextToken_125 rfl ?_
    refine j_getW C dX4_nextToken_126 inX4 rfl (by decide) rfl 5 (by decide) w_180 rfl rfl ?_
    refine j_aload_n C dX4_nextToken_129 0 rfl ?_
    refine j_getW C dX4_nextToken_130 inX4 rfl (by decide) rfl 2 (by decide) w_175 rfl rfl ?_
    refine j_cS1 C dX4_nextToken_133 (m_X4_isTwoSigned (s121_3.1 27 2) rfl) kc_X4_isTwoSigned w_541 w_542 w_6 jy_X4_isTwoSigned ⟨⟨Nat.le_of_ble_eq_true rfl, Nat.le_of_ble_eq_true rfl⟩, ⟨rfl, rfl⟩, ⟨Nat.zero_le _, Nat.zero_le _⟩⟩ (Nat.le_of_ble_eq_true rfl) rfl (fun _ _ h => h) ?_
    refine j_if_eq C dX4_nextToken_136 (tgt := 143) (by decide) (fun cq => ?_) (fun cq => ?_)
    · have h := jite_f h (jb_f cq)
      refine j_iconst C dX4_nextToken_143 (v := 0) (by decide) ?_
      refine j_iadd C dX4_nextToken_144 ?_
      refine j_putI C dX4_nextToken_145 inX4 tyX4 tyX4_ok nmX4 rfl (by decide) 5 rfl rfl (by decide) w_180 rfl rfl rfl rfl (Nat.le_of_ble_eq_true rfl) (fun s145_4 hs145_4 => ?_)
      have h := jlet h hs145_4
      exact j_vret C dX4_nextToken_148 rfl (Nat.zero_le _) (Nat.zero_le _) (jretWV h)
    · have h := jite_t h (jb_t cq)
      refine j_iconst C dX4_nextToken_139 (v := 1) (by decide) ?_
      refine j_goto C dX4_nextToken_140 (tgt := 144) (by decide) ?_
      refine j_iadd C dX4_nextToken_144 ?_
      refine j_putI C dX4_nextToken_145 inX4 tyX4 tyX4_ok nmX4 rfl (by decide) 5 rfl rfl (by decide) w_180 rfl rfl rfl rfl (Nat.le_of_ble_eq_true rfl) (fun s145_5 hs145_5 => ?_)
      have h := jlet h hs145_5
      exact j_vret C dX4_nextToken_148 rfl (Nat.zero_le _) (Nat.zero_le _) (jretWV h)
  show K 0 0 (jw 54 (cellC G nd) ad s) 0 [(0, .ref (ad 27))] []
  refine j_aload_n C dX4_nextToken_0 0 rfl ?_
  refine j_getW C dX4_nextToken_1 inX4 rfl (by decide) rfl 5 (by decide) w_180 rfl rfl ?_
  refine j_istore_n C dX4_nextToken_4 (by decide) rfl ?_
  refine j_loc C [1, 0] rfl ?_
  obtain ⟨e5, he5, h⟩ := jbind h
  refine lo5  s  n (s.1 27 5) e5 he5 ?_
  refine j_aload_n C dX4_nextToken_30 0 rfl ?_
  refine j_iload_n C dX4_nextToken_31 1 rfl ?_
  refine j_putI C dX4_nextToken_32 inX4 tyX4 tyX4_ok nmX4 rfl (by decide) 4 rfl rfl (by decide) w_179 rfl rfl rfl rfl (Nat.le_of_ble_eq_true rfl) (fun s32_1 hs32_1 => ?_)
  have h := jlet h hs32_1
  refine j_aload_n C dX4_nextToken_35 0 rfl ?_
  refine j_aload_n C dX4_nextToken_36 0 rfl ?_
  refine j_getW C dX4_nextToken_37 inX4 rfl (by decide) rfl 1 (by decide) w_172 rfl rfl ?_
  refine j_iload_n C dX4_nextToken_40 1 rfl ?_
  refine j_iconst C dX4_nextToken_41 (v := 1) (by decide) ?_
  refine j_iadd C dX4_nextToken_42 ?_
  refine j_mmin C dX4_nextToken_43 w_447 w_27 w_2 w_28 (Nat.le_of_ble_eq_true rfl) (Nat.le_of_ble_eq_true rfl) (Nat.zero_le _) (Nat.zero_le _) ?_
  refine j_putI C dX4_nextToken_46 inX4 tyX4 tyX4_ok nmX4 rfl (by decide) 5 rfl rfl (by decide) w_180 rfl rfl rfl rfl (Nat.le_of_ble_eq_true rfl) (fun s46_2 hs46_2 => ?_)
  have h := jlet h hs46_2
  refine j_aload_n C dX4_nextToken_49 0 rfl ?_
  refine j_aload_n C dX4_nextToken_50 0 rfl ?_
  refine j_getW C dX4_nextToken_51 inX4 rfl (by decide) rfl 4 (by decide) w_179 rfl rfl ?_
  obtain ⟨p54, he54, h⟩ := jbind h
  refine j_cV1 C dX4_nextToken_54 (m_X4_byteAt (s46_2.1 27 4) s46_2 he54) kc_X4_byteAt w_440 w_442 wp_2 w_6 jy_X4_byteAt ⟨⟨Nat.le_of_ble_eq_true rfl, Nat.le_of_ble_eq_true rfl⟩, ⟨rfl, rfl⟩, ⟨Nat.zero_le _, Nat.zero_le _⟩⟩ (Nat.le_of_ble_eq_true rfl) (by decide) rfl (r := (RX4, TX4, 6)) rfl rfl rfl (fun _ _ h => h) ?_
  refine j_istore_n C dX4_nextToken_57 (by decide) rfl ?_
  refine j_iload_n C dX4_nextToken_58 0 rfl ?_
  refine j_if_ge C dX4_nextToken_59 (tgt := 70) (by decide) (fun cq => ?_) (fun cq => ?_)
  · have h := jite_t h cq
    refine j_iload_n C dX4_nextToken_70 0 rfl ?_
    refine j_cS1 C dX4_nextToken_71 (m_X4_isLetter p54 rfl) kc_X4_isLetter w_448 w_449 w_6 jy_X4_isLetter ⟨⟨Nat.le_of_ble_eq_true rfl, Nat.le_of_ble_eq_true rfl⟩, ⟨rfl, rfl⟩, ⟨Nat.zero_le _, Nat.zero_le _⟩⟩ (Nat.le_of_ble_eq_true rfl) rfl (fun _ _ h => h) ?_
    refine j_if_eq C dX4_nextToken_74 (tgt := 84) (by decide) (fun cq => ?_) (fun cq => ?_)
    · have h := jite_f h (jb_f cq)
      refine j_iload_n C dX4_nextToken_84 0 rfl ?_
      refine j_cS1 C dX4_nextToken_85 (m_X4_isDigit p54 rfl) kc_X4_isDigit w_531 w_532 w_6 jy_X4_isDigit ⟨⟨Nat.le_of_ble_eq_true rfl, Nat.le_of_ble_eq_true rfl⟩, ⟨rfl, rfl⟩, ⟨Nat.zero_le _, Nat.zero_le _⟩⟩ (Nat.le_of_ble_eq_true rfl) rfl (fun _ _ h => h) ?_
      refine j_if_eq C dX4_nextToken_88 (tgt := 98) (by decide) (fun cq => ?_) (fun cq => ?_)
      · have h := jite_f h (jb_f cq)
        refine j_aload_n C dX4_nextToken_98 1 rfl ?_
        refine j_iload_n C dX4_nextToken_99 0 rfl ?_
        refine j_aload_n C dX4_nextToken_100 1 rfl ?_
        refine j_aload_n C dX4_nextToken_101 1 rfl ?_
        refine j_getW C dX4_nextToken_102 inX4 rfl (by decide) rfl 5 (by decide) w_180 rfl rfl ?_
        obtain ⟨p105, he105, h⟩ := jbind h
        refine j_cV1 C dX4_nextToken_105 (m_X4_byteAt (s46_2.1 27 5) s46_2 he105) kc_X4_byteAt w_440 w_442 wp_2 w_6 jy_X4_byteAt ⟨⟨Nat.le_of_ble_eq_true rfl, Nat.le_of_ble_eq_true rfl⟩, ⟨rfl, rfl⟩, ⟨Nat.zero_le _, Nat.zero_le _⟩⟩ (Nat.le_of_ble_eq_true rfl) (by decide) rfl (r := (RX4, TX4, 6)) rfl rfl rfl (fun _ _ h => h) ?_
        refine j_bipush C dX4_nextToken_108 (v := 61) (by decide) ?_
        refine j_icmp_ne C dX4_nextToken_110 (tgt := 117) (by decide) (fun cq => ?_) (fun cq => ?_)
        · have h := jite_f h cq
          refine j_iconst C dX4_nextToken_117 (v := 0) (by decide) ?_
          refine j_loc C [1] rfl ?_
          exact jn118 p54 false s46_2  h
        · have h := jite_t h cq
          refine j_iconst C dX4_nextToken_113 (v := 1) (by decide) ?_
          refine j_goto C dX4_nextToken_114 (tgt := 118) (by decide) ?_
          refine j_loc C [1] rfl ?_
          exact jn118 p54 true s46_2  h
      · have h := jite_t h (jb_t cq)
        refine j_aload_n C dX4_nextToken_91 1 rfl ?_
        obtain ⟨p92, he92, h⟩ := jbind h
        refine j_cV0 C dX4_nextToken_92 (m_X4_readNumber n s46_2 he92) kc_X4_readNumber w_534 w_536 wp_7 w_6 jy_X4_readNumber ⟨⟨Nat.le_of_ble_eq_true rfl, Nat.le_of_ble_eq_true rfl⟩, ⟨rfl, rfl⟩, ⟨Nat.zero_le _, Nat.zero_le _⟩⟩ (Nat.le_of_ble_eq_true rfl) (by decide) rfl (r := (RX4, TX4, 6)) rfl rfl rfl (fun _ _ h => h) ?_
        refine j_goto C dX4_nextToken_95 (tgt := 148) (by decide) ?_
        exact j_vret C dX4_nextToken_148 rfl (Nat.zero_le _) (Nat.zero_le _) (jretWV h)
    · have h := jite_t h (jb_t cq)
      refine j_aload_n C dX4_nextToken_77 1 rfl ?_
      obtain ⟨p78, he78, h⟩ := jbind h
      refine j_cV0 C dX4_nextToken_78 (m_X4_readWord n s46_2 he78) kc_X4_readWord w_452 w_454 wp_3 w_6 jy_X4_readWord ⟨⟨Nat.le_of_ble_eq_true rfl, Nat.le_of_ble_eq_true rfl⟩, ⟨rfl, rfl⟩, ⟨Nat.zero_le _, Nat.zero_le _⟩⟩ (Nat.le_of_ble_eq_true rfl) (by decide) rfl (r := (RX4, TX4, 6)) rfl rfl rfl (fun _ _ h => h) ?_
      refine j_goto C dX4_nextToken_81 (tgt := 148) (by decide) ?_
      exact j_vret C dX4_nextToken_148 rfl (Nat.zero_le _) (Nat.zero_le _) (jretWV h)
  · have h := jite_f h cq
    refine j_aload_n C dX4_nextToken_62 1 rfl ?_
    refine j_iconst C dX4_nextToken_63 (v := 1) (by decide) ?_
    refine j_putI C dX4_nextToken_64 inX4 tyX4 tyX4_ok nmX4 rfl (by decide) 2 rfl rfl (by decide) w_175 rfl rfl rfl rfl (Nat.le_of_ble_eq_true rfl) (fun s64_6 hs64_6 => ?_)
    have h := jlet h hs64_6
    refine j_goto C dX4_nextToken_67 (tgt := 148) (by decide) ?_
    exact j_vret C dX4_nextToken_148 rfl (Nat.zero_le _) (Nat.zero_le _) (jretWV h)
-- X1_refuse
def F_X1_refuse (v1 : Int32) (s : jS) : Option jS :=
  (jl (upI s 49 0 v1) fun s2_1 => (jl (upI s2_1 49 1 (s2_1.1 27 4)) fun s13_2 => some s13_2))
def rm_X1_refuse : Room := { frames := 0, cells := 0, slots := 0, locals := 0 }
set_option maxHeartbeats 4000000 in
set_option maxRecDepth 100000 in
theorem m_X1_refuse {l : Launch} {D : va_G} {G : Nat → ClassId} {KV : jV} {ad : Nat → Nat} {nd : Nat} (v1 : Int32) (s : jS) {p : jS} (h : F_X1_refuse v1 s = some p) : jM l D G KV yX1_refuse cX1_refuse 2 none rm_X1_refuse [.ref (ad 49), .int v1] (jw 54 (cellC G nd) ad s) 0 0 (fun v u => v = none ∧ u = jw 54 (cellC G nd) ad p) := by
  refine jM.of (by decide) (Nat.le_of_ble_eq_true rfl) ?_
  intro K C
  unfold F_X1_refuse at h
  show K 0 0 (jw 54 (cellC G nd) ad s) 0 [(0, .ref (ad 49)), (1, .int v1)] []
  refine j_aload_n C dX1_refuse_0 0 rfl ?_
  refine j_iload_n C dX1_refuse_1 1 rfl ?_
  refine j_putI C dX1_refuse_2 inX1 tyX1 tyX1_ok nmX1 rfl (by decide) 0 rfl rfl (by decide) w_277 rfl rfl rfl rfl (Nat.le_of_ble_eq_true rfl) (fun s2_1 hs2_1 => ?_)
  have h := jlet h hs2_1
  refine j_aload_n C dX1_refuse_5 0 rfl ?_
  refine j_aload_n C dX1_refuse_6 0 rfl ?_
  refine j_getW C dX1_refuse_7 inX1 rfl (by decide) rfl 2 (by decide) w_281 rfl rfl ?_
  refine j_getW C dX1_refuse_10 inX4 rfl (by decide) rfl 4 (by decide) w_178 rfl rfl ?_
  refine j_putI C dX1_refuse_13 inX1 tyX1 tyX1_ok nmX1 rfl (by decide) 1 rfl rfl (by decide) w_279 rfl rfl rfl rfl (Nat.le_of_ble_eq_true rfl) (fun s13_2 hs13_2 => ?_)
  have h := jlet h hs13_2
  exact j_vret C dX1_refuse_16 rfl (Nat.zero_le _) (Nat.zero_le _) (jretWV h)
