theorem dX9_beginOne_0 : decode cX9_beginOne 0 = .ok (.aload_n 0, 1) := by decide +kernel
theorem dX9_beginOne_1 : decode cX9_beginOne 1 = .ok (.getfield 97, 3) := by decide +kernel
theorem dX9_beginOne_4 : decode cX9_beginOne 4 = .ok (.iconst 1, 1) := by decide +kernel
theorem dX9_beginOne_5 : decode cX9_beginOne 5 = .ok (.if_icmp .ne 34, 3) := by decide +kernel
theorem dX9_beginOne_8 : decode cX9_beginOne 8 = .ok (.aload_n 0, 1) := by decide +kernel
theorem dX9_beginOne_9 : decode cX9_beginOne 9 = .ok (.getfield 103, 3) := by decide +kernel
theorem dX9_beginOne_12 : decode cX9_beginOne 12 = .ok (.sipush 9999, 3) := by decide +kernel
theorem dX9_beginOne_15 : decode cX9_beginOne 15 = .ok (.if_icmp .le 5, 3) := by decide +kernel
theorem dX9_beginOne_18 : decode cX9_beginOne 18 = .ok (.iconst 2, 1) := by decide +kernel
theorem dX9_beginOne_19 : decode cX9_beginOne 19 = .ok (.ireturn, 1) := by decide +kernel
theorem dX9_beginOne_20 : decode cX9_beginOne 20 = .ok (.aload_n 0, 1) := by decide +kernel
theorem dX9_beginOne_21 : decode cX9_beginOne 21 = .ok (.iconst 0, 1) := by decide +kernel
theorem dX9_beginOne_22 : decode cX9_beginOne 22 = .ok (.aload_n 0, 1) := by decide +kernel
theorem dX9_beginOne_23 : decode cX9_beginOne 23 = .ok (.getfield 103, 3) := by decide +kernel
theorem dX9_beginOne_26 : decode cX9_beginOne 26 = .ok (.invokevirtual 138, 3) := by decide +kernel
theorem dX9_beginOne_29 : decode cX9_beginOne 29 = .ok (.aload_n 0, 1) := by decide +kernel
theorem dX9_beginOne_30 : decode cX9_beginOne 30 = .ok (.invokevirtual 150, 3) := by decide +kernel
theorem dX9_beginOne_33 : decode cX9_beginOne 33 = .ok (.aload_n 0, 1) := by decide +kernel
theorem dX9_beginOne_34 : decode cX9_beginOne 34 = .ok (.invokevirtual 153, 3) := by decide +kernel
theorem dX9_beginOne_37 : decode cX9_beginOne 37 = .ok (.iconst 0, 1) := by decide +kernel
theorem dX9_beginOne_38 : decode cX9_beginOne 38 = .ok (.ireturn, 1) := by decide +kernel
theorem dX9_beginOne_39 : decode cX9_beginOne 39 = .ok (.aload_n 0, 1) := by decide +kernel
theorem dX9_beginOne_40 : decode cX9_beginOne 40 = .ok (.invokevirtual 156, 3) := by decide +kernel
theorem dX9_beginOne_43 : decode cX9_beginOne 43 = .ok (.ifCond .lt 22, 3) := by decide +kernel
theorem dX9_beginOne_46 : decode cX9_beginOne 46 = .ok (.aload_n 0, 1) := by decide +kernel
theorem dX9_beginOne_47 : decode cX9_beginOne 47 = .ok (.iconst 1, 1) := by decide +kernel
theorem dX9_beginOne_48 : decode cX9_beginOne 48 = .ok (.aload_n 0, 1) := by decide +kernel
theorem dX9_beginOne_49 : decode cX9_beginOne 49 = .ok (.invokevirtual 156, 3) := by decide +kernel
theorem dX9_beginOne_52 : decode cX9_beginOne 52 = .ok (.invokevirtual 138, 3) := by decide +kernel
theorem dX9_beginOne_55 : decode cX9_beginOne 55 = .ok (.aload_n 0, 1) := by decide +kernel
theorem dX9_beginOne_56 : decode cX9_beginOne 56 = .ok (.invokevirtual 150, 3) := by decide +kernel
theorem dX9_beginOne_59 : decode cX9_beginOne 59 = .ok (.aload_n 0, 1) := by decide +kernel
theorem dX9_beginOne_60 : decode cX9_beginOne 60 = .ok (.invokevirtual 153, 3) := by decide +kernel
theorem dX9_beginOne_63 : decode cX9_beginOne 63 = .ok (.iconst 0, 1) := by decide +kernel
theorem dX9_beginOne_64 : decode cX9_beginOne 64 = .ok (.ireturn, 1) := by decide +kernel
theorem dX9_beginOne_65 : decode cX9_beginOne 65 = .ok (.aload_n 0, 1) := by decide +kernel
theorem dX9_beginOne_66 : decode cX9_beginOne 66 = .ok (.getfield 97, 3) := by decide +kernel
theorem dX9_beginOne_69 : decode cX9_beginOne 69 = .ok (.bipush 40, 2) := by decide +kernel
theorem dX9_beginOne_71 : decode cX9_beginOne 71 = .ok (.if_icmp .ne 8, 3) := by decide +kernel
theorem dX9_beginOne_74 : decode cX9_beginOne 74 = .ok (.bipush 40, 2) := by decide +kernel
theorem dX9_beginOne_76 : decode cX9_beginOne 76 = .ok (.goto 17, 3) := by decide +kernel
theorem dX9_beginOne_79 : decode cX9_beginOne 79 = .ok (.aload_n 0, 1) := by decide +kernel
theorem dX9_beginOne_80 : decode cX9_beginOne 80 = .ok (.getfield 97, 3) := by decide +kernel
theorem dX9_beginOne_83 : decode cX9_beginOne 83 = .ok (.bipush 45, 2) := by decide +kernel
theorem dX9_beginOne_85 : decode cX9_beginOne 85 = .ok (.if_icmp .ne 7, 3) := by decide +kernel
theorem dX9_beginOne_88 : decode cX9_beginOne 88 = .ok (.iconst 2, 1) := by decide +kernel
theorem dX9_beginOne_89 : decode cX9_beginOne 89 = .ok (.goto 4, 3) := by decide +kernel
theorem dX9_beginOne_92 : decode cX9_beginOne 92 = .ok (.iconst 0, 1) := by decide +kernel
theorem dX9_beginOne_93 : decode cX9_beginOne 93 = .ok (.istore_n 1, 1) := by decide +kernel
theorem dX9_beginOne_94 : decode cX9_beginOne 94 = .ok (.iload_n 1, 1) := by decide +kernel
theorem dX9_beginOne_95 : decode cX9_beginOne 95 = .ok (.ifCond .ne 5, 3) := by decide +kernel
theorem dX9_beginOne_98 : decode cX9_beginOne 98 = .ok (.iconst 1, 1) := by decide +kernel
theorem dX9_beginOne_99 : decode cX9_beginOne 99 = .ok (.ireturn, 1) := by decide +kernel
theorem dX9_beginOne_100 : decode cX9_beginOne 100 = .ok (.aload_n 0, 1) := by decide +kernel
theorem dX9_beginOne_101 : decode cX9_beginOne 101 = .ok (.getfield 135, 3) := by decide +kernel
theorem dX9_beginOne_104 : decode cX9_beginOne 104 = .ok (.bipush 8, 2) := by decide +kernel
theorem dX9_beginOne_106 : decode cX9_beginOne 106 = .ok (.if_icmp .ne 5, 3) := by decide +kernel
theorem dX9_beginOne_109 : decode cX9_beginOne 109 = .ok (.iconst 3, 1) := by decide +kernel
theorem dX9_beginOne_110 : decode cX9_beginOne 110 = .ok (.ireturn, 1) := by decide +kernel
theorem dX9_beginOne_111 : decode cX9_beginOne 111 = .ok (.aload_n 0, 1) := by decide +kernel
theorem dX9_beginOne_112 : decode cX9_beginOne 112 = .ok (.dup, 1) := by decide +kernel
theorem dX9_beginOne_113 : decode cX9_beginOne 113 = .ok (.getfield 135, 3) := by decide +kernel
theorem dX9_beginOne_116 : decode cX9_beginOne 116 = .ok (.iconst 1, 1) := by decide +kernel
theorem dX9_beginOne_117 : decode cX9_beginOne 117 = .ok (.iadd, 1) := by decide +kernel
theorem dX9_beginOne_118 : decode cX9_beginOne 118 = .ok (.putfield 135, 3) := by decide +kernel
theorem dX9_beginOne_121 : decode cX9_beginOne 121 = .ok (.aload_n 0, 1) := by decide +kernel
theorem dX9_beginOne_122 : decode cX9_beginOne 122 = .ok (.iload_n 1, 1) := by decide +kernel
theorem dX9_beginOne_123 : decode cX9_beginOne 123 = .ok (.invokevirtual 160, 3) := by decide +kernel
theorem dX9_beginOne_126 : decode cX9_beginOne 126 = .ok (.aload_n 0, 1) := by decide +kernel
theorem dX9_beginOne_127 : decode cX9_beginOne 127 = .ok (.invokevirtual 150, 3) := by decide +kernel
theorem dX9_beginOne_130 : decode cX9_beginOne 130 = .ok (.iconst 0, 1) := by decide +kernel
theorem dX9_beginOne_131 : decode cX9_beginOne 131 = .ok (.ireturn, 1) := by decide +kernel
theorem dX9_summed_0 : decode cX9_summed 0 = .ok (.aload_n 0, 1) := by decide +kernel
theorem dX9_summed_1 : decode cX9_summed 1 = .ok (.iconst 0, 1) := by decide +kernel
theorem dX9_summed_2 : decode cX9_summed 2 = .ok (.putfield 128, 3) := by decide +kernel
theorem dX9_summed_5 : decode cX9_summed 5 = .ok (.aload_n 0, 1) := by decide +kernel
theorem dX9_summed_6 : decode cX9_summed 6 = .ok (.iconst 0, 1) := by decide +kernel
theorem dX9_summed_7 : decode cX9_summed 7 = .ok (.putfield 131, 3) := by decide +kernel
theorem dX9_summed_10 : decode cX9_summed 10 = .ok (.aload_n 0, 1) := by decide +kernel
theorem dX9_summed_11 : decode cX9_summed 11 = .ok (.getfield 131, 3) := by decide +kernel
theorem dX9_summed_14 : decode cX9_summed 14 = .ok (.ifCond .eq 10, 3) := by decide +kernel
theorem dX9_summed_17 : decode cX9_summed 17 = .ok (.aload_n 0, 1) := by decide +kernel
theorem dX9_summed_18 : decode cX9_summed 18 = .ok (.invokevirtual 170, 3) := by decide +kernel
theorem dX9_summed_21 : decode cX9_summed 21 = .ok (.ifCond .eq 31, 3) := by decide +kernel
theorem dX9_summed_24 : decode cX9_summed 24 = .ok (.aload_n 0, 1) := by decide +kernel
theorem dX9_summed_25 : decode cX9_summed 25 = .ok (.getfield 131, 3) := by decide +kernel
theorem dX9_summed_28 : decode cX9_summed 28 = .ok (.ifCond .eq 10, 3) := by decide +kernel
theorem dX9_summed_31 : decode cX9_summed 31 = .ok (.aload_n 0, 1) := by decide +kernel
theorem dX9_summed_32 : decode cX9_summed 32 = .ok (.invokevirtual 173, 3) := by decide +kernel
theorem dX9_summed_35 : decode cX9_summed 35 = .ok (.goto 7, 3) := by decide +kernel
theorem dX9_summed_38 : decode cX9_summed 38 = .ok (.aload_n 0, 1) := by decide +kernel
theorem dX9_summed_39 : decode cX9_summed 39 = .ok (.invokevirtual 176, 3) := by decide +kernel
theorem dX9_summed_42 : decode cX9_summed 42 = .ok (.istore_n 1, 1) := by decide +kernel
theorem dX9_summed_43 : decode cX9_summed 43 = .ok (.iload_n 1, 1) := by decide +kernel
theorem dX9_summed_44 : decode cX9_summed 44 = .ok (.ifCond .eq 5, 3) := by decide +kernel
theorem dX9_summed_47 : decode cX9_summed 47 = .ok (.iload_n 1, 1) := by decide +kernel
theorem dX9_summed_48 : decode cX9_summed 48 = .ok (.ireturn, 1) := by decide +kernel
theorem dX9_summed_49 : decode cX9_summed 49 = .ok (.goto (-39), 3) := by decide +kernel
theorem dX9_summed_52 : decode cX9_summed 52 = .ok (.aload_n 0, 1) := by decide +kernel
theorem dX9_summed_53 : decode cX9_summed 53 = .ok (.iconst 3, 1) := by decide +kernel
theorem dX9_summed_54 : decode cX9_summed 54 = .ok (.invokevirtual 167, 3) := by decide +kernel
theorem dX9_summed_57 : decode cX9_summed 57 = .ok (.aload_n 0, 1) := by decide +kernel
theorem dX9_summed_58 : decode cX9_summed 58 = .ok (.getfield 128, 3) := by decide +kernel
theorem dX9_summed_61 : decode cX9_summed 61 = .ok (.ifCond .le 7, 3) := by decide +kernel
theorem dX9_summed_64 : decode cX9_summed 64 = .ok (.iconst 1, 1) := by decide +kernel
theorem dX9_summed_65 : decode cX9_summed 65 = .ok (.goto 4, 3) := by decide +kernel
theorem dX9_summed_68 : decode cX9_summed 68 = .ok (.iconst 0, 1) := by decide +kernel
theorem dX9_summed_69 : decode cX9_summed 69 = .ok (.ireturn, 1) := by decide +kernel
theorem dX9_compareOf_0 : decode cX9_compareOf 0 = .ok (.aload_n 0, 1) := by decide +kernel
theorem dX9_compareOf_1 : decode cX9_compareOf 1 = .ok (.getfield 97, 3) := by decide +kernel
theorem dX9_compareOf_4 : decode cX9_compareOf 4 = .ok (.bipush 60, 2) := by decide +kernel
theorem dX9_compareOf_6 : decode cX9_compareOf 6 = .ok (.if_icmp .ne 8, 3) := by decide +kernel
theorem dX9_compareOf_9 : decode cX9_compareOf 9 = .ok (.bipush 10, 2) := by decide +kernel
theorem dX9_compareOf_11 : decode cX9_compareOf 11 = .ok (.goto 72, 3) := by decide +kernel
theorem dX9_compareOf_14 : decode cX9_compareOf 14 = .ok (.aload_n 0, 1) := by decide +kernel
theorem dX9_compareOf_15 : decode cX9_compareOf 15 = .ok (.getfield 97, 3) := by decide +kernel
theorem dX9_compareOf_18 : decode cX9_compareOf 18 = .ok (.iconst 4, 1) := by decide +kernel
theorem dX9_compareOf_19 : decode cX9_compareOf 19 = .ok (.if_icmp .ne 8, 3) := by decide +kernel
theorem dX9_compareOf_22 : decode cX9_compareOf 22 = .ok (.bipush 11, 2) := by decide +kernel
theorem dX9_compareOf_24 : decode cX9_compareOf 24 = .ok (.goto 59, 3) := by decide +kernel
theorem dX9_compareOf_27 : decode cX9_compareOf 27 = .ok (.aload_n 0, 1) := by decide +kernel
theorem dX9_compareOf_28 : decode cX9_compareOf 28 = .ok (.getfield 97, 3) := by decide +kernel
theorem dX9_compareOf_31 : decode cX9_compareOf 31 = .ok (.bipush 62, 2) := by decide +kernel
theorem dX9_compareOf_33 : decode cX9_compareOf 33 = .ok (.if_icmp .ne 8, 3) := by decide +kernel
theorem dX9_compareOf_36 : decode cX9_compareOf 36 = .ok (.bipush 12, 2) := by decide +kernel
theorem dX9_compareOf_38 : decode cX9_compareOf 38 = .ok (.goto 45, 3) := by decide +kernel
theorem dX9_compareOf_41 : decode cX9_compareOf 41 = .ok (.aload_n 0, 1) := by decide +kernel
theorem dX9_compareOf_42 : decode cX9_compareOf 42 = .ok (.getfield 97, 3) := by decide +kernel
theorem dX9_compareOf_45 : decode cX9_compareOf 45 = .ok (.iconst 5, 1) := by decide +kernel
theorem dX9_compareOf_46 : decode cX9_compareOf 46 = .ok (.if_icmp .ne 8, 3) := by decide +kernel
theorem dX9_compareOf_49 : decode cX9_compareOf 49 = .ok (.bipush 13, 2) := by decide +kernel
theorem dX9_compareOf_51 : decode cX9_compareOf 51 = .ok (.goto 32, 3) := by decide +kernel
theorem dX9_compareOf_54 : decode cX9_compareOf 54 = .ok (.aload_n 0, 1) := by decide +kernel
theorem dX9_compareOf_55 : decode cX9_compareOf 55 = .ok (.getfield 97, 3) := by decide +kernel
theorem dX9_compareOf_58 : decode cX9_compareOf 58 = .ok (.bipush 61, 2) := by decide +kernel
theorem dX9_compareOf_60 : decode cX9_compareOf 60 = .ok (.if_icmp .ne 8, 3) := by decide +kernel
theorem dX9_compareOf_63 : decode cX9_compareOf 63 = .ok (.bipush 14, 2) := by decide +kernel
theorem dX9_compareOf_65 : decode cX9_compareOf 65 = .ok (.goto 18, 3) := by decide +kernel
theorem dX9_compareOf_68 : decode cX9_compareOf 68 = .ok (.aload_n 0, 1) := by decide +kernel
theorem dX9_compareOf_69 : decode cX9_compareOf 69 = .ok (.getfield 97, 3) := by decide +kernel
theorem dX9_compareOf_72 : decode cX9_compareOf 72 = .ok (.bipush 35, 2) := by decide +kernel
theorem dX9_compareOf_74 : decode cX9_compareOf 74 = .ok (.if_icmp .ne 8, 3) := by decide +kernel
theorem dX9_compareOf_77 : decode cX9_compareOf 77 = .ok (.bipush 15, 2) := by decide +kernel
theorem dX9_compareOf_79 : decode cX9_compareOf 79 = .ok (.goto 4, 3) := by decide +kernel
theorem dX9_compareOf_82 : decode cX9_compareOf 82 = .ok (.iconst (-1), 1) := by decide +kernel
theorem dX9_compareOf_83 : decode cX9_compareOf 83 = .ok (.ireturn, 1) := by decide +kernel
theorem dX9_asks_0 : decode cX9_asks 0 = .ok (.iconst 0, 1) := by decide +kernel
theorem dX9_asks_1 : decode cX9_asks 1 = .ok (.istore_n 1, 1) := by decide +kernel
theorem dX9_asks_2 : decode cX9_asks 2 = .ok (.aload_n 0, 1) := by decide +kernel
theorem dX9_asks_3 : decode cX9_asks 3 = .ok (.bipush 110, 2) := by decide +kernel
theorem dX9_asks_5 : decode cX9_asks 5 = .ok (.bipush 111, 2) := by decide +kernel
theorem dX9_asks_7 : decode cX9_asks 7 = .ok (.bipush 116, 2) := by decide +kernel
theorem dX9_asks_9 : decode cX9_asks 9 = .ok (.invokestatic 114, 3) := by decide +kernel
theorem dX9_asks_12 : decode cX9_asks 12 = .ok (.invokevirtual 179, 3) := by decide +kernel
theorem dX9_asks_15 : decode cX9_asks 15 = .ok (.ifCond .eq 34, 3) := by decide +kernel
theorem dX9_asks_18 : decode cX9_asks 18 = .ok (.aload_n 0, 1) := by decide +kernel
theorem dX9_asks_19 : decode cX9_asks 19 = .ok (.getfield 135, 3) := by decide +kernel
theorem dX9_asks_22 : decode cX9_asks 22 = .ok (.bipush 8, 2) := by decide +kernel
theorem dX9_asks_24 : decode cX9_asks 24 = .ok (.if_icmp .ne 5, 3) := by decide +kernel
theorem dX9_asks_27 : decode cX9_asks 27 = .ok (.iconst 3, 1) := by decide +kernel
theorem dX9_asks_28 : decode cX9_asks 28 = .ok (.ireturn, 1) := by decide +kernel
theorem dX9_asks_29 : decode cX9_asks 29 = .ok (.aload_n 0, 1) := by decide +kernel
theorem dX9_asks_30 : decode cX9_asks 30 = .ok (.dup, 1) := by decide +kernel
theorem dX9_asks_31 : decode cX9_asks 31 = .ok (.getfield 135, 3) := by decide +kernel
theorem dX9_asks_34 : decode cX9_asks 34 = .ok (.iconst 1, 1) := by decide +kernel
theorem dX9_asks_35 : decode cX9_asks 35 = .ok (.iadd, 1) := by decide +kernel
theorem dX9_asks_36 : decode cX9_asks 36 = .ok (.putfield 135, 3) := by decide +kernel
theorem dX9_asks_39 : decode cX9_asks 39 = .ok (.iinc 1 1, 3) := by decide +kernel
theorem dX9_asks_42 : decode cX9_asks 42 = .ok (.aload_n 0, 1) := by decide +kernel
theorem dX9_asks_43 : decode cX9_asks 43 = .ok (.invokevirtual 150, 3) := by decide +kernel
theorem dX9_asks_46 : decode cX9_asks 46 = .ok (.goto (-44), 3) := by decide +kernel
theorem dX9_asks_49 : decode cX9_asks 49 = .ok (.aload_n 0, 1) := by decide +kernel
theorem dX9_asks_50 : decode cX9_asks 50 = .ok (.invokevirtual 183, 3) := by decide +kernel
theorem dX9_asks_53 : decode cX9_asks 53 = .ok (.istore_n 2, 1) := by decide +kernel
theorem dX9_asks_54 : decode cX9_asks 54 = .ok (.iload_n 2, 1) := by decide +kernel
theorem dX9_asks_55 : decode cX9_asks 55 = .ok (.ifCond .eq 5, 3) := by decide +kernel
theorem dX9_asks_58 : decode cX9_asks 58 = .ok (.iload_n 2, 1) := by decide +kernel
theorem dX9_asks_59 : decode cX9_asks 59 = .ok (.ireturn, 1) := by decide +kernel
theorem dX9_asks_60 : decode cX9_asks 60 = .ok (.aload_n 0, 1) := by decide +kernel
theorem dX9_asks_61 : decode cX9_asks 61 = .ok (.invokevirtual 186, 3) := by decide +kernel
theorem dX9_asks_64 : decode cX9_asks 64 = .ok (.istore_n 3, 1) := by decide +kernel
theorem dX9_asks_65 : decode cX9_asks 65 = .ok (.iload_n 3, 1) := by decide +kernel
theorem dX9_asks_66 : decode cX9_asks 66 = .ok (.ifCond .ge 5, 3) := by decide +kernel
theorem dX9_asks_69 : decode cX9_asks 69 = .ok (.iconst 1, 1) := by decide +kernel
theorem dX9_asks_70 : decode cX9_asks 70 = .ok (.ireturn, 1) := by decide +kernel
theorem dX9_asks_71 : decode cX9_asks 71 = .ok (.aload_n 0, 1) := by decide +kernel
theorem dX9_asks_72 : decode cX9_asks 72 = .ok (.invokevirtual 150, 3) := by decide +kernel
theorem dX9_asks_75 : decode cX9_asks 75 = .ok (.aload_n 0, 1) := by decide +kernel
theorem dX9_asks_76 : decode cX9_asks 76 = .ok (.invokevirtual 183, 3) := by decide +kernel
theorem dX9_asks_79 : decode cX9_asks 79 = .ok (.istore_n 2, 1) := by decide +kernel
theorem dX9_asks_80 : decode cX9_asks 80 = .ok (.iload_n 2, 1) := by decide +kernel
theorem dX9_asks_81 : decode cX9_asks 81 = .ok (.ifCond .eq 5, 3) := by decide +kernel
theorem dX9_asks_84 : decode cX9_asks 84 = .ok (.iload_n 2, 1) := by decide +kernel
theorem dX9_asks_85 : decode cX9_asks 85 = .ok (.ireturn, 1) := by decide +kernel
theorem dX9_asks_86 : decode cX9_asks 86 = .ok (.aload_n 0, 1) := by decide +kernel
theorem dX9_asks_87 : decode cX9_asks 87 = .ok (.iload_n 3, 1) := by decide +kernel
theorem dX9_asks_88 : decode cX9_asks 88 = .ok (.iconst 0, 1) := by decide +kernel
theorem dX9_asks_89 : decode cX9_asks 89 = .ok (.invokevirtual 138, 3) := by decide +kernel
theorem dX9_asks_92 : decode cX9_asks 92 = .ok (.aload_n 0, 1) := by decide +kernel
theorem dX9_asks_93 : decode cX9_asks 93 = .ok (.dup, 1) := by decide +kernel
theorem dX9_asks_94 : decode cX9_asks 94 = .ok (.getfield 135, 3) := by decide +kernel
theorem dX9_asks_97 : decode cX9_asks 97 = .ok (.iload_n 1, 1) := by decide +kernel
theorem dX9_asks_98 : decode cX9_asks 98 = .ok (.isub, 1) := by decide +kernel
theorem dX9_asks_99 : decode cX9_asks 99 = .ok (.putfield 135, 3) := by decide +kernel
theorem dX9_asks_102 : decode cX9_asks 102 = .ok (.iconst 0, 1) := by decide +kernel
theorem dX9_asks_103 : decode cX9_asks 103 = .ok (.istore 4, 2) := by decide +kernel
theorem dX9_asks_105 : decode cX9_asks 105 = .ok (.iload 4, 2) := by decide +kernel
theorem dX9_asks_107 : decode cX9_asks 107 = .ok (.iload_n 1, 1) := by decide +kernel
theorem dX9_asks_108 : decode cX9_asks 108 = .ok (.if_icmp .ge 16, 3) := by decide +kernel
theorem dX9_asks_111 : decode cX9_asks 111 = .ok (.aload_n 0, 1) := by decide +kernel
theorem dX9_asks_112 : decode cX9_asks 112 = .ok (.bipush 20, 2) := by decide +kernel
theorem dX9_asks_114 : decode cX9_asks 114 = .ok (.iconst 0, 1) := by decide +kernel
theorem dX9_asks_115 : decode cX9_asks 115 = .ok (.invokevirtual 138, 3) := by decide +kernel
theorem dX9_asks_118 : decode cX9_asks 118 = .ok (.iinc 4 1, 3) := by decide +kernel
theorem dX9_asks_121 : decode cX9_asks 121 = .ok (.goto (-16), 3) := by decide +kernel
theorem dX9_asks_124 : decode cX9_asks 124 = .ok (.iconst 0, 1) := by decide +kernel
theorem dX9_asks_125 : decode cX9_asks 125 = .ok (.ireturn, 1) := by decide +kernel
theorem dX9_either_0 : decode cX9_either 0 = .ok (.iconst 0, 1) := by decide +kernel
theorem dX9_either_1 : decode cX9_either 1 = .ok (.istore_n 1, 1) := by decide +kernel
theorem dX9_either_2 : decode cX9_either 2 = .ok (.iconst 0, 1) := by decide +kernel
theorem dX9_either_3 : decode cX9_either 3 = .ok (.istore_n 2, 1) := by decide +kernel
theorem dX9_either_4 : decode cX9_either 4 = .ok (.iconst 1, 1) := by decide +kernel
theorem dX9_either_5 : decode cX9_either 5 = .ok (.istore_n 3, 1) := by decide +kernel
theorem dX9_either_6 : decode cX9_either 6 = .ok (.iload_n 3, 1) := by decide +kernel
theorem dX9_either_7 : decode cX9_either 7 = .ok (.ifCond .eq 112, 3) := by decide +kernel
theorem dX9_either_10 : decode cX9_either 10 = .ok (.aload_n 0, 1) := by decide +kernel
theorem dX9_either_11 : decode cX9_either 11 = .ok (.invokevirtual 189, 3) := by decide +kernel
theorem dX9_either_14 : decode cX9_either 14 = .ok (.istore 4, 2) := by decide +kernel
theorem dX9_either_16 : decode cX9_either 16 = .ok (.iload 4, 2) := by decide +kernel
theorem dX9_either_18 : decode cX9_either 18 = .ok (.ifCond .eq 6, 3) := by decide +kernel
theorem dX9_either_21 : decode cX9_either 21 = .ok (.iload 4, 2) := by decide +kernel
theorem dX9_either_23 : decode cX9_either 23 = .ok (.ireturn, 1) := by decide +kernel
theorem dX9_either_24 : decode cX9_either 24 = .ok (.iload_n 1, 1) := by decide +kernel
theorem dX9_either_25 : decode cX9_either 25 = .ok (.ifCond .eq 10, 3) := by decide +kernel
theorem dX9_either_28 : decode cX9_either 28 = .ok (.aload_n 0, 1) := by decide +kernel
theorem dX9_either_29 : decode cX9_either 29 = .ok (.bipush 21, 2) := by decide +kernel
theorem dX9_either_31 : decode cX9_either 31 = .ok (.iconst 0, 1) := by decide +kernel
theorem dX9_either_32 : decode cX9_either 32 = .ok (.invokevirtual 138, 3) := by decide +kernel
theorem dX9_either_35 : decode cX9_either 35 = .ok (.aload_n 0, 1) := by decide +kernel
theorem dX9_either_36 : decode cX9_either 36 = .ok (.bipush 97, 2) := by decide +kernel
theorem dX9_either_38 : decode cX9_either 38 = .ok (.bipush 110, 2) := by decide +kernel
theorem dX9_either_40 : decode cX9_either 40 = .ok (.bipush 100, 2) := by decide +kernel
theorem dX9_either_42 : decode cX9_either 42 = .ok (.invokestatic 114, 3) := by decide +kernel
theorem dX9_either_45 : decode cX9_either 45 = .ok (.invokevirtual 179, 3) := by decide +kernel
theorem dX9_either_48 : decode cX9_either 48 = .ok (.istore_n 1, 1) := by decide +kernel
theorem dX9_either_49 : decode cX9_either 49 = .ok (.aload_n 0, 1) := by decide +kernel
theorem dX9_either_50 : decode cX9_either 50 = .ok (.getfield 97, 3) := by decide +kernel
theorem dX9_either_53 : decode cX9_either 53 = .ok (.iconst 2, 1) := by decide +kernel
theorem dX9_either_54 : decode cX9_either 54 = .ok (.if_icmp .ne 18, 3) := by decide +kernel
theorem dX9_either_57 : decode cX9_either 57 = .ok (.aload_n 0, 1) := by decide +kernel
theorem dX9_either_58 : decode cX9_either 58 = .ok (.getfield 110, 3) := by decide +kernel
theorem dX9_either_61 : decode cX9_either 61 = .ok (.ldc2_w 192, 3) := by decide +kernel
theorem dX9_either_64 : decode cX9_either 64 = .ok (.lcmp, 1) := by decide +kernel
theorem dX9_either_65 : decode cX9_either 65 = .ok (.ifCond .ne 7, 3) := by decide +kernel
theorem dX9_either_68 : decode cX9_either 68 = .ok (.iconst 1, 1) := by decide +kernel
theorem dX9_either_69 : decode cX9_either 69 = .ok (.goto 4, 3) := by decide +kernel
theorem dX9_either_72 : decode cX9_either 72 = .ok (.iconst 0, 1) := by decide +kernel
theorem dX9_either_73 : decode cX9_either 73 = .ok (.istore 5, 2) := by decide +kernel
theorem dX9_either_75 : decode cX9_either 75 = .ok (.iload_n 1, 1) := by decide +kernel
theorem dX9_either_76 : decode cX9_either 76 = .ok (.ifCond .ne 17, 3) := by decide +kernel
theorem dX9_either_79 : decode cX9_either 79 = .ok (.iload_n 2, 1) := by decide +kernel
theorem dX9_either_80 : decode cX9_either 80 = .ok (.ifCond .eq 10, 3) := by decide +kernel
theorem dX9_either_83 : decode cX9_either 83 = .ok (.aload_n 0, 1) := by decide +kernel
theorem dX9_either_84 : decode cX9_either 84 = .ok (.bipush 22, 2) := by decide +kernel
theorem dX9_either_86 : decode cX9_either 86 = .ok (.iconst 0, 1) := by decide +kernel
theorem dX9_either_87 : decode cX9_either 87 = .ok (.invokevirtual 138, 3) := by decide +kernel
theorem dX9_either_90 : decode cX9_either 90 = .ok (.iload 5, 2) := by decide +kernel
theorem dX9_either_92 : decode cX9_either 92 = .ok (.istore_n 2, 1) := by decide +kernel
theorem dX9_either_93 : decode cX9_either 93 = .ok (.iload_n 1, 1) := by decide +kernel
theorem dX9_either_94 : decode cX9_either 94 = .ok (.ifCond .ne 8, 3) := by decide +kernel
theorem dX9_either_97 : decode cX9_either 97 = .ok (.iload 5, 2) := by decide +kernel
theorem dX9_either_99 : decode cX9_either 99 = .ok (.ifCond .eq 7, 3) := by decide +kernel
theorem dX9_either_102 : decode cX9_either 102 = .ok (.iconst 1, 1) := by decide +kernel
theorem dX9_either_103 : decode cX9_either 103 = .ok (.goto 4, 3) := by decide +kernel
theorem dX9_either_106 : decode cX9_either 106 = .ok (.iconst 0, 1) := by decide +kernel
theorem dX9_either_107 : decode cX9_either 107 = .ok (.istore_n 3, 1) := by decide +kernel
theorem dX9_either_108 : decode cX9_either 108 = .ok (.iload_n 3, 1) := by decide +kernel
theorem dX9_either_109 : decode cX9_either 109 = .ok (.ifCond .eq 7, 3) := by decide +kernel
theorem dX9_either_112 : decode cX9_either 112 = .ok (.aload_n 0, 1) := by decide +kernel
theorem dX9_either_113 : decode cX9_either 113 = .ok (.invokevirtual 150, 3) := by decide +kernel
theorem dX9_either_116 : decode cX9_either 116 = .ok (.goto (-110), 3) := by decide +kernel
theorem dX9_either_119 : decode cX9_either 119 = .ok (.iconst 0, 1) := by decide +kernel
theorem dX9_either_120 : decode cX9_either 120 = .ok (.ireturn, 1) := by decide +kernel
theorem dX9_figure_0 : decode cX9_figure 0 = .ok (.aload_n 0, 1) := by decide +kernel
theorem dX9_figure_1 : decode cX9_figure 1 = .ok (.getfield 97, 3) := by decide +kernel
theorem dX9_figure_4 : decode cX9_figure 4 = .ok (.iconst 1, 1) := by decide +kernel
theorem dX9_figure_5 : decode cX9_figure 5 = .ok (.if_icmp .eq 5, 3) := by decide +kernel
theorem dX9_figure_8 : decode cX9_figure 8 = .ok (.iconst 1, 1) := by decide +kernel
theorem dX9_figure_9 : decode cX9_figure 9 = .ok (.ireturn, 1) := by decide +kernel
theorem dX9_figure_10 : decode cX9_figure 10 = .ok (.aload_n 0, 1) := by decide +kernel
theorem dX9_figure_11 : decode cX9_figure 11 = .ok (.getfield 103, 3) := by decide +kernel
theorem dX9_figure_14 : decode cX9_figure 14 = .ok (.iload_n 2, 1) := by decide +kernel
theorem dX9_figure_15 : decode cX9_figure 15 = .ok (.iload_n 3, 1) := by decide +kernel
theorem dX9_figure_16 : decode cX9_figure 16 = .ok (.invokestatic 69, 3) := by decide +kernel
theorem dX9_figure_19 : decode cX9_figure 19 = .ok (.ifCond .ne 5, 3) := by decide +kernel
theorem dX9_figure_22 : decode cX9_figure 22 = .ok (.iconst 2, 1) := by decide +kernel
theorem dX9_figure_23 : decode cX9_figure 23 = .ok (.ireturn, 1) := by decide +kernel
theorem dX9_figure_24 : decode cX9_figure 24 = .ok (.aload_n 0, 1) := by decide +kernel
theorem dX9_figure_25 : decode cX9_figure 25 = .ok (.getfield 16, 3) := by decide +kernel
theorem dX9_figure_28 : decode cX9_figure 28 = .ok (.iload_n 1, 1) := by decide +kernel
theorem dX9_figure_29 : decode cX9_figure 29 = .ok (.aload_n 0, 1) := by decide +kernel
theorem dX9_figure_30 : decode cX9_figure 30 = .ok (.getfield 103, 3) := by decide +kernel
theorem dX9_figure_33 : decode cX9_figure 33 = .ok (.iastore, 1) := by decide +kernel
theorem dX9_figure_34 : decode cX9_figure 34 = .ok (.aload_n 0, 1) := by decide +kernel
theorem dX9_figure_35 : decode cX9_figure 35 = .ok (.invokevirtual 150, 3) := by decide +kernel
theorem dX9_figure_38 : decode cX9_figure 38 = .ok (.iconst 0, 1) := by decide +kernel
theorem dX9_figure_39 : decode cX9_figure 39 = .ok (.ireturn, 1) := by decide +kernel
theorem dX9_knocked_0 : decode cX9_knocked 0 = .ok (.aload_n 0, 1) := by decide +kernel
theorem dX9_knocked_1 : decode cX9_knocked 1 = .ok (.iload_n 1, 1) := by decide +kernel
theorem dX9_knocked_2 : decode cX9_knocked 2 = .ok (.iconst 1, 1) := by decide +kernel
theorem dX9_knocked_3 : decode cX9_knocked 3 = .ok (.iadd, 1) := by decide +kernel
theorem dX9_knocked_4 : decode cX9_knocked 4 = .ok (.iconst 1, 1) := by decide +kernel
theorem dX9_knocked_5 : decode cX9_knocked 5 = .ok (.bipush 7, 2) := by decide +kernel
theorem dX9_knocked_7 : decode cX9_knocked 7 = .ok (.invokevirtual 194, 3) := by decide +kernel
theorem dX9_knocked_10 : decode cX9_knocked 10 = .ok (.istore_n 2, 1) := by decide +kernel
theorem dX9_knocked_11 : decode cX9_knocked 11 = .ok (.iload_n 2, 1) := by decide +kernel
theorem dX9_knocked_12 : decode cX9_knocked 12 = .ok (.ifCond .eq 5, 3) := by decide +kernel
theorem dX9_knocked_15 : decode cX9_knocked 15 = .ok (.iload_n 2, 1) := by decide +kernel
theorem dX9_knocked_16 : decode cX9_knocked 16 = .ok (.ireturn, 1) := by decide +kernel
theorem dX9_knocked_17 : decode cX9_knocked 17 = .ok (.aload_n 0, 1) := by decide +kernel
theorem dX9_knocked_18 : decode cX9_knocked 18 = .ok (.bipush 119, 2) := by decide +kernel
theorem dX9_knocked_20 : decode cX9_knocked 20 = .ok (.bipush 105, 2) := by decide +kernel
theorem dX9_knocked_22 : decode cX9_knocked 22 = .ok (.bipush 116, 2) := by decide +kernel
theorem dX9_knocked_24 : decode cX9_knocked 24 = .ok (.bipush 104, 2) := by decide +kernel
theorem dX9_knocked_26 : decode cX9_knocked 26 = .ok (.invokestatic 142, 3) := by decide +kernel
theorem dX9_knocked_29 : decode cX9_knocked 29 = .ok (.invokevirtual 179, 3) := by decide +kernel
theorem dX9_knocked_32 : decode cX9_knocked 32 = .ok (.ifCond .ne 5, 3) := by decide +kernel
theorem dX9_knocked_35 : decode cX9_knocked 35 = .ok (.iconst 1, 1) := by decide +kernel
theorem dX9_knocked_36 : decode cX9_knocked 36 = .ok (.ireturn, 1) := by decide +kernel
theorem dX9_knocked_37 : decode cX9_knocked 37 = .ok (.aload_n 0, 1) := by decide +kernel
theorem dX9_knocked_38 : decode cX9_knocked 38 = .ok (.invokevirtual 150, 3) := by decide +kernel
theorem dX9_knocked_41 : decode cX9_knocked 41 = .ok (.aload_n 0, 1) := by decide +kernel
theorem dX9_knocked_42 : decode cX9_knocked 42 = .ok (.iload_n 1, 1) := by decide +kernel
theorem dX9_knocked_43 : decode cX9_knocked 43 = .ok (.iconst 2, 1) := by decide +kernel
theorem dX9_knocked_44 : decode cX9_knocked 44 = .ok (.iadd, 1) := by decide +kernel
theorem dX9_knocked_45 : decode cX9_knocked 45 = .ok (.iconst 0, 1) := by decide +kernel
theorem dX9_knocked_46 : decode cX9_knocked 46 = .ok (.iconst 5, 1) := by decide +kernel
theorem dX9_knocked_47 : decode cX9_knocked 47 = .ok (.invokevirtual 194, 3) := by decide +kernel
theorem dX9_knocked_50 : decode cX9_knocked 50 = .ok (.ireturn, 1) := by decide +kernel
-- X9_beginOne
def J_X9_beginOne_93 (n : Nat) (k0 : Int32) (s : jS) : Option (Int32 × jS) :=
  (if k0 = 0 then some (1, s) else (if (s.1 0 19) = 8 then some (3, s) else (jl (upI s 0 19 ((s.1 0 19) + 1)) fun s118_1 => ((F_X9_push k0 s118_1).bind fun p123 => ((F_X9_nextToken n p123).bind fun p127 => some (0, p127))))))
def F_X9_beginOne (n : Nat) (s : jS) : Option (Int32 × jS) :=
  (if (s.1 0 10) = 1 then (if (s.1 0 11) ≤ 9999 then ((F_X9_emit 0 (s.1 0 11) s).bind fun p26 => ((F_X9_nextToken n p26).bind fun p30 => ((F_X9_whole n p30).bind fun p34 => some (0, p34)))) else some (2, s)) else (if (F_X9_nameOf s) < 0 then (if (s.1 0 10) = 40 then J_X9_beginOne_93 n 40 s else (if (s.1 0 10) = 45 then J_X9_beginOne_93 n 2 s else J_X9_beginOne_93 n 0 s)) else ((F_X9_emit 1 (F_X9_nameOf s) s).bind fun p52 => ((F_X9_nextToken n p52).bind fun p56 => ((F_X9_whole n p56).bind fun p60 => some (0, p60))))))
def rm_X9_beginOne : Room := { frames := 4, cells := 0, slots := 0, locals := 91 }
set_option maxHeartbeats 4000000 in
set_option maxRecDepth 100000 in
theorem m_X9_beginOne {l : Launch} {D : va_G} {G : Nat → ClassId} {KV : jV} {ad : Nat → Nat} (n : Nat) (s : jS) {p : Int32 × jS} (h : F_X9_beginOne n s = some p) : jM l D G KV yX9_beginOne cX9_beginOne 2 (some .int) rm_X9_beginOne [.ref (ad 0)] (jw 15 (cellM G) ad s) 0 0 (fun v u => v = some (.int p.1) ∧ u = jw 15 (cellM G) ad p.2) := by
  refine jM.of (by decide) (Nat.le_of_ble_eq_true rfl) ?_
  intro K C
  unfold F_X9_beginOne at h
  have jn93 : ∀ (k0 : Int32) (s : jS) (_ : J_X9_beginOne_93 n k0 s = some p), K 0 0 (jw 15 (cellM G) ad s) 93 [(0, .ref (ad 0))] [.int k0] := by
    intro k0 s h
    unfold J_X9_beginOne_93 at h
    refine j_istore_n C dX9_beginOne_93 (by decide) rfl ?_
    refine j_iload_n C dX9_beginOne_94 0 rfl ?_
    refine j_if_ne C dX9_beginOne_95 (tgt := 100) (by decide) (fun cq => ?_) (fun cq => ?_)
    · have h := jite_f h cq
      refine j_aload_n C dX9_beginOne_100 1 rfl ?_
      refine j_getW C dX9_beginOne_101 inX9 rfl (by decide) rfl 19 (by decide) w_940 rfl rfl ?_
      refine j_bipush C dX9_beginOne_104 (v := 8) (by decide) ?_
      refine j_icmp_ne C dX9_beginOne_106 (tgt := 111) (by decide) (fun cq => ?_) (fun cq => ?_)
      · have h := jite_f h cq
        refine j_aload_n C dX9_beginOne_111 1 rfl ?_
        refine j_dup C dX9_beginOne_112 rfl ?_
        refine j_getW C dX9_beginOne_113 inX9 rfl (by decide) rfl 19 (by decide) w_940 rfl rfl ?_
        refine j_iconst C dX9_beginOne_116 (v := 1) (by decide) ?_
        refine j_iadd C dX9_beginOne_117 ?_
        refine j_putI C dX9_beginOne_118 inX9 tyX9 tyX9_ok nmX9 rfl (by decide) 19 rfl rfl (by decide) w_940 rfl rfl rfl rfl (Nat.le_of_ble_eq_true rfl) (fun s118_1 hs118_1 => ?_)
        have h := jlet h hs118_1
        refine j_aload_n C dX9_beginOne_121 1 rfl ?_
        refine j_iload_n C dX9_beginOne_122 0 rfl ?_
        obtain ⟨p123, he123, h⟩ := jbind h
        refine j_cV0 C dX9_beginOne_123 (m_X9_push k0 s118_1 he123) kc_X9_push w_1132 w_1134 wp_60 w_11 jy_X9_push ⟨⟨Nat.le_of_ble_eq_true rfl, Nat.le_of_ble_eq_true rfl⟩, ⟨rfl, rfl⟩, ⟨Nat.zero_le _, Nat.zero_le _⟩⟩ (Nat.le_of_ble_eq_true rfl) (by decide) rfl (r := (RX9, TX9, 32)) rfl rfl rfl (fun _ _ h => h) ?_
        refine j_aload_n C dX9_beginOne_126 1 rfl ?_
        obtain ⟨p127, he127, h⟩ := jbind h
        refine j_cV0 C dX9_beginOne_127 (m_X9_nextToken n p123 he127) kc_X9_nextToken w_1064 w_1066 wp_47 w_11 jy_X9_nextToken ⟨⟨Nat.le_of_ble_eq_true rfl, Nat.le_of_ble_eq_true rfl⟩, ⟨rfl, rfl⟩, ⟨Nat.zero_le _, Nat.zero_le _⟩⟩ (Nat.le_of_ble_eq_true rfl) (by decide) rfl (r := (RX9, TX9, 32)) rfl rfl rfl (fun _ _ h => h) ?_
        refine j_iconst C dX9_beginOne_130 (v := 0) (by decide) ?_
        exact j_iret C dX9_beginOne_131 rfl rfl (Nat.zero_le _) (Nat.zero_le _) (jretWI h)
      · have h := jite_t h cq
        refine j_iconst C dX9_beginOne_109 (v := 3) (by decide) ?_
        exact j_iret C dX9_beginOne_110 rfl rfl (Nat.zero_le _) (Nat.zero_le _) (jretWI h)
    · have h := jite_t h cq
      refine j_iconst C dX9_beginOne_98 (v := 1) (by decide) ?_
      exact j_iret C dX9_beginOne_99 rfl rfl (Nat.zero_le _) (Nat.zero_le _) (jretWI h)
  show K 0 0 (jw 15 (cellM G) ad s) 0 [(0, .ref (ad 0))] []
  refine j_aload_n C dX9_beginOne_0 0 rfl ?_
  refine j_getW C dX9_beginOne_1 inX9 rfl (by decide) rfl 10 (by decide) w_933 rfl rfl ?_
  refine j_iconst C dX9_beginOne_4 (v := 1) (by decide) ?_
  refine j_icmp_ne C dX9_beginOne_5 (tgt := 39) (by decide) (fun cq => ?_) (fun cq => ?_)
  · have h := jite_f h cq
    refine j_aload_n C dX9_beginOne_39 0 rfl ?_
    refine j_cV1 C dX9_beginOne_40 (m_X9_nameOf s rfl) kc_X9_nameOf w_1144 w_1146 wp_63 w_11 jy_X9_nameOf ⟨⟨Nat.le_of_ble_eq_true rfl, Nat.le_of_ble_eq_true rfl⟩, ⟨rfl, rfl⟩, ⟨Nat.zero_le _, Nat.zero_le _⟩⟩ (Nat.le_of_ble_eq_true rfl) (by decide) rfl (r := (RX9, TX9, 32)) rfl rfl rfl (fun _ _ h => h) ?_
    refine j_if_lt C dX9_beginOne_43 (tgt := 65) (by decide) (fun cq => ?_) (fun cq => ?_)
    · have h := jite_t h cq
      refine j_aload_n C dX9_beginOne_65 0 rfl ?_
      refine j_getW C dX9_beginOne_66 inX9 rfl (by decide) rfl 10 (by decide) w_933 rfl rfl ?_
      refine j_bipush C dX9_beginOne_69 (v := 40) (by decide) ?_
      refine j_icmp_ne C dX9_beginOne_71 (tgt := 79) (by decide) (fun cq => ?_) (fun cq => ?_)
      · have h := jite_f h cq
        refine j_aload_n C dX9_beginOne_79 0 rfl ?_
        refine j_getW C dX9_beginOne_80 inX9 rfl (by decide) rfl 10 (by decide) w_933 rfl rfl ?_
        refine j_bipush C dX9_beginOne_83 (v := 45) (by decide) ?_
        refine j_icmp_ne C dX9_beginOne_85 (tgt := 92) (by decide) (fun cq => ?_) (fun cq => ?_)
        · have h := jite_f h cq
          refine j_iconst C dX9_beginOne_92 (v := 0) (by decide) ?_
          refine j_loc C [0] rfl ?_
          exact jn93 0 s  h
        · have h := jite_t h cq
          refine j_iconst C dX9_beginOne_88 (v := 2) (by decide) ?_
          refine j_goto C dX9_beginOne_89 (tgt := 93) (by decide) ?_
          refine j_loc C [0] rfl ?_
          exact jn93 2 s  h
      · have h := jite_t h cq
        refine j_bipush C dX9_beginOne_74 (v := 40) (by decide) ?_
        refine j_goto C dX9_beginOne_76 (tgt := 93) (by decide) ?_
        refine j_loc C [0] rfl ?_
        exact jn93 40 s  h
    · have h := jite_f h cq
      refine j_aload_n C dX9_beginOne_46 0 rfl ?_
      refine j_iconst C dX9_beginOne_47 (v := 1) (by decide) ?_
      refine j_aload_n C dX9_beginOne_48 0 rfl ?_
      refine j_cV1 C dX9_beginOne_49 (m_X9_nameOf s rfl) kc_X9_nameOf w_1144 w_1146 wp_63 w_11 jy_X9_nameOf ⟨⟨Nat.le_of_ble_eq_true rfl, Nat.le_of_ble_eq_true rfl⟩, ⟨rfl, rfl⟩, ⟨Nat.zero_le _, Nat.zero_le _⟩⟩ (Nat.le_of_ble_eq_true rfl) (by decide) rfl (r := (RX9, TX9, 32)) rfl rfl rfl (fun _ _ h => h) ?_
      obtain ⟨p52, he52, h⟩ := jbind h
      refine j_cV0 C dX9_beginOne_52 (m_X9_emit 1 (F_X9_nameOf s) s he52) kc_X9_emit w_1128 w_1130 wp_59 w_11 jy_X9_emit ⟨⟨Nat.le_of_ble_eq_true rfl, Nat.le_of_ble_eq_true rfl⟩, ⟨rfl, rfl⟩, ⟨Nat.zero_le _, Nat.zero_le _⟩⟩ (Nat.le_of_ble_eq_true rfl) (by decide) rfl (r := (RX9, TX9, 32)) rfl rfl rfl (fun _ _ h => h) ?_
      refine j_aload_n C dX9_beginOne_55 0 rfl ?_
      obtain ⟨p56, he56, h⟩ := jbind h
      refine j_cV0 C dX9_beginOne_56 (m_X9_nextToken n p52 he56) kc_X9_nextToken w_1064 w_1066 wp_47 w_11 jy_X9_nextToken ⟨⟨Nat.le_of_ble_eq_true rfl, Nat.le_of_ble_eq_true rfl⟩, ⟨rfl, rfl⟩, ⟨Nat.zero_le _, Nat.zero_le _⟩⟩ (Nat.le_of_ble_eq_true rfl) (by decide) rfl (r := (RX9, TX9, 32)) rfl rfl rfl (fun _ _ h => h) ?_
      refine j_aload_n C dX9_beginOne_59 0 rfl ?_
      obtain ⟨p60, he60, h⟩ := jbind h
      refine j_cV0 C dX9_beginOne_60 (m_X9_whole n p56 he60) kc_X9_whole w_1136 w_1138 wp_61 w_11 jy_X9_whole ⟨⟨Nat.le_of_ble_eq_true rfl, Nat.le_of_ble_eq_true rfl⟩, ⟨rfl, rfl⟩, ⟨Nat.zero_le _, Nat.zero_le _⟩⟩ (Nat.le_of_ble_eq_true rfl) (by decide) rfl (r := (RX9, TX9, 32)) rfl rfl rfl (fun _ _ h => h) ?_
      refine j_iconst C dX9_beginOne_63 (v := 0) (by decide) ?_
      exact j_iret C dX9_beginOne_64 rfl rfl (Nat.zero_le _) (Nat.zero_le _) (jretWI h)
  · have h := jite_t h cq
    refine j_aload_n C dX9_beginOne_8 0 rfl ?_
    refine j_getW C dX9_beginOne_9 inX9 rfl (by decide) rfl 11 (by decide) w_934 rfl rfl ?_
    refine j_sipush C dX9_beginOne_12 (v := 9999) (by decide) ?_
    refine j_icmp_le C dX9_beginOne_15 (tgt := 20) (by decide) (fun cq => ?_) (fun cq => ?_)
    · have h := jite_t h cq
      refine j_aload_n C dX9_beginOne_20 0 rfl ?_
      refine j_iconst C dX9_beginOne_21 (v := 0) (by decide) ?_
      refine j_aload_n C dX9_beginOne_22 0 rfl ?_
      refine j_getW C dX9_beginOne_23 inX9 rfl (by decide) rfl 11 (by decide) w_934 rfl rfl ?_
      obtain ⟨p26, he26, h⟩ := jbind h
      refine j_cV0 C dX9_beginOne_26 (m_X9_emit 0 (s.1 0 11) s he26) kc_X9_emit w_1128 w_1130 wp_59 w_11 jy_X9_emit ⟨⟨Nat.le_of_ble_eq_true rfl, Nat.le_of_ble_eq_true rfl⟩, ⟨rfl, rfl⟩, ⟨Nat.zero_le _, Nat.zero_le _⟩⟩ (Nat.le_of_ble_eq_true rfl) (by decide) rfl (r := (RX9, TX9, 32)) rfl rfl rfl (fun _ _ h => h) ?_
      refine j_aload_n C dX9_beginOne_29 0 rfl ?_
      obtain ⟨p30, he30, h⟩ := jbind h
      refine j_cV0 C dX9_beginOne_30 (m_X9_nextToken n p26 he30) kc_X9_nextToken w_1064 w_1066 wp_47 w_11 jy_X9_nextToken ⟨⟨Nat.le_of_ble_eq_true rfl, Nat.le_of_ble_eq_true rfl⟩, ⟨rfl, rfl⟩, ⟨Nat.zero_le _, Nat.zero_le _⟩⟩ (Nat.le_of_ble_eq_true rfl) (by decide) rfl (r := (RX9, TX9, 32)) rfl rfl rfl (fun _ _ h => h) ?_
      refine j_aload_n C dX9_beginOne_33 0 rfl ?_
      obtain ⟨p34, he34, h⟩ := jbind h
      refine j_cV0 C dX9_beginOne_34 (m_X9_whole n p30 he34) kc_X9_whole w_1136 w_1138 wp_61 w_11 jy_X9_whole ⟨⟨Nat.le_of_ble_eq_true rfl, Nat.le_of_ble_eq_true rfl⟩, ⟨rfl, rfl⟩, ⟨Nat.zero_le _, Nat.zero_le _⟩⟩ (Nat.le_of_ble_eq_true rfl) (by decide) rfl (r := (RX9, TX9, 32)) rfl rfl rfl (fun _ _ h => h) ?_
      refine j_iconst C dX9_beginOne_37 (v := 0) (by decide) ?_
      exact j_iret C dX9_beginOne_38 rfl rfl (Nat.zero_le _) (Nat.zero_le _) (jretWI h)
    · have h := jite_f h cq
      refine j_iconst C dX9_beginOne_18 (v := 2) (by decide) ?_
      exact j_iret C dX9_beginOne_19 rfl rfl (Nat.zero_le _) (Nat.zero_le _) (jretWI h)
-- X9_summed
def J_X9_summed_42 (n : Nat) (k0 : Int32) (s : jS) : Option (jS ⊕ ((jS) ⊕ ((Int32 × jS)))) :=
  (if k0 = 0 then some (.inl s) else some (.inr (.inr (k0, s))))
def J_X9_summed_24 (n : Nat) (s : jS) : Option (jS ⊕ ((jS) ⊕ ((Int32 × jS)))) :=
  (if (jz (s.1 0 20)) = true then ((F_X9_behindOne n s).bind fun p32 => J_X9_summed_42 n p32.1 p32.2) else ((F_X9_beginOne n s).bind fun p39 => J_X9_summed_42 n p39.1 p39.2))
def B_X9_summed_10 (n : Nat) (q : jS) : Option (jS ⊕ ((jS) ⊕ ((Int32 × jS)))) :=
  (if (jz (q.1 0 20)) = true then ((F_X9_goesOn n q).bind fun p18 => (if p18 = true then J_X9_summed_24 n q else some (.inr (.inl q)))) else J_X9_summed_24 n q)
def F_X9_summed (n : Nat) (s : jS) : Option (Int32 × jS) :=
  (jl (upI s 0 18 0) fun s2_1 => (jl (upI s2_1 0 20 (jb false)) fun s7_2 => ((lp (B_X9_summed_10 n) n s7_2).bind fun e => Sum.elim (fun e10 => ((F_X9_settle n 3 e10).bind fun p54 => (if (p54.1 0 18) ≤ 0 then some (0, p54) else some (1, p54)))) (fun r10 => some r10) e)))
def rm_X9_summed : Room := { frames := 5, cells := 0, slots := 0, locals := 112 }
set_option maxHeartbeats 4000000 in
set_option maxRecDepth 100000 in
theorem m_X9_summed {l : Launch} {D : va_G} {G : Nat → ClassId} {KV : jV} {ad : Nat → Nat} (n : Nat) (s : jS) {p : Int32 × jS} (h : F_X9_summed n s = some p) : jM l D G KV yX9_summed cX9_summed 2 (some .int) rm_X9_summed [.ref (ad 0)] (jw 15 (cellM G) ad s) 0 0 (fun v u => v = some (.int p.1) ∧ u = jw 15 (cellM G) ad p.2) := by
  refine jM.of (by decide) (Nat.le_of_ble_eq_true rfl) ?_
  intro K C
  unfold F_X9_summed at h
  have jn42_10 : ∀ (k0 : Int32) (s : jS) (o : jS ⊕ ((jS) ⊕ ((Int32 × jS)))), J_X9_summed_42 n k0 s = some o → (∀ q, o = .inl q → K 0 0 (jw 15 (cellM G) ad q) 10 [(0, .ref (ad 0))] []) → (∀ e, o = .inr e → Sum.elim (fun e => K 0 0 (jw 15 (cellM G) ad e) 52 [(0, .ref (ad 0))] []) (fun r => some r = some p) e) → K 0 0 (jw 15 (cellM G) ad s) 42 [(0, .ref (ad 0))] [.int k0] := by
    intro k0 s o hb hin hout
    unfold J_X9_summed_42 at hb
    refine j_istore_n C dX9_summed_42 (by decide) rfl ?_
    refine j_iload_n C dX9_summed_43 0 rfl ?_
    refine j_if_eq C dX9_summed_44 (tgt := 49) (by decide) (fun cq => ?_) (fun cq => ?_)
    · have hb := jite_t hb cq
      refine j_goto C dX9_summed_49 (tgt := 10) (by decide) ?_
      refine j_loc C [1] rfl ?_
      have hx := hin _ (jinl hb)
      exact hx
    · have hb := jite_f hb cq
      refine j_iload_n C dX9_summed_47 0 rfl ?_
      exact j_iret C dX9_summed_48 rfl rfl (Nat.zero_le _) (Nat.zero_le _) (jretWI (jretL hb hout))
  have jn24_10 : ∀ (s : jS) (o : jS ⊕ ((jS) ⊕ ((Int32 × jS)))), J_X9_summed_24 n s = some o → (∀ q, o = .inl q → K 0 0 (jw 15 (cellM G) ad q) 10 [(0, .ref (ad 0))] []) → (∀ e, o = .inr e → Sum.elim (fun e => K 0 0 (jw 15 (cellM G) ad e) 52 [(0, .ref (ad 0))] []) (fun r => some r = some p) e) → K 0 0 (jw 15 (cellM G) ad s) 24 [(0, .ref (ad 0))] [] := by
    intro s o hb hin hout
    unfold J_X9_summed_24 at hb
    refine j_aload_n C dX9_summed_24 0 rfl ?_
    refine j_getW C dX9_summed_25 inX9 rfl (by decide) rfl 20 (by decide) w_941 rfl rfl ?_
    refine j_if_eq C dX9_summed_28 (tgt := 38) (by decide) (fun cq => ?_) (fun cq => ?_)
    · have hb := jite_f hb (jb_f cq)
      refine j_aload_n C dX9_summed_38 0 rfl ?_
      obtain ⟨p39, he39, hb⟩ := jbind hb
      refine j_cV1 C dX9_summed_39 (m_X9_beginOne n s he39) kc_X9_beginOne w_1140 w_1142 wp_62 w_11 jy_X9_beginOne ⟨⟨Nat.le_of_ble_eq_true rfl, Nat.le_of_ble_eq_true rfl⟩, ⟨rfl, rfl⟩, ⟨Nat.zero_le _, Nat.zero_le _⟩⟩ (Nat.le_of_ble_eq_true rfl) (by decide) rfl (r := (RX9, TX9, 32)) rfl rfl rfl (fun _ _ h => h) ?_
      refine j_loc C [0] rfl ?_
      exact jn42_10 p39.1 p39.2   _ hb hin hout
    · have hb := jite_t hb (jb_t cq)
      refine j_aload_n C dX9_summed_31 0 rfl ?_
      obtain ⟨p32, he32, hb⟩ := jbind hb
      refine j_cV1 C dX9_summed_32 (m_X9_behindOne n s he32) kc_X9_behindOne w_1120 w_1122 wp_57 w_11 jy_X9_behindOne ⟨⟨Nat.le_of_ble_eq_true rfl, Nat.le_of_ble_eq_true rfl⟩, ⟨rfl, rfl⟩, ⟨Nat.zero_le _, Nat.zero_le _⟩⟩ (Nat.le_of_ble_eq_true rfl) (by decide) rfl (r := (RX9, TX9, 32)) rfl rfl rfl (fun _ _ h => h) ?_
      refine j_goto C dX9_summed_35 (tgt := 42) (by decide) ?_
      refine j_loc C [0] rfl ?_
      exact jn42_10 p32.1 p32.2   _ hb hin hout
  have lo10 : ∀ (s : jS) (k : Nat) (q : jS) (e : (jS) ⊕ ((Int32 × jS))), lp (B_X9_summed_10 n) k q = some e → Sum.elim (fun e => K 0 0 (jw 15 (cellM G) ad e) 52 [(0, .ref (ad 0))] []) (fun r => some r = some p) e → K 0 0 (jw 15 (cellM G) ad q) 10 [(0, .ref (ad 0))] [] := by
    intro s k q e he hE
    refine jlp (KH := fun q => K 0 0 (jw 15 (cellM G) ad q) 10 [(0, .ref (ad 0))] []) (KE := fun e => Sum.elim (fun e => K 0 0 (jw 15 (cellM G) ad e) 52 [(0, .ref (ad 0))] []) (fun r => some r = some p) e) ?_ k q e he hE
    intro q o hb hin hout
    unfold B_X9_summed_10 at hb
    show K 0 0 (jw 15 (cellM G) ad q) 10 [(0, .ref (ad 0))] []
    refine j_aload_n C dX9_summed_10 0 rfl ?_
    refine j_getW C dX9_summed_11 inX9 rfl (by decide) rfl 20 (by decide) w_941 rfl rfl ?_
    refine j_if_eq C dX9_summed_14 (tgt := 24) (by decide) (fun cq => ?_) (fun cq => ?_)
    · have hb := jite_f hb (jb_f cq)
      refine j_loc C [0] rfl ?_
      exact jn24_10  q   _ hb hin hout
    · have hb := jite_t hb (jb_t cq)
      refine j_aload_n C dX9_summed_17 0 rfl ?_
      obtain ⟨p18, he18, hb⟩ := jbind hb
      refine j_cV1 C dX9_summed_18 (m_X9_goesOn n q he18) kc_X9_goesOn w_1112 w_1114 wp_55 w_11 jy_X9_goesOn ⟨⟨Nat.le_of_ble_eq_true rfl, Nat.le_of_ble_eq_true rfl⟩, ⟨rfl, rfl⟩, ⟨Nat.zero_le _, Nat.zero_le _⟩⟩ (Nat.le_of_ble_eq_true rfl) (by decide) rfl (r := (RX9, TX9, 32)) rfl rfl rfl (fun _ _ h => h) ?_
      refine j_if_eq C dX9_summed_21 (tgt := 52) (by decide) (fun cq => ?_) (fun cq => ?_)
      · have hb := jite_f hb (jb_f cq)
        refine j_loc C [0] rfl ?_
        have hx := hout _ (jinr hb)
        exact hx
      · have hb := jite_t hb (jb_t cq)
        refine j_loc C [0] rfl ?_
        exact jn24_10  q   _ hb hin hout
  show K 0 0 (jw 15 (cellM G) ad s) 0 [(0, .ref (ad 0))] []
  refine j_aload_n C dX9_summed_0 0 rfl ?_
  refine j_iconst C dX9_summed_1 (v := 0) (by decide) ?_
  refine j_putI C dX9_summed_2 inX9 tyX9 tyX9_ok nmX9 rfl (by decide) 18 rfl rfl (by decide) w_939 rfl rfl rfl rfl (Nat.le_of_ble_eq_true rfl) (fun s2_1 hs2_1 => ?_)
  have h := jlet h hs2_1
  refine j_aload_n C dX9_summed_5 0 rfl ?_
  refine j_iconst C dX9_summed_6 (v := 0) (by decide) ?_
  refine j_putI C dX9_summed_7 inX9 tyX9 tyX9_ok nmX9 rfl (by decide) 20 (x := jb false) rfl rfl (by decide) w_941 rfl rfl (jb_nar false) (jb_fit false) (Nat.le_of_ble_eq_true rfl) (fun s7_2 hs7_2 => ?_)
  have h := jlet h hs7_2
  refine j_loc C [0] rfl ?_
  obtain ⟨e10, he10, h⟩ := jbind h
  refine lo10  s7_2  n s7_2 e10 he10 ?_
  rcases e10 with e10 | r10
  · show K _ _ _ _ _ _
    refine j_aload_n C dX9_summed_52 0 rfl ?_
    refine j_iconst C dX9_summed_53 (v := 3) (by decide) ?_
    obtain ⟨p54, he54, h⟩ := jbind h
    refine j_cV0 C dX9_summed_54 (m_X9_settle n 3 e10 he54) kc_X9_settle w_1124 w_1126 wp_58 w_11 jy_X9_settle ⟨⟨Nat.le_of_ble_eq_true rfl, Nat.le_of_ble_eq_true rfl⟩, ⟨rfl, rfl⟩, ⟨Nat.zero_le _, Nat.zero_le _⟩⟩ (Nat.le_of_ble_eq_true rfl) (by decide) rfl (r := (RX9, TX9, 32)) rfl rfl rfl (fun _ _ h => h) ?_
    refine j_aload_n C dX9_summed_57 0 rfl ?_
    refine j_getW C dX9_summed_58 inX9 rfl (by decide) rfl 18 (by decide) w_939 rfl rfl ?_
    refine j_if_le C dX9_summed_61 (tgt := 68) (by decide) (fun cq => ?_) (fun cq => ?_)
    · have h := jite_t h cq
      refine j_iconst C dX9_summed_68 (v := 0) (by decide) ?_
      exact j_iret C dX9_summed_69 rfl rfl (Nat.zero_le _) (Nat.zero_le _) (jretWI h)
    · have h := jite_f h cq
      refine j_iconst C dX9_summed_64 (v := 1) (by decide) ?_
      refine j_goto C dX9_summed_65 (tgt := 69) (by decide) ?_
      exact j_iret C dX9_summed_69 rfl rfl (Nat.zero_le _) (Nat.zero_le _) (jretWI h)
  · exact h
-- X9_compareOf
def F_X9_compareOf (s : jS) : Int32 :=
  (if (s.1 0 10) = 60 then 10 else (if (s.1 0 10) = 4 then 11 else (if (s.1 0 10) = 62 then 12 else (if (s.1 0 10) = 5 then 13 else (if (s.1 0 10) = 61 then 14 else (if (s.1 0 10) = 35 then 15 else (-1)))))))
def rm_X9_compareOf : Room := { frames := 0, cells := 0, slots := 0, locals := 0 }
set_option maxHeartbeats 4000000 in
set_option maxRecDepth 100000 in
theorem m_X9_compareOf {l : Launch} {D : va_G} {G : Nat → ClassId} {KV : jV} {ad : Nat → Nat} (s : jS) {p : Int32} (h : F_X9_compareOf s = p) : jM l D G KV yX9_compareOf cX9_compareOf 1 (some .int) rm_X9_compareOf [.ref (ad 0)] (jw 15 (cellM G) ad s) 0 0 (fun v u => v = some (.int p) ∧ u = jw 15 (cellM G) ad s) := by
  refine jM.of (by decide) (Nat.le_of_ble_eq_true rfl) ?_
  intro K C
  unfold F_X9_compareOf at h
  show K 0 0 (jw 15 (cellM G) ad s) 0 [(0, .ref (ad 0))] []
  refine j_aload_n C dX9_compareOf_0 0 rfl ?_
  refine j_getW C dX9_compareOf_1 inX9 rfl (by decide) rfl 10 (by decide) w_933 rfl rfl ?_
  refine j_bipush C dX9_compareOf_4 (v := 60) (by decide) ?_
  refine j_icmp_ne C dX9_compareOf_6 (tgt := 14) (by decide) (fun cq => ?_) (fun cq => ?_)
  · have h := jite_f h cq
    refine j_aload_n C dX9_compareOf_14 0 rfl ?_
    refine j_getW C dX9_compareOf_15 inX9 rfl (by decide) rfl 10 (by decide) w_933 rfl rfl ?_
    refine j_iconst C dX9_compareOf_18 (v := 4) (by decide) ?_
    refine j_icmp_ne C dX9_compareOf_19 (tgt := 27) (by decide) (fun cq => ?_) (fun cq => ?_)
    · have h := jite_f h cq
      refine j_aload_n C dX9_compareOf_27 0 rfl ?_
      refine j_getW C dX9_compareOf_28 inX9 rfl (by decide) rfl 10 (by decide) w_933 rfl rfl ?_
      refine j_bipush C dX9_compareOf_31 (v := 62) (by decide) ?_
      refine j_icmp_ne C dX9_compareOf_33 (tgt := 41) (by decide) (fun cq => ?_) (fun cq => ?_)
      · have h := jite_f h cq
        refine j_aload_n C dX9_compareOf_41 0 rfl ?_
        refine j_getW C dX9_compareOf_42 inX9 rfl (by decide) rfl 10 (by decide) w_933 rfl rfl ?_
        refine j_iconst C dX9_compareOf_45 (v := 5) (by decide) ?_
        refine j_icmp_ne C dX9_compareOf_46 (tgt := 54) (by decide) (fun cq => ?_) (fun cq => ?_)
        · have h := jite_f h cq
          refine j_aload_n C dX9_compareOf_54 0 rfl ?_
          refine j_getW C dX9_compareOf_55 inX9 rfl (by decide) rfl 10 (by decide) w_933 rfl rfl ?_
          refine j_bipush C dX9_compareOf_58 (v := 61) (by decide) ?_
          refine j_icmp_ne C dX9_compareOf_60 (tgt := 68) (by decide) (fun cq => ?_) (fun cq => ?_)
          · have h := jite_f h cq
            refine j_aload_n C dX9_compareOf_68 0 rfl ?_
            refine j_getW C dX9_compareOf_69 inX9 rfl (by decide) rfl 10 (by decide) w_933 rfl rfl ?_
            refine j_bipush C dX9_compareOf_72 (v := 35) (by decide) ?_
            refine j_icmp_ne C dX9_compareOf_74 (tgt := 82) (by decide) (fun cq => ?_) (fun cq => ?_)
            · have h := jite_f h cq
              refine j_iconst C dX9_compareOf_82 (v := (-1)) (by decide) ?_
              exact j_iret C dX9_compareOf_83 rfl rfl (Nat.zero_le _) (Nat.zero_le _) (jretTI h)
            · have h := jite_t h cq
              refine j_bipush C dX9_compareOf_77 (v := 15) (by decide) ?_
              refine j_goto C dX9_compareOf_79 (tgt := 83) (by decide) ?_
              exact j_iret C dX9_compareOf_83 rfl rfl (Nat.zero_le _) (Nat.zero_le _) (jretTI h)
          · have h := jite_t h cq
            refine j_bipush C dX9_compareOf_63 (v := 14) (by decide) ?_
            refine j_goto C dX9_compareOf_65 (tgt := 83) (by decide) ?_
            exact j_iret C dX9_compareOf_83 rfl rfl (Nat.zero_le _) (Nat.zero_le _) (jretTI h)
        · have h := jite_t h cq
          refine j_bipush C dX9_compareOf_49 (v := 13) (by decide) ?_
          refine j_goto C dX9_compareOf_51 (tgt := 83) (by decide) ?_
          exact j_iret C dX9_compareOf_83 rfl rfl (Nat.zero_le _) (Nat.zero_le _) (jretTI h)
      · have h := jite_t h cq
        refine j_bipush C dX9_compareOf_36 (v := 12) (by decide) ?_
        refine j_goto C dX9_compareOf_38 (tgt := 83) (by decide) ?_
        exact j_iret C dX9_compareOf_83 rfl rfl (Nat.zero_le _) (Nat.zero_le _) (jretTI h)
    · have h := jite_t h cq
      refine j_bipush C dX9_compareOf_22 (v := 11) (by decide) ?_
      refine j_goto C dX9_compareOf_24 (tgt := 83) (by decide) ?_
      exact j_iret C dX9_compareOf_83 rfl rfl (Nat.zero_le _) (Nat.zero_le _) (jretTI h)
  · have h := jite_t h cq
    refine j_bipush C dX9_compareOf_9 (v := 10) (by decide) ?_
    refine j_goto C dX9_compareOf_11 (tgt := 83) (by decide) ?_
    exact j_iret C dX9_compareOf_83 rfl rfl (Nat.zero_le _) (Nat.zero_le _) (jretTI h)
-- X9_asks
def B_X9_asks_2 (n : Nat) (q : Int32 × jS) : Option ((Int32 × jS) ⊕ ((Int32 × jS) ⊕ ((Int32 × jS)))) :=
  (if (F_X9_isWord (F_X9_w3 110 111 116) q.2) = true then (if (q.2.1 0 19) = 8 then some (.inr (.inr (3, q.2))) else (jl (upI q.2 0 19 ((q.2.1 0 19) + 1)) fun s36_1 => ((F_X9_nextToken n s36_1).bind fun p43 => some (.inl ((q.1 + 1), p43))))) else some (.inr (.inl (q.1, q.2))))
def B_X9_asks_105 (n : Nat) (v1 : Int32) (q : Int32 × jS) : Option ((Int32 × jS) ⊕ (Int32 × jS)) :=
  (if v1 ≤ q.1 then some (.inr (q.1, q.2)) else ((F_X9_emit 20 0 q.2).bind fun p115 => some (.inl ((q.1 + 1), p115))))
def F_X9_asks (n : Nat) (s : jS) : Option (Int32 × jS) :=
  ((lp (B_X9_asks_2 n) n (0, s)).bind fun e => Sum.elim (fun e2 => ((F_X9_summed n e2.2).bind fun p50 => (if p50.1 = 0 then (if 0 ≤ (F_X9_compareOf p50.2) then ((F_X9_nextToken n p50.2).bind fun p72 => ((F_X9_summed n p72).bind fun p76 => (if p76.1 = 0 then ((F_X9_emit (F_X9_compareOf p50.2) 0 p76.2).bind fun p89 => (jl (upI p89 0 19 ((p89.1 0 19) - e2.1)) fun s99_2 => ((lp (B_X9_asks_105 n e2.1) n (0, s99_2)).bind fun e105 => some (0, e105.2)))) else some (p76.1, p76.2)))) else some (1, p50.2)) else some (p50.1, p50.2)))) (fun r2 => some r2) e)
def rm_X9_asks : Room := { frames := 6, cells := 0, slots := 0, locals := 133 }
set_option maxHeartbeats 4000000 in
set_option maxRecDepth 100000 in
theorem m_X9_asks {l : Launch} {D : va_G} {G : Nat → ClassId} {KV : jV} {ad : Nat → Nat} (n : Nat) (s : jS) {p : Int32 × jS} (h : F_X9_asks n s = some p) : jM l D G KV yX9_asks cX9_asks 5 (some .int) rm_X9_asks [.ref (ad 0)] (jw 15 (cellM G) ad s) 0 0 (fun v u => v = some (.int p.1) ∧ u = jw 15 (cellM G) ad p.2) := by
  refine jM.of (by decide) (Nat.le_of_ble_eq_true rfl) ?_
  intro K C
  unfold F_X9_asks at h
  have lo2 : ∀ (s : jS) (k : Nat) (q : Int32 × jS) (e : (Int32 × jS) ⊕ ((Int32 × jS))), lp (B_X9_asks_2 n) k q = some e → Sum.elim (fun e => K 0 0 (jw 15 (cellM G) ad e.2) 49 [(0, .ref (ad 0)), (1, .int e.1)] []) (fun r => some r = some p) e → K 0 0 (jw 15 (cellM G) ad q.2) 2 [(0, .ref (ad 0)), (1, .int q.1)] [] := by
    intro s k q e he hE
    refine jlp (KH := fun q => K 0 0 (jw 15 (cellM G) ad q.2) 2 [(0, .ref (ad 0)), (1, .int q.1)] []) (KE := fun e => Sum.elim (fun e => K 0 0 (jw 15 (cellM G) ad e.2) 49 [(0, .ref (ad 0)), (1, .int e.1)] []) (fun r => some r = some p) e) ?_ k q e he hE
    intro q o hb hin hout
    unfold B_X9_asks_2 at hb
    show K 0 0 (jw 15 (cellM G) ad q.2) 2 [(0, .ref (ad 0)), (1, .int q.1)] []
    refine j_aload_n C dX9_asks_2 0 rfl ?_
    refine j_bipush C dX9_asks_3 (v := 110) (by decide) ?_
    refine j_bipush C dX9_asks_5 (v := 111) (by decide) ?_
    refine j_bipush C dX9_asks_7 (v := 116) (by decide) ?_
    refine j_cS1 C dX9_asks_9 (m_X9_w3 110 111 116 rfl) kc_X9_w3 w_1090 w_1091 w_11 jy_X9_w3 ⟨⟨Nat.le_of_ble_eq_true rfl, Nat.le_of_ble_eq_true rfl⟩, ⟨rfl, rfl⟩, ⟨Nat.zero_le _, Nat.zero_le _⟩⟩ (Nat.le_of_ble_eq_true rfl) rfl (fun _ _ h => h) ?_
    refine j_cV1 C dX9_asks_12 (m_X9_isWord (F_X9_w3 110 111 116) q.2 rfl) kc_X9_isWord w_1093 w_1095 wp_51 w_11 jy_X9_isWord ⟨⟨Nat.le_of_ble_eq_true rfl, Nat.le_of_ble_eq_true rfl⟩, ⟨rfl, rfl⟩, ⟨Nat.zero_le _, Nat.zero_le _⟩⟩ (Nat.le_of_ble_eq_true rfl) (by decide) rfl (r := (RX9, TX9, 32)) rfl rfl rfl (fun _ _ h => h) ?_
    refine j_if_eq C dX9_asks_15 (tgt := 49) (by decide) (fun cq => ?_) (fun cq => ?_)
    · have hb := jite_f hb (jb_f cq)
      refine j_loc C [0, 1] rfl ?_
      have hx := hout _ (jinr hb)
      exact hx
    · have hb := jite_t hb (jb_t cq)
      refine j_aload_n C dX9_asks_18 0 rfl ?_
      refine j_getW C dX9_asks_19 inX9 rfl (by decide) rfl 19 (by decide) w_940 rfl rfl ?_
      refine j_bipush C dX9_asks_22 (v := 8) (by decide) ?_
      refine j_icmp_ne C dX9_asks_24 (tgt := 29) (by decide) (fun cq => ?_) (fun cq => ?_)
      · have hb := jite_f hb cq
        refine j_aload_n C dX9_asks_29 0 rfl ?_
        refine j_dup C dX9_asks_30 rfl ?_
        refine j_getW C dX9_asks_31 inX9 rfl (by decide) rfl 19 (by decide) w_940 rfl rfl ?_
        refine j_iconst C dX9_asks_34 (v := 1) (by decide) ?_
        refine j_iadd C dX9_asks_35 ?_
        refine j_putI C dX9_asks_36 inX9 tyX9 tyX9_ok nmX9 rfl (by decide) 19 rfl rfl (by decide) w_940 rfl rfl rfl rfl (Nat.le_of_ble_eq_true rfl) (fun s36_1 hs36_1 => ?_)
        have hb := jlet hb hs36_1
        refine j_iinc C dX9_asks_39 1 rfl (v := (q.1 + 1)) rfl (by decide) rfl ?_
        refine j_aload_n C dX9_asks_42 1 rfl ?_
        obtain ⟨p43, he43, hb⟩ := jbind hb
        refine j_cV0 C dX9_asks_43 (m_X9_nextToken n s36_1 he43) kc_X9_nextToken w_1064 w_1066 wp_47 w_11 jy_X9_nextToken ⟨⟨Nat.le_of_ble_eq_true rfl, Nat.le_of_ble_eq_true rfl⟩, ⟨rfl, rfl⟩, ⟨Nat.zero_le _, Nat.zero_le _⟩⟩ (Nat.le_of_ble_eq_true rfl) (by decide) rfl (r := (RX9, TX9, 32)) rfl rfl rfl (fun _ _ h => h) ?_
        refine j_goto C dX9_asks_46 (tgt := 2) (by decide) ?_
        refine j_loc C [1, 0] rfl ?_
        have hx := hin _ (jinl hb)
        exact hx
      · have hb := jite_t hb cq
        refine j_iconst C dX9_asks_27 (v := 3) (by decide) ?_
        exact j_iret C dX9_asks_28 rfl rfl (Nat.zero_le _) (Nat.zero_le _) (jretWI (jretL hb hout))
  have lo105 : ∀ (v1 : Int32) (s : jS) (k : Nat) (q : Int32 × jS) (e : Int32 × jS), lp (B_X9_asks_105 n v1) k q = some e → K 0 0 (jw 15 (cellM G) ad e.2) 124 [] [] → K 0 0 (jw 15 (cellM G) ad q.2) 105 [(0, .ref (ad 0)), (1, .int v1), (4, .int q.1)] [] := by
    intro v1 s k q e he hE
    refine jlp (KH := fun q => K 0 0 (jw 15 (cellM G) ad q.2) 105 [(0, .ref (ad 0)), (1, .int v1), (4, .int q.1)] []) (KE := fun e => K 0 0 (jw 15 (cellM G) ad e.2) 124 [] []) ?_ k q e he hE
    intro q o hb hin hout
    unfold B_X9_asks_105 at hb
    show K 0 0 (jw 15 (cellM G) ad q.2) 105 [(0, .ref (ad 0)), (1, .int v1), (4, .int q.1)] []
    refine j_iload C dX9_asks_105 2 rfl ?_
    refine j_iload_n C dX9_asks_107 1 rfl ?_
    refine j_icmp_ge C dX9_asks_108 (tgt := 124) (by decide) (fun cq => ?_) (fun cq => ?_)
    · have hb := jite_t hb cq
      refine j_loc C [] rfl ?_
      have hx := hout _ (jinr hb)
      exact hx
    · have hb := jite_f hb cq
      refine j_aload_n C dX9_asks_111 0 rfl ?_
      refine j_bipush C dX9_asks_112 (v := 20) (by decide) ?_
      refine j_iconst C dX9_asks_114 (v := 0) (by decide) ?_
      obtain ⟨p115, he115, hb⟩ := jbind hb
      refine j_cV0 C dX9_asks_115 (m_X9_emit 20 0 q.2 he115) kc_X9_emit w_1128 w_1130 wp_59 w_11 jy_X9_emit ⟨⟨Nat.le_of_ble_eq_true rfl, Nat.le_of_ble_eq_true rfl⟩, ⟨rfl, rfl⟩, ⟨Nat.zero_le _, Nat.zero_le _⟩⟩ (Nat.le_of_ble_eq_true rfl) (by decide) rfl (r := (RX9, TX9, 32)) rfl rfl rfl (fun _ _ h => h) ?_
      refine j_iinc C dX9_asks_118 2 rfl (v := (q.1 + 1)) rfl (by decide) rfl ?_
      refine j_goto C dX9_asks_121 (tgt := 105) (by decide) ?_
      refine j_loc C [1, 2, 0] rfl ?_
      have hx := hin _ (jinl hb)
      exact hx
  show K 0 0 (jw 15 (cellM G) ad s) 0 [(0, .ref (ad 0))] []
  refine j_iconst C dX9_asks_0 (v := 0) (by decide) ?_
  refine j_istore_n C dX9_asks_1 (by decide) rfl ?_
  refine j_loc C [1, 0] rfl ?_
  obtain ⟨e2, he2, h⟩ := jbind h
  refine lo2  s  n (0, s) e2 he2 ?_
  rcases e2 with e2 | r2
  · show K _ _ _ _ _ _
    refine j_aload_n C dX9_asks_49 0 rfl ?_
    obtain ⟨p50, he50, h⟩ := jbind h
    refine j_cV1 C dX9_asks_50 (m_X9_summed n e2.2 he50) kc_X9_summed w_1108 w_1110 wp_54 w_11 jy_X9_summed ⟨⟨Nat.le_of_ble_eq_true rfl, Nat.le_of_ble_eq_true rfl⟩, ⟨rfl, rfl⟩, ⟨Nat.zero_le _, Nat.zero_le _⟩⟩ (Nat.le_of_ble_eq_true rfl) (by decide) rfl (r := (RX9, TX9, 32)) rfl rfl rfl (fun _ _ h => h) ?_
    refine j_istore_n C dX9_asks_53 (by decide) rfl ?_
    refine j_iload_n C dX9_asks_54 0 rfl ?_
    refine j_if_eq C dX9_asks_55 (tgt := 60) (by decide) (fun cq => ?_) (fun cq => ?_)
    · have h := jite_t h cq
      refine j_aload_n C dX9_asks_60 1 rfl ?_
      refine j_cV1 C dX9_asks_61 (m_X9_compareOf p50.2 rfl) kc_X9_compareOf w_1151 w_1153 wp_64 w_11 jy_X9_compareOf ⟨⟨Nat.le_of_ble_eq_true rfl, Nat.le_of_ble_eq_true rfl⟩, ⟨rfl, rfl⟩, ⟨Nat.zero_le _, Nat.zero_le _⟩⟩ (Nat.le_of_ble_eq_true rfl) (by decide) rfl (r := (RX9, TX9, 32)) rfl rfl rfl (fun _ _ h => h) ?_
      refine j_istore_n C dX9_asks_64 (by decide) rfl ?_
      refine j_iload_n C dX9_asks_65 0 rfl ?_
      refine j_if_ge C dX9_asks_66 (tgt := 71) (by decide) (fun cq => ?_) (fun cq => ?_)
      · have h := jite_t h cq
        refine j_aload_n C dX9_asks_71 2 rfl ?_
        obtain ⟨p72, he72, h⟩ := jbind h
        refine j_cV0 C dX9_asks_72 (m_X9_nextToken n p50.2 he72) kc_X9_nextToken w_1064 w_1066 wp_47 w_11 jy_X9_nextToken ⟨⟨Nat.le_of_ble_eq_true rfl, Nat.le_of_ble_eq_true rfl⟩, ⟨rfl, rfl⟩, ⟨Nat.zero_le _, Nat.zero_le _⟩⟩ (Nat.le_of_ble_eq_true rfl) (by decide) rfl (r := (RX9, TX9, 32)) rfl rfl rfl (fun _ _ h => h) ?_
        refine j_aload_n C dX9_asks_75 2 rfl ?_
        obtain ⟨p76, he76, h⟩ := jbind h
        refine j_cV1 C dX9_asks_76 (m_X9_summed n p72 he76) kc_X9_summed w_1108 w_1110 wp_54 w_11 jy_X9_summed ⟨⟨Nat.le_of_ble_eq_true rfl, Nat.le_of_ble_eq_true rfl⟩, ⟨rfl, rfl⟩, ⟨Nat.zero_le _, Nat.zero_le _⟩⟩ (Nat.le_of_ble_eq_true rfl) (by decide) rfl (r := (RX9, TX9, 32)) rfl rfl rfl (fun _ _ h => h) ?_
        refine j_istore_n C dX9_asks_79 (by decide) rfl ?_
        refine j_iload_n C dX9_asks_80 0 rfl ?_
        refine j_if_eq C dX9_asks_81 (tgt := 86) (by decide) (fun cq => ?_) (fun cq => ?_)
        · have h := jite_t h cq
          refine j_aload_n C dX9_asks_86 2 rfl ?_
          refine j_iload_n C dX9_asks_87 1 rfl ?_
          refine j_iconst C dX9_asks_88 (v := 0) (by decide) ?_
          obtain ⟨p89, he89, h⟩ := jbind h
          refine j_cV0 C dX9_asks_89 (m_X9_emit (F_X9_compareOf p50.2) 0 p76.2 he89) kc_X9_emit w_1128 w_1130 wp_59 w_11 jy_X9_emit ⟨⟨Nat.le_of_ble_eq_true rfl, Nat.le_of_ble_eq_true rfl⟩, ⟨rfl, rfl⟩, ⟨Nat.zero_le _, Nat.zero_le _⟩⟩ (Nat.le_of_ble_eq_true rfl) (by decide) rfl (r := (RX9, TX9, 32)) rfl rfl rfl (fun _ _ h => h) ?_
          refine j_aload_n C dX9_asks_92 2 rfl ?_
          refine j_dup C dX9_asks_93 rfl ?_
          refine j_getW C dX9_asks_94 inX9 rfl (by decide) rfl 19 (by decide) w_940 rfl rfl ?_
          refine j_iload_n C dX9_asks_97 3 rfl ?_
          refine j_isub C dX9_asks_98 ?_
          refine j_putI C dX9_asks_99 inX9 tyX9 tyX9_ok nmX9 rfl (by decide) 19 rfl rfl (by decide) w_940 rfl rfl rfl rfl (Nat.le_of_ble_eq_true rfl) (fun s99_2 hs99_2 => ?_)
          have h := jlet h hs99_2
          refine j_iconst C dX9_asks_102 (v := 0) (by decide) ?_
          refine j_istore C dX9_asks_103 (by decide) rfl ?_
          refine j_loc C [3, 4, 0] rfl ?_
          obtain ⟨e105, he105, h⟩ := jbind h
          refine lo105 e2.1 s99_2  n (0, s99_2) e105 he105 ?_
          refine j_iconst C dX9_asks_124 (v := 0) (by decide) ?_
          exact j_iret C dX9_asks_125 rfl rfl (Nat.zero_le _) (Nat.zero_le _) (jretWI h)
        · have h := jite_f h cq
          refine j_iload_n C dX9_asks_84 0 rfl ?_
          exact j_iret C dX9_asks_85 rfl rfl (Nat.zero_le _) (Nat.zero_le _) (jretWI h)
      · have h := jite_f h cq
        refine j_iconst C dX9_asks_69 (v := 1) (by decide) ?_
        exact j_iret C dX9_asks_70 rfl rfl (Nat.zero_le _) (Nat.zero_le _) (jretWI h)
    · have h := jite_f h cq
      refine j_iload_n C dX9_asks_58 0 rfl ?_
      exact j_iret C dX9_asks_59 rfl rfl (Nat.zero_le _) (Nat.zero_le _) (jretWI h)
  · exact h
-- X9_either
def J_X9_either_107 (n : Nat) (v1 : Bool) (v2 : Bool) (k0 : Bool) (s : jS) : Option ((Bool × Bool × Bool × jS) ⊕ ((Bool × Bool × Bool × jS) ⊕ ((Int32 × jS)))) :=
  (if k0 = true then ((F_X9_nextToken n s).bind fun p113 => some (.inl (v1, v2, k0, p113))) else some (.inl (v1, v2, k0, s)))
def J_X9_either_102 (n : Nat) (v1 : Bool) (v2 : Bool) (s : jS) : Option ((Bool × Bool × Bool × jS) ⊕ ((Bool × Bool × Bool × jS) ⊕ ((Int32 × jS)))) :=
  J_X9_either_107 n v1 v2 true s
def J_X9_either_93 (n : Nat) (v1 : Bool) (v2 : Bool) (v5 : Bool) (s : jS) : Option ((Bool × Bool × Bool × jS) ⊕ ((Bool × Bool × Bool × jS) ⊕ ((Int32 × jS)))) :=
  (if v1 = true then J_X9_either_102 n v1 v2 s else (if v5 = true then J_X9_either_102 n v1 v2 s else J_X9_either_107 n v1 v2 false s))
def J_X9_either_90 (n : Nat) (v1 : Bool) (v5 : Bool) (s : jS) : Option ((Bool × Bool × Bool × jS) ⊕ ((Bool × Bool × Bool × jS) ⊕ ((Int32 × jS)))) :=
  J_X9_either_93 n v1 v5 v5 s
def J_X9_either_73 (n : Nat) (v1 : Bool) (v2 : Bool) (k0 : Bool) (s : jS) : Option ((Bool × Bool × Bool × jS) ⊕ ((Bool × Bool × Bool × jS) ⊕ ((Int32 × jS)))) :=
  (if v1 = true then J_X9_either_93 n v1 v2 k0 s else (if v2 = true then ((F_X9_emit 22 0 s).bind fun p87 => J_X9_either_90 n v1 k0 p87) else J_X9_either_90 n v1 k0 s))
def J_X9_either_72 (n : Nat) (v1 : Bool) (v2 : Bool) (s : jS) : Option ((Bool × Bool × Bool × jS) ⊕ ((Bool × Bool × Bool × jS) ⊕ ((Int32 × jS)))) :=
  J_X9_either_73 n v1 v2 false s
def J_X9_either_35 (n : Nat) (v2 : Bool) (s : jS) : Option ((Bool × Bool × Bool × jS) ⊕ ((Bool × Bool × Bool × jS) ⊕ ((Int32 × jS)))) :=
  (if (s.1 0 10) = 2 then (if (lg_cmp (s.2 0 12) 28530) = 0 then J_X9_either_73 n (F_X9_isWord (F_X9_w3 97 110 100) s) v2 true s else J_X9_either_72 n (F_X9_isWord (F_X9_w3 97 110 100) s) v2 s) else J_X9_either_72 n (F_X9_isWord (F_X9_w3 97 110 100) s) v2 s)
def B_X9_either_6 (n : Nat) (q : Bool × Bool × Bool × jS) : Option ((Bool × Bool × Bool × jS) ⊕ ((Bool × Bool × Bool × jS) ⊕ ((Int32 × jS)))) :=
  (if q.2.2.1 = true then ((F_X9_asks n q.2.2.2).bind fun p11 => (if p11.1 = 0 then (if q.1 = true then ((F_X9_emit 21 0 p11.2).bind fun p32 => J_X9_either_35 n q.2.1 p32) else J_X9_either_35 n q.2.1 p11.2) else some (.inr (.inr (p11.1, p11.2))))) else some (.inr (.inl (q.1, q.2.1, q.2.2.1, q.2.2.2))))
def F_X9_either (n : Nat) (s : jS) : Option (Int32 × jS) :=
  ((lp (B_X9_either_6 n) n (false, false, true, s)).bind fun e => Sum.elim (fun e6 => some (0, e6.2.2.2)) (fun r6 => some r6) e)
def rm_X9_either : Room := { frames := 7, cells := 0, slots := 0, locals := 157 }
set_option maxHeartbeats 4000000 in
set_option maxRecDepth 100000 in
theorem m_X9_either {l : Launch} {D : va_G} {G : Nat → ClassId} {KV : jV} {ad : Nat → Nat} (n : Nat) (s : jS) {p : Int32 × jS} (h : F_X9_either n s = some p) : jM l D G KV yX9_either cX9_either 6 (some .int) rm_X9_either [.ref (ad 0)] (jw 15 (cellM G) ad s) 0 0 (fun v u => v = some (.int p.1) ∧ u = jw 15 (cellM G) ad p.2) := by
  refine jM.of (by decide) (Nat.le_of_ble_eq_true rfl) ?_
  intro K C
  unfold F_X9_either at h
  have jn107_6 : ∀ (v1 : Bool) (v2 : Bool) (k0 : Bool) (s : jS) (o : (Bool × Bool × Bool × jS) ⊕ ((Bool × Bool × Bool × jS) ⊕ ((Int32 × jS)))), J_X9_either_107 n v1 v2 k0 s = some o → (∀ q, o = .inl q → K 0 0 (jw 15 (cellM G) ad q.2.2.2) 6 [(0, .ref (ad 0)), (1, .int (jb q.1)), (2, .int (jb q.2.1)), (3, .int (jb q.2.2.1))] []) → (∀ e, o = .inr e → Sum.elim (fun e => K 0 0 (jw 15 (cellM G) ad e.2.2.2) 119 [] []) (fun r => some r = some p) e) → K 0 0 (jw 15 (cellM G) ad s) 107 [(0, .ref (ad 0)), (1, .int (jb v1)), (2, .int (jb v2))] [.int (jb k0)] := by
    intro v1 v2 k0 s o hb hin hout
    unfold J_X9_either_107 at hb
    refine j_istore_n C dX9_either_107 (by decide) rfl ?_
    refine j_iload_n C dX9_either_108 0 rfl ?_
    refine j_if_eq C dX9_either_109 (tgt := 116) (by decide) (fun cq => ?_) (fun cq => ?_)
    · have hb := jite_f hb (jb_f cq)
      refine j_goto C dX9_either_116 (tgt := 6) (by decide) ?_
      refine j_loc C [1, 2, 3, 0] rfl ?_
      have hx := hin _ (jinl hb)
      exact hx
    · have hb := jite_t hb (jb_t cq)
      refine j_aload_n C dX9_either_112 1 rfl ?_
      obtain ⟨p113, he113, hb⟩ := jbind hb
      refine j_cV0 C dX9_either_113 (m_X9_nextToken n s he113) kc_X9_nextToken w_1064 w_1066 wp_47 w_11 jy_X9_nextToken ⟨⟨Nat.le_of_ble_eq_true rfl, Nat.le_of_ble_eq_true rfl⟩, ⟨rfl, rfl⟩, ⟨Nat.zero_le _, Nat.zero_le _⟩⟩ (Nat.le_of_ble_eq_true rfl) (by decide) rfl (r := (RX9, TX9, 32)) rfl rfl rfl (fun _ _ h => h) ?_
      refine j_goto C dX9_either_116 (tgt := 6) (by decide) ?_
      refine j_loc C [1, 2, 3, 0] rfl ?_
      have hx := hin _ (jinl hb)
      exact hx
  have jn102_6 : ∀ (v1 : Bool) (v2 : Bool) (s : jS) (o : (Bool × Bool × Bool × jS) ⊕ ((Bool × Bool × Bool × jS) ⊕ ((Int32 × jS)))), J_X9_either_102 n v1 v2 s = some o → (∀ q, o = .inl q → K 0 0 (jw 15 (cellM G) ad q.2.2.2) 6 [(0, .ref (ad 0)), (1, .int (jb q.1)), (2, .int (jb q.2.1)), (3, .int (jb q.2.2.1))] []) → (∀ e, o = .inr e → Sum.elim (fun e => K 0 0 (jw 15 (cellM G) ad e.2.2.2) 119 [] []) (fun r => some r = some p) e) → K 0 0 (jw 15 (cellM G) ad s) 102 [(0, .ref (ad 0)), (1, .int (jb v1)), (2, .int (jb v2))] [] := by
    intro v1 v2 s o hb hin hout
    unfold J_X9_either_102 at hb
    refine j_iconst C dX9_either_102 (v := 1) (by decide) ?_
    refine j_goto C dX9_either_103 (tgt := 107) (by decide) ?_
    refine j_loc C [0, 1, 2] rfl ?_
    exact jn107_6 v1 v2 true s   _ hb hin hout
  have jn93_6 : ∀ (v1 : Bool) (v2 : Bool) (v5 : Bool) (s : jS) (o : (Bool × Bool × Bool × jS) ⊕ ((Bool × Bool × Bool × jS) ⊕ ((Int32 × jS)))), J_X9_either_93 n v1 v2 v5 s = some o → (∀ q, o = .inl q → K 0 0 (jw 15 (cellM G) ad q.2.2.2) 6 [(0, .ref (ad 0)), (1, .int (jb q.1)), (2, .int (jb q.2.1)), (3, .int (jb q.2.2.1))] []) → (∀ e, o = .inr e → Sum.elim (fun e => K 0 0 (jw 15 (cellM G) ad e.2.2.2) 119 [] []) (fun r => some r = some p) e) → K 0 0 (jw 15 (cellM G) ad s) 93 [(0, .ref (ad 0)), (1, .int (jb v1)), (2, .int (jb v2)), (5, .int (jb v5))] [] := by
    intro v1 v2 v5 s o hb hin hout
    unfold J_X9_either_93 at hb
    refine j_iload_n C dX9_either_93 1 rfl ?_
    refine j_if_ne C dX9_either_94 (tgt := 102) (by decide) (fun cq => ?_) (fun cq => ?_)
    · have hb := jite_t hb (jb_t cq)
      refine j_loc C [0, 1, 2] rfl ?_
      exact jn102_6 v1 v2 s   _ hb hin hout
    · have hb := jite_f hb (jb_f cq)
      refine j_iload C dX9_either_97 3 rfl ?_
      refine j_if_eq C dX9_either_99 (tgt := 106) (by decide) (fun cq => ?_) (fun cq => ?_)
      · have hb := jite_f hb (jb_f cq)
        refine j_iconst C dX9_either_106 (v := 0) (by decide) ?_
        refine j_loc C [0, 1, 2] rfl ?_
        exact jn107_6 v1 v2 false s   _ hb hin hout
      · have hb := jite_t hb (jb_t cq)
        refine j_loc C [0, 1, 2] rfl ?_
        exact jn102_6 v1 v2 s   _ hb hin hout
  have jn90_6 : ∀ (v1 : Bool) (v5 : Bool) (s : jS) (o : (Bool × Bool × Bool × jS) ⊕ ((Bool × Bool × Bool × jS) ⊕ ((Int32 × jS)))), J_X9_either_90 n v1 v5 s = some o → (∀ q, o = .inl q → K 0 0 (jw 15 (cellM G) ad q.2.2.2) 6 [(0, .ref (ad 0)), (1, .int (jb q.1)), (2, .int (jb q.2.1)), (3, .int (jb q.2.2.1))] []) → (∀ e, o = .inr e → Sum.elim (fun e => K 0 0 (jw 15 (cellM G) ad e.2.2.2) 119 [] []) (fun r => some r = some p) e) → K 0 0 (jw 15 (cellM G) ad s) 90 [(0, .ref (ad 0)), (1, .int (jb v1)), (5, .int (jb v5))] [] := by
    intro v1 v5 s o hb hin hout
    unfold J_X9_either_90 at hb
    refine j_iload C dX9_either_90 2 rfl ?_
    refine j_istore_n C dX9_either_92 (by decide) rfl ?_
    refine j_loc C [1, 2, 0, 3] rfl ?_
    exact jn93_6 v1 v5 v5 s   _ hb hin hout
  have jn73_6 : ∀ (v1 : Bool) (v2 : Bool) (k0 : Bool) (s : jS) (o : (Bool × Bool × Bool × jS) ⊕ ((Bool × Bool × Bool × jS) ⊕ ((Int32 × jS)))), J_X9_either_73 n v1 v2 k0 s = some o → (∀ q, o = .inl q → K 0 0 (jw 15 (cellM G) ad q.2.2.2) 6 [(0, .ref (ad 0)), (1, .int (jb q.1)), (2, .int (jb q.2.1)), (3, .int (jb q.2.2.1))] []) → (∀ e, o = .inr e → Sum.elim (fun e => K 0 0 (jw 15 (cellM G) ad e.2.2.2) 119 [] []) (fun r => some r = some p) e) → K 0 0 (jw 15 (cellM G) ad s) 73 [(0, .ref (ad 0)), (1, .int (jb v1)), (2, .int (jb v2))] [.int (jb k0)] := by
    intro v1 v2 k0 s o hb hin hout
    unfold J_X9_either_73 at hb
    refine j_istore C dX9_either_73 (by decide) rfl ?_
    refine j_iload_n C dX9_either_75 2 rfl ?_
    refine j_if_ne C dX9_either_76 (tgt := 93) (by decide) (fun cq => ?_) (fun cq => ?_)
    · have hb := jite_t hb (jb_t cq)
      refine j_loc C [1, 2, 3, 0] rfl ?_
      exact jn93_6 v1 v2 k0 s   _ hb hin hout
    · have hb := jite_f hb (jb_f cq)
      refine j_iload_n C dX9_either_79 3 rfl ?_
      refine j_if_eq C dX9_either_80 (tgt := 90) (by decide) (fun cq => ?_) (fun cq => ?_)
      · have hb := jite_f hb (jb_f cq)
        refine j_loc C [1, 2, 0] rfl ?_
        exact jn90_6 v1 k0 s   _ hb hin hout
      · have hb := jite_t hb (jb_t cq)
        refine j_aload_n C dX9_either_83 1 rfl ?_
        refine j_bipush C dX9_either_84 (v := 22) (by decide) ?_
        refine j_iconst C dX9_either_86 (v := 0) (by decide) ?_
        obtain ⟨p87, he87, hb⟩ := jbind hb
        refine j_cV0 C dX9_either_87 (m_X9_emit 22 0 s he87) kc_X9_emit w_1128 w_1130 wp_59 w_11 jy_X9_emit ⟨⟨Nat.le_of_ble_eq_true rfl, Nat.le_of_ble_eq_true rfl⟩, ⟨rfl, rfl⟩, ⟨Nat.zero_le _, Nat.zero_le _⟩⟩ (Nat.le_of_ble_eq_true rfl) (by decide) rfl (r := (RX9, TX9, 32)) rfl rfl rfl (fun _ _ h => h) ?_
        refine j_loc C [1, 2, 0] rfl ?_
        exact jn90_6 v1 k0 p87   _ hb hin hout
  have jn72_6 : ∀ (v1 : Bool) (v2 : Bool) (s : jS) (o : (Bool × Bool × Bool × jS) ⊕ ((Bool × Bool × Bool × jS) ⊕ ((Int32 × jS)))), J_X9_either_72 n v1 v2 s = some o → (∀ q, o = .inl q → K 0 0 (jw 15 (cellM G) ad q.2.2.2) 6 [(0, .ref (ad 0)), (1, .int (jb q.1)), (2, .int (jb q.2.1)), (3, .int (jb q.2.2.1))] []) → (∀ e, o = .inr e → Sum.elim (fun e => K 0 0 (jw 15 (cellM G) ad e.2.2.2) 119 [] []) (fun r => some r = some p) e) → K 0 0 (jw 15 (cellM G) ad s) 72 [(0, .ref (ad 0)), (1, .int (jb v1)), (2, .int (jb v2))] [] := by
    intro v1 v2 s o hb hin hout
    unfold J_X9_either_72 at hb
    refine j_iconst C dX9_either_72 (v := 0) (by decide) ?_
    refine j_loc C [0, 1, 2] rfl ?_
    exact jn73_6 v1 v2 false s   _ hb hin hout
  have jn35_6 : ∀ (v2 : Bool) (s : jS) (o : (Bool × Bool × Bool × jS) ⊕ ((Bool × Bool × Bool × jS) ⊕ ((Int32 × jS)))), J_X9_either_35 n v2 s = some o → (∀ q, o = .inl q → K 0 0 (jw 15 (cellM G) ad q.2.2.2) 6 [(0, .ref (ad 0)), (1, .int (jb q.1)), (2, .int (jb q.2.1)), (3, .int (jb q.2.2.1))] []) → (∀ e, o = .inr e → Sum.elim (fun e => K 0 0 (jw 15 (cellM G) ad e.2.2.2) 119 [] []) (fun r => some r = some p) e) → K 0 0 (jw 15 (cellM G) ad s) 35 [(0, .ref (ad 0)), (2, .int (jb v2))] [] := by
    intro v2 s o hb hin hout
    unfold J_X9_either_35 at hb
    refine j_aload_n C dX9_either_35 0 rfl ?_
    refine j_bipush C dX9_either_36 (v := 97) (by decide) ?_
    refine j_bipush C dX9_either_38 (v := 110) (by decide) ?_
    refine j_bipush C dX9_either_40 (v := 100) (by decide) ?_
    refine j_cS1 C dX9_either_42 (m_X9_w3 97 110 100 rfl) kc_X9_w3 w_1090 w_1091 w_11 jy_X9_w3 ⟨⟨Nat.le_of_ble_eq_true rfl, Nat.le_of_ble_eq_true rfl⟩, ⟨rfl, rfl⟩, ⟨Nat.zero_le _, Nat.zero_le _⟩⟩ (Nat.le_of_ble_eq_true rfl) rfl (fun _ _ h => h) ?_
    refine j_cV1 C dX9_either_45 (m_X9_isWord (F_X9_w3 97 110 100) s rfl) kc_X9_isWord w_1093 w_1095 wp_51 w_11 jy_X9_isWord ⟨⟨Nat.le_of_ble_eq_true rfl, Nat.le_of_ble_eq_true rfl⟩, ⟨rfl, rfl⟩, ⟨Nat.zero_le _, Nat.zero_le _⟩⟩ (Nat.le_of_ble_eq_true rfl) (by decide) rfl (r := (RX9, TX9, 32)) rfl rfl rfl (fun _ _ h => h) ?_
    refine j_istore_n C dX9_either_48 (by decide) rfl ?_
    refine j_aload_n C dX9_either_49 1 rfl ?_
    refine j_getW C dX9_either_50 inX9 rfl (by decide) rfl 10 (by decide) w_933 rfl rfl ?_
    refine j_iconst C dX9_either_53 (v := 2) (by decide) ?_
    refine j_icmp_ne C dX9_either_54 (tgt := 72) (by decide) (fun cq => ?_) (fun cq => ?_)
    · have hb := jite_f hb cq
      refine j_loc C [1, 0, 2] rfl ?_
      exact jn72_6 (F_X9_isWord (F_X9_w3 97 110 100) s) v2 s   _ hb hin hout
    · have hb := jite_t hb cq
      refine j_aload_n C dX9_either_57 1 rfl ?_
      refine j_getW C dX9_either_58 inX9 rfl (by decide) rfl 12 (by decide) w_935 rfl rfl ?_
      refine j_ldc2 C dX9_either_61 (v := 28530) w_1155 ?_
      refine j_lcmp C dX9_either_64 ?_
      refine j_if_ne C dX9_either_65 (tgt := 72) (by decide) (fun cq => ?_) (fun cq => ?_)
      · have hb := jite_f hb cq
        refine j_loc C [1, 0, 2] rfl ?_
        exact jn72_6 (F_X9_isWord (F_X9_w3 97 110 100) s) v2 s   _ hb hin hout
      · have hb := jite_t hb cq
        refine j_iconst C dX9_either_68 (v := 1) (by decide) ?_
        refine j_goto C dX9_either_69 (tgt := 73) (by decide) ?_
        refine j_loc C [1, 0, 2] rfl ?_
        exact jn73_6 (F_X9_isWord (F_X9_w3 97 110 100) s) v2 true s   _ hb hin hout
  have lo6 : ∀ (s : jS) (k : Nat) (q : Bool × Bool × Bool × jS) (e : (Bool × Bool × Bool × jS) ⊕ ((Int32 × jS))), lp (B_X9_either_6 n) k q = some e → Sum.elim (fun e => K 0 0 (jw 15 (cellM G) ad e.2.2.2) 119 [] []) (fun r => some r = some p) e → K 0 0 (jw 15 (cellM G) ad q.2.2.2) 6 [(0, .ref (ad 0)), (1, .int (jb q.1)), (2, .int (jb q.2.1)), (3, .int (jb q.2.2.1))] [] := by
    intro s k q e he hE
    refine jlp (KH := fun q => K 0 0 (jw 15 (cellM G) ad q.2.2.2) 6 [(0, .ref (ad 0)), (1, .int (jb q.1)), (2, .int (jb q.2.1)), (3, .int (jb q.2.2.1))] []) (KE := fun e => Sum.elim (fun e => K 0 0 (jw 15 (cellM G) ad e.2.2.2) 119 [] []) (fun r => some r = some p) e) ?_ k q e he hE
    intro q o hb hin hout
    unfold B_X9_either_6 at hb
    show K 0 0 (jw 15 (cellM G) ad q.2.2.2) 6 [(0, .ref (ad 0)), (1, .int (jb q.1)), (2, .int (jb q.2.1)), (3, .int (jb q.2.2.1))] []
    refine j_iload_n C dX9_either_6 3 rfl ?_
    refine j_if_eq C dX9_either_7 (tgt := 119) (by decide) (fun cq => ?_) (fun cq => ?_)
    · have hb := jite_f hb (jb_f cq)
      refine j_loc C [] rfl ?_
      have hx := hout _ (jinr hb)
      exact hx
    · have hb := jite_t hb (jb_t cq)
      refine j_aload_n C dX9_either_10 0 rfl ?_
      obtain ⟨p11, he11, hb⟩ := jbind hb
      refine j_cV1 C dX9_either_11 (m_X9_asks n q.2.2.2 he11) kc_X9_asks w_1104 w_1106 wp_53 w_11 jy_X9_asks ⟨⟨Nat.le_of_ble_eq_true rfl, Nat.le_of_ble_eq_true rfl⟩, ⟨rfl, rfl⟩, ⟨Nat.zero_le _, Nat.zero_le _⟩⟩ (Nat.le_of_ble_eq_true rfl) (by decide) rfl (r := (RX9, TX9, 32)) rfl rfl rfl (fun _ _ h => h) ?_
      refine j_istore C dX9_either_14 (by decide) rfl ?_
      refine j_iload C dX9_either_16 0 rfl ?_
      refine j_if_eq C dX9_either_18 (tgt := 24) (by decide) (fun cq => ?_) (fun cq => ?_)
      · have hb := jite_t hb cq
        refine j_iload_n C dX9_either_24 2 rfl ?_
        refine j_if_eq C dX9_either_25 (tgt := 35) (by decide) (fun cq => ?_) (fun cq => ?_)
        · have hb := jite_f hb (jb_f cq)
          refine j_loc C [1, 3] rfl ?_
          exact jn35_6 q.2.1 p11.2   _ hb hin hout
        · have hb := jite_t hb (jb_t cq)
          refine j_aload_n C dX9_either_28 1 rfl ?_
          refine j_bipush C dX9_either_29 (v := 21) (by decide) ?_
          refine j_iconst C dX9_either_31 (v := 0) (by decide) ?_
          obtain ⟨p32, he32, hb⟩ := jbind hb
          refine j_cV0 C dX9_either_32 (m_X9_emit 21 0 p11.2 he32) kc_X9_emit w_1128 w_1130 wp_59 w_11 jy_X9_emit ⟨⟨Nat.le_of_ble_eq_true rfl, Nat.le_of_ble_eq_true rfl⟩, ⟨rfl, rfl⟩, ⟨Nat.zero_le _, Nat.zero_le _⟩⟩ (Nat.le_of_ble_eq_true rfl) (by decide) rfl (r := (RX9, TX9, 32)) rfl rfl rfl (fun _ _ h => h) ?_
          refine j_loc C [1, 3] rfl ?_
          exact jn35_6 q.2.1 p32   _ hb hin hout
      · have hb := jite_f hb cq
        refine j_iload C dX9_either_21 0 rfl ?_
        exact j_iret C dX9_either_23 rfl rfl (Nat.zero_le _) (Nat.zero_le _) (jretWI (jretL hb hout))
  show K 0 0 (jw 15 (cellM G) ad s) 0 [(0, .ref (ad 0))] []
  refine j_iconst C dX9_either_0 (v := 0) (by decide) ?_
  refine j_istore_n C dX9_either_1 (by decide) rfl ?_
  refine j_iconst C dX9_either_2 (v := 0) (by decide) ?_
  refine j_istore_n C dX9_either_3 (by decide) rfl ?_
  refine j_iconst C dX9_either_4 (v := 1) (by decide) ?_
  refine j_istore_n C dX9_either_5 (by decide) rfl ?_
  refine j_loc C [3, 2, 1, 0] rfl ?_
  obtain ⟨e6, he6, h⟩ := jbind h
  refine lo6  s  n (false, false, true, s) e6 he6 ?_
  rcases e6 with e6 | r6
  · show K _ _ _ _ _ _
    refine j_iconst C dX9_either_119 (v := 0) (by decide) ?_
    exact j_iret C dX9_either_120 rfl rfl (Nat.zero_le _) (Nat.zero_le _) (jretWI h)
  · exact h
-- X9_figure
def F_X9_figure (n : Nat) (v1 : Int32) (v2 : Int32) (v3 : Int32) (s : jS) : Option (Int32 × jS) :=
  (if (s.1 0 10) = 1 then (if (F_X9_isIn (s.1 0 11) v2 v3) = true then (if jin v1 2720 = true then (jl (upI s 3 (Int32.toNatClampNeg v1) (s.1 0 11)) fun s33_2 => ((F_X9_nextToken n s33_2).bind fun p35 => some (0, p35))) else none) else some (2, s)) else some (1, s))
def rm_X9_figure : Room := { frames := 3, cells := 0, slots := 0, locals := 64 }
set_option maxHeartbeats 4000000 in
set_option maxRecDepth 100000 in
theorem m_X9_figure {l : Launch} {D : va_G} {G : Nat → ClassId} {KV : jV} {ad : Nat → Nat} (n : Nat) (v1 : Int32) (v2 : Int32) (v3 : Int32) (s : jS) {p : Int32 × jS} (h : F_X9_figure n v1 v2 v3 s = some p) : jM l D G KV yX9_figure cX9_figure 4 (some .int) rm_X9_figure [.ref (ad 0), .int v1, .int v2, .int v3] (jw 15 (cellM G) ad s) 0 0 (fun v u => v = some (.int p.1) ∧ u = jw 15 (cellM G) ad p.2) := by
  refine jM.of (by decide) (Nat.le_of_ble_eq_true rfl) ?_
  intro K C
  unfold F_X9_figure at h
  show K 0 0 (jw 15 (cellM G) ad s) 0 [(0, .ref (ad 0)), (1, .int v1), (2, .int v2), (3, .int v3)] []
  refine j_aload_n C dX9_figure_0 0 rfl ?_
  refine j_getW C dX9_figure_1 inX9 rfl (by decide) rfl 10 (by decide) w_933 rfl rfl ?_
  refine j_iconst C dX9_figure_4 (v := 1) (by decide) ?_
  refine j_icmp_eq C dX9_figure_5 (tgt := 10) (by decide) (fun cq => ?_) (fun cq => ?_)
  · have h := jite_t h cq
    refine j_aload_n C dX9_figure_10 0 rfl ?_
    refine j_getW C dX9_figure_11 inX9 rfl (by decide) rfl 11 (by decide) w_934 rfl rfl ?_
    refine j_iload_n C dX9_figure_14 2 rfl ?_
    refine j_iload_n C dX9_figure_15 3 rfl ?_
    refine j_cS1 C dX9_figure_16 (m_X9_isIn (s.1 0 11) v2 v3 rfl) kc_X9_isIn w_1025 w_1026 w_11 jy_X9_isIn ⟨⟨Nat.le_of_ble_eq_true rfl, Nat.le_of_ble_eq_true rfl⟩, ⟨rfl, rfl⟩, ⟨Nat.zero_le _, Nat.zero_le _⟩⟩ (Nat.le_of_ble_eq_true rfl) rfl (fun _ _ h => h) ?_
    refine j_if_ne C dX9_figure_19 (tgt := 24) (by decide) (fun cq => ?_) (fun cq => ?_)
    · have h := jite_t h (jb_t cq)
      refine j_aload_n C dX9_figure_24 0 rfl ?_
      refine j_getW C dX9_figure_25 inX9 rfl (by decide) rfl 3 (by decide) w_926 rfl rfl ?_
      refine j_iload_n C dX9_figure_28 1 rfl ?_
      refine j_aload_n C dX9_figure_29 0 rfl ?_
      refine j_getW C dX9_figure_30 inX9 rfl (by decide) rfl 11 (by decide) w_934 rfl rfl ?_
      obtain ⟨c33_1, h⟩ := jchk h
      refine j_iastW C dX9_figure_33 (by decide) (fun _ => rfl) (jin_vp c33_1) (fun s33_2 hs33_2 => ?_)
      have h := jlet h hs33_2
      refine j_aload_n C dX9_figure_34 0 rfl ?_
      obtain ⟨p35, he35, h⟩ := jbind h
      refine j_cV0 C dX9_figure_35 (m_X9_nextToken n s33_2 he35) kc_X9_nextToken w_1064 w_1066 wp_47 w_11 jy_X9_nextToken ⟨⟨Nat.le_of_ble_eq_true rfl, Nat.le_of_ble_eq_true rfl⟩, ⟨rfl, rfl⟩, ⟨Nat.zero_le _, Nat.zero_le _⟩⟩ (Nat.le_of_ble_eq_true rfl) (by decide) rfl (r := (RX9, TX9, 32)) rfl rfl rfl (fun _ _ h => h) ?_
      refine j_iconst C dX9_figure_38 (v := 0) (by decide) ?_
      exact j_iret C dX9_figure_39 rfl rfl (Nat.zero_le _) (Nat.zero_le _) (jretWI h)
    · have h := jite_f h (jb_f cq)
      refine j_iconst C dX9_figure_22 (v := 2) (by decide) ?_
      exact j_iret C dX9_figure_23 rfl rfl (Nat.zero_le _) (Nat.zero_le _) (jretWI h)
  · have h := jite_f h cq
    refine j_iconst C dX9_figure_8 (v := 1) (by decide) ?_
    exact j_iret C dX9_figure_9 rfl rfl (Nat.zero_le _) (Nat.zero_le _) (jretWI h)
-- X9_knocked
def F_X9_knocked (n : Nat) (v1 : Int32) (s : jS) : Option (Int32 × jS) :=
  ((F_X9_figure n (v1 + 1) 1 7 s).bind fun p7 => (if p7.1 = 0 then (if (F_X9_isWord (F_X9_w4 119 105 116 104) p7.2) = true then ((F_X9_nextToken n p7.2).bind fun p38 => ((F_X9_figure n (v1 + 2) 0 5 p38).bind fun p47 => some (p47.1, p47.2))) else some (1, p7.2)) else some (p7.1, p7.2)))
def rm_X9_knocked : Room := { frames := 4, cells := 0, slots := 0, locals := 87 }
set_option maxHeartbeats 4000000 in
set_option maxRecDepth 100000 in
theorem m_X9_knocked {l : Launch} {D : va_G} {G : Nat → ClassId} {KV : jV} {ad : Nat → Nat} (n : Nat) (v1 : Int32) (s : jS) {p : Int32 × jS} (h : F_X9_knocked n v1 s = some p) : jM l D G KV yX9_knocked cX9_knocked 3 (some .int) rm_X9_knocked [.ref (ad 0), .int v1] (jw 15 (cellM G) ad s) 0 0 (fun v u => v = some (.int p.1) ∧ u = jw 15 (cellM G) ad p.2) := by
  refine jM.of (by decide) (Nat.le_of_ble_eq_true rfl) ?_
  intro K C
  unfold F_X9_knocked at h
  show K 0 0 (jw 15 (cellM G) ad s) 0 [(0, .ref (ad 0)), (1, .int v1)] []
  refine j_aload_n C dX9_knocked_0 0 rfl ?_
  refine j_iload_n C dX9_knocked_1 1 rfl ?_
  refine j_iconst C dX9_knocked_2 (v := 1) (by decide) ?_
  refine j_iadd C dX9_knocked_3 ?_
  refine j_iconst C dX9_knocked_4 (v := 1) (by decide) ?_
  refine j_bipush C dX9_knocked_5 (v := 7) (by decide) ?_
  obtain ⟨p7, he7, h⟩ := jbind h
  refine j_cV1 C dX9_knocked_7 (m_X9_figure n (v1 + 1) 1 7 s he7) kc_X9_figure w_1160 w_1162 wp_66 w_11 jy_X9_figure ⟨⟨Nat.le_of_ble_eq_true rfl, Nat.le_of_ble_eq_true rfl⟩, ⟨rfl, rfl⟩, ⟨Nat.zero_le _, Nat.zero_le _⟩⟩ (Nat.le_of_ble_eq_true rfl) (by decide) rfl (r := (RX9, TX9, 32)) rfl rfl rfl (fun _ _ h => h) ?_
  refine j_istore_n C dX9_knocked_10 (by decide) rfl ?_
  refine j_iload_n C dX9_knocked_11 0 rfl ?_
  refine j_if_eq C dX9_knocked_12 (tgt := 17) (by decide) (fun cq => ?_) (fun cq => ?_)
  · have h := jite_t h cq
    refine j_aload_n C dX9_knocked_17 1 rfl ?_
    refine j_bipush C dX9_knocked_18 (v := 119) (by decide) ?_
    refine j_bipush C dX9_knocked_20 (v := 105) (by decide) ?_
    refine j_bipush C dX9_knocked_22 (v := 116) (by decide) ?_
    refine j_bipush C dX9_knocked_24 (v := 104) (by decide) ?_
    refine j_cS1 C dX9_knocked_26 (m_X9_w4 119 105 116 104 rfl) kc_X9_w4 w_1097 w_1098 w_11 jy_X9_w4 ⟨⟨Nat.le_of_ble_eq_true rfl, Nat.le_of_ble_eq_true rfl⟩, ⟨rfl, rfl⟩, ⟨Nat.zero_le _, Nat.zero_le _⟩⟩ (Nat.le_of_ble_eq_true rfl) rfl (fun _ _ h => h) ?_
    refine j_cV1 C dX9_knocked_29 (m_X9_isWord (F_X9_w4 119 105 116 104) p7.2 rfl) kc_X9_isWord w_1093 w_1095 wp_51 w_11 jy_X9_isWord ⟨⟨Nat.le_of_ble_eq_true rfl, Nat.le_of_ble_eq_true rfl⟩, ⟨rfl, rfl⟩, ⟨Nat.zero_le _, Nat.zero_le _⟩⟩ (Nat.le_of_ble_eq_true rfl) (by decide) rfl (r := (RX9, TX9, 32)) rfl rfl rfl (fun _ _ h => h) ?_
    refine j_if_ne C dX9_knocked_32 (tgt := 37) (by decide) (fun cq => ?_) (fun cq => ?_)
    · have h := jite_t h (jb_t cq)
      refine j_aload_n C dX9_knocked_37 1 rfl ?_
      obtain ⟨p38, he38, h⟩ := jbind h
      refine j_cV0 C dX9_knocked_38 (m_X9_nextToken n p7.2 he38) kc_X9_nextToken w_1064 w_1066 wp_47 w_11 jy_X9_nextToken ⟨⟨Nat.le_of_ble_eq_true rfl, Nat.le_of_ble_eq_true rfl⟩, ⟨rfl, rfl⟩, ⟨Nat.zero_le _, Nat.zero_le _⟩⟩ (Nat.le_of_ble_eq_true rfl) (by decide) rfl (r := (RX9, TX9, 32)) rfl rfl rfl (fun _ _ h => h) ?_
      refine j_aload_n C dX9_knocked_41 1 rfl ?_
      refine j_iload_n C dX9_knocked_42 2 rfl ?_
      refine j_iconst C dX9_knocked_43 (v := 2) (by decide) ?_
      refine j_iadd C dX9_knocked_44 ?_
      refine j_iconst C dX9_knocked_45 (v := 0) (by decide) ?_
      refine j_iconst C dX9_knocked_46 (v := 5) (by decide) ?_
      obtain ⟨p47, he47, h⟩ := jbind h
      refine j_cV1 C dX9_knocked_47 (m_X9_figure n (v1 + 2) 0 5 p38 he47) kc_X9_figure w_1160 w_1162 wp_66 w_11 jy_X9_figure ⟨⟨Nat.le_of_ble_eq_true rfl, Nat.le_of_ble_eq_true rfl⟩, ⟨rfl, rfl⟩, ⟨Nat.zero_le _, Nat.zero_le _⟩⟩ (Nat.le_of_ble_eq_true rfl) (by decide) rfl (r := (RX9, TX9, 32)) rfl rfl rfl (fun _ _ h => h) ?_
      exact j_iret C dX9_knocked_50 rfl rfl (Nat.zero_le _) (Nat.zero_le _) (jretWI h)
    · have h := jite_f h (jb_f cq)
      refine j_iconst C dX9_knocked_35 (v := 1) (by decide) ?_
      exact j_iret C dX9_knocked_36 rfl rfl (Nat.zero_le _) (Nat.zero_le _) (jretWI h)
  · have h := jite_f h cq
    refine j_iload_n C dX9_knocked_15 0 rfl ?_
    exact j_iret C dX9_knocked_16 rfl rfl (Nat.zero_le _) (Nat.zero_le _) (jretWI h)
