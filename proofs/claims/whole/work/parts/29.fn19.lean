theorem dX9_leastGift_0 : decode cX9_leastGift 0 = .ok (.aload_n 0, 1) := by decide +kernel
theorem dX9_leastGift_1 : decode cX9_leastGift 1 = .ok (.getfield 7, 3) := by decide +kernel
theorem dX9_leastGift_4 : decode cX9_leastGift 4 = .ok (.bipush 20, 2) := by decide +kernel
theorem dX9_leastGift_6 : decode cX9_leastGift 6 = .ok (.iload_n 2, 1) := by decide +kernel
theorem dX9_leastGift_7 : decode cX9_leastGift 7 = .ok (.iadd, 1) := by decide +kernel
theorem dX9_leastGift_8 : decode cX9_leastGift 8 = .ok (.iaload, 1) := by decide +kernel
theorem dX9_leastGift_9 : decode cX9_leastGift 9 = .ok (.ifCond .eq 20, 3) := by decide +kernel
theorem dX9_leastGift_12 : decode cX9_leastGift 12 = .ok (.aload_n 0, 1) := by decide +kernel
theorem dX9_leastGift_13 : decode cX9_leastGift 13 = .ok (.getfield 43, 3) := by decide +kernel
theorem dX9_leastGift_16 : decode cX9_leastGift 16 = .ok (.iconst 4, 1) := by decide +kernel
theorem dX9_leastGift_17 : decode cX9_leastGift 17 = .ok (.iload_n 1, 1) := by decide +kernel
theorem dX9_leastGift_18 : decode cX9_leastGift 18 = .ok (.imul, 1) := by decide +kernel
theorem dX9_leastGift_19 : decode cX9_leastGift 19 = .ok (.iconst 1, 1) := by decide +kernel
theorem dX9_leastGift_20 : decode cX9_leastGift 20 = .ok (.iadd, 1) := by decide +kernel
theorem dX9_leastGift_21 : decode cX9_leastGift 21 = .ok (.iaload, 1) := by decide +kernel
theorem dX9_leastGift_22 : decode cX9_leastGift 22 = .ok (.iload_n 2, 1) := by decide +kernel
theorem dX9_leastGift_23 : decode cX9_leastGift 23 = .ok (.invokestatic 253, 3) := by decide +kernel
theorem dX9_leastGift_26 : decode cX9_leastGift 26 = .ok (.ifCond .eq 5, 3) := by decide +kernel
theorem dX9_leastGift_29 : decode cX9_leastGift 29 = .ok (.iconst 0, 1) := by decide +kernel
theorem dX9_leastGift_30 : decode cX9_leastGift 30 = .ok (.ireturn, 1) := by decide +kernel
theorem dX9_leastGift_31 : decode cX9_leastGift 31 = .ok (.aload_n 0, 1) := by decide +kernel
theorem dX9_leastGift_32 : decode cX9_leastGift 32 = .ok (.getfield 46, 3) := by decide +kernel
theorem dX9_leastGift_35 : decode cX9_leastGift 35 = .ok (.iload_n 2, 1) := by decide +kernel
theorem dX9_leastGift_36 : decode cX9_leastGift 36 = .ok (.iaload, 1) := by decide +kernel
theorem dX9_leastGift_37 : decode cX9_leastGift 37 = .ok (.istore 6, 2) := by decide +kernel
theorem dX9_leastGift_39 : decode cX9_leastGift 39 = .ok (.iload 6, 2) := by decide +kernel
theorem dX9_leastGift_41 : decode cX9_leastGift 41 = .ok (.ifCond .ge 6, 3) := by decide +kernel
theorem dX9_leastGift_44 : decode cX9_leastGift 44 = .ok (.bipush 6, 2) := by decide +kernel
theorem dX9_leastGift_46 : decode cX9_leastGift 46 = .ok (.ireturn, 1) := by decide +kernel
theorem dX9_leastGift_47 : decode cX9_leastGift 47 = .ok (.iload_n 1, 1) := by decide +kernel
theorem dX9_leastGift_48 : decode cX9_leastGift 48 = .ok (.iconst 4, 1) := by decide +kernel
theorem dX9_leastGift_49 : decode cX9_leastGift 49 = .ok (.imul, 1) := by decide +kernel
theorem dX9_leastGift_50 : decode cX9_leastGift 50 = .ok (.iload 6, 2) := by decide +kernel
theorem dX9_leastGift_52 : decode cX9_leastGift 52 = .ok (.iadd, 1) := by decide +kernel
theorem dX9_leastGift_53 : decode cX9_leastGift 53 = .ok (.bipush 8, 2) := by decide +kernel
theorem dX9_leastGift_55 : decode cX9_leastGift 55 = .ok (.imul, 1) := by decide +kernel
theorem dX9_leastGift_56 : decode cX9_leastGift 56 = .ok (.iload_n 2, 1) := by decide +kernel
theorem dX9_leastGift_57 : decode cX9_leastGift 57 = .ok (.iadd, 1) := by decide +kernel
theorem dX9_leastGift_58 : decode cX9_leastGift 58 = .ok (.bipush 24, 2) := by decide +kernel
theorem dX9_leastGift_60 : decode cX9_leastGift 60 = .ok (.imul, 1) := by decide +kernel
theorem dX9_leastGift_61 : decode cX9_leastGift 61 = .ok (.iload_n 3, 1) := by decide +kernel
theorem dX9_leastGift_62 : decode cX9_leastGift 62 = .ok (.iadd, 1) := by decide +kernel
theorem dX9_leastGift_63 : decode cX9_leastGift 63 = .ok (.bipush 10, 2) := by decide +kernel
theorem dX9_leastGift_65 : decode cX9_leastGift 65 = .ok (.imul, 1) := by decide +kernel
theorem dX9_leastGift_66 : decode cX9_leastGift 66 = .ok (.iload 4, 2) := by decide +kernel
theorem dX9_leastGift_68 : decode cX9_leastGift 68 = .ok (.iadd, 1) := by decide +kernel
theorem dX9_leastGift_69 : decode cX9_leastGift 69 = .ok (.bipush 7, 2) := by decide +kernel
theorem dX9_leastGift_71 : decode cX9_leastGift 71 = .ok (.imul, 1) := by decide +kernel
theorem dX9_leastGift_72 : decode cX9_leastGift 72 = .ok (.iload 5, 2) := by decide +kernel
theorem dX9_leastGift_74 : decode cX9_leastGift 74 = .ok (.iadd, 1) := by decide +kernel
theorem dX9_leastGift_75 : decode cX9_leastGift 75 = .ok (.iconst 1, 1) := by decide +kernel
theorem dX9_leastGift_76 : decode cX9_leastGift 76 = .ok (.isub, 1) := by decide +kernel
theorem dX9_leastGift_77 : decode cX9_leastGift 77 = .ok (.istore 7, 2) := by decide +kernel
theorem dX9_leastGift_79 : decode cX9_leastGift 79 = .ok (.aload_n 0, 1) := by decide +kernel
theorem dX9_leastGift_80 : decode cX9_leastGift 80 = .ok (.getfield 50, 3) := by decide +kernel
theorem dX9_leastGift_83 : decode cX9_leastGift 83 = .ok (.iload 7, 2) := by decide +kernel
theorem dX9_leastGift_85 : decode cX9_leastGift 85 = .ok (.iaload, 1) := by decide +kernel
theorem dX9_leastGift_86 : decode cX9_leastGift 86 = .ok (.ifCond .lt 11, 3) := by decide +kernel
theorem dX9_leastGift_89 : decode cX9_leastGift 89 = .ok (.aload_n 0, 1) := by decide +kernel
theorem dX9_leastGift_90 : decode cX9_leastGift 90 = .ok (.getfield 50, 3) := by decide +kernel
theorem dX9_leastGift_93 : decode cX9_leastGift 93 = .ok (.iload 7, 2) := by decide +kernel
theorem dX9_leastGift_95 : decode cX9_leastGift 95 = .ok (.iaload, 1) := by decide +kernel
theorem dX9_leastGift_96 : decode cX9_leastGift 96 = .ok (.ireturn, 1) := by decide +kernel
theorem dX9_leastGift_97 : decode cX9_leastGift 97 = .ok (.iconst 0, 1) := by decide +kernel
theorem dX9_leastGift_98 : decode cX9_leastGift 98 = .ok (.istore 8, 2) := by decide +kernel
theorem dX9_leastGift_100 : decode cX9_leastGift 100 = .ok (.iload 8, 2) := by decide +kernel
theorem dX9_leastGift_102 : decode cX9_leastGift 102 = .ok (.bipush 6, 2) := by decide +kernel
theorem dX9_leastGift_104 : decode cX9_leastGift 104 = .ok (.if_icmp .ge 34, 3) := by decide +kernel
theorem dX9_leastGift_107 : decode cX9_leastGift 107 = .ok (.aload_n 0, 1) := by decide +kernel
theorem dX9_leastGift_108 : decode cX9_leastGift 108 = .ok (.iload 6, 2) := by decide +kernel
theorem dX9_leastGift_110 : decode cX9_leastGift 110 = .ok (.iload_n 2, 1) := by decide +kernel
theorem dX9_leastGift_111 : decode cX9_leastGift 111 = .ok (.iload_n 3, 1) := by decide +kernel
theorem dX9_leastGift_112 : decode cX9_leastGift 112 = .ok (.iload 5, 2) := by decide +kernel
theorem dX9_leastGift_114 : decode cX9_leastGift 114 = .ok (.iload 8, 2) := by decide +kernel
theorem dX9_leastGift_116 : decode cX9_leastGift 116 = .ok (.iload 4, 2) := by decide +kernel
theorem dX9_leastGift_118 : decode cX9_leastGift 118 = .ok (.aload_n 0, 1) := by decide +kernel
theorem dX9_leastGift_119 : decode cX9_leastGift 119 = .ok (.getfield 43, 3) := by decide +kernel
theorem dX9_leastGift_122 : decode cX9_leastGift 122 = .ok (.iconst 4, 1) := by decide +kernel
theorem dX9_leastGift_123 : decode cX9_leastGift 123 = .ok (.iload_n 1, 1) := by decide +kernel
theorem dX9_leastGift_124 : decode cX9_leastGift 124 = .ok (.imul, 1) := by decide +kernel
theorem dX9_leastGift_125 : decode cX9_leastGift 125 = .ok (.iaload, 1) := by decide +kernel
theorem dX9_leastGift_126 : decode cX9_leastGift 126 = .ok (.invokevirtual 242, 3) := by decide +kernel
theorem dX9_leastGift_129 : decode cX9_leastGift 129 = .ok (.ifCond .ne 9, 3) := by decide +kernel
theorem dX9_leastGift_132 : decode cX9_leastGift 132 = .ok (.iinc 8 1, 3) := by decide +kernel
theorem dX9_leastGift_135 : decode cX9_leastGift 135 = .ok (.goto (-35), 3) := by decide +kernel
theorem dX9_leastGift_138 : decode cX9_leastGift 138 = .ok (.aload_n 0, 1) := by decide +kernel
theorem dX9_leastGift_139 : decode cX9_leastGift 139 = .ok (.getfield 50, 3) := by decide +kernel
theorem dX9_leastGift_142 : decode cX9_leastGift 142 = .ok (.iload 7, 2) := by decide +kernel
theorem dX9_leastGift_144 : decode cX9_leastGift 144 = .ok (.iload 8, 2) := by decide +kernel
theorem dX9_leastGift_146 : decode cX9_leastGift 146 = .ok (.iastore, 1) := by decide +kernel
theorem dX9_leastGift_147 : decode cX9_leastGift 147 = .ok (.iload 8, 2) := by decide +kernel
theorem dX9_leastGift_149 : decode cX9_leastGift 149 = .ok (.ireturn, 1) := by decide +kernel
theorem dX9_by_0 : decode cX9_by 0 = .ok (.iload 5, 2) := by decide +kernel
theorem dX9_by_2 : decode cX9_by 2 = .ok (.ifCond .ne 34, 3) := by decide +kernel
theorem dX9_by_5 : decode cX9_by 5 = .ok (.aload_n 0, 1) := by decide +kernel
theorem dX9_by_6 : decode cX9_by 6 = .ok (.getfield 53, 3) := by decide +kernel
theorem dX9_by_9 : decode cX9_by 9 = .ok (.iload_n 2, 1) := by decide +kernel
theorem dX9_by_10 : decode cX9_by 10 = .ok (.iconst 1, 1) := by decide +kernel
theorem dX9_by_11 : decode cX9_by 11 = .ok (.iadd, 1) := by decide +kernel
theorem dX9_by_12 : decode cX9_by 12 = .ok (.iload_n 3, 1) := by decide +kernel
theorem dX9_by_13 : decode cX9_by 13 = .ok (.iload 4, 2) := by decide +kernel
theorem dX9_by_15 : decode cX9_by 15 = .ok (.bipush 9, 2) := by decide +kernel
theorem dX9_by_17 : decode cX9_by 17 = .ok (.if_icmp .ne 8, 3) := by decide +kernel
theorem dX9_by_20 : decode cX9_by 20 = .ok (.bipush 9, 2) := by decide +kernel
theorem dX9_by_22 : decode cX9_by 22 = .ok (.goto 7, 3) := by decide +kernel
theorem dX9_by_25 : decode cX9_by 25 = .ok (.iload 4, 2) := by decide +kernel
theorem dX9_by_27 : decode cX9_by 27 = .ok (.iconst 1, 1) := by decide +kernel
theorem dX9_by_28 : decode cX9_by 28 = .ok (.iadd, 1) := by decide +kernel
theorem dX9_by_29 : decode cX9_by 29 = .ok (.invokestatic 274, 3) := by decide +kernel
theorem dX9_by_32 : decode cX9_by 32 = .ok (.iaload, 1) := by decide +kernel
theorem dX9_by_33 : decode cX9_by 33 = .ok (.iconst 1, 1) := by decide +kernel
theorem dX9_by_34 : decode cX9_by 34 = .ok (.iadd, 1) := by decide +kernel
theorem dX9_by_35 : decode cX9_by 35 = .ok (.ireturn, 1) := by decide +kernel
theorem dX9_by_36 : decode cX9_by 36 = .ok (.aload_n 0, 1) := by decide +kernel
theorem dX9_by_37 : decode cX9_by 37 = .ok (.iload_n 1, 1) := by decide +kernel
theorem dX9_by_38 : decode cX9_by 38 = .ok (.iload_n 3, 1) := by decide +kernel
theorem dX9_by_39 : decode cX9_by 39 = .ok (.aload_n 0, 1) := by decide +kernel
theorem dX9_by_40 : decode cX9_by 40 = .ok (.getfield 43, 3) := by decide +kernel
theorem dX9_by_43 : decode cX9_by 43 = .ok (.iconst 4, 1) := by decide +kernel
theorem dX9_by_44 : decode cX9_by 44 = .ok (.iload_n 1, 1) := by decide +kernel
theorem dX9_by_45 : decode cX9_by 45 = .ok (.imul, 1) := by decide +kernel
theorem dX9_by_46 : decode cX9_by 46 = .ok (.iconst 2, 1) := by decide +kernel
theorem dX9_by_47 : decode cX9_by 47 = .ok (.iadd, 1) := by decide +kernel
theorem dX9_by_48 : decode cX9_by 48 = .ok (.iaload, 1) := by decide +kernel
theorem dX9_by_49 : decode cX9_by 49 = .ok (.iload_n 2, 1) := by decide +kernel
theorem dX9_by_50 : decode cX9_by 50 = .ok (.iadd, 1) := by decide +kernel
theorem dX9_by_51 : decode cX9_by 51 = .ok (.bipush 24, 2) := by decide +kernel
theorem dX9_by_53 : decode cX9_by 53 = .ok (.irem, 1) := by decide +kernel
theorem dX9_by_54 : decode cX9_by 54 = .ok (.iload 4, 2) := by decide +kernel
theorem dX9_by_56 : decode cX9_by 56 = .ok (.iload 5, 2) := by decide +kernel
theorem dX9_by_58 : decode cX9_by 58 = .ok (.invokevirtual 277, 3) := by decide +kernel
theorem dX9_by_61 : decode cX9_by 61 = .ok (.istore 6, 2) := by decide +kernel
theorem dX9_by_63 : decode cX9_by 63 = .ok (.iload 6, 2) := by decide +kernel
theorem dX9_by_65 : decode cX9_by 65 = .ok (.bipush 6, 2) := by decide +kernel
theorem dX9_by_67 : decode cX9_by 67 = .ok (.if_icmp .ne 9, 3) := by decide +kernel
theorem dX9_by_70 : decode cX9_by 70 = .ok (.ldc_w 281, 3) := by decide +kernel
theorem dX9_by_73 : decode cX9_by 73 = .ok (.goto 26, 3) := by decide +kernel
theorem dX9_by_76 : decode cX9_by 76 = .ok (.aload_n 0, 1) := by decide +kernel
theorem dX9_by_77 : decode cX9_by 77 = .ok (.getfield 53, 3) := by decide +kernel
theorem dX9_by_80 : decode cX9_by 80 = .ok (.iload_n 2, 1) := by decide +kernel
theorem dX9_by_81 : decode cX9_by 81 = .ok (.iconst 1, 1) := by decide +kernel
theorem dX9_by_82 : decode cX9_by 82 = .ok (.iadd, 1) := by decide +kernel
theorem dX9_by_83 : decode cX9_by 83 = .ok (.iload_n 3, 1) := by decide +kernel
theorem dX9_by_84 : decode cX9_by 84 = .ok (.iconst 1, 1) := by decide +kernel
theorem dX9_by_85 : decode cX9_by 85 = .ok (.iadd, 1) := by decide +kernel
theorem dX9_by_86 : decode cX9_by 86 = .ok (.iconst 0, 1) := by decide +kernel
theorem dX9_by_87 : decode cX9_by 87 = .ok (.invokestatic 274, 3) := by decide +kernel
theorem dX9_by_90 : decode cX9_by 90 = .ok (.iaload, 1) := by decide +kernel
theorem dX9_by_91 : decode cX9_by 91 = .ok (.bipush 100, 2) := by decide +kernel
theorem dX9_by_93 : decode cX9_by 93 = .ok (.iload 6, 2) := by decide +kernel
theorem dX9_by_95 : decode cX9_by 95 = .ok (.imul, 1) := by decide +kernel
theorem dX9_by_96 : decode cX9_by 96 = .ok (.iadd, 1) := by decide +kernel
theorem dX9_by_97 : decode cX9_by 97 = .ok (.iconst 1, 1) := by decide +kernel
theorem dX9_by_98 : decode cX9_by 98 = .ok (.iadd, 1) := by decide +kernel
theorem dX9_by_99 : decode cX9_by 99 = .ok (.ireturn, 1) := by decide +kernel
theorem dX9_reckon_0 : decode cX9_reckon 0 = .ok (.iload_n 2, 1) := by decide +kernel
theorem dX9_reckon_1 : decode cX9_reckon 1 = .ok (.istore 4, 2) := by decide +kernel
theorem dX9_reckon_3 : decode cX9_reckon 3 = .ok (.iload 4, 2) := by decide +kernel
theorem dX9_reckon_5 : decode cX9_reckon 5 = .ok (.ifCond .lt 144, 3) := by decide +kernel
theorem dX9_reckon_8 : decode cX9_reckon 8 = .ok (.iconst 0, 1) := by decide +kernel
theorem dX9_reckon_9 : decode cX9_reckon 9 = .ok (.istore 5, 2) := by decide +kernel
theorem dX9_reckon_11 : decode cX9_reckon 11 = .ok (.iload 5, 2) := by decide +kernel
theorem dX9_reckon_13 : decode cX9_reckon 13 = .ok (.aload_n 0, 1) := by decide +kernel
theorem dX9_reckon_14 : decode cX9_reckon 14 = .ok (.getfield 62, 3) := by decide +kernel
theorem dX9_reckon_17 : decode cX9_reckon 17 = .ok (.if_icmp .gt 126, 3) := by decide +kernel
theorem dX9_reckon_20 : decode cX9_reckon 20 = .ok (.iconst 0, 1) := by decide +kernel
theorem dX9_reckon_21 : decode cX9_reckon 21 = .ok (.istore 6, 2) := by decide +kernel
theorem dX9_reckon_23 : decode cX9_reckon 23 = .ok (.iload 6, 2) := by decide +kernel
theorem dX9_reckon_25 : decode cX9_reckon 25 = .ok (.bipush 10, 2) := by decide +kernel
theorem dX9_reckon_27 : decode cX9_reckon 27 = .ok (.if_icmp .ge 110, 3) := by decide +kernel
theorem dX9_reckon_30 : decode cX9_reckon 30 = .ok (.iload 5, 2) := by decide +kernel
theorem dX9_reckon_32 : decode cX9_reckon 32 = .ok (.aload_n 0, 1) := by decide +kernel
theorem dX9_reckon_33 : decode cX9_reckon 33 = .ok (.getfield 62, 3) := by decide +kernel
theorem dX9_reckon_36 : decode cX9_reckon 36 = .ok (.if_icmp .ne 17, 3) := by decide +kernel
theorem dX9_reckon_39 : decode cX9_reckon 39 = .ok (.iload 4, 2) := by decide +kernel
theorem dX9_reckon_41 : decode cX9_reckon 41 = .ok (.iload_n 2, 1) := by decide +kernel
theorem dX9_reckon_42 : decode cX9_reckon 42 = .ok (.if_icmp .eq 7, 3) := by decide +kernel
theorem dX9_reckon_45 : decode cX9_reckon 45 = .ok (.iload_n 3, 1) := by decide +kernel
theorem dX9_reckon_46 : decode cX9_reckon 46 = .ok (.ifCond .ne 7, 3) := by decide +kernel
theorem dX9_reckon_49 : decode cX9_reckon 49 = .ok (.iconst 0, 1) := by decide +kernel
theorem dX9_reckon_50 : decode cX9_reckon 50 = .ok (.goto 6, 3) := by decide +kernel
theorem dX9_reckon_53 : decode cX9_reckon 53 = .ok (.ldc_w 281, 3) := by decide +kernel
theorem dX9_reckon_56 : decode cX9_reckon 56 = .ok (.istore 7, 2) := by decide +kernel
theorem dX9_reckon_58 : decode cX9_reckon 58 = .ok (.iconst 0, 1) := by decide +kernel
theorem dX9_reckon_59 : decode cX9_reckon 59 = .ok (.istore 8, 2) := by decide +kernel
theorem dX9_reckon_61 : decode cX9_reckon 61 = .ok (.iload 8, 2) := by decide +kernel
theorem dX9_reckon_63 : decode cX9_reckon 63 = .ok (.bipush 8, 2) := by decide +kernel
theorem dX9_reckon_65 : decode cX9_reckon 65 = .ok (.if_icmp .ge 50, 3) := by decide +kernel
theorem dX9_reckon_68 : decode cX9_reckon 68 = .ok (.iload 4, 2) := by decide +kernel
theorem dX9_reckon_70 : decode cX9_reckon 70 = .ok (.iload_n 2, 1) := by decide +kernel
theorem dX9_reckon_71 : decode cX9_reckon 71 = .ok (.if_icmp .ge 44, 3) := by decide +kernel
theorem dX9_reckon_74 : decode cX9_reckon 74 = .ok (.iload 5, 2) := by decide +kernel
theorem dX9_reckon_76 : decode cX9_reckon 76 = .ok (.aload_n 0, 1) := by decide +kernel
theorem dX9_reckon_77 : decode cX9_reckon 77 = .ok (.getfield 62, 3) := by decide +kernel
theorem dX9_reckon_80 : decode cX9_reckon 80 = .ok (.if_icmp .ge 35, 3) := by decide +kernel
theorem dX9_reckon_83 : decode cX9_reckon 83 = .ok (.aload_n 0, 1) := by decide +kernel
theorem dX9_reckon_84 : decode cX9_reckon 84 = .ok (.iload_n 1, 1) := by decide +kernel
theorem dX9_reckon_85 : decode cX9_reckon 85 = .ok (.iload 4, 2) := by decide +kernel
theorem dX9_reckon_87 : decode cX9_reckon 87 = .ok (.iload 5, 2) := by decide +kernel
theorem dX9_reckon_89 : decode cX9_reckon 89 = .ok (.iload 6, 2) := by decide +kernel
theorem dX9_reckon_91 : decode cX9_reckon 91 = .ok (.iload 8, 2) := by decide +kernel
theorem dX9_reckon_93 : decode cX9_reckon 93 = .ok (.invokevirtual 282, 3) := by decide +kernel
theorem dX9_reckon_96 : decode cX9_reckon 96 = .ok (.istore 9, 2) := by decide +kernel
theorem dX9_reckon_98 : decode cX9_reckon 98 = .ok (.iload 9, 2) := by decide +kernel
theorem dX9_reckon_100 : decode cX9_reckon 100 = .ok (.iload 7, 2) := by decide +kernel
theorem dX9_reckon_102 : decode cX9_reckon 102 = .ok (.if_icmp .ge 7, 3) := by decide +kernel
theorem dX9_reckon_105 : decode cX9_reckon 105 = .ok (.iload 9, 2) := by decide +kernel
theorem dX9_reckon_107 : decode cX9_reckon 107 = .ok (.istore 7, 2) := by decide +kernel
theorem dX9_reckon_109 : decode cX9_reckon 109 = .ok (.iinc 8 1, 3) := by decide +kernel
theorem dX9_reckon_112 : decode cX9_reckon 112 = .ok (.goto (-51), 3) := by decide +kernel
theorem dX9_reckon_115 : decode cX9_reckon 115 = .ok (.aload_n 0, 1) := by decide +kernel
theorem dX9_reckon_116 : decode cX9_reckon 116 = .ok (.getfield 53, 3) := by decide +kernel
theorem dX9_reckon_119 : decode cX9_reckon 119 = .ok (.iload 4, 2) := by decide +kernel
theorem dX9_reckon_121 : decode cX9_reckon 121 = .ok (.iload 5, 2) := by decide +kernel
theorem dX9_reckon_123 : decode cX9_reckon 123 = .ok (.iload 6, 2) := by decide +kernel
theorem dX9_reckon_125 : decode cX9_reckon 125 = .ok (.invokestatic 274, 3) := by decide +kernel
theorem dX9_reckon_128 : decode cX9_reckon 128 = .ok (.iload 7, 2) := by decide +kernel
theorem dX9_reckon_130 : decode cX9_reckon 130 = .ok (.iastore, 1) := by decide +kernel
theorem dX9_reckon_131 : decode cX9_reckon 131 = .ok (.iinc 6 1, 3) := by decide +kernel
theorem dX9_reckon_134 : decode cX9_reckon 134 = .ok (.goto (-111), 3) := by decide +kernel
theorem dX9_reckon_137 : decode cX9_reckon 137 = .ok (.iinc 5 1, 3) := by decide +kernel
theorem dX9_reckon_140 : decode cX9_reckon 140 = .ok (.goto (-129), 3) := by decide +kernel
theorem dX9_reckon_143 : decode cX9_reckon 143 = .ok (.iinc 4 (-1), 3) := by decide +kernel
theorem dX9_reckon_146 : decode cX9_reckon 146 = .ok (.goto (-143), 3) := by decide +kernel
theorem dX9_reckon_149 : decode cX9_reckon 149 = .ok (.aload_n 0, 1) := by decide +kernel
theorem dX9_reckon_150 : decode cX9_reckon 150 = .ok (.getfield 53, 3) := by decide +kernel
theorem dX9_reckon_153 : decode cX9_reckon 153 = .ok (.iconst 0, 1) := by decide +kernel
theorem dX9_reckon_154 : decode cX9_reckon 154 = .ok (.iaload, 1) := by decide +kernel
theorem dX9_reckon_155 : decode cX9_reckon 155 = .ok (.ldc_w 281, 3) := by decide +kernel
theorem dX9_reckon_158 : decode cX9_reckon 158 = .ok (.if_icmp .lt 9, 3) := by decide +kernel
theorem dX9_reckon_161 : decode cX9_reckon 161 = .ok (.ldc_w 281, 3) := by decide +kernel
theorem dX9_reckon_164 : decode cX9_reckon 164 = .ok (.goto 9, 3) := by decide +kernel
theorem dX9_reckon_167 : decode cX9_reckon 167 = .ok (.aload_n 0, 1) := by decide +kernel
theorem dX9_reckon_168 : decode cX9_reckon 168 = .ok (.getfield 53, 3) := by decide +kernel
theorem dX9_reckon_171 : decode cX9_reckon 171 = .ok (.iconst 0, 1) := by decide +kernel
theorem dX9_reckon_172 : decode cX9_reckon 172 = .ok (.iaload, 1) := by decide +kernel
theorem dX9_reckon_173 : decode cX9_reckon 173 = .ok (.ireturn, 1) := by decide +kernel
theorem dX9_follow_0 : decode cX9_follow 0 = .ok (.iconst 0, 1) := by decide +kernel
theorem dX9_follow_1 : decode cX9_follow 1 = .ok (.istore_n 2, 1) := by decide +kernel
theorem dX9_follow_2 : decode cX9_follow 2 = .ok (.iconst 0, 1) := by decide +kernel
theorem dX9_follow_3 : decode cX9_follow 3 = .ok (.istore_n 3, 1) := by decide +kernel
theorem dX9_follow_4 : decode cX9_follow 4 = .ok (.iconst 0, 1) := by decide +kernel
theorem dX9_follow_5 : decode cX9_follow 5 = .ok (.istore 4, 2) := by decide +kernel
theorem dX9_follow_7 : decode cX9_follow 7 = .ok (.iload_n 2, 1) := by decide +kernel
theorem dX9_follow_8 : decode cX9_follow 8 = .ok (.aload_n 0, 1) := by decide +kernel
theorem dX9_follow_9 : decode cX9_follow 9 = .ok (.getfield 62, 3) := by decide +kernel
theorem dX9_follow_12 : decode cX9_follow 12 = .ok (.if_icmp .ge 136, 3) := by decide +kernel
theorem dX9_follow_15 : decode cX9_follow 15 = .ok (.iconst 0, 1) := by decide +kernel
theorem dX9_follow_16 : decode cX9_follow 16 = .ok (.istore 5, 2) := by decide +kernel
theorem dX9_follow_18 : decode cX9_follow 18 = .ok (.aload_n 0, 1) := by decide +kernel
theorem dX9_follow_19 : decode cX9_follow 19 = .ok (.iload_n 1, 1) := by decide +kernel
theorem dX9_follow_20 : decode cX9_follow 20 = .ok (.iload 4, 2) := by decide +kernel
theorem dX9_follow_22 : decode cX9_follow 22 = .ok (.iload_n 2, 1) := by decide +kernel
theorem dX9_follow_23 : decode cX9_follow 23 = .ok (.iload_n 3, 1) := by decide +kernel
theorem dX9_follow_24 : decode cX9_follow 24 = .ok (.iload 5, 2) := by decide +kernel
theorem dX9_follow_26 : decode cX9_follow 26 = .ok (.invokevirtual 282, 3) := by decide +kernel
theorem dX9_follow_29 : decode cX9_follow 29 = .ok (.aload_n 0, 1) := by decide +kernel
theorem dX9_follow_30 : decode cX9_follow 30 = .ok (.getfield 53, 3) := by decide +kernel
theorem dX9_follow_33 : decode cX9_follow 33 = .ok (.iload 4, 2) := by decide +kernel
theorem dX9_follow_35 : decode cX9_follow 35 = .ok (.iload_n 2, 1) := by decide +kernel
theorem dX9_follow_36 : decode cX9_follow 36 = .ok (.iload_n 3, 1) := by decide +kernel
theorem dX9_follow_37 : decode cX9_follow 37 = .ok (.invokestatic 274, 3) := by decide +kernel
theorem dX9_follow_40 : decode cX9_follow 40 = .ok (.iaload, 1) := by decide +kernel
theorem dX9_follow_41 : decode cX9_follow 41 = .ok (.if_icmp .eq 9, 3) := by decide +kernel
theorem dX9_follow_44 : decode cX9_follow 44 = .ok (.iinc 5 1, 3) := by decide +kernel
theorem dX9_follow_47 : decode cX9_follow 47 = .ok (.goto (-29), 3) := by decide +kernel
theorem dX9_follow_50 : decode cX9_follow 50 = .ok (.aload_n 0, 1) := by decide +kernel
theorem dX9_follow_51 : decode cX9_follow 51 = .ok (.getfield 59, 3) := by decide +kernel
theorem dX9_follow_54 : decode cX9_follow 54 = .ok (.iload 4, 2) := by decide +kernel
theorem dX9_follow_56 : decode cX9_follow 56 = .ok (.iload_n 2, 1) := by decide +kernel
theorem dX9_follow_57 : decode cX9_follow 57 = .ok (.iastore, 1) := by decide +kernel
theorem dX9_follow_58 : decode cX9_follow 58 = .ok (.aload_n 0, 1) := by decide +kernel
theorem dX9_follow_59 : decode cX9_follow 59 = .ok (.getfield 56, 3) := by decide +kernel
theorem dX9_follow_62 : decode cX9_follow 62 = .ok (.iload 4, 2) := by decide +kernel
theorem dX9_follow_64 : decode cX9_follow 64 = .ok (.iload 5, 2) := by decide +kernel
theorem dX9_follow_66 : decode cX9_follow 66 = .ok (.ifCond .ne 7, 3) := by decide +kernel
theorem dX9_follow_69 : decode cX9_follow 69 = .ok (.iconst 0, 1) := by decide +kernel
theorem dX9_follow_70 : decode cX9_follow 70 = .ok (.goto 34, 3) := by decide +kernel
theorem dX9_follow_73 : decode cX9_follow 73 = .ok (.bipush 10, 2) := by decide +kernel
theorem dX9_follow_75 : decode cX9_follow 75 = .ok (.iload 5, 2) := by decide +kernel
theorem dX9_follow_77 : decode cX9_follow 77 = .ok (.imul, 1) := by decide +kernel
theorem dX9_follow_78 : decode cX9_follow 78 = .ok (.aload_n 0, 1) := by decide +kernel
theorem dX9_follow_79 : decode cX9_follow 79 = .ok (.iload_n 1, 1) := by decide +kernel
theorem dX9_follow_80 : decode cX9_follow 80 = .ok (.iload_n 2, 1) := by decide +kernel
theorem dX9_follow_81 : decode cX9_follow 81 = .ok (.aload_n 0, 1) := by decide +kernel
theorem dX9_follow_82 : decode cX9_follow 82 = .ok (.getfield 43, 3) := by decide +kernel
theorem dX9_follow_85 : decode cX9_follow 85 = .ok (.iconst 4, 1) := by decide +kernel
theorem dX9_follow_86 : decode cX9_follow 86 = .ok (.iload_n 1, 1) := by decide +kernel
theorem dX9_follow_87 : decode cX9_follow 87 = .ok (.imul, 1) := by decide +kernel
theorem dX9_follow_88 : decode cX9_follow 88 = .ok (.iconst 2, 1) := by decide +kernel
theorem dX9_follow_89 : decode cX9_follow 89 = .ok (.iadd, 1) := by decide +kernel
theorem dX9_follow_90 : decode cX9_follow 90 = .ok (.iaload, 1) := by decide +kernel
theorem dX9_follow_91 : decode cX9_follow 91 = .ok (.iload 4, 2) := by decide +kernel
theorem dX9_follow_93 : decode cX9_follow 93 = .ok (.iadd, 1) := by decide +kernel
theorem dX9_follow_94 : decode cX9_follow 94 = .ok (.bipush 24, 2) := by decide +kernel
theorem dX9_follow_96 : decode cX9_follow 96 = .ok (.irem, 1) := by decide +kernel
theorem dX9_follow_97 : decode cX9_follow 97 = .ok (.iload_n 3, 1) := by decide +kernel
theorem dX9_follow_98 : decode cX9_follow 98 = .ok (.iload 5, 2) := by decide +kernel
theorem dX9_follow_100 : decode cX9_follow 100 = .ok (.invokevirtual 277, 3) := by decide +kernel
theorem dX9_follow_103 : decode cX9_follow 103 = .ok (.iadd, 1) := by decide +kernel
theorem dX9_follow_104 : decode cX9_follow 104 = .ok (.iastore, 1) := by decide +kernel
theorem dX9_follow_105 : decode cX9_follow 105 = .ok (.iload 5, 2) := by decide +kernel
theorem dX9_follow_107 : decode cX9_follow 107 = .ok (.ifCond .le 7, 3) := by decide +kernel
theorem dX9_follow_110 : decode cX9_follow 110 = .ok (.iconst 0, 1) := by decide +kernel
theorem dX9_follow_111 : decode cX9_follow 111 = .ok (.goto 17, 3) := by decide +kernel
theorem dX9_follow_114 : decode cX9_follow 114 = .ok (.iload_n 3, 1) := by decide +kernel
theorem dX9_follow_115 : decode cX9_follow 115 = .ok (.bipush 9, 2) := by decide +kernel
theorem dX9_follow_117 : decode cX9_follow 117 = .ok (.if_icmp .ne 8, 3) := by decide +kernel
theorem dX9_follow_120 : decode cX9_follow 120 = .ok (.bipush 9, 2) := by decide +kernel
theorem dX9_follow_122 : decode cX9_follow 122 = .ok (.goto 6, 3) := by decide +kernel
theorem dX9_follow_125 : decode cX9_follow 125 = .ok (.iload_n 3, 1) := by decide +kernel
theorem dX9_follow_126 : decode cX9_follow 126 = .ok (.iconst 1, 1) := by decide +kernel
theorem dX9_follow_127 : decode cX9_follow 127 = .ok (.iadd, 1) := by decide +kernel
theorem dX9_follow_128 : decode cX9_follow 128 = .ok (.istore_n 3, 1) := by decide +kernel
theorem dX9_follow_129 : decode cX9_follow 129 = .ok (.iload_n 2, 1) := by decide +kernel
theorem dX9_follow_130 : decode cX9_follow 130 = .ok (.iload 5, 2) := by decide +kernel
theorem dX9_follow_132 : decode cX9_follow 132 = .ok (.ifCond .le 7, 3) := by decide +kernel
theorem dX9_follow_135 : decode cX9_follow 135 = .ok (.iconst 1, 1) := by decide +kernel
theorem dX9_follow_136 : decode cX9_follow 136 = .ok (.goto 4, 3) := by decide +kernel
theorem dX9_follow_139 : decode cX9_follow 139 = .ok (.iconst 0, 1) := by decide +kernel
theorem dX9_follow_140 : decode cX9_follow 140 = .ok (.iadd, 1) := by decide +kernel
theorem dX9_follow_141 : decode cX9_follow 141 = .ok (.istore_n 2, 1) := by decide +kernel
theorem dX9_follow_142 : decode cX9_follow 142 = .ok (.iinc 4 1, 3) := by decide +kernel
theorem dX9_follow_145 : decode cX9_follow 145 = .ok (.goto (-138), 3) := by decide +kernel
theorem dX9_follow_148 : decode cX9_follow 148 = .ok (.aload_n 0, 1) := by decide +kernel
theorem dX9_follow_149 : decode cX9_follow 149 = .ok (.iload 4, 2) := by decide +kernel
theorem dX9_follow_151 : decode cX9_follow 151 = .ok (.putfield 285, 3) := by decide +kernel
theorem dX9_follow_154 : decode cX9_follow 154 = .ok (.return_, 1) := by decide +kernel
-- X9_leastGift
def B_X9_leastGift_100 (n : Nat) (v1 : Int32) (v2 : Int32) (v3 : Int32) (v4 : Int32) (v5 : Int32) (v6 : Int32) (v7 : Int32) (q : Int32 × jS) : Option ((Int32 × jS) ⊕ (Int32 × jS)) :=
  (if 6 ≤ q.1 then some (.inr (q.1, q.2)) else (if jin (4 * v1) 28 = true then ((F_X9_isOpen n v6 v2 v3 v5 q.1 v4 (q.2.1 9 (Int32.toNatClampNeg (4 * v1))) q.2).bind fun p126 => (if p126.1 = true then some (.inr (q.1, p126.2)) else some (.inl ((q.1 + 1), p126.2)))) else none))
def F_X9_leastGift (n : Nat) (v1 : Int32) (v2 : Int32) (v3 : Int32) (v4 : Int32) (v5 : Int32) (s : jS) : Option (Int32 × jS) :=
  (if jin (20 + v2) 324 = true then (if (s.1 1 (Int32.toNatClampNeg (20 + v2))) = 0 then some (0, s) else (if jin ((4 * v1) + 1) 28 = true then (if (F_X9_has (s.1 9 (Int32.toNatClampNeg ((4 * v1) + 1))) v2) = true then some (0, s) else (if jin v2 8 = true then (if 0 ≤ (s.1 10 (Int32.toNatClampNeg v2)) then (if jin (((((((((((v1 * 4) + (s.1 10 (Int32.toNatClampNeg v2))) * 8) + v2) * 24) + v3) * 10) + v4) * 7) + v5) - 1) 376320 = true then (if (s.1 11 (Int32.toNatClampNeg (((((((((((v1 * 4) + (s.1 10 (Int32.toNatClampNeg v2))) * 8) + v2) * 24) + v3) * 10) + v4) * 7) + v5) - 1))) < 0 then ((lp (B_X9_leastGift_100 n v1 v2 v3 v4 v5 (s.1 10 (Int32.toNatClampNeg v2)) (((((((((((v1 * 4) + (s.1 10 (Int32.toNatClampNeg v2))) * 8) + v2) * 24) + v3) * 10) + v4) * 7) + v5) - 1)) n (0, s)).bind fun e100 => (if jin (((((((((((v1 * 4) + (s.1 10 (Int32.toNatClampNeg v2))) * 8) + v2) * 24) + v3) * 10) + v4) * 7) + v5) - 1) 376320 = true then (jl (upI e100.2 11 (Int32.toNatClampNeg (((((((((((v1 * 4) + (s.1 10 (Int32.toNatClampNeg v2))) * 8) + v2) * 24) + v3) * 10) + v4) * 7) + v5) - 1)) e100.1) fun s146_7 => some (e100.1, s146_7)) else none)) else some ((s.1 11 (Int32.toNatClampNeg (((((((((((v1 * 4) + (s.1 10 (Int32.toNatClampNeg v2))) * 8) + v2) * 24) + v3) * 10) + v4) * 7) + v5) - 1))), s)) else none) else some (6, s)) else none)) else none)) else none)
def rm_X9_leastGift : Room := { frames := 4, cells := 0, slots := 0, locals := 102 }
set_option maxHeartbeats 4000000 in
set_option maxRecDepth 100000 in
theorem m_X9_leastGift {l : Launch} {D : va_G} {G : Nat → ClassId} {KV : jV} {ad : Nat → Nat} (n : Nat) (v1 : Int32) (v2 : Int32) (v3 : Int32) (v4 : Int32) (v5 : Int32) (s : jS) {p : Int32 × jS} (h : F_X9_leastGift n v1 v2 v3 v4 v5 s = some p) : jM l D G KV yX9_leastGift cX9_leastGift 9 (some .int) rm_X9_leastGift [.ref (ad 0), .int v1, .int v2, .int v3, .int v4, .int v5] (jw 15 (cellM G) ad s) 0 0 (fun v u => v = some (.int p.1) ∧ u = jw 15 (cellM G) ad p.2) := by
  refine jM.of (by decide) (Nat.le_of_ble_eq_true rfl) ?_
  intro K C
  unfold F_X9_leastGift at h
  have lo100 : ∀ (v1 : Int32) (v2 : Int32) (v3 : Int32) (v4 : Int32) (v5 : Int32) (v6 : Int32) (v7 : Int32) (s : jS) (k : Nat) (q : Int32 × jS) (e : Int32 × jS), lp (B_X9_leastGift_100 n v1 v2 v3 v4 v5 v6 v7) k q = some e → K 0 0 (jw 15 (cellM G) ad e.2) 138 [(0, .ref (ad 0)), (7, .int v7), (8, .int e.1)] [] → K 0 0 (jw 15 (cellM G) ad q.2) 100 [(0, .ref (ad 0)), (1, .int v1), (2, .int v2), (3, .int v3), (4, .int v4), (5, .int v5), (6, .int v6), (7, .int v7), (8, .int q.1)] [] := by
    intro v1 v2 v3 v4 v5 v6 v7 s k q e he hE
    refine jlp (KH := fun q => K 0 0 (jw 15 (cellM G) ad q.2) 100 [(0, .ref (ad 0)), (1, .int v1), (2, .int v2), (3, .int v3), (4, .int v4), (5, .int v5), (6, .int v6), (7, .int v7), (8, .int q.1)] []) (KE := fun e => K 0 0 (jw 15 (cellM G) ad e.2) 138 [(0, .ref (ad 0)), (7, .int v7), (8, .int e.1)] []) ?_ k q e he hE
    intro q o hb hin hout
    unfold B_X9_leastGift_100 at hb
    show K 0 0 (jw 15 (cellM G) ad q.2) 100 [(0, .ref (ad 0)), (1, .int v1), (2, .int v2), (3, .int v3), (4, .int v4), (5, .int v5), (6, .int v6), (7, .int v7), (8, .int q.1)] []
    refine j_iload C dX9_leastGift_100 8 rfl ?_
    refine j_bipush C dX9_leastGift_102 (v := 6) (by decide) ?_
    refine j_icmp_ge C dX9_leastGift_104 (tgt := 138) (by decide) (fun cq => ?_) (fun cq => ?_)
    · have hb := jite_t hb cq
      refine j_loc C [0, 7, 8] rfl ?_
      have hx := hout _ (jinr hb)
      exact hx
    · have hb := jite_f hb cq
      refine j_aload_n C dX9_leastGift_107 0 rfl ?_
      refine j_iload C dX9_leastGift_108 6 rfl ?_
      refine j_iload_n C dX9_leastGift_110 2 rfl ?_
      refine j_iload_n C dX9_leastGift_111 3 rfl ?_
      refine j_iload C dX9_leastGift_112 5 rfl ?_
      refine j_iload C dX9_leastGift_114 8 rfl ?_
      refine j_iload C dX9_leastGift_116 4 rfl ?_
      refine j_aload_n C dX9_leastGift_118 0 rfl ?_
      refine j_getW C dX9_leastGift_119 inX9 rfl (by decide) rfl 25 (by decide) w_946 rfl rfl ?_
      refine j_iconst C dX9_leastGift_122 (v := 4) (by decide) ?_
      refine j_iload_n C dX9_leastGift_123 1 rfl ?_
      refine j_imul C dX9_leastGift_124 ?_
      obtain ⟨c125_5, hb⟩ := jchk hb
      refine j_ialdW C dX9_leastGift_125 (by decide) rfl (jin_vp c125_5) ?_
      obtain ⟨p126, he126, hb⟩ := jbind hb
      refine j_cV1 C dX9_leastGift_126 (m_X9_isOpen n v6 v2 v3 v5 q.1 v4 (q.2.1 9 (Int32.toNatClampNeg (4 * v1))) q.2 he126) kc_X9_isOpen w_1183 w_1185 wp_68 w_11 jy_X9_isOpen ⟨⟨Nat.le_of_ble_eq_true rfl, Nat.le_of_ble_eq_true rfl⟩, ⟨rfl, rfl⟩, ⟨Nat.zero_le _, Nat.zero_le _⟩⟩ (Nat.le_of_ble_eq_true rfl) (by decide) rfl (r := (RX9, TX9, 32)) rfl rfl rfl (fun _ _ h => h) ?_
      refine j_if_ne C dX9_leastGift_129 (tgt := 138) (by decide) (fun cq => ?_) (fun cq => ?_)
      · have hb := jite_t hb (jb_t cq)
        refine j_loc C [0, 7, 8] rfl ?_
        have hx := hout _ (jinr hb)
        exact hx
      · have hb := jite_f hb (jb_f cq)
        refine j_iinc C dX9_leastGift_132 8 rfl (v := (q.1 + 1)) rfl (by decide) rfl ?_
        refine j_goto C dX9_leastGift_135 (tgt := 100) (by decide) ?_
        refine j_loc C [1, 2, 3, 4, 5, 6, 7, 8, 0] rfl ?_
        have hx := hin _ (jinl hb)
        exact hx
  show K 0 0 (jw 15 (cellM G) ad s) 0 [(0, .ref (ad 0)), (1, .int v1), (2, .int v2), (3, .int v3), (4, .int v4), (5, .int v5)] []
  refine j_aload_n C dX9_leastGift_0 0 rfl ?_
  refine j_getW C dX9_leastGift_1 inX9 rfl (by decide) rfl 0 (by decide) w_923 rfl rfl ?_
  refine j_bipush C dX9_leastGift_4 (v := 20) (by decide) ?_
  refine j_iload_n C dX9_leastGift_6 2 rfl ?_
  refine j_iadd C dX9_leastGift_7 ?_
  obtain ⟨c8_1, h⟩ := jchk h
  refine j_ialdW C dX9_leastGift_8 (by decide) rfl (jin_vp c8_1) ?_
  refine j_if_eq C dX9_leastGift_9 (tgt := 29) (by decide) (fun cq => ?_) (fun cq => ?_)
  · have h := jite_t h cq
    refine j_iconst C dX9_leastGift_29 (v := 0) (by decide) ?_
    exact j_iret C dX9_leastGift_30 rfl rfl (Nat.zero_le _) (Nat.zero_le _) (jretWI h)
  · have h := jite_f h cq
    refine j_aload_n C dX9_leastGift_12 0 rfl ?_
    refine j_getW C dX9_leastGift_13 inX9 rfl (by decide) rfl 25 (by decide) w_946 rfl rfl ?_
    refine j_iconst C dX9_leastGift_16 (v := 4) (by decide) ?_
    refine j_iload_n C dX9_leastGift_17 1 rfl ?_
    refine j_imul C dX9_leastGift_18 ?_
    refine j_iconst C dX9_leastGift_19 (v := 1) (by decide) ?_
    refine j_iadd C dX9_leastGift_20 ?_
    obtain ⟨c21_2, h⟩ := jchk h
    refine j_ialdW C dX9_leastGift_21 (by decide) rfl (jin_vp c21_2) ?_
    refine j_iload_n C dX9_leastGift_22 2 rfl ?_
    refine j_cS1 C dX9_leastGift_23 (m_X9_has (s.1 9 (Int32.toNatClampNeg ((4 * v1) + 1))) v2 rfl) kc_X9_has w_1222 w_1223 w_11 jy_X9_has ⟨⟨Nat.le_of_ble_eq_true rfl, Nat.le_of_ble_eq_true rfl⟩, ⟨rfl, rfl⟩, ⟨Nat.zero_le _, Nat.zero_le _⟩⟩ (Nat.le_of_ble_eq_true rfl) rfl (fun _ _ h => h) ?_
    refine j_if_eq C dX9_leastGift_26 (tgt := 31) (by decide) (fun cq => ?_) (fun cq => ?_)
    · have h := jite_f h (jb_f cq)
      refine j_aload_n C dX9_leastGift_31 0 rfl ?_
      refine j_getW C dX9_leastGift_32 inX9 rfl (by decide) rfl 26 (by decide) w_947 rfl rfl ?_
      refine j_iload_n C dX9_leastGift_35 2 rfl ?_
      obtain ⟨c36_3, h⟩ := jchk h
      refine j_ialdW C dX9_leastGift_36 (by decide) rfl (jin_vp c36_3) ?_
      refine j_istore C dX9_leastGift_37 (by decide) rfl ?_
      refine j_iload C dX9_leastGift_39 0 rfl ?_
      refine j_if_ge C dX9_leastGift_41 (tgt := 47) (by decide) (fun cq => ?_) (fun cq => ?_)
      · have h := jite_t h cq
        refine j_iload_n C dX9_leastGift_47 2 rfl ?_
        refine j_iconst C dX9_leastGift_48 (v := 4) (by decide) ?_
        refine j_imul C dX9_leastGift_49 ?_
        refine j_iload C dX9_leastGift_50 0 rfl ?_
        refine j_iadd C dX9_leastGift_52 ?_
        refine j_bipush C dX9_leastGift_53 (v := 8) (by decide) ?_
        refine j_imul C dX9_leastGift_55 ?_
        refine j_iload_n C dX9_leastGift_56 3 rfl ?_
        refine j_iadd C dX9_leastGift_57 ?_
        refine j_bipush C dX9_leastGift_58 (v := 24) (by decide) ?_
        refine j_imul C dX9_leastGift_60 ?_
        refine j_iload_n C dX9_leastGift_61 4 rfl ?_
        refine j_iadd C dX9_leastGift_62 ?_
        refine j_bipush C dX9_leastGift_63 (v := 10) (by decide) ?_
        refine j_imul C dX9_leastGift_65 ?_
        refine j_iload C dX9_leastGift_66 5 rfl ?_
        refine j_iadd C dX9_leastGift_68 ?_
        refine j_bipush C dX9_leastGift_69 (v := 7) (by decide) ?_
        refine j_imul C dX9_leastGift_71 ?_
        refine j_iload C dX9_leastGift_72 6 rfl ?_
        refine j_iadd C dX9_leastGift_74 ?_
        refine j_iconst C dX9_leastGift_75 (v := 1) (by decide) ?_
        refine j_isub C dX9_leastGift_76 ?_
        refine j_istore C dX9_leastGift_77 (by decide) rfl ?_
        refine j_aload_n C dX9_leastGift_79 2 rfl ?_
        refine j_getW C dX9_leastGift_80 inX9 rfl (by decide) rfl 27 (by decide) w_948 rfl rfl ?_
        refine j_iload C dX9_leastGift_83 0 rfl ?_
        obtain ⟨c85_4, h⟩ := jchk h
        refine j_ialdW C dX9_leastGift_85 (by decide) rfl (jin_vp c85_4) ?_
        refine j_if_lt C dX9_leastGift_86 (tgt := 97) (by decide) (fun cq => ?_) (fun cq => ?_)
        · have h := jite_t h cq
          refine j_iconst C dX9_leastGift_97 (v := 0) (by decide) ?_
          refine j_istore C dX9_leastGift_98 (by decide) rfl ?_
          refine j_loc C [3, 4, 5, 6, 7, 8, 2, 1, 0] rfl ?_
          obtain ⟨e100, he100, h⟩ := jbind h
          refine lo100 v1 v2 v3 v4 v5 (s.1 10 (Int32.toNatClampNeg v2)) (((((((((((v1 * 4) + (s.1 10 (Int32.toNatClampNeg v2))) * 8) + v2) * 24) + v3) * 10) + v4) * 7) + v5) - 1) s  n (0, s) e100 he100 ?_
          refine j_aload_n C dX9_leastGift_138 0 rfl ?_
          refine j_getW C dX9_leastGift_139 inX9 rfl (by decide) rfl 27 (by decide) w_948 rfl rfl ?_
          refine j_iload C dX9_leastGift_142 1 rfl ?_
          refine j_iload C dX9_leastGift_144 2 rfl ?_
          obtain ⟨c146_6, h⟩ := jchk h
          refine j_iastW C dX9_leastGift_146 (by decide) (fun _ => rfl) (jin_vp c146_6) (fun s146_7 hs146_7 => ?_)
          have h := jlet h hs146_7
          refine j_iload C dX9_leastGift_147 2 rfl ?_
          exact j_iret C dX9_leastGift_149 rfl rfl (Nat.zero_le _) (Nat.zero_le _) (jretWI h)
        · have h := jite_f h cq
          refine j_aload_n C dX9_leastGift_89 2 rfl ?_
          refine j_getW C dX9_leastGift_90 inX9 rfl (by decide) rfl 27 (by decide) w_948 rfl rfl ?_
          refine j_iload C dX9_leastGift_93 0 rfl ?_
          refine j_ialdW C dX9_leastGift_95 (by decide) rfl (jin_vp c85_4) ?_
          exact j_iret C dX9_leastGift_96 rfl rfl (Nat.zero_le _) (Nat.zero_le _) (jretWI h)
      · have h := jite_f h cq
        refine j_bipush C dX9_leastGift_44 (v := 6) (by decide) ?_
        exact j_iret C dX9_leastGift_46 rfl rfl (Nat.zero_le _) (Nat.zero_le _) (jretWI h)
    · have h := jite_t h (jb_t cq)
      refine j_iconst C dX9_leastGift_29 (v := 0) (by decide) ?_
      exact j_iret C dX9_leastGift_30 rfl rfl (Nat.zero_le _) (Nat.zero_le _) (jretWI h)
-- X9_by
def F_X9_by (n : Nat) (v1 : Int32) (v2 : Int32) (v3 : Int32) (v4 : Int32) (v5 : Int32) (s : jS) : Option (Int32 × jS) :=
  (if v5 = 0 then (if v4 = 9 then (if jin (F_X9_leftAt (v2 + 1) v3 9) 4410 = true then some (((s.1 12 (Int32.toNatClampNeg (F_X9_leftAt (v2 + 1) v3 9))) + 1), s) else none) else (if jin (F_X9_leftAt (v2 + 1) v3 (v4 + 1)) 4410 = true then some (((s.1 12 (Int32.toNatClampNeg (F_X9_leftAt (v2 + 1) v3 (v4 + 1)))) + 1), s) else none)) else (if jin ((4 * v1) + 2) 28 = true then ((F_X9_leastGift n v1 v3 (((s.1 9 (Int32.toNatClampNeg ((4 * v1) + 2))) + v2) - ((s.1 9 (Int32.toNatClampNeg ((4 * v1) + 2))) + v2) / 24 * 24) v4 v5 s).bind fun p58 => (if p58.1 = 6 then some (1000000, p58.2) else (if jin (F_X9_leftAt (v2 + 1) (v3 + 1) 0) 4410 = true then some ((((p58.2.1 12 (Int32.toNatClampNeg (F_X9_leftAt (v2 + 1) (v3 + 1) 0))) + (100 * p58.1)) + 1), p58.2) else none))) else none))
def rm_X9_by : Room := { frames := 5, cells := 0, slots := 0, locals := 130 }
set_option maxHeartbeats 4000000 in
set_option maxRecDepth 100000 in
theorem m_X9_by {l : Launch} {D : va_G} {G : Nat → ClassId} {KV : jV} {ad : Nat → Nat} (n : Nat) (v1 : Int32) (v2 : Int32) (v3 : Int32) (v4 : Int32) (v5 : Int32) (s : jS) {p : Int32 × jS} (h : F_X9_by n v1 v2 v3 v4 v5 s = some p) : jM l D G KV yX9_by cX9_by 7 (some .int) rm_X9_by [.ref (ad 0), .int v1, .int v2, .int v3, .int v4, .int v5] (jw 15 (cellM G) ad s) 0 0 (fun v u => v = some (.int p.1) ∧ u = jw 15 (cellM G) ad p.2) := by
  refine jM.of (by decide) (Nat.le_of_ble_eq_true rfl) ?_
  intro K C
  unfold F_X9_by at h
  show K 0 0 (jw 15 (cellM G) ad s) 0 [(0, .ref (ad 0)), (1, .int v1), (2, .int v2), (3, .int v3), (4, .int v4), (5, .int v5)] []
  refine j_iload C dX9_by_0 5 rfl ?_
  refine j_if_ne C dX9_by_2 (tgt := 36) (by decide) (fun cq => ?_) (fun cq => ?_)
  · have h := jite_f h cq
    refine j_aload_n C dX9_by_36 0 rfl ?_
    refine j_iload_n C dX9_by_37 1 rfl ?_
    refine j_iload_n C dX9_by_38 3 rfl ?_
    refine j_aload_n C dX9_by_39 0 rfl ?_
    refine j_getW C dX9_by_40 inX9 rfl (by decide) rfl 25 (by decide) w_946 rfl rfl ?_
    refine j_iconst C dX9_by_43 (v := 4) (by decide) ?_
    refine j_iload_n C dX9_by_44 1 rfl ?_
    refine j_imul C dX9_by_45 ?_
    refine j_iconst C dX9_by_46 (v := 2) (by decide) ?_
    refine j_iadd C dX9_by_47 ?_
    obtain ⟨c48_1, h⟩ := jchk h
    refine j_ialdW C dX9_by_48 (by decide) rfl (jin_vp c48_1) ?_
    refine j_iload_n C dX9_by_49 2 rfl ?_
    refine j_iadd C dX9_by_50 ?_
    refine j_bipush C dX9_by_51 (v := 24) (by decide) ?_
    refine j_irem C dX9_by_53 (by decide) ?_
    refine j_iload C dX9_by_54 4 rfl ?_
    refine j_iload C dX9_by_56 5 rfl ?_
    obtain ⟨p58, he58, h⟩ := jbind h
    refine j_cV1 C dX9_by_58 (m_X9_leastGift n v1 v3 (((s.1 9 (Int32.toNatClampNeg ((4 * v1) + 2))) + v2) - ((s.1 9 (Int32.toNatClampNeg ((4 * v1) + 2))) + v2) / 24 * 24) v4 v5 s he58) kc_X9_leastGift w_1273 w_1275 wp_78 w_11 jy_X9_leastGift ⟨⟨Nat.le_of_ble_eq_true rfl, Nat.le_of_ble_eq_true rfl⟩, ⟨rfl, rfl⟩, ⟨Nat.zero_le _, Nat.zero_le _⟩⟩ (Nat.le_of_ble_eq_true rfl) (by decide) rfl (r := (RX9, TX9, 32)) rfl rfl rfl (fun _ _ h => h) ?_
    refine j_istore C dX9_by_61 (by decide) rfl ?_
    refine j_iload C dX9_by_63 0 rfl ?_
    refine j_bipush C dX9_by_65 (v := 6) (by decide) ?_
    refine j_icmp_ne C dX9_by_67 (tgt := 76) (by decide) (fun cq => ?_) (fun cq => ?_)
    · have h := jite_f h cq
      refine j_aload_n C dX9_by_76 1 rfl ?_
      refine j_getW C dX9_by_77 inX9 rfl (by decide) rfl 28 (by decide) w_949 rfl rfl ?_
      refine j_iload_n C dX9_by_80 3 rfl ?_
      refine j_iconst C dX9_by_81 (v := 1) (by decide) ?_
      refine j_iadd C dX9_by_82 ?_
      refine j_iload_n C dX9_by_83 4 rfl ?_
      refine j_iconst C dX9_by_84 (v := 1) (by decide) ?_
      refine j_iadd C dX9_by_85 ?_
      refine j_iconst C dX9_by_86 (v := 0) (by decide) ?_
      refine j_cS1 C dX9_by_87 (m_X9_leftAt (v2 + 1) (v3 + 1) 0 rfl) kc_X9_leftAt w_1270 w_1271 w_11 jy_X9_leftAt ⟨⟨Nat.le_of_ble_eq_true rfl, Nat.le_of_ble_eq_true rfl⟩, ⟨rfl, rfl⟩, ⟨Nat.zero_le _, Nat.zero_le _⟩⟩ (Nat.le_of_ble_eq_true rfl) rfl (fun _ _ h => h) ?_
      obtain ⟨c90_2, h⟩ := jchk h
      refine j_ialdW C dX9_by_90 (by decide) rfl (jin_vp c90_2) ?_
      refine j_bipush C dX9_by_91 (v := 100) (by decide) ?_
      refine j_iload C dX9_by_93 0 rfl ?_
      refine j_imul C dX9_by_95 ?_
      refine j_iadd C dX9_by_96 ?_
      refine j_iconst C dX9_by_97 (v := 1) (by decide) ?_
      refine j_iadd C dX9_by_98 ?_
      exact j_iret C dX9_by_99 rfl rfl (Nat.zero_le _) (Nat.zero_le _) (jretWI h)
    · have h := jite_t h cq
      refine j_ldcw C dX9_by_70 (v := 1000000) w_1265 ?_
      refine j_goto C dX9_by_73 (tgt := 99) (by decide) ?_
      exact j_iret C dX9_by_99 rfl rfl (Nat.zero_le _) (Nat.zero_le _) (jretWI h)
  · have h := jite_t h cq
    refine j_aload_n C dX9_by_5 0 rfl ?_
    refine j_getW C dX9_by_6 inX9 rfl (by decide) rfl 28 (by decide) w_949 rfl rfl ?_
    refine j_iload_n C dX9_by_9 2 rfl ?_
    refine j_iconst C dX9_by_10 (v := 1) (by decide) ?_
    refine j_iadd C dX9_by_11 ?_
    refine j_iload_n C dX9_by_12 3 rfl ?_
    refine j_iload C dX9_by_13 4 rfl ?_
    refine j_bipush C dX9_by_15 (v := 9) (by decide) ?_
    refine j_icmp_ne C dX9_by_17 (tgt := 25) (by decide) (fun cq => ?_) (fun cq => ?_)
    · have h := jite_f h cq
      refine j_iload C dX9_by_25 4 rfl ?_
      refine j_iconst C dX9_by_27 (v := 1) (by decide) ?_
      refine j_iadd C dX9_by_28 ?_
      refine j_cS1 C dX9_by_29 (m_X9_leftAt (v2 + 1) v3 (v4 + 1) rfl) kc_X9_leftAt w_1270 w_1271 w_11 jy_X9_leftAt ⟨⟨Nat.le_of_ble_eq_true rfl, Nat.le_of_ble_eq_true rfl⟩, ⟨rfl, rfl⟩, ⟨Nat.zero_le _, Nat.zero_le _⟩⟩ (Nat.le_of_ble_eq_true rfl) rfl (fun _ _ h => h) ?_
      obtain ⟨c32_3, h⟩ := jchk h
      refine j_ialdW C dX9_by_32 (by decide) rfl (jin_vp c32_3) ?_
      refine j_iconst C dX9_by_33 (v := 1) (by decide) ?_
      refine j_iadd C dX9_by_34 ?_
      exact j_iret C dX9_by_35 rfl rfl (Nat.zero_le _) (Nat.zero_le _) (jretWI h)
    · have h := jite_t h cq
      refine j_bipush C dX9_by_20 (v := 9) (by decide) ?_
      refine j_goto C dX9_by_22 (tgt := 29) (by decide) ?_
      refine j_cS1 C dX9_by_29 (m_X9_leftAt (v2 + 1) v3 9 rfl) kc_X9_leftAt w_1270 w_1271 w_11 jy_X9_leftAt ⟨⟨Nat.le_of_ble_eq_true rfl, Nat.le_of_ble_eq_true rfl⟩, ⟨rfl, rfl⟩, ⟨Nat.zero_le _, Nat.zero_le _⟩⟩ (Nat.le_of_ble_eq_true rfl) rfl (fun _ _ h => h) ?_
      obtain ⟨c32_4, h⟩ := jchk h
      refine j_ialdW C dX9_by_32 (by decide) rfl (jin_vp c32_4) ?_
      refine j_iconst C dX9_by_33 (v := 1) (by decide) ?_
      refine j_iadd C dX9_by_34 ?_
      exact j_iret C dX9_by_35 rfl rfl (Nat.zero_le _) (Nat.zero_le _) (jretWI h)
-- X9_reckon
def B_X9_reckon_61 (n : Nat) (v1 : Int32) (v2 : Int32) (v3 : Bool) (v4 : Int32) (v5 : Int32) (v6 : Int32) (q : Int32 × Int32 × jS) : Option ((Int32 × Int32 × jS) ⊕ (Int32 × Int32 × jS)) :=
  (if 8 ≤ q.2.1 then some (.inr (q.1, q.2.1, q.2.2)) else (if v2 ≤ v4 then some (.inr (q.1, q.2.1, q.2.2)) else (if (q.2.2.1 0 2) ≤ v5 then some (.inr (q.1, q.2.1, q.2.2)) else ((F_X9_by n v1 v4 v5 v6 q.2.1 q.2.2).bind fun p93 => (if q.1 ≤ p93.1 then some (.inl (q.1, (q.2.1 + 1), p93.2)) else some (.inl (p93.1, (q.2.1 + 1), p93.2)))))))
def B_X9_reckon_23 (n : Nat) (v1 : Int32) (v2 : Int32) (v3 : Bool) (v4 : Int32) (v5 : Int32) (q : Int32 × jS) : Option ((Int32 × jS) ⊕ (Int32 × jS)) :=
  (if 10 ≤ q.1 then some (.inr (q.1, q.2)) else (if v5 = (q.2.1 0 2) then (if v4 = v2 then ((lp (B_X9_reckon_61 n v1 v2 v3 v4 v5 q.1) n (0, 0, q.2)).bind fun e61 => (if jin (F_X9_leftAt v4 v5 q.1) 4410 = true then (jl (upI e61.2.2 12 (Int32.toNatClampNeg (F_X9_leftAt v4 v5 q.1)) e61.1) fun s130_4 => some (.inl ((q.1 + 1), s130_4))) else none)) else (if v3 = true then ((lp (B_X9_reckon_61 n v1 v2 v3 v4 v5 q.1) n (1000000, 0, q.2)).bind fun e61 => (if jin (F_X9_leftAt v4 v5 q.1) 4410 = true then (jl (upI e61.2.2 12 (Int32.toNatClampNeg (F_X9_leftAt v4 v5 q.1)) e61.1) fun s130_6 => some (.inl ((q.1 + 1), s130_6))) else none)) else ((lp (B_X9_reckon_61 n v1 v2 v3 v4 v5 q.1) n (0, 0, q.2)).bind fun e61 => (if jin (F_X9_leftAt v4 v5 q.1) 4410 = true then (jl (upI e61.2.2 12 (Int32.toNatClampNeg (F_X9_leftAt v4 v5 q.1)) e61.1) fun s130_8 => some (.inl ((q.1 + 1), s130_8))) else none)))) else ((lp (B_X9_reckon_61 n v1 v2 v3 v4 v5 q.1) n (1000000, 0, q.2)).bind fun e61 => (if jin (F_X9_leftAt v4 v5 q.1) 4410 = true then (jl (upI e61.2.2 12 (Int32.toNatClampNeg (F_X9_leftAt v4 v5 q.1)) e61.1) fun s130_2 => some (.inl ((q.1 + 1), s130_2))) else none))))
def B_X9_reckon_11 (n : Nat) (v1 : Int32) (v2 : Int32) (v3 : Bool) (v4 : Int32) (q : Int32 × jS) : Option ((Int32 × jS) ⊕ (Int32 × jS)) :=
  (if (q.2.1 0 2) < q.1 then some (.inr (q.1, q.2)) else ((lp (B_X9_reckon_23 n v1 v2 v3 v4 q.1) n (0, q.2)).bind fun e23 => some (.inl ((q.1 + 1), e23.2))))
def B_X9_reckon_3 (n : Nat) (v1 : Int32) (v2 : Int32) (v3 : Bool) (q : Int32 × jS) : Option ((Int32 × jS) ⊕ (Int32 × jS)) :=
  (if q.1 < 0 then some (.inr (q.1, q.2)) else ((lp (B_X9_reckon_11 n v1 v2 v3 q.1) n (0, q.2)).bind fun e11 => some (.inl ((q.1 + (-1)), e11.2))))
def F_X9_reckon (n : Nat) (v1 : Int32) (v2 : Int32) (v3 : Bool) (s : jS) : Option (Int32 × jS) :=
  ((lp (B_X9_reckon_3 n v1 v2 v3) n (v2, s)).bind fun e3 => (if (e3.2.1 12 (Int32.toNatClampNeg 0)) < 1000000 then some ((e3.2.1 12 (Int32.toNatClampNeg 0)), e3.2) else some (1000000, e3.2)))
def rm_X9_reckon : Room := { frames := 6, cells := 0, slots := 0, locals := 156 }
set_option maxHeartbeats 4000000 in
set_option maxRecDepth 100000 in
theorem m_X9_reckon {l : Launch} {D : va_G} {G : Nat → ClassId} {KV : jV} {ad : Nat → Nat} (n : Nat) (v1 : Int32) (v2 : Int32) (v3 : Bool) (s : jS) {p : Int32 × jS} (h : F_X9_reckon n v1 v2 v3 s = some p) : jM l D G KV yX9_reckon cX9_reckon 10 (some .int) rm_X9_reckon [.ref (ad 0), .int v1, .int v2, .int (jb v3)] (jw 15 (cellM G) ad s) 0 0 (fun v u => v = some (.int p.1) ∧ u = jw 15 (cellM G) ad p.2) := by
  refine jM.of (by decide) (Nat.le_of_ble_eq_true rfl) ?_
  intro K C
  unfold F_X9_reckon at h
  have lo61 : ∀ (v1 : Int32) (v2 : Int32) (v3 : Bool) (v4 : Int32) (v5 : Int32) (v6 : Int32) (s : jS) (k : Nat) (q : Int32 × Int32 × jS) (e : Int32 × Int32 × jS), lp (B_X9_reckon_61 n v1 v2 v3 v4 v5 v6) k q = some e → K 0 0 (jw 15 (cellM G) ad e.2.2) 115 [(0, .ref (ad 0)), (1, .int v1), (2, .int v2), (3, .int (jb v3)), (4, .int v4), (5, .int v5), (6, .int v6), (7, .int e.1)] [] → K 0 0 (jw 15 (cellM G) ad q.2.2) 61 [(0, .ref (ad 0)), (1, .int v1), (2, .int v2), (3, .int (jb v3)), (4, .int v4), (5, .int v5), (6, .int v6), (7, .int q.1), (8, .int q.2.1)] [] := by
    intro v1 v2 v3 v4 v5 v6 s k q e he hE
    refine jlp (KH := fun q => K 0 0 (jw 15 (cellM G) ad q.2.2) 61 [(0, .ref (ad 0)), (1, .int v1), (2, .int v2), (3, .int (jb v3)), (4, .int v4), (5, .int v5), (6, .int v6), (7, .int q.1), (8, .int q.2.1)] []) (KE := fun e => K 0 0 (jw 15 (cellM G) ad e.2.2) 115 [(0, .ref (ad 0)), (1, .int v1), (2, .int v2), (3, .int (jb v3)), (4, .int v4), (5, .int v5), (6, .int v6), (7, .int e.1)] []) ?_ k q e he hE
    intro q o hb hin hout
    unfold B_X9_reckon_61 at hb
    show K 0 0 (jw 15 (cellM G) ad q.2.2) 61 [(0, .ref (ad 0)), (1, .int v1), (2, .int v2), (3, .int (jb v3)), (4, .int v4), (5, .int v5), (6, .int v6), (7, .int q.1), (8, .int q.2.1)] []
    refine j_iload C dX9_reckon_61 8 rfl ?_
    refine j_bipush C dX9_reckon_63 (v := 8) (by decide) ?_
    refine j_icmp_ge C dX9_reckon_65 (tgt := 115) (by decide) (fun cq => ?_) (fun cq => ?_)
    · have hb := jite_t hb cq
      refine j_loc C [0, 1, 2, 3, 4, 5, 6, 7] rfl ?_
      have hx := hout _ (jinr hb)
      exact hx
    · have hb := jite_f hb cq
      refine j_iload C dX9_reckon_68 4 rfl ?_
      refine j_iload_n C dX9_reckon_70 2 rfl ?_
      refine j_icmp_ge C dX9_reckon_71 (tgt := 115) (by decide) (fun cq => ?_) (fun cq => ?_)
      · have hb := jite_t hb cq
        refine j_loc C [0, 1, 2, 3, 4, 5, 6, 7] rfl ?_
        have hx := hout _ (jinr hb)
        exact hx
      · have hb := jite_f hb cq
        refine j_iload C dX9_reckon_74 5 rfl ?_
        refine j_aload_n C dX9_reckon_76 0 rfl ?_
        refine j_getW C dX9_reckon_77 inX9 rfl (by decide) rfl 2 (by decide) w_925 rfl rfl ?_
        refine j_icmp_ge C dX9_reckon_80 (tgt := 115) (by decide) (fun cq => ?_) (fun cq => ?_)
        · have hb := jite_t hb cq
          refine j_loc C [0, 1, 2, 3, 4, 5, 6, 7] rfl ?_
          have hx := hout _ (jinr hb)
          exact hx
        · have hb := jite_f hb cq
          refine j_aload_n C dX9_reckon_83 0 rfl ?_
          refine j_iload_n C dX9_reckon_84 1 rfl ?_
          refine j_iload C dX9_reckon_85 4 rfl ?_
          refine j_iload C dX9_reckon_87 5 rfl ?_
          refine j_iload C dX9_reckon_89 6 rfl ?_
          refine j_iload C dX9_reckon_91 8 rfl ?_
          obtain ⟨p93, he93, hb⟩ := jbind hb
          refine j_cV1 C dX9_reckon_93 (m_X9_by n v1 v4 v5 v6 q.2.1 q.2.2 he93) kc_X9_by w_1266 w_1268 wp_77 w_11 jy_X9_by ⟨⟨Nat.le_of_ble_eq_true rfl, Nat.le_of_ble_eq_true rfl⟩, ⟨rfl, rfl⟩, ⟨Nat.zero_le _, Nat.zero_le _⟩⟩ (Nat.le_of_ble_eq_true rfl) (by decide) rfl (r := (RX9, TX9, 32)) rfl rfl rfl (fun _ _ h => h) ?_
          refine j_istore C dX9_reckon_96 (by decide) rfl ?_
          refine j_iload C dX9_reckon_98 0 rfl ?_
          refine j_iload C dX9_reckon_100 8 rfl ?_
          refine j_icmp_ge C dX9_reckon_102 (tgt := 109) (by decide) (fun cq => ?_) (fun cq => ?_)
          · have hb := jite_t hb cq
            refine j_iinc C dX9_reckon_109 9 rfl (v := (q.2.1 + 1)) rfl (by decide) rfl ?_
            refine j_goto C dX9_reckon_112 (tgt := 61) (by decide) ?_
            refine j_loc C [2, 3, 4, 5, 6, 7, 8, 9, 0] rfl ?_
            have hx := hin _ (jinl hb)
            exact hx
          · have hb := jite_f hb cq
            refine j_iload C dX9_reckon_105 0 rfl ?_
            refine j_istore C dX9_reckon_107 (by decide) rfl ?_
            refine j_iinc C dX9_reckon_109 9 rfl (v := (q.2.1 + 1)) rfl (by decide) rfl ?_
            refine j_goto C dX9_reckon_112 (tgt := 61) (by decide) ?_
            refine j_loc C [3, 4, 5, 6, 7, 8, 9, 1, 0] rfl ?_
            have hx := hin _ (jinl hb)
            exact hx
  have lo23 : ∀ (v1 : Int32) (v2 : Int32) (v3 : Bool) (v4 : Int32) (v5 : Int32) (s : jS) (k : Nat) (q : Int32 × jS) (e : Int32 × jS), lp (B_X9_reckon_23 n v1 v2 v3 v4 v5) k q = some e → K 0 0 (jw 15 (cellM G) ad e.2) 137 [(0, .ref (ad 0)), (1, .int v1), (2, .int v2), (3, .int (jb v3)), (4, .int v4), (5, .int v5)] [] → K 0 0 (jw 15 (cellM G) ad q.2) 23 [(0, .ref (ad 0)), (1, .int v1), (2, .int v2), (3, .int (jb v3)), (4, .int v4), (5, .int v5), (6, .int q.1)] [] := by
    intro v1 v2 v3 v4 v5 s k q e he hE
    refine jlp (KH := fun q => K 0 0 (jw 15 (cellM G) ad q.2) 23 [(0, .ref (ad 0)), (1, .int v1), (2, .int v2), (3, .int (jb v3)), (4, .int v4), (5, .int v5), (6, .int q.1)] []) (KE := fun e => K 0 0 (jw 15 (cellM G) ad e.2) 137 [(0, .ref (ad 0)), (1, .int v1), (2, .int v2), (3, .int (jb v3)), (4, .int v4), (5, .int v5)] []) ?_ k q e he hE
    intro q o hb hin hout
    unfold B_X9_reckon_23 at hb
    show K 0 0 (jw 15 (cellM G) ad q.2) 23 [(0, .ref (ad 0)), (1, .int v1), (2, .int v2), (3, .int (jb v3)), (4, .int v4), (5, .int v5), (6, .int q.1)] []
    refine j_iload C dX9_reckon_23 6 rfl ?_
    refine j_bipush C dX9_reckon_25 (v := 10) (by decide) ?_
    refine j_icmp_ge C dX9_reckon_27 (tgt := 137) (by decide) (fun cq => ?_) (fun cq => ?_)
    · have hb := jite_t hb cq
      refine j_loc C [0, 1, 2, 3, 4, 5] rfl ?_
      have hx := hout _ (jinr hb)
      exact hx
    · have hb := jite_f hb cq
      refine j_iload C dX9_reckon_30 5 rfl ?_
      refine j_aload_n C dX9_reckon_32 0 rfl ?_
      refine j_getW C dX9_reckon_33 inX9 rfl (by decide) rfl 2 (by decide) w_925 rfl rfl ?_
      refine j_icmp_ne C dX9_reckon_36 (tgt := 53) (by decide) (fun cq => ?_) (fun cq => ?_)
      · have hb := jite_f hb cq
        refine j_ldcw C dX9_reckon_53 (v := 1000000) w_1265 ?_
        refine j_istore C dX9_reckon_56 (by decide) rfl ?_
        refine j_iconst C dX9_reckon_58 (v := 0) (by decide) ?_
        refine j_istore C dX9_reckon_59 (by decide) rfl ?_
        refine j_loc C [2, 3, 4, 5, 6, 7, 8, 1, 0] rfl ?_
        obtain ⟨e61, he61, hb⟩ := jbind hb
        refine lo61 v1 v2 v3 v4 v5 q.1 q.2  n (1000000, 0, q.2) e61 he61 ?_
        refine j_aload_n C dX9_reckon_115 0 rfl ?_
        refine j_getW C dX9_reckon_116 inX9 rfl (by decide) rfl 28 (by decide) w_949 rfl rfl ?_
        refine j_iload C dX9_reckon_119 4 rfl ?_
        refine j_iload C dX9_reckon_121 5 rfl ?_
        refine j_iload C dX9_reckon_123 6 rfl ?_
        refine j_cS1 C dX9_reckon_125 (m_X9_leftAt v4 v5 q.1 rfl) kc_X9_leftAt w_1270 w_1271 w_11 jy_X9_leftAt ⟨⟨Nat.le_of_ble_eq_true rfl, Nat.le_of_ble_eq_true rfl⟩, ⟨rfl, rfl⟩, ⟨Nat.zero_le _, Nat.zero_le _⟩⟩ (Nat.le_of_ble_eq_true rfl) rfl (fun _ _ h => h) ?_
        refine j_iload C dX9_reckon_128 7 rfl ?_
        obtain ⟨c130_1, hb⟩ := jchk hb
        refine j_iastW C dX9_reckon_130 (by decide) (fun _ => rfl) (jin_vp c130_1) (fun s130_2 hs130_2 => ?_)
        have hb := jlet hb hs130_2
        refine j_iinc C dX9_reckon_131 6 rfl (v := (q.1 + 1)) rfl (by decide) rfl ?_
        refine j_goto C dX9_reckon_134 (tgt := 23) (by decide) ?_
        refine j_loc C [1, 2, 3, 4, 5, 6, 0] rfl ?_
        have hx := hin _ (jinl hb)
        exact hx
      · have hb := jite_t hb cq
        refine j_iload C dX9_reckon_39 4 rfl ?_
        refine j_iload_n C dX9_reckon_41 2 rfl ?_
        refine j_icmp_eq C dX9_reckon_42 (tgt := 49) (by decide) (fun cq => ?_) (fun cq => ?_)
        · have hb := jite_t hb cq
          refine j_iconst C dX9_reckon_49 (v := 0) (by decide) ?_
          refine j_goto C dX9_reckon_50 (tgt := 56) (by decide) ?_
          refine j_istore C dX9_reckon_56 (by decide) rfl ?_
          refine j_iconst C dX9_reckon_58 (v := 0) (by decide) ?_
          refine j_istore C dX9_reckon_59 (by decide) rfl ?_
          refine j_loc C [2, 3, 4, 5, 6, 7, 8, 1, 0] rfl ?_
          obtain ⟨e61, he61, hb⟩ := jbind hb
          refine lo61 v1 v2 v3 v4 v5 q.1 q.2  n (0, 0, q.2) e61 he61 ?_
          refine j_aload_n C dX9_reckon_115 0 rfl ?_
          refine j_getW C dX9_reckon_116 inX9 rfl (by decide) rfl 28 (by decide) w_949 rfl rfl ?_
          refine j_iload C dX9_reckon_119 4 rfl ?_
          refine j_iload C dX9_reckon_121 5 rfl ?_
          refine j_iload C dX9_reckon_123 6 rfl ?_
          refine j_cS1 C dX9_reckon_125 (m_X9_leftAt v4 v5 q.1 rfl) kc_X9_leftAt w_1270 w_1271 w_11 jy_X9_leftAt ⟨⟨Nat.le_of_ble_eq_true rfl, Nat.le_of_ble_eq_true rfl⟩, ⟨rfl, rfl⟩, ⟨Nat.zero_le _, Nat.zero_le _⟩⟩ (Nat.le_of_ble_eq_true rfl) rfl (fun _ _ h => h) ?_
          refine j_iload C dX9_reckon_128 7 rfl ?_
          obtain ⟨c130_3, hb⟩ := jchk hb
          refine j_iastW C dX9_reckon_130 (by decide) (fun _ => rfl) (jin_vp c130_3) (fun s130_4 hs130_4 => ?_)
          have hb := jlet hb hs130_4
          refine j_iinc C dX9_reckon_131 6 rfl (v := (q.1 + 1)) rfl (by decide) rfl ?_
          refine j_goto C dX9_reckon_134 (tgt := 23) (by decide) ?_
          refine j_loc C [1, 2, 3, 4, 5, 6, 0] rfl ?_
          have hx := hin _ (jinl hb)
          exact hx
        · have hb := jite_f hb cq
          refine j_iload_n C dX9_reckon_45 3 rfl ?_
          refine j_if_ne C dX9_reckon_46 (tgt := 53) (by decide) (fun cq => ?_) (fun cq => ?_)
          · have hb := jite_t hb (jb_t cq)
            refine j_ldcw C dX9_reckon_53 (v := 1000000) w_1265 ?_
            refine j_istore C dX9_reckon_56 (by decide) rfl ?_
            refine j_iconst C dX9_reckon_58 (v := 0) (by decide) ?_
            refine j_istore C dX9_reckon_59 (by decide) rfl ?_
            refine j_loc C [2, 3, 4, 5, 6, 7, 8, 1, 0] rfl ?_
            obtain ⟨e61, he61, hb⟩ := jbind hb
            refine lo61 v1 v2 v3 v4 v5 q.1 q.2  n (1000000, 0, q.2) e61 he61 ?_
            refine j_aload_n C dX9_reckon_115 0 rfl ?_
            refine j_getW C dX9_reckon_116 inX9 rfl (by decide) rfl 28 (by decide) w_949 rfl rfl ?_
            refine j_iload C dX9_reckon_119 4 rfl ?_
            refine j_iload C dX9_reckon_121 5 rfl ?_
            refine j_iload C dX9_reckon_123 6 rfl ?_
            refine j_cS1 C dX9_reckon_125 (m_X9_leftAt v4 v5 q.1 rfl) kc_X9_leftAt w_1270 w_1271 w_11 jy_X9_leftAt ⟨⟨Nat.le_of_ble_eq_true rfl, Nat.le_of_ble_eq_true rfl⟩, ⟨rfl, rfl⟩, ⟨Nat.zero_le _, Nat.zero_le _⟩⟩ (Nat.le_of_ble_eq_true rfl) rfl (fun _ _ h => h) ?_
            refine j_iload C dX9_reckon_128 7 rfl ?_
            obtain ⟨c130_5, hb⟩ := jchk hb
            refine j_iastW C dX9_reckon_130 (by decide) (fun _ => rfl) (jin_vp c130_5) (fun s130_6 hs130_6 => ?_)
            have hb := jlet hb hs130_6
            refine j_iinc C dX9_reckon_131 6 rfl (v := (q.1 + 1)) rfl (by decide) rfl ?_
            refine j_goto C dX9_reckon_134 (tgt := 23) (by decide) ?_
            refine j_loc C [1, 2, 3, 4, 5, 6, 0] rfl ?_
            have hx := hin _ (jinl hb)
            exact hx
          · have hb := jite_f hb (jb_f cq)
            refine j_iconst C dX9_reckon_49 (v := 0) (by decide) ?_
            refine j_goto C dX9_reckon_50 (tgt := 56) (by decide) ?_
            refine j_istore C dX9_reckon_56 (by decide) rfl ?_
            refine j_iconst C dX9_reckon_58 (v := 0) (by decide) ?_
            refine j_istore C dX9_reckon_59 (by decide) rfl ?_
            refine j_loc C [2, 3, 4, 5, 6, 7, 8, 1, 0] rfl ?_
            obtain ⟨e61, he61, hb⟩ := jbind hb
            refine lo61 v1 v2 v3 v4 v5 q.1 q.2  n (0, 0, q.2) e61 he61 ?_
            refine j_aload_n C dX9_reckon_115 0 rfl ?_
            refine j_getW C dX9_reckon_116 inX9 rfl (by decide) rfl 28 (by decide) w_949 rfl rfl ?_
            refine j_iload C dX9_reckon_119 4 rfl ?_
            refine j_iload C dX9_reckon_121 5 rfl ?_
            refine j_iload C dX9_reckon_123 6 rfl ?_
            refine j_cS1 C dX9_reckon_125 (m_X9_leftAt v4 v5 q.1 rfl) kc_X9_leftAt w_1270 w_1271 w_11 jy_X9_leftAt ⟨⟨Nat.le_of_ble_eq_true rfl, Nat.le_of_ble_eq_true rfl⟩, ⟨rfl, rfl⟩, ⟨Nat.zero_le _, Nat.zero_le _⟩⟩ (Nat.le_of_ble_eq_true rfl) rfl (fun _ _ h => h) ?_
            refine j_iload C dX9_reckon_128 7 rfl ?_
            obtain ⟨c130_7, hb⟩ := jchk hb
            refine j_iastW C dX9_reckon_130 (by decide) (fun _ => rfl) (jin_vp c130_7) (fun s130_8 hs130_8 => ?_)
            have hb := jlet hb hs130_8
            refine j_iinc C dX9_reckon_131 6 rfl (v := (q.1 + 1)) rfl (by decide) rfl ?_
            refine j_goto C dX9_reckon_134 (tgt := 23) (by decide) ?_
            refine j_loc C [1, 2, 3, 4, 5, 6, 0] rfl ?_
            have hx := hin _ (jinl hb)
            exact hx
  have lo11 : ∀ (v1 : Int32) (v2 : Int32) (v3 : Bool) (v4 : Int32) (s : jS) (k : Nat) (q : Int32 × jS) (e : Int32 × jS), lp (B_X9_reckon_11 n v1 v2 v3 v4) k q = some e → K 0 0 (jw 15 (cellM G) ad e.2) 143 [(0, .ref (ad 0)), (1, .int v1), (2, .int v2), (3, .int (jb v3)), (4, .int v4)] [] → K 0 0 (jw 15 (cellM G) ad q.2) 11 [(0, .ref (ad 0)), (1, .int v1), (2, .int v2), (3, .int (jb v3)), (4, .int v4), (5, .int q.1)] [] := by
    intro v1 v2 v3 v4 s k q e he hE
    refine jlp (KH := fun q => K 0 0 (jw 15 (cellM G) ad q.2) 11 [(0, .ref (ad 0)), (1, .int v1), (2, .int v2), (3, .int (jb v3)), (4, .int v4), (5, .int q.1)] []) (KE := fun e => K 0 0 (jw 15 (cellM G) ad e.2) 143 [(0, .ref (ad 0)), (1, .int v1), (2, .int v2), (3, .int (jb v3)), (4, .int v4)] []) ?_ k q e he hE
    intro q o hb hin hout
    unfold B_X9_reckon_11 at hb
    show K 0 0 (jw 15 (cellM G) ad q.2) 11 [(0, .ref (ad 0)), (1, .int v1), (2, .int v2), (3, .int (jb v3)), (4, .int v4), (5, .int q.1)] []
    refine j_iload C dX9_reckon_11 5 rfl ?_
    refine j_aload_n C dX9_reckon_13 0 rfl ?_
    refine j_getW C dX9_reckon_14 inX9 rfl (by decide) rfl 2 (by decide) w_925 rfl rfl ?_
    refine j_icmp_gt C dX9_reckon_17 (tgt := 143) (by decide) (fun cq => ?_) (fun cq => ?_)
    · have hb := jite_t hb cq
      refine j_loc C [0, 1, 2, 3, 4] rfl ?_
      have hx := hout _ (jinr hb)
      exact hx
    · have hb := jite_f hb cq
      refine j_iconst C dX9_reckon_20 (v := 0) (by decide) ?_
      refine j_istore C dX9_reckon_21 (by decide) rfl ?_
      refine j_loc C [1, 2, 3, 4, 5, 6, 0] rfl ?_
      obtain ⟨e23, he23, hb⟩ := jbind hb
      refine lo23 v1 v2 v3 v4 q.1 q.2  n (0, q.2) e23 he23 ?_
      refine j_iinc C dX9_reckon_137 5 rfl (v := (q.1 + 1)) rfl (by decide) rfl ?_
      refine j_goto C dX9_reckon_140 (tgt := 11) (by decide) ?_
      refine j_loc C [1, 2, 3, 4, 5, 0] rfl ?_
      have hx := hin _ (jinl hb)
      exact hx
  have lo3 : ∀ (v1 : Int32) (v2 : Int32) (v3 : Bool) (s : jS) (k : Nat) (q : Int32 × jS) (e : Int32 × jS), lp (B_X9_reckon_3 n v1 v2 v3) k q = some e → K 0 0 (jw 15 (cellM G) ad e.2) 149 [(0, .ref (ad 0))] [] → K 0 0 (jw 15 (cellM G) ad q.2) 3 [(0, .ref (ad 0)), (1, .int v1), (2, .int v2), (3, .int (jb v3)), (4, .int q.1)] [] := by
    intro v1 v2 v3 s k q e he hE
    refine jlp (KH := fun q => K 0 0 (jw 15 (cellM G) ad q.2) 3 [(0, .ref (ad 0)), (1, .int v1), (2, .int v2), (3, .int (jb v3)), (4, .int q.1)] []) (KE := fun e => K 0 0 (jw 15 (cellM G) ad e.2) 149 [(0, .ref (ad 0))] []) ?_ k q e he hE
    intro q o hb hin hout
    unfold B_X9_reckon_3 at hb
    show K 0 0 (jw 15 (cellM G) ad q.2) 3 [(0, .ref (ad 0)), (1, .int v1), (2, .int v2), (3, .int (jb v3)), (4, .int q.1)] []
    refine j_iload C dX9_reckon_3 4 rfl ?_
    refine j_if_lt C dX9_reckon_5 (tgt := 149) (by decide) (fun cq => ?_) (fun cq => ?_)
    · have hb := jite_t hb cq
      refine j_loc C [0] rfl ?_
      have hx := hout _ (jinr hb)
      exact hx
    · have hb := jite_f hb cq
      refine j_iconst C dX9_reckon_8 (v := 0) (by decide) ?_
      refine j_istore C dX9_reckon_9 (by decide) rfl ?_
      refine j_loc C [1, 2, 3, 4, 5, 0] rfl ?_
      obtain ⟨e11, he11, hb⟩ := jbind hb
      refine lo11 v1 v2 v3 q.1 q.2  n (0, q.2) e11 he11 ?_
      refine j_iinc C dX9_reckon_143 4 rfl (v := (q.1 + (-1))) rfl (by decide) rfl ?_
      refine j_goto C dX9_reckon_146 (tgt := 3) (by decide) ?_
      refine j_loc C [1, 2, 3, 4, 0] rfl ?_
      have hx := hin _ (jinl hb)
      exact hx
  show K 0 0 (jw 15 (cellM G) ad s) 0 [(0, .ref (ad 0)), (1, .int v1), (2, .int v2), (3, .int (jb v3))] []
  refine j_iload_n C dX9_reckon_0 2 rfl ?_
  refine j_istore C dX9_reckon_1 (by decide) rfl ?_
  refine j_loc C [1, 2, 3, 4, 0] rfl ?_
  obtain ⟨e3, he3, h⟩ := jbind h
  refine lo3 v1 v2 v3 s  n (v2, s) e3 he3 ?_
  refine j_aload_n C dX9_reckon_149 0 rfl ?_
  refine j_getW C dX9_reckon_150 inX9 rfl (by decide) rfl 28 (by decide) w_949 rfl rfl ?_
  refine j_iconst C dX9_reckon_153 (v := 0) (by decide) ?_
  refine j_ialdW C dX9_reckon_154 (by decide) rfl (jin_vp (i := 0) (n := 4410) (by decide)) ?_
  refine j_ldcw C dX9_reckon_155 (v := 1000000) w_1265 ?_
  refine j_icmp_lt C dX9_reckon_158 (tgt := 167) (by decide) (fun cq => ?_) (fun cq => ?_)
  · have h := jite_t h cq
    refine j_aload_n C dX9_reckon_167 0 rfl ?_
    refine j_getW C dX9_reckon_168 inX9 rfl (by decide) rfl 28 (by decide) w_949 rfl rfl ?_
    refine j_iconst C dX9_reckon_171 (v := 0) (by decide) ?_
    refine j_ialdW C dX9_reckon_172 (by decide) rfl (jin_vp (i := 0) (n := 4410) (by decide)) ?_
    exact j_iret C dX9_reckon_173 rfl rfl (Nat.zero_le _) (Nat.zero_le _) (jretWI h)
  · have h := jite_f h cq
    refine j_ldcw C dX9_reckon_161 (v := 1000000) w_1265 ?_
    refine j_goto C dX9_reckon_164 (tgt := 173) (by decide) ?_
    exact j_iret C dX9_reckon_173 rfl rfl (Nat.zero_le _) (Nat.zero_le _) (jretWI h)
-- X9_follow
def B_X9_follow_18 (n : Nat) (v1 : Int32) (v2 : Int32) (v3 : Int32) (v4 : Int32) (q : Int32 × jS) : Option ((Int32 × jS) ⊕ (Int32 × jS)) :=
  ((F_X9_by n v1 v4 v2 v3 q.1 q.2).bind fun p26 => (if jin (F_X9_leftAt v4 v2 v3) 4410 = true then (if p26.1 = (p26.2.1 12 (Int32.toNatClampNeg (F_X9_leftAt v4 v2 v3))) then some (.inr (q.1, p26.2)) else some (.inl ((q.1 + 1), p26.2))) else none))
def J_X9_follow_128 (n : Nat) (v1 : Int32) (v2 : Int32) (v4 : Int32) (v5 : Int32) (k0 : Int32) (s : jS) : Option ((Int32 × Int32 × Int32 × jS) ⊕ (Int32 × Int32 × Int32 × jS)) :=
  (if v5 ≤ 0 then some (.inl ((v2 + 0), k0, (v4 + 1), s)) else some (.inl ((v2 + 1), k0, (v4 + 1), s)))
def J_X9_follow_104 (n : Nat) (v1 : Int32) (v2 : Int32) (v3 : Int32) (v4 : Int32) (v5 : Int32) (k1 : Int32) (k2 : Int32) (s : jS) : Option ((Int32 × Int32 × Int32 × jS) ⊕ (Int32 × Int32 × Int32 × jS)) :=
  (if jin k1 48 = true then (jl (upI s 13 (Int32.toNatClampNeg k1) k2) fun s104_6 => (if v5 ≤ 0 then (if v3 = 9 then J_X9_follow_128 n v1 v2 v4 v5 9 s104_6 else J_X9_follow_128 n v1 v2 v4 v5 (v3 + 1) s104_6) else J_X9_follow_128 n v1 v2 v4 v5 0 s104_6)) else none)
def B_X9_follow_7 (n : Nat) (v1 : Int32) (q : Int32 × Int32 × Int32 × jS) : Option ((Int32 × Int32 × Int32 × jS) ⊕ (Int32 × Int32 × Int32 × jS)) :=
  (if (q.2.2.2.1 0 2) ≤ q.1 then some (.inr (q.1, q.2.1, q.2.2.1, q.2.2.2)) else ((lp (B_X9_follow_18 n v1 q.1 q.2.1 q.2.2.1) n (0, q.2.2.2)).bind fun e18 => (if jin q.2.2.1 48 = true then (jl (upI e18.2 14 (Int32.toNatClampNeg q.2.2.1) q.1) fun s57_3 => (if e18.1 = 0 then J_X9_follow_104 n v1 q.1 q.2.1 q.2.2.1 e18.1 q.2.2.1 0 s57_3 else (if jin ((4 * v1) + 2) 28 = true then ((F_X9_leastGift n v1 q.1 (((s57_3.1 9 (Int32.toNatClampNeg ((4 * v1) + 2))) + q.2.2.1) - ((s57_3.1 9 (Int32.toNatClampNeg ((4 * v1) + 2))) + q.2.2.1) / 24 * 24) q.2.1 e18.1 s57_3).bind fun p100 => J_X9_follow_104 n v1 q.1 q.2.1 q.2.2.1 e18.1 q.2.2.1 ((10 * e18.1) + p100.1) p100.2) else none))) else none)))
def F_X9_follow (n : Nat) (v1 : Int32) (s : jS) : Option jS :=
  ((lp (B_X9_follow_7 n v1) n (0, 0, 0, s)).bind fun e7 => (jl (upI e7.2.2.2 0 31 e7.2.2.1) fun s151_7 => some s151_7))
def rm_X9_follow : Room := { frames := 6, cells := 0, slots := 0, locals := 156 }
set_option maxHeartbeats 4000000 in
set_option maxRecDepth 100000 in
theorem m_X9_follow {l : Launch} {D : va_G} {G : Nat → ClassId} {KV : jV} {ad : Nat → Nat} (n : Nat) (v1 : Int32) (s : jS) {p : jS} (h : F_X9_follow n v1 s = some p) : jM l D G KV yX9_follow cX9_follow 6 none rm_X9_follow [.ref (ad 0), .int v1] (jw 15 (cellM G) ad s) 0 0 (fun v u => v = none ∧ u = jw 15 (cellM G) ad p) := by
  refine jM.of (by decide) (Nat.le_of_ble_eq_true rfl) ?_
  intro K C
  unfold F_X9_follow at h
  have lo18 : ∀ (v1 : Int32) (v2 : Int32) (v3 : Int32) (v4 : Int32) (s : jS) (k : Nat) (q : Int32 × jS) (e : Int32 × jS), lp (B_X9_follow_18 n v1 v2 v3 v4) k q = some e → K 0 0 (jw 15 (cellM G) ad e.2) 50 [(0, .ref (ad 0)), (1, .int v1), (2, .int v2), (3, .int v3), (4, .int v4), (5, .int e.1)] [] → K 0 0 (jw 15 (cellM G) ad q.2) 18 [(0, .ref (ad 0)), (1, .int v1), (2, .int v2), (3, .int v3), (4, .int v4), (5, .int q.1)] [] := by
    intro v1 v2 v3 v4 s k q e he hE
    refine jlp (KH := fun q => K 0 0 (jw 15 (cellM G) ad q.2) 18 [(0, .ref (ad 0)), (1, .int v1), (2, .int v2), (3, .int v3), (4, .int v4), (5, .int q.1)] []) (KE := fun e => K 0 0 (jw 15 (cellM G) ad e.2) 50 [(0, .ref (ad 0)), (1, .int v1), (2, .int v2), (3, .int v3), (4, .int v4), (5, .int e.1)] []) ?_ k q e he hE
    intro q o hb hin hout
    unfold B_X9_follow_18 at hb
    show K 0 0 (jw 15 (cellM G) ad q.2) 18 [(0, .ref (ad 0)), (1, .int v1), (2, .int v2), (3, .int v3), (4, .int v4), (5, .int q.1)] []
    refine j_aload_n C dX9_follow_18 0 rfl ?_
    refine j_iload_n C dX9_follow_19 1 rfl ?_
    refine j_iload C dX9_follow_20 4 rfl ?_
    refine j_iload_n C dX9_follow_22 2 rfl ?_
    refine j_iload_n C dX9_follow_23 3 rfl ?_
    refine j_iload C dX9_follow_24 5 rfl ?_
    obtain ⟨p26, he26, hb⟩ := jbind hb
    refine j_cV1 C dX9_follow_26 (m_X9_by n v1 v4 v2 v3 q.1 q.2 he26) kc_X9_by w_1266 w_1268 wp_77 w_11 jy_X9_by ⟨⟨Nat.le_of_ble_eq_true rfl, Nat.le_of_ble_eq_true rfl⟩, ⟨rfl, rfl⟩, ⟨Nat.zero_le _, Nat.zero_le _⟩⟩ (Nat.le_of_ble_eq_true rfl) (by decide) rfl (r := (RX9, TX9, 32)) rfl rfl rfl (fun _ _ h => h) ?_
    refine j_aload_n C dX9_follow_29 0 rfl ?_
    refine j_getW C dX9_follow_30 inX9 rfl (by decide) rfl 28 (by decide) w_949 rfl rfl ?_
    refine j_iload C dX9_follow_33 4 rfl ?_
    refine j_iload_n C dX9_follow_35 2 rfl ?_
    refine j_iload_n C dX9_follow_36 3 rfl ?_
    refine j_cS1 C dX9_follow_37 (m_X9_leftAt v4 v2 v3 rfl) kc_X9_leftAt w_1270 w_1271 w_11 jy_X9_leftAt ⟨⟨Nat.le_of_ble_eq_true rfl, Nat.le_of_ble_eq_true rfl⟩, ⟨rfl, rfl⟩, ⟨Nat.zero_le _, Nat.zero_le _⟩⟩ (Nat.le_of_ble_eq_true rfl) rfl (fun _ _ h => h) ?_
    obtain ⟨c40_1, hb⟩ := jchk hb
    refine j_ialdW C dX9_follow_40 (by decide) rfl (jin_vp c40_1) ?_
    refine j_icmp_eq C dX9_follow_41 (tgt := 50) (by decide) (fun cq => ?_) (fun cq => ?_)
    · have hb := jite_t hb cq
      refine j_loc C [0, 1, 2, 3, 4, 5] rfl ?_
      have hx := hout _ (jinr hb)
      exact hx
    · have hb := jite_f hb cq
      refine j_iinc C dX9_follow_44 5 rfl (v := (q.1 + 1)) rfl (by decide) rfl ?_
      refine j_goto C dX9_follow_47 (tgt := 18) (by decide) ?_
      refine j_loc C [1, 2, 3, 4, 5, 0] rfl ?_
      have hx := hin _ (jinl hb)
      exact hx
  have jn128_7 : ∀ (v1 : Int32) (v2 : Int32) (v4 : Int32) (v5 : Int32) (k0 : Int32) (s : jS) (o : (Int32 × Int32 × Int32 × jS) ⊕ (Int32 × Int32 × Int32 × jS)), J_X9_follow_128 n v1 v2 v4 v5 k0 s = some o → (∀ q, o = .inl q → K 0 0 (jw 15 (cellM G) ad q.2.2.2) 7 [(0, .ref (ad 0)), (1, .int v1), (2, .int q.1), (3, .int q.2.1), (4, .int q.2.2.1)] []) → (∀ e, o = .inr e → K 0 0 (jw 15 (cellM G) ad e.2.2.2) 148 [(0, .ref (ad 0)), (4, .int e.2.2.1)] []) → K 0 0 (jw 15 (cellM G) ad s) 128 [(0, .ref (ad 0)), (1, .int v1), (2, .int v2), (4, .int v4), (5, .int v5)] [.int k0] := by
    intro v1 v2 v4 v5 k0 s o hb hin hout
    unfold J_X9_follow_128 at hb
    refine j_istore_n C dX9_follow_128 (by decide) rfl ?_
    refine j_iload_n C dX9_follow_129 3 rfl ?_
    refine j_iload C dX9_follow_130 5 rfl ?_
    refine j_if_le C dX9_follow_132 (tgt := 139) (by decide) (fun cq => ?_) (fun cq => ?_)
    · have hb := jite_t hb cq
      refine j_iconst C dX9_follow_139 (v := 0) (by decide) ?_
      refine j_iadd C dX9_follow_140 ?_
      refine j_istore_n C dX9_follow_141 (by decide) rfl ?_
      refine j_iinc C dX9_follow_142 4 rfl (v := (v4 + 1)) rfl (by decide) rfl ?_
      refine j_goto C dX9_follow_145 (tgt := 7) (by decide) ?_
      refine j_loc C [3, 4, 1, 2, 0] rfl ?_
      have hx := hin _ (jinl hb)
      exact hx
    · have hb := jite_f hb cq
      refine j_iconst C dX9_follow_135 (v := 1) (by decide) ?_
      refine j_goto C dX9_follow_136 (tgt := 140) (by decide) ?_
      refine j_iadd C dX9_follow_140 ?_
      refine j_istore_n C dX9_follow_141 (by decide) rfl ?_
      refine j_iinc C dX9_follow_142 4 rfl (v := (v4 + 1)) rfl (by decide) rfl ?_
      refine j_goto C dX9_follow_145 (tgt := 7) (by decide) ?_
      refine j_loc C [3, 4, 1, 2, 0] rfl ?_
      have hx := hin _ (jinl hb)
      exact hx
  have jn104_7 : ∀ (v1 : Int32) (v2 : Int32) (v3 : Int32) (v4 : Int32) (v5 : Int32) (k1 : Int32) (k2 : Int32) (s : jS) (o : (Int32 × Int32 × Int32 × jS) ⊕ (Int32 × Int32 × Int32 × jS)), J_X9_follow_104 n v1 v2 v3 v4 v5 k1 k2 s = some o → (∀ q, o = .inl q → K 0 0 (jw 15 (cellM G) ad q.2.2.2) 7 [(0, .ref (ad 0)), (1, .int v1), (2, .int q.1), (3, .int q.2.1), (4, .int q.2.2.1)] []) → (∀ e, o = .inr e → K 0 0 (jw 15 (cellM G) ad e.2.2.2) 148 [(0, .ref (ad 0)), (4, .int e.2.2.1)] []) → K 0 0 (jw 15 (cellM G) ad s) 104 [(0, .ref (ad 0)), (1, .int v1), (2, .int v2), (3, .int v3), (4, .int v4), (5, .int v5)] [.int k2, .int k1, .ref (ad 13)] := by
    intro v1 v2 v3 v4 v5 k1 k2 s o hb hin hout
    unfold J_X9_follow_104 at hb
    obtain ⟨c104_5, hb⟩ := jchk hb
    refine j_iastW C dX9_follow_104 (by decide) (fun _ => rfl) (jin_vp c104_5) (fun s104_6 hs104_6 => ?_)
    have hb := jlet hb hs104_6
    refine j_iload C dX9_follow_105 5 rfl ?_
    refine j_if_le C dX9_follow_107 (tgt := 114) (by decide) (fun cq => ?_) (fun cq => ?_)
    · have hb := jite_t hb cq
      refine j_iload_n C dX9_follow_114 3 rfl ?_
      refine j_bipush C dX9_follow_115 (v := 9) (by decide) ?_
      refine j_icmp_ne C dX9_follow_117 (tgt := 125) (by decide) (fun cq => ?_) (fun cq => ?_)
      · have hb := jite_f hb cq
        refine j_iload_n C dX9_follow_125 3 rfl ?_
        refine j_iconst C dX9_follow_126 (v := 1) (by decide) ?_
        refine j_iadd C dX9_follow_127 ?_
        refine j_loc C [0, 1, 2, 4, 5] rfl ?_
        exact jn128_7 v1 v2 v4 v5 (v3 + 1) s104_6   _ hb hin hout
      · have hb := jite_t hb cq
        refine j_bipush C dX9_follow_120 (v := 9) (by decide) ?_
        refine j_goto C dX9_follow_122 (tgt := 128) (by decide) ?_
        refine j_loc C [0, 1, 2, 4, 5] rfl ?_
        exact jn128_7 v1 v2 v4 v5 9 s104_6   _ hb hin hout
    · have hb := jite_f hb cq
      refine j_iconst C dX9_follow_110 (v := 0) (by decide) ?_
      refine j_goto C dX9_follow_111 (tgt := 128) (by decide) ?_
      refine j_loc C [0, 1, 2, 4, 5] rfl ?_
      exact jn128_7 v1 v2 v4 v5 0 s104_6   _ hb hin hout
  have lo7 : ∀ (v1 : Int32) (s : jS) (k : Nat) (q : Int32 × Int32 × Int32 × jS) (e : Int32 × Int32 × Int32 × jS), lp (B_X9_follow_7 n v1) k q = some e → K 0 0 (jw 15 (cellM G) ad e.2.2.2) 148 [(0, .ref (ad 0)), (4, .int e.2.2.1)] [] → K 0 0 (jw 15 (cellM G) ad q.2.2.2) 7 [(0, .ref (ad 0)), (1, .int v1), (2, .int q.1), (3, .int q.2.1), (4, .int q.2.2.1)] [] := by
    intro v1 s k q e he hE
    refine jlp (KH := fun q => K 0 0 (jw 15 (cellM G) ad q.2.2.2) 7 [(0, .ref (ad 0)), (1, .int v1), (2, .int q.1), (3, .int q.2.1), (4, .int q.2.2.1)] []) (KE := fun e => K 0 0 (jw 15 (cellM G) ad e.2.2.2) 148 [(0, .ref (ad 0)), (4, .int e.2.2.1)] []) ?_ k q e he hE
    intro q o hb hin hout
    unfold B_X9_follow_7 at hb
    show K 0 0 (jw 15 (cellM G) ad q.2.2.2) 7 [(0, .ref (ad 0)), (1, .int v1), (2, .int q.1), (3, .int q.2.1), (4, .int q.2.2.1)] []
    refine j_iload_n C dX9_follow_7 2 rfl ?_
    refine j_aload_n C dX9_follow_8 0 rfl ?_
    refine j_getW C dX9_follow_9 inX9 rfl (by decide) rfl 2 (by decide) w_925 rfl rfl ?_
    refine j_icmp_ge C dX9_follow_12 (tgt := 148) (by decide) (fun cq => ?_) (fun cq => ?_)
    · have hb := jite_t hb cq
      refine j_loc C [0, 4] rfl ?_
      have hx := hout _ (jinr hb)
      exact hx
    · have hb := jite_f hb cq
      refine j_iconst C dX9_follow_15 (v := 0) (by decide) ?_
      refine j_istore C dX9_follow_16 (by decide) rfl ?_
      refine j_loc C [1, 2, 3, 4, 5, 0] rfl ?_
      obtain ⟨e18, he18, hb⟩ := jbind hb
      refine lo18 v1 q.1 q.2.1 q.2.2.1 q.2.2.2  n (0, q.2.2.2) e18 he18 ?_
      refine j_aload_n C dX9_follow_50 0 rfl ?_
      refine j_getW C dX9_follow_51 inX9 rfl (by decide) rfl 30 (by decide) w_951 rfl rfl ?_
      refine j_iload C dX9_follow_54 4 rfl ?_
      refine j_iload_n C dX9_follow_56 2 rfl ?_
      obtain ⟨c57_2, hb⟩ := jchk hb
      refine j_iastW C dX9_follow_57 (by decide) (fun _ => rfl) (jin_vp c57_2) (fun s57_3 hs57_3 => ?_)
      have hb := jlet hb hs57_3
      refine j_aload_n C dX9_follow_58 0 rfl ?_
      refine j_getW C dX9_follow_59 inX9 rfl (by decide) rfl 29 (by decide) w_950 rfl rfl ?_
      refine j_iload C dX9_follow_62 4 rfl ?_
      refine j_iload C dX9_follow_64 5 rfl ?_
      refine j_if_ne C dX9_follow_66 (tgt := 73) (by decide) (fun cq => ?_) (fun cq => ?_)
      · have hb := jite_f hb cq
        refine j_bipush C dX9_follow_73 (v := 10) (by decide) ?_
        refine j_iload C dX9_follow_75 5 rfl ?_
        refine j_imul C dX9_follow_77 ?_
        refine j_aload_n C dX9_follow_78 0 rfl ?_
        refine j_iload_n C dX9_follow_79 1 rfl ?_
        refine j_iload_n C dX9_follow_80 2 rfl ?_
        refine j_aload_n C dX9_follow_81 0 rfl ?_
        refine j_getW C dX9_follow_82 inX9 rfl (by decide) rfl 25 (by decide) w_946 rfl rfl ?_
        refine j_iconst C dX9_follow_85 (v := 4) (by decide) ?_
        refine j_iload_n C dX9_follow_86 1 rfl ?_
        refine j_imul C dX9_follow_87 ?_
        refine j_iconst C dX9_follow_88 (v := 2) (by decide) ?_
        refine j_iadd C dX9_follow_89 ?_
        obtain ⟨c90_4, hb⟩ := jchk hb
        refine j_ialdW C dX9_follow_90 (by decide) rfl (jin_vp c90_4) ?_
        refine j_iload C dX9_follow_91 4 rfl ?_
        refine j_iadd C dX9_follow_93 ?_
        refine j_bipush C dX9_follow_94 (v := 24) (by decide) ?_
        refine j_irem C dX9_follow_96 (by decide) ?_
        refine j_iload_n C dX9_follow_97 3 rfl ?_
        refine j_iload C dX9_follow_98 5 rfl ?_
        obtain ⟨p100, he100, hb⟩ := jbind hb
        refine j_cV1 C dX9_follow_100 (m_X9_leastGift n v1 q.1 (((s57_3.1 9 (Int32.toNatClampNeg ((4 * v1) + 2))) + q.2.2.1) - ((s57_3.1 9 (Int32.toNatClampNeg ((4 * v1) + 2))) + q.2.2.1) / 24 * 24) q.2.1 e18.1 s57_3 he100) kc_X9_leastGift w_1273 w_1275 wp_78 w_11 jy_X9_leastGift ⟨⟨Nat.le_of_ble_eq_true rfl, Nat.le_of_ble_eq_true rfl⟩, ⟨rfl, rfl⟩, ⟨Nat.zero_le _, Nat.zero_le _⟩⟩ (Nat.le_of_ble_eq_true rfl) (by decide) rfl (r := (RX9, TX9, 32)) rfl rfl rfl (fun _ _ h => h) ?_
        refine j_iadd C dX9_follow_103 ?_
        refine j_loc C [0, 1, 2, 3, 4, 5] rfl ?_
        exact jn104_7 v1 q.1 q.2.1 q.2.2.1 e18.1 q.2.2.1 ((10 * e18.1) + p100.1) p100.2   _ hb hin hout
      · have hb := jite_t hb cq
        refine j_iconst C dX9_follow_69 (v := 0) (by decide) ?_
        refine j_goto C dX9_follow_70 (tgt := 104) (by decide) ?_
        refine j_loc C [0, 1, 2, 3, 4, 5] rfl ?_
        exact jn104_7 v1 q.1 q.2.1 q.2.2.1 e18.1 q.2.2.1 0 s57_3   _ hb hin hout
  show K 0 0 (jw 15 (cellM G) ad s) 0 [(0, .ref (ad 0)), (1, .int v1)] []
  refine j_iconst C dX9_follow_0 (v := 0) (by decide) ?_
  refine j_istore_n C dX9_follow_1 (by decide) rfl ?_
  refine j_iconst C dX9_follow_2 (v := 0) (by decide) ?_
  refine j_istore_n C dX9_follow_3 (by decide) rfl ?_
  refine j_iconst C dX9_follow_4 (v := 0) (by decide) ?_
  refine j_istore C dX9_follow_5 (by decide) rfl ?_
  refine j_loc C [3, 4, 2, 1, 0] rfl ?_
  obtain ⟨e7, he7, h⟩ := jbind h
  refine lo7 v1 s  n (0, 0, 0, s) e7 he7 ?_
  refine j_aload_n C dX9_follow_148 0 rfl ?_
  refine j_iload C dX9_follow_149 1 rfl ?_
  refine j_putI C dX9_follow_151 inX9 tyX9 tyX9_ok nmX9 rfl (by decide) 31 rfl rfl (by decide) w_952 rfl rfl rfl rfl (Nat.le_of_ble_eq_true rfl) (fun s151_7 hs151_7 => ?_)
  have h := jlet h hs151_7
  exact j_vret C dX9_follow_154 rfl (Nat.zero_le _) (Nat.zero_le _) (jretWV h)
