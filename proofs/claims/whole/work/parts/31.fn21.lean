theorem dX9_rounds_0 : decode cX9_rounds 0 = .ok (.iload_n 1, 1) := by decide +kernel
theorem dX9_rounds_1 : decode cX9_rounds 1 = .ok (.iconst (-1), 1) := by decide +kernel
theorem dX9_rounds_2 : decode cX9_rounds 2 = .ok (.if_icmp .eq 14, 3) := by decide +kernel
theorem dX9_rounds_5 : decode cX9_rounds 5 = .ok (.aload_n 0, 1) := by decide +kernel
theorem dX9_rounds_6 : decode cX9_rounds 6 = .ok (.iload_n 1, 1) := by decide +kernel
theorem dX9_rounds_7 : decode cX9_rounds 7 = .ok (.invokevirtual 77, 3) := by decide +kernel
theorem dX9_rounds_10 : decode cX9_rounds 10 = .ok (.ifCond .ne 6, 3) := by decide +kernel
theorem dX9_rounds_13 : decode cX9_rounds 13 = .ok (.bipush (-2), 2) := by decide +kernel
theorem dX9_rounds_15 : decode cX9_rounds 15 = .ok (.ireturn, 1) := by decide +kernel
theorem dX9_rounds_16 : decode cX9_rounds 16 = .ok (.aload_n 0, 1) := by decide +kernel
theorem dX9_rounds_17 : decode cX9_rounds 17 = .ok (.invokevirtual 304, 3) := by decide +kernel
theorem dX9_rounds_20 : decode cX9_rounds 20 = .ok (.iconst 0, 1) := by decide +kernel
theorem dX9_rounds_21 : decode cX9_rounds 21 = .ok (.istore_n 2, 1) := by decide +kernel
theorem dX9_rounds_22 : decode cX9_rounds 22 = .ok (.iload_n 2, 1) := by decide +kernel
theorem dX9_rounds_23 : decode cX9_rounds 23 = .ok (.bipush 20, 2) := by decide +kernel
theorem dX9_rounds_25 : decode cX9_rounds 25 = .ok (.if_icmp .gt 88, 3) := by decide +kernel
theorem dX9_rounds_28 : decode cX9_rounds 28 = .ok (.iconst 0, 1) := by decide +kernel
theorem dX9_rounds_29 : decode cX9_rounds 29 = .ok (.istore_n 3, 1) := by decide +kernel
theorem dX9_rounds_30 : decode cX9_rounds 30 = .ok (.iconst 0, 1) := by decide +kernel
theorem dX9_rounds_31 : decode cX9_rounds 31 = .ok (.istore 4, 2) := by decide +kernel
theorem dX9_rounds_33 : decode cX9_rounds 33 = .ok (.iload 4, 2) := by decide +kernel
theorem dX9_rounds_35 : decode cX9_rounds 35 = .ok (.aload_n 0, 1) := by decide +kernel
theorem dX9_rounds_36 : decode cX9_rounds 36 = .ok (.getfield 62, 3) := by decide +kernel
theorem dX9_rounds_39 : decode cX9_rounds 39 = .ok (.if_icmp .ge 48, 3) := by decide +kernel
theorem dX9_rounds_42 : decode cX9_rounds 42 = .ok (.aload_n 0, 1) := by decide +kernel
theorem dX9_rounds_43 : decode cX9_rounds 43 = .ok (.iload 4, 2) := by decide +kernel
theorem dX9_rounds_45 : decode cX9_rounds 45 = .ok (.invokevirtual 310, 3) := by decide +kernel
theorem dX9_rounds_48 : decode cX9_rounds 48 = .ok (.istore 5, 2) := by decide +kernel
theorem dX9_rounds_50 : decode cX9_rounds 50 = .ok (.iload_n 3, 1) := by decide +kernel
theorem dX9_rounds_51 : decode cX9_rounds 51 = .ok (.ifCond .ne 15, 3) := by decide +kernel
theorem dX9_rounds_54 : decode cX9_rounds 54 = .ok (.iload 5, 2) := by decide +kernel
theorem dX9_rounds_56 : decode cX9_rounds 56 = .ok (.aload_n 0, 1) := by decide +kernel
theorem dX9_rounds_57 : decode cX9_rounds 57 = .ok (.getfield 46, 3) := by decide +kernel
theorem dX9_rounds_60 : decode cX9_rounds 60 = .ok (.iload 4, 2) := by decide +kernel
theorem dX9_rounds_62 : decode cX9_rounds 62 = .ok (.iaload, 1) := by decide +kernel
theorem dX9_rounds_63 : decode cX9_rounds 63 = .ok (.if_icmp .eq 7, 3) := by decide +kernel
theorem dX9_rounds_66 : decode cX9_rounds 66 = .ok (.iconst 1, 1) := by decide +kernel
theorem dX9_rounds_67 : decode cX9_rounds 67 = .ok (.goto 4, 3) := by decide +kernel
theorem dX9_rounds_70 : decode cX9_rounds 70 = .ok (.iconst 0, 1) := by decide +kernel
theorem dX9_rounds_71 : decode cX9_rounds 71 = .ok (.istore_n 3, 1) := by decide +kernel
theorem dX9_rounds_72 : decode cX9_rounds 72 = .ok (.aload_n 0, 1) := by decide +kernel
theorem dX9_rounds_73 : decode cX9_rounds 73 = .ok (.getfield 46, 3) := by decide +kernel
theorem dX9_rounds_76 : decode cX9_rounds 76 = .ok (.iload 4, 2) := by decide +kernel
theorem dX9_rounds_78 : decode cX9_rounds 78 = .ok (.iload 5, 2) := by decide +kernel
theorem dX9_rounds_80 : decode cX9_rounds 80 = .ok (.iastore, 1) := by decide +kernel
theorem dX9_rounds_81 : decode cX9_rounds 81 = .ok (.iinc 4 1, 3) := by decide +kernel
theorem dX9_rounds_84 : decode cX9_rounds 84 = .ok (.goto (-51), 3) := by decide +kernel
theorem dX9_rounds_87 : decode cX9_rounds 87 = .ok (.iload_n 3, 1) := by decide +kernel
theorem dX9_rounds_88 : decode cX9_rounds 88 = .ok (.ifCond .ne 19, 3) := by decide +kernel
theorem dX9_rounds_91 : decode cX9_rounds 91 = .ok (.iload_n 1, 1) := by decide +kernel
theorem dX9_rounds_92 : decode cX9_rounds 92 = .ok (.iconst (-1), 1) := by decide +kernel
theorem dX9_rounds_93 : decode cX9_rounds 93 = .ok (.if_icmp .ne 7, 3) := by decide +kernel
theorem dX9_rounds_96 : decode cX9_rounds 96 = .ok (.iload_n 2, 1) := by decide +kernel
theorem dX9_rounds_97 : decode cX9_rounds 97 = .ok (.goto 9, 3) := by decide +kernel
theorem dX9_rounds_100 : decode cX9_rounds 100 = .ok (.aload_n 0, 1) := by decide +kernel
theorem dX9_rounds_101 : decode cX9_rounds 101 = .ok (.getfield 46, 3) := by decide +kernel
theorem dX9_rounds_104 : decode cX9_rounds 104 = .ok (.iload_n 1, 1) := by decide +kernel
theorem dX9_rounds_105 : decode cX9_rounds 105 = .ok (.iaload, 1) := by decide +kernel
theorem dX9_rounds_106 : decode cX9_rounds 106 = .ok (.ireturn, 1) := by decide +kernel
theorem dX9_rounds_107 : decode cX9_rounds 107 = .ok (.iinc 2 1, 3) := by decide +kernel
theorem dX9_rounds_110 : decode cX9_rounds 110 = .ok (.goto (-88), 3) := by decide +kernel
theorem dX9_rounds_113 : decode cX9_rounds 113 = .ok (.bipush (-2), 2) := by decide +kernel
theorem dX9_rounds_115 : decode cX9_rounds 115 = .ok (.ireturn, 1) := by decide +kernel
theorem dX9_seen_0 : decode cX9_seen 0 = .ok (.aload_n 0, 1) := by decide +kernel
theorem dX9_seen_1 : decode cX9_seen 1 = .ok (.iload_n 1, 1) := by decide +kernel
theorem dX9_seen_2 : decode cX9_seen 2 = .ok (.invokevirtual 77, 3) := by decide +kernel
theorem dX9_seen_5 : decode cX9_seen 5 = .ok (.ifCond .eq 41, 3) := by decide +kernel
theorem dX9_seen_8 : decode cX9_seen 8 = .ok (.iload_n 2, 1) := by decide +kernel
theorem dX9_seen_9 : decode cX9_seen 9 = .ok (.invokestatic 73, 3) := by decide +kernel
theorem dX9_seen_12 : decode cX9_seen 12 = .ok (.ifCond .eq 34, 3) := by decide +kernel
theorem dX9_seen_15 : decode cX9_seen 15 = .ok (.iload_n 3, 1) := by decide +kernel
theorem dX9_seen_16 : decode cX9_seen 16 = .ok (.iload 4, 2) := by decide +kernel
theorem dX9_seen_18 : decode cX9_seen 18 = .ok (.invokestatic 238, 3) := by decide +kernel
theorem dX9_seen_21 : decode cX9_seen 21 = .ok (.ifCond .eq 25, 3) := by decide +kernel
theorem dX9_seen_24 : decode cX9_seen 24 = .ok (.iload 5, 2) := by decide +kernel
theorem dX9_seen_26 : decode cX9_seen 26 = .ok (.iconst 0, 1) := by decide +kernel
theorem dX9_seen_27 : decode cX9_seen 27 = .ok (.bipush 9, 2) := by decide +kernel
theorem dX9_seen_29 : decode cX9_seen 29 = .ok (.invokestatic 69, 3) := by decide +kernel
theorem dX9_seen_32 : decode cX9_seen 32 = .ok (.ifCond .eq 14, 3) := by decide +kernel
theorem dX9_seen_35 : decode cX9_seen 35 = .ok (.aload_n 0, 1) := by decide +kernel
theorem dX9_seen_36 : decode cX9_seen 36 = .ok (.getfield 7, 3) := by decide +kernel
theorem dX9_seen_39 : decode cX9_seen 39 = .ok (.iconst 3, 1) := by decide +kernel
theorem dX9_seen_40 : decode cX9_seen 40 = .ok (.iaload, 1) := by decide +kernel
theorem dX9_seen_41 : decode cX9_seen 41 = .ok (.bipush 20, 2) := by decide +kernel
theorem dX9_seen_43 : decode cX9_seen 43 = .ok (.if_icmp .ne 5, 3) := by decide +kernel
theorem dX9_seen_46 : decode cX9_seen 46 = .ok (.iconst (-1), 1) := by decide +kernel
theorem dX9_seen_47 : decode cX9_seen 47 = .ok (.ireturn, 1) := by decide +kernel
theorem dX9_seen_48 : decode cX9_seen 48 = .ok (.bipush 84, 2) := by decide +kernel
theorem dX9_seen_50 : decode cX9_seen 50 = .ok (.bipush 6, 2) := by decide +kernel
theorem dX9_seen_52 : decode cX9_seen 52 = .ok (.aload_n 0, 1) := by decide +kernel
theorem dX9_seen_53 : decode cX9_seen 53 = .ok (.getfield 7, 3) := by decide +kernel
theorem dX9_seen_56 : decode cX9_seen 56 = .ok (.iconst 3, 1) := by decide +kernel
theorem dX9_seen_57 : decode cX9_seen 57 = .ok (.iaload, 1) := by decide +kernel
theorem dX9_seen_58 : decode cX9_seen 58 = .ok (.imul, 1) := by decide +kernel
theorem dX9_seen_59 : decode cX9_seen 59 = .ok (.iadd, 1) := by decide +kernel
theorem dX9_seen_60 : decode cX9_seen 60 = .ok (.istore 7, 2) := by decide +kernel
theorem dX9_seen_62 : decode cX9_seen 62 = .ok (.aload_n 0, 1) := by decide +kernel
theorem dX9_seen_63 : decode cX9_seen 63 = .ok (.getfield 7, 3) := by decide +kernel
theorem dX9_seen_66 : decode cX9_seen 66 = .ok (.iload 7, 2) := by decide +kernel
theorem dX9_seen_68 : decode cX9_seen 68 = .ok (.iload_n 1, 1) := by decide +kernel
theorem dX9_seen_69 : decode cX9_seen 69 = .ok (.iastore, 1) := by decide +kernel
theorem dX9_seen_70 : decode cX9_seen 70 = .ok (.aload_n 0, 1) := by decide +kernel
theorem dX9_seen_71 : decode cX9_seen 71 = .ok (.getfield 7, 3) := by decide +kernel
theorem dX9_seen_74 : decode cX9_seen 74 = .ok (.iload 7, 2) := by decide +kernel
theorem dX9_seen_76 : decode cX9_seen 76 = .ok (.iconst 1, 1) := by decide +kernel
theorem dX9_seen_77 : decode cX9_seen 77 = .ok (.iadd, 1) := by decide +kernel
theorem dX9_seen_78 : decode cX9_seen 78 = .ok (.iload_n 2, 1) := by decide +kernel
theorem dX9_seen_79 : decode cX9_seen 79 = .ok (.iastore, 1) := by decide +kernel
theorem dX9_seen_80 : decode cX9_seen 80 = .ok (.aload_n 0, 1) := by decide +kernel
theorem dX9_seen_81 : decode cX9_seen 81 = .ok (.getfield 7, 3) := by decide +kernel
theorem dX9_seen_84 : decode cX9_seen 84 = .ok (.iload 7, 2) := by decide +kernel
theorem dX9_seen_86 : decode cX9_seen 86 = .ok (.iconst 2, 1) := by decide +kernel
theorem dX9_seen_87 : decode cX9_seen 87 = .ok (.iadd, 1) := by decide +kernel
theorem dX9_seen_88 : decode cX9_seen 88 = .ok (.iload_n 3, 1) := by decide +kernel
theorem dX9_seen_89 : decode cX9_seen 89 = .ok (.iastore, 1) := by decide +kernel
theorem dX9_seen_90 : decode cX9_seen 90 = .ok (.aload_n 0, 1) := by decide +kernel
theorem dX9_seen_91 : decode cX9_seen 91 = .ok (.getfield 7, 3) := by decide +kernel
theorem dX9_seen_94 : decode cX9_seen 94 = .ok (.iload 7, 2) := by decide +kernel
theorem dX9_seen_96 : decode cX9_seen 96 = .ok (.iconst 3, 1) := by decide +kernel
theorem dX9_seen_97 : decode cX9_seen 97 = .ok (.iadd, 1) := by decide +kernel
theorem dX9_seen_98 : decode cX9_seen 98 = .ok (.iload 4, 2) := by decide +kernel
theorem dX9_seen_100 : decode cX9_seen 100 = .ok (.iastore, 1) := by decide +kernel
theorem dX9_seen_101 : decode cX9_seen 101 = .ok (.aload_n 0, 1) := by decide +kernel
theorem dX9_seen_102 : decode cX9_seen 102 = .ok (.getfield 7, 3) := by decide +kernel
theorem dX9_seen_105 : decode cX9_seen 105 = .ok (.iload 7, 2) := by decide +kernel
theorem dX9_seen_107 : decode cX9_seen 107 = .ok (.iconst 4, 1) := by decide +kernel
theorem dX9_seen_108 : decode cX9_seen 108 = .ok (.iadd, 1) := by decide +kernel
theorem dX9_seen_109 : decode cX9_seen 109 = .ok (.iload 5, 2) := by decide +kernel
theorem dX9_seen_111 : decode cX9_seen 111 = .ok (.iastore, 1) := by decide +kernel
theorem dX9_seen_112 : decode cX9_seen 112 = .ok (.aload_n 0, 1) := by decide +kernel
theorem dX9_seen_113 : decode cX9_seen 113 = .ok (.getfield 7, 3) := by decide +kernel
theorem dX9_seen_116 : decode cX9_seen 116 = .ok (.iload 7, 2) := by decide +kernel
theorem dX9_seen_118 : decode cX9_seen 118 = .ok (.iconst 5, 1) := by decide +kernel
theorem dX9_seen_119 : decode cX9_seen 119 = .ok (.iadd, 1) := by decide +kernel
theorem dX9_seen_120 : decode cX9_seen 120 = .ok (.iload 6, 2) := by decide +kernel
theorem dX9_seen_122 : decode cX9_seen 122 = .ok (.ifCond .eq 7, 3) := by decide +kernel
theorem dX9_seen_125 : decode cX9_seen 125 = .ok (.iconst 1, 1) := by decide +kernel
theorem dX9_seen_126 : decode cX9_seen 126 = .ok (.goto 4, 3) := by decide +kernel
theorem dX9_seen_129 : decode cX9_seen 129 = .ok (.iconst 0, 1) := by decide +kernel
theorem dX9_seen_130 : decode cX9_seen 130 = .ok (.iastore, 1) := by decide +kernel
theorem dX9_seen_131 : decode cX9_seen 131 = .ok (.aload_n 0, 1) := by decide +kernel
theorem dX9_seen_132 : decode cX9_seen 132 = .ok (.getfield 7, 3) := by decide +kernel
theorem dX9_seen_135 : decode cX9_seen 135 = .ok (.iconst 3, 1) := by decide +kernel
theorem dX9_seen_136 : decode cX9_seen 136 = .ok (.dup2, 1) := by decide +kernel
theorem dX9_seen_137 : decode cX9_seen 137 = .ok (.iaload, 1) := by decide +kernel
theorem dX9_seen_138 : decode cX9_seen 138 = .ok (.iconst 1, 1) := by decide +kernel
theorem dX9_seen_139 : decode cX9_seen 139 = .ok (.iadd, 1) := by decide +kernel
theorem dX9_seen_140 : decode cX9_seen 140 = .ok (.iastore, 1) := by decide +kernel
theorem dX9_seen_141 : decode cX9_seen 141 = .ok (.aload_n 0, 1) := by decide +kernel
theorem dX9_seen_142 : decode cX9_seen 142 = .ok (.getfield 7, 3) := by decide +kernel
theorem dX9_seen_145 : decode cX9_seen 145 = .ok (.iconst 3, 1) := by decide +kernel
theorem dX9_seen_146 : decode cX9_seen 146 = .ok (.iaload, 1) := by decide +kernel
theorem dX9_seen_147 : decode cX9_seen 147 = .ok (.ireturn, 1) := by decide +kernel
theorem dX9_canKeep_0 : decode cX9_canKeep 0 = .ok (.iconst 0, 1) := by decide +kernel
theorem dX9_canKeep_1 : decode cX9_canKeep 1 = .ok (.istore 4, 2) := by decide +kernel
theorem dX9_canKeep_3 : decode cX9_canKeep 3 = .ok (.iload 4, 2) := by decide +kernel
theorem dX9_canKeep_5 : decode cX9_canKeep 5 = .ok (.aload_n 0, 1) := by decide +kernel
theorem dX9_canKeep_6 : decode cX9_canKeep 6 = .ok (.getfield 7, 3) := by decide +kernel
theorem dX9_canKeep_9 : decode cX9_canKeep 9 = .ok (.iconst 3, 1) := by decide +kernel
theorem dX9_canKeep_10 : decode cX9_canKeep 10 = .ok (.iaload, 1) := by decide +kernel
theorem dX9_canKeep_11 : decode cX9_canKeep 11 = .ok (.if_icmp .ge 96, 3) := by decide +kernel
theorem dX9_canKeep_14 : decode cX9_canKeep 14 = .ok (.bipush 84, 2) := by decide +kernel
theorem dX9_canKeep_16 : decode cX9_canKeep 16 = .ok (.bipush 6, 2) := by decide +kernel
theorem dX9_canKeep_18 : decode cX9_canKeep 18 = .ok (.iload 4, 2) := by decide +kernel
theorem dX9_canKeep_20 : decode cX9_canKeep 20 = .ok (.imul, 1) := by decide +kernel
theorem dX9_canKeep_21 : decode cX9_canKeep 21 = .ok (.iadd, 1) := by decide +kernel
theorem dX9_canKeep_22 : decode cX9_canKeep 22 = .ok (.istore 5, 2) := by decide +kernel
theorem dX9_canKeep_24 : decode cX9_canKeep 24 = .ok (.aload_n 0, 1) := by decide +kernel
theorem dX9_canKeep_25 : decode cX9_canKeep 25 = .ok (.getfield 7, 3) := by decide +kernel
theorem dX9_canKeep_28 : decode cX9_canKeep 28 = .ok (.iload 5, 2) := by decide +kernel
theorem dX9_canKeep_30 : decode cX9_canKeep 30 = .ok (.iaload, 1) := by decide +kernel
theorem dX9_canKeep_31 : decode cX9_canKeep 31 = .ok (.iload_n 2, 1) := by decide +kernel
theorem dX9_canKeep_32 : decode cX9_canKeep 32 = .ok (.if_icmp .ne 69, 3) := by decide +kernel
theorem dX9_canKeep_35 : decode cX9_canKeep 35 = .ok (.aload_n 0, 1) := by decide +kernel
theorem dX9_canKeep_36 : decode cX9_canKeep 36 = .ok (.iload_n 1, 1) := by decide +kernel
theorem dX9_canKeep_37 : decode cX9_canKeep 37 = .ok (.iload_n 2, 1) := by decide +kernel
theorem dX9_canKeep_38 : decode cX9_canKeep 38 = .ok (.aload_n 0, 1) := by decide +kernel
theorem dX9_canKeep_39 : decode cX9_canKeep 39 = .ok (.getfield 7, 3) := by decide +kernel
theorem dX9_canKeep_42 : decode cX9_canKeep 42 = .ok (.iload 5, 2) := by decide +kernel
theorem dX9_canKeep_44 : decode cX9_canKeep 44 = .ok (.iconst 1, 1) := by decide +kernel
theorem dX9_canKeep_45 : decode cX9_canKeep 45 = .ok (.iadd, 1) := by decide +kernel
theorem dX9_canKeep_46 : decode cX9_canKeep 46 = .ok (.iaload, 1) := by decide +kernel
theorem dX9_canKeep_47 : decode cX9_canKeep 47 = .ok (.aload_n 0, 1) := by decide +kernel
theorem dX9_canKeep_48 : decode cX9_canKeep 48 = .ok (.getfield 7, 3) := by decide +kernel
theorem dX9_canKeep_51 : decode cX9_canKeep 51 = .ok (.iload 5, 2) := by decide +kernel
theorem dX9_canKeep_53 : decode cX9_canKeep 53 = .ok (.iconst 2, 1) := by decide +kernel
theorem dX9_canKeep_54 : decode cX9_canKeep 54 = .ok (.iadd, 1) := by decide +kernel
theorem dX9_canKeep_55 : decode cX9_canKeep 55 = .ok (.iaload, 1) := by decide +kernel
theorem dX9_canKeep_56 : decode cX9_canKeep 56 = .ok (.aload_n 0, 1) := by decide +kernel
theorem dX9_canKeep_57 : decode cX9_canKeep 57 = .ok (.getfield 7, 3) := by decide +kernel
theorem dX9_canKeep_60 : decode cX9_canKeep 60 = .ok (.iload 5, 2) := by decide +kernel
theorem dX9_canKeep_62 : decode cX9_canKeep 62 = .ok (.iconst 3, 1) := by decide +kernel
theorem dX9_canKeep_63 : decode cX9_canKeep 63 = .ok (.iadd, 1) := by decide +kernel
theorem dX9_canKeep_64 : decode cX9_canKeep 64 = .ok (.iaload, 1) := by decide +kernel
theorem dX9_canKeep_65 : decode cX9_canKeep 65 = .ok (.aload_n 0, 1) := by decide +kernel
theorem dX9_canKeep_66 : decode cX9_canKeep 66 = .ok (.getfield 7, 3) := by decide +kernel
theorem dX9_canKeep_69 : decode cX9_canKeep 69 = .ok (.iload 5, 2) := by decide +kernel
theorem dX9_canKeep_71 : decode cX9_canKeep 71 = .ok (.iconst 4, 1) := by decide +kernel
theorem dX9_canKeep_72 : decode cX9_canKeep 72 = .ok (.iadd, 1) := by decide +kernel
theorem dX9_canKeep_73 : decode cX9_canKeep 73 = .ok (.iaload, 1) := by decide +kernel
theorem dX9_canKeep_74 : decode cX9_canKeep 74 = .ok (.iload_n 3, 1) := by decide +kernel
theorem dX9_canKeep_75 : decode cX9_canKeep 75 = .ok (.invokevirtual 242, 3) := by decide +kernel
theorem dX9_canKeep_78 : decode cX9_canKeep 78 = .ok (.aload_n 0, 1) := by decide +kernel
theorem dX9_canKeep_79 : decode cX9_canKeep 79 = .ok (.getfield 7, 3) := by decide +kernel
theorem dX9_canKeep_82 : decode cX9_canKeep 82 = .ok (.iload 5, 2) := by decide +kernel
theorem dX9_canKeep_84 : decode cX9_canKeep 84 = .ok (.iconst 5, 1) := by decide +kernel
theorem dX9_canKeep_85 : decode cX9_canKeep 85 = .ok (.iadd, 1) := by decide +kernel
theorem dX9_canKeep_86 : decode cX9_canKeep 86 = .ok (.iaload, 1) := by decide +kernel
theorem dX9_canKeep_87 : decode cX9_canKeep 87 = .ok (.iconst 1, 1) := by decide +kernel
theorem dX9_canKeep_88 : decode cX9_canKeep 88 = .ok (.if_icmp .ne 7, 3) := by decide +kernel
theorem dX9_canKeep_91 : decode cX9_canKeep 91 = .ok (.iconst 1, 1) := by decide +kernel
theorem dX9_canKeep_92 : decode cX9_canKeep 92 = .ok (.goto 4, 3) := by decide +kernel
theorem dX9_canKeep_95 : decode cX9_canKeep 95 = .ok (.iconst 0, 1) := by decide +kernel
theorem dX9_canKeep_96 : decode cX9_canKeep 96 = .ok (.if_icmp .eq 5, 3) := by decide +kernel
theorem dX9_canKeep_99 : decode cX9_canKeep 99 = .ok (.iconst 0, 1) := by decide +kernel
theorem dX9_canKeep_100 : decode cX9_canKeep 100 = .ok (.ireturn, 1) := by decide +kernel
theorem dX9_canKeep_101 : decode cX9_canKeep 101 = .ok (.iinc 4 1, 3) := by decide +kernel
theorem dX9_canKeep_104 : decode cX9_canKeep 104 = .ok (.goto (-101), 3) := by decide +kernel
theorem dX9_canKeep_107 : decode cX9_canKeep 107 = .ok (.iconst 1, 1) := by decide +kernel
theorem dX9_canKeep_108 : decode cX9_canKeep 108 = .ok (.ireturn, 1) := by decide +kernel
theorem dX9_kept_0 : decode cX9_kept 0 = .ok (.aload_n 0, 1) := by decide +kernel
theorem dX9_kept_1 : decode cX9_kept 1 = .ok (.iload_n 1, 1) := by decide +kernel
theorem dX9_kept_2 : decode cX9_kept 2 = .ok (.invokevirtual 77, 3) := by decide +kernel
theorem dX9_kept_5 : decode cX9_kept 5 = .ok (.ifCond .eq 13, 3) := by decide +kernel
theorem dX9_kept_8 : decode cX9_kept 8 = .ok (.iload_n 2, 1) := by decide +kernel
theorem dX9_kept_9 : decode cX9_kept 9 = .ok (.iconst 0, 1) := by decide +kernel
theorem dX9_kept_10 : decode cX9_kept 10 = .ok (.bipush 9, 2) := by decide +kernel
theorem dX9_kept_12 : decode cX9_kept 12 = .ok (.invokestatic 69, 3) := by decide +kernel
theorem dX9_kept_15 : decode cX9_kept 15 = .ok (.ifCond .ne 5, 3) := by decide +kernel
theorem dX9_kept_18 : decode cX9_kept 18 = .ok (.iconst (-1), 1) := by decide +kernel
theorem dX9_kept_19 : decode cX9_kept 19 = .ok (.ireturn, 1) := by decide +kernel
theorem dX9_kept_20 : decode cX9_kept 20 = .ok (.aload_n 0, 1) := by decide +kernel
theorem dX9_kept_21 : decode cX9_kept 21 = .ok (.iconst (-1), 1) := by decide +kernel
theorem dX9_kept_22 : decode cX9_kept 22 = .ok (.iload_n 1, 1) := by decide +kernel
theorem dX9_kept_23 : decode cX9_kept 23 = .ok (.iload_n 2, 1) := by decide +kernel
theorem dX9_kept_24 : decode cX9_kept 24 = .ok (.invokevirtual 313, 3) := by decide +kernel
theorem dX9_kept_27 : decode cX9_kept 27 = .ok (.ifCond .eq 8, 3) := by decide +kernel
theorem dX9_kept_30 : decode cX9_kept 30 = .ok (.bipush 16, 2) := by decide +kernel
theorem dX9_kept_32 : decode cX9_kept 32 = .ok (.goto 4, 3) := by decide +kernel
theorem dX9_kept_35 : decode cX9_kept 35 = .ok (.iconst 0, 1) := by decide +kernel
theorem dX9_kept_36 : decode cX9_kept 36 = .ok (.istore_n 3, 1) := by decide +kernel
theorem dX9_kept_37 : decode cX9_kept 37 = .ok (.iconst 0, 1) := by decide +kernel
theorem dX9_kept_38 : decode cX9_kept 38 = .ok (.istore 4, 2) := by decide +kernel
theorem dX9_kept_40 : decode cX9_kept 40 = .ok (.iload 4, 2) := by decide +kernel
theorem dX9_kept_42 : decode cX9_kept 42 = .ok (.aload_n 0, 1) := by decide +kernel
theorem dX9_kept_43 : decode cX9_kept 43 = .ok (.getfield 7, 3) := by decide +kernel
theorem dX9_kept_46 : decode cX9_kept 46 = .ok (.iconst 0, 1) := by decide +kernel
theorem dX9_kept_47 : decode cX9_kept 47 = .ok (.iaload, 1) := by decide +kernel
theorem dX9_kept_48 : decode cX9_kept 48 = .ok (.if_icmp .ge 31, 3) := by decide +kernel
theorem dX9_kept_51 : decode cX9_kept 51 = .ok (.iload_n 3, 1) := by decide +kernel
theorem dX9_kept_52 : decode cX9_kept 52 = .ok (.aload_n 0, 1) := by decide +kernel
theorem dX9_kept_53 : decode cX9_kept 53 = .ok (.iload 4, 2) := by decide +kernel
theorem dX9_kept_55 : decode cX9_kept 55 = .ok (.iload_n 1, 1) := by decide +kernel
theorem dX9_kept_56 : decode cX9_kept 56 = .ok (.iload_n 2, 1) := by decide +kernel
theorem dX9_kept_57 : decode cX9_kept 57 = .ok (.invokevirtual 313, 3) := by decide +kernel
theorem dX9_kept_60 : decode cX9_kept 60 = .ok (.ifCond .eq 10, 3) := by decide +kernel
theorem dX9_kept_63 : decode cX9_kept 63 = .ok (.iconst 1, 1) := by decide +kernel
theorem dX9_kept_64 : decode cX9_kept 64 = .ok (.iload 4, 2) := by decide +kernel
theorem dX9_kept_66 : decode cX9_kept 66 = .ok (.ishl, 1) := by decide +kernel
theorem dX9_kept_67 : decode cX9_kept 67 = .ok (.goto 4, 3) := by decide +kernel
theorem dX9_kept_70 : decode cX9_kept 70 = .ok (.iconst 0, 1) := by decide +kernel
theorem dX9_kept_71 : decode cX9_kept 71 = .ok (.ior, 1) := by decide +kernel
theorem dX9_kept_72 : decode cX9_kept 72 = .ok (.istore_n 3, 1) := by decide +kernel
theorem dX9_kept_73 : decode cX9_kept 73 = .ok (.iinc 4 1, 3) := by decide +kernel
theorem dX9_kept_76 : decode cX9_kept 76 = .ok (.goto (-36), 3) := by decide +kernel
theorem dX9_kept_79 : decode cX9_kept 79 = .ok (.iload_n 3, 1) := by decide +kernel
theorem dX9_kept_80 : decode cX9_kept 80 = .ok (.ireturn, 1) := by decide +kernel
theorem dX9_copy_0 : decode cX9_copy 0 = .ok (.iconst 0, 1) := by decide +kernel
theorem dX9_copy_1 : decode cX9_copy 1 = .ok (.istore_n 2, 1) := by decide +kernel
theorem dX9_copy_2 : decode cX9_copy 2 = .ok (.iload_n 2, 1) := by decide +kernel
theorem dX9_copy_3 : decode cX9_copy 3 = .ok (.sipush 324, 3) := by decide +kernel
theorem dX9_copy_6 : decode cX9_copy 6 = .ok (.if_icmp .ge 15, 3) := by decide +kernel
theorem dX9_copy_9 : decode cX9_copy 9 = .ok (.aload_n 1, 1) := by decide +kernel
theorem dX9_copy_10 : decode cX9_copy 10 = .ok (.iload_n 2, 1) := by decide +kernel
theorem dX9_copy_11 : decode cX9_copy 11 = .ok (.aload_n 0, 1) := by decide +kernel
theorem dX9_copy_12 : decode cX9_copy 12 = .ok (.iload_n 2, 1) := by decide +kernel
theorem dX9_copy_13 : decode cX9_copy 13 = .ok (.iaload, 1) := by decide +kernel
theorem dX9_copy_14 : decode cX9_copy 14 = .ok (.iastore, 1) := by decide +kernel
theorem dX9_copy_15 : decode cX9_copy 15 = .ok (.iinc 2 1, 3) := by decide +kernel
theorem dX9_copy_18 : decode cX9_copy 18 = .ok (.goto (-16), 3) := by decide +kernel
theorem dX9_copy_21 : decode cX9_copy 21 = .ok (.return_, 1) := by decide +kernel
theorem dX9_image_0 : decode cX9_image 0 = .ok (.aload_n 0, 1) := by decide +kernel
theorem dX9_image_1 : decode cX9_image 1 = .ok (.getfield 7, 3) := by decide +kernel
theorem dX9_image_4 : decode cX9_image 4 = .ok (.aload_n 0, 1) := by decide +kernel
theorem dX9_image_5 : decode cX9_image 5 = .ok (.getfield 13, 3) := by decide +kernel
theorem dX9_image_8 : decode cX9_image 8 = .ok (.invokestatic 65, 3) := by decide +kernel
theorem dX9_image_11 : decode cX9_image 11 = .ok (.aload_n 0, 1) := by decide +kernel
theorem dX9_image_12 : decode cX9_image 12 = .ok (.getfield 7, 3) := by decide +kernel
theorem dX9_image_15 : decode cX9_image 15 = .ok (.iconst 5, 1) := by decide +kernel
theorem dX9_image_16 : decode cX9_image 16 = .ok (.iaload, 1) := by decide +kernel
theorem dX9_image_17 : decode cX9_image 17 = .ok (.ireturn, 1) := by decide +kernel
theorem dX9_back_0 : decode cX9_back 0 = .ok (.aload_n 0, 1) := by decide +kernel
theorem dX9_back_1 : decode cX9_back 1 = .ok (.getfield 13, 3) := by decide +kernel
theorem dX9_back_4 : decode cX9_back 4 = .ok (.aload_n 0, 1) := by decide +kernel
theorem dX9_back_5 : decode cX9_back 5 = .ok (.getfield 7, 3) := by decide +kernel
theorem dX9_back_8 : decode cX9_back 8 = .ok (.invokestatic 65, 3) := by decide +kernel
theorem dX9_back_11 : decode cX9_back 11 = .ok (.aload_n 0, 1) := by decide +kernel
theorem dX9_back_12 : decode cX9_back 12 = .ok (.getfield 7, 3) := by decide +kernel
theorem dX9_back_15 : decode cX9_back 15 = .ok (.iconst 5, 1) := by decide +kernel
theorem dX9_back_16 : decode cX9_back 16 = .ok (.iaload, 1) := by decide +kernel
theorem dX9_back_17 : decode cX9_back 17 = .ok (.ireturn, 1) := by decide +kernel
-- X9_rounds
def J_X9_rounds_66 (n : Nat) (v1 : Int32) (v2 : Int32) (v4 : Int32) (v5 : Int32) (s : jS) : Option ((Bool × Int32 × jS) ⊕ (Bool × Int32 × jS)) :=
  (if jin v4 8 = true then (jl (upI s 10 (Int32.toNatClampNeg v4) v5) fun s80_2 => some (.inl (true, (v4 + 1), s80_2))) else none)
def B_X9_rounds_33 (n : Nat) (v1 : Int32) (v2 : Int32) (q : Bool × Int32 × jS) : Option ((Bool × Int32 × jS) ⊕ (Bool × Int32 × jS)) :=
  (if (q.2.2.1 0 2) ≤ q.2.1 then some (.inr (q.1, q.2.1, q.2.2)) else ((F_X9_bestRule n q.2.1 q.2.2).bind fun p45 => (if q.1 = true then J_X9_rounds_66 n v1 v2 q.2.1 p45.1 p45.2 else (if jin q.2.1 8 = true then (if p45.1 = (p45.2.1 10 (Int32.toNatClampNeg q.2.1)) then (jl (upI p45.2 10 (Int32.toNatClampNeg q.2.1) p45.1) fun s80_4 => some (.inl (false, (q.2.1 + 1), s80_4))) else J_X9_rounds_66 n v1 v2 q.2.1 p45.1 p45.2) else none))))
def B_X9_rounds_22 (n : Nat) (v1 : Int32) (q : Int32 × jS) : Option ((Int32 × jS) ⊕ ((Int32 × jS) ⊕ ((Int32 × jS)))) :=
  (if 20 < q.1 then some (.inr (.inr ((-2), q.2))) else ((lp (B_X9_rounds_33 n v1 q.1) n (false, 0, q.2)).bind fun e33 => (if e33.1 = true then some (.inl ((q.1 + 1), e33.2.2)) else some (.inr (.inl (q.1, e33.2.2))))))
def F_X9_rounds (n : Nat) (v1 : Int32) (s : jS) : Option (Int32 × jS) :=
  (if v1 = (-1) then ((F_X9_beginGuests n s).bind fun p17 => ((lp (B_X9_rounds_22 n v1) n (0, p17)).bind fun e => Sum.elim (fun e22 => (if v1 = (-1) then some (e22.1, e22.2) else (if jin v1 8 = true then some ((e22.2.1 10 (Int32.toNatClampNeg v1)), e22.2) else none))) (fun r22 => some r22) e)) else (if (F_X9_isDoor v1 s) = true then ((F_X9_beginGuests n s).bind fun p17 => ((lp (B_X9_rounds_22 n v1) n (0, p17)).bind fun e => Sum.elim (fun e22 => (if v1 = (-1) then some (e22.1, e22.2) else (if jin v1 8 = true then some ((e22.2.1 10 (Int32.toNatClampNeg v1)), e22.2) else none))) (fun r22 => some r22) e)) else some ((-2), s)))
def rm_X9_rounds : Room := { frames := 10, cells := 0, slots := 0, locals := 258 }
set_option maxHeartbeats 4000000 in
set_option maxRecDepth 100000 in
theorem m_X9_rounds {l : Launch} {D : va_G} {G : Nat → ClassId} {KV : jV} {ad : Nat → Nat} (n : Nat) (v1 : Int32) (s : jS) {p : Int32 × jS} (h : F_X9_rounds n v1 s = some p) : jM l D G KV yX9_rounds cX9_rounds 6 (some .int) rm_X9_rounds [.ref (ad 0), .int v1] (jw 15 (cellM G) ad s) 0 0 (fun v u => v = some (.int p.1) ∧ u = jw 15 (cellM G) ad p.2) := by
  refine jM.of (by decide) (Nat.le_of_ble_eq_true rfl) ?_
  intro K C
  unfold F_X9_rounds at h
  have jn66_33 : ∀ (v1 : Int32) (v2 : Int32) (v4 : Int32) (v5 : Int32) (s : jS) (o : (Bool × Int32 × jS) ⊕ (Bool × Int32 × jS)), J_X9_rounds_66 n v1 v2 v4 v5 s = some o → (∀ q, o = .inl q → K 0 0 (jw 15 (cellM G) ad q.2.2) 33 [(0, .ref (ad 0)), (1, .int v1), (2, .int v2), (3, .int (jb q.1)), (4, .int q.2.1)] []) → (∀ e, o = .inr e → K 0 0 (jw 15 (cellM G) ad e.2.2) 87 [(0, .ref (ad 0)), (1, .int v1), (2, .int v2), (3, .int (jb e.1))] []) → K 0 0 (jw 15 (cellM G) ad s) 66 [(0, .ref (ad 0)), (1, .int v1), (2, .int v2), (4, .int v4), (5, .int v5)] [] := by
    intro v1 v2 v4 v5 s o hb hin hout
    unfold J_X9_rounds_66 at hb
    refine j_iconst C dX9_rounds_66 (v := 1) (by decide) ?_
    refine j_goto C dX9_rounds_67 (tgt := 71) (by decide) ?_
    refine j_istore_n C dX9_rounds_71 (by decide) rfl ?_
    refine j_aload_n C dX9_rounds_72 1 rfl ?_
    refine j_getW C dX9_rounds_73 inX9 rfl (by decide) rfl 26 (by decide) w_947 rfl rfl ?_
    refine j_iload C dX9_rounds_76 4 rfl ?_
    refine j_iload C dX9_rounds_78 5 rfl ?_
    obtain ⟨c80_1, hb⟩ := jchk hb
    refine j_iastW C dX9_rounds_80 (by decide) (fun _ => rfl) (jin_vp c80_1) (fun s80_2 hs80_2 => ?_)
    have hb := jlet hb hs80_2
    refine j_iinc C dX9_rounds_81 4 rfl (v := (v4 + 1)) rfl (by decide) rfl ?_
    refine j_goto C dX9_rounds_84 (tgt := 33) (by decide) ?_
    refine j_loc C [2, 3, 4, 1, 0] rfl ?_
    have hx := hin _ (jinl hb)
    exact hx
  have lo33 : ∀ (v1 : Int32) (v2 : Int32) (s : jS) (k : Nat) (q : Bool × Int32 × jS) (e : Bool × Int32 × jS), lp (B_X9_rounds_33 n v1 v2) k q = some e → K 0 0 (jw 15 (cellM G) ad e.2.2) 87 [(0, .ref (ad 0)), (1, .int v1), (2, .int v2), (3, .int (jb e.1))] [] → K 0 0 (jw 15 (cellM G) ad q.2.2) 33 [(0, .ref (ad 0)), (1, .int v1), (2, .int v2), (3, .int (jb q.1)), (4, .int q.2.1)] [] := by
    intro v1 v2 s k q e he hE
    refine jlp (KH := fun q => K 0 0 (jw 15 (cellM G) ad q.2.2) 33 [(0, .ref (ad 0)), (1, .int v1), (2, .int v2), (3, .int (jb q.1)), (4, .int q.2.1)] []) (KE := fun e => K 0 0 (jw 15 (cellM G) ad e.2.2) 87 [(0, .ref (ad 0)), (1, .int v1), (2, .int v2), (3, .int (jb e.1))] []) ?_ k q e he hE
    intro q o hb hin hout
    unfold B_X9_rounds_33 at hb
    show K 0 0 (jw 15 (cellM G) ad q.2.2) 33 [(0, .ref (ad 0)), (1, .int v1), (2, .int v2), (3, .int (jb q.1)), (4, .int q.2.1)] []
    refine j_iload C dX9_rounds_33 4 rfl ?_
    refine j_aload_n C dX9_rounds_35 0 rfl ?_
    refine j_getW C dX9_rounds_36 inX9 rfl (by decide) rfl 2 (by decide) w_925 rfl rfl ?_
    refine j_icmp_ge C dX9_rounds_39 (tgt := 87) (by decide) (fun cq => ?_) (fun cq => ?_)
    · have hb := jite_t hb cq
      refine j_loc C [0, 1, 2, 3] rfl ?_
      have hx := hout _ (jinr hb)
      exact hx
    · have hb := jite_f hb cq
      refine j_aload_n C dX9_rounds_42 0 rfl ?_
      refine j_iload C dX9_rounds_43 4 rfl ?_
      obtain ⟨p45, he45, hb⟩ := jbind hb
      refine j_cV1 C dX9_rounds_45 (m_X9_bestRule n q.2.1 q.2.2 he45) kc_X9_bestRule w_1309 w_1311 wp_83 w_11 jy_X9_bestRule ⟨⟨Nat.le_of_ble_eq_true rfl, Nat.le_of_ble_eq_true rfl⟩, ⟨rfl, rfl⟩, ⟨Nat.zero_le _, Nat.zero_le _⟩⟩ (Nat.le_of_ble_eq_true rfl) (by decide) rfl (r := (RX9, TX9, 32)) rfl rfl rfl (fun _ _ h => h) ?_
      refine j_istore C dX9_rounds_48 (by decide) rfl ?_
      refine j_iload_n C dX9_rounds_50 4 rfl ?_
      refine j_if_ne C dX9_rounds_51 (tgt := 66) (by decide) (fun cq => ?_) (fun cq => ?_)
      · have hb := jite_t hb (jb_t cq)
        refine j_loc C [1, 2, 3, 5, 0] rfl ?_
        exact jn66_33 v1 v2 q.2.1 p45.1 p45.2   _ hb hin hout
      · have hb := jite_f hb (jb_f cq)
        refine j_iload C dX9_rounds_54 0 rfl ?_
        refine j_aload_n C dX9_rounds_56 1 rfl ?_
        refine j_getW C dX9_rounds_57 inX9 rfl (by decide) rfl 26 (by decide) w_947 rfl rfl ?_
        refine j_iload C dX9_rounds_60 5 rfl ?_
        obtain ⟨c62_3, hb⟩ := jchk hb
        refine j_ialdW C dX9_rounds_62 (by decide) rfl (jin_vp c62_3) ?_
        refine j_icmp_eq C dX9_rounds_63 (tgt := 70) (by decide) (fun cq => ?_) (fun cq => ?_)
        · have hb := jite_t hb cq
          refine j_iconst C dX9_rounds_70 (v := 0) (by decide) ?_
          refine j_istore_n C dX9_rounds_71 (by decide) rfl ?_
          refine j_aload_n C dX9_rounds_72 2 rfl ?_
          refine j_getW C dX9_rounds_73 inX9 rfl (by decide) rfl 26 (by decide) w_947 rfl rfl ?_
          refine j_iload C dX9_rounds_76 5 rfl ?_
          refine j_iload C dX9_rounds_78 1 rfl ?_
          refine j_iastW C dX9_rounds_80 (by decide) (fun _ => rfl) (jin_vp c62_3) (fun s80_4 hs80_4 => ?_)
          have hb := jlet hb hs80_4
          refine j_iinc C dX9_rounds_81 5 rfl (v := (q.2.1 + 1)) rfl (by decide) rfl ?_
          refine j_goto C dX9_rounds_84 (tgt := 33) (by decide) ?_
          refine j_loc C [3, 4, 5, 1, 0] rfl ?_
          have hx := hin _ (jinl hb)
          exact hx
        · have hb := jite_f hb cq
          refine j_loc C [1, 2, 3, 5, 0] rfl ?_
          exact jn66_33 v1 v2 q.2.1 p45.1 p45.2   _ hb hin hout
  have lo22 : ∀ (v1 : Int32) (s : jS) (k : Nat) (q : Int32 × jS) (e : (Int32 × jS) ⊕ ((Int32 × jS))), lp (B_X9_rounds_22 n v1) k q = some e → Sum.elim (fun e => K 0 0 (jw 15 (cellM G) ad e.2) 91 [(0, .ref (ad 0)), (1, .int v1), (2, .int e.1)] []) (fun r => some r = some p) e → K 0 0 (jw 15 (cellM G) ad q.2) 22 [(0, .ref (ad 0)), (1, .int v1), (2, .int q.1)] [] := by
    intro v1 s k q e he hE
    refine jlp (KH := fun q => K 0 0 (jw 15 (cellM G) ad q.2) 22 [(0, .ref (ad 0)), (1, .int v1), (2, .int q.1)] []) (KE := fun e => Sum.elim (fun e => K 0 0 (jw 15 (cellM G) ad e.2) 91 [(0, .ref (ad 0)), (1, .int v1), (2, .int e.1)] []) (fun r => some r = some p) e) ?_ k q e he hE
    intro q o hb hin hout
    unfold B_X9_rounds_22 at hb
    show K 0 0 (jw 15 (cellM G) ad q.2) 22 [(0, .ref (ad 0)), (1, .int v1), (2, .int q.1)] []
    refine j_iload_n C dX9_rounds_22 2 rfl ?_
    refine j_bipush C dX9_rounds_23 (v := 20) (by decide) ?_
    refine j_icmp_gt C dX9_rounds_25 (tgt := 113) (by decide) (fun cq => ?_) (fun cq => ?_)
    · have hb := jite_t hb cq
      refine j_bipush C dX9_rounds_113 (v := (-2)) (by decide) ?_
      exact j_iret C dX9_rounds_115 rfl rfl (Nat.zero_le _) (Nat.zero_le _) (jretWI (jretL hb hout))
    · have hb := jite_f hb cq
      refine j_iconst C dX9_rounds_28 (v := 0) (by decide) ?_
      refine j_istore_n C dX9_rounds_29 (by decide) rfl ?_
      refine j_iconst C dX9_rounds_30 (v := 0) (by decide) ?_
      refine j_istore C dX9_rounds_31 (by decide) rfl ?_
      refine j_loc C [2, 3, 4, 1, 0] rfl ?_
      obtain ⟨e33, he33, hb⟩ := jbind hb
      refine lo33 v1 q.1 q.2  n (false, 0, q.2) e33 he33 ?_
      refine j_iload_n C dX9_rounds_87 3 rfl ?_
      refine j_if_ne C dX9_rounds_88 (tgt := 107) (by decide) (fun cq => ?_) (fun cq => ?_)
      · have hb := jite_t hb (jb_t cq)
        refine j_iinc C dX9_rounds_107 2 rfl (v := (q.1 + 1)) rfl (by decide) rfl ?_
        refine j_goto C dX9_rounds_110 (tgt := 22) (by decide) ?_
        refine j_loc C [1, 2, 0] rfl ?_
        have hx := hin _ (jinl hb)
        exact hx
      · have hb := jite_f hb (jb_f cq)
        refine j_loc C [0, 1, 2] rfl ?_
        have hx := hout _ (jinr hb)
        exact hx
  show K 0 0 (jw 15 (cellM G) ad s) 0 [(0, .ref (ad 0)), (1, .int v1)] []
  refine j_iload_n C dX9_rounds_0 1 rfl ?_
  refine j_iconst C dX9_rounds_1 (v := (-1)) (by decide) ?_
  refine j_icmp_eq C dX9_rounds_2 (tgt := 16) (by decide) (fun cq => ?_) (fun cq => ?_)
  · have h := jite_t h cq
    refine j_aload_n C dX9_rounds_16 0 rfl ?_
    obtain ⟨p17, he17, h⟩ := jbind h
    refine j_cV0 C dX9_rounds_17 (m_X9_beginGuests n s he17) kc_X9_beginGuests w_1297 w_1299 wp_81 w_11 jy_X9_beginGuests ⟨⟨Nat.le_of_ble_eq_true rfl, Nat.le_of_ble_eq_true rfl⟩, ⟨rfl, rfl⟩, ⟨Nat.zero_le _, Nat.zero_le _⟩⟩ (Nat.le_of_ble_eq_true rfl) (by decide) rfl (r := (RX9, TX9, 32)) rfl rfl rfl (fun _ _ h => h) ?_
    refine j_iconst C dX9_rounds_20 (v := 0) (by decide) ?_
    refine j_istore_n C dX9_rounds_21 (by decide) rfl ?_
    refine j_loc C [1, 2, 0] rfl ?_
    obtain ⟨e22, he22, h⟩ := jbind h
    refine lo22 v1 p17  n (0, p17) e22 he22 ?_
    rcases e22 with e22 | r22
    · show K _ _ _ _ _ _
      refine j_iload_n C dX9_rounds_91 1 rfl ?_
      refine j_iconst C dX9_rounds_92 (v := (-1)) (by decide) ?_
      refine j_icmp_ne C dX9_rounds_93 (tgt := 100) (by decide) (fun cq => ?_) (fun cq => ?_)
      · have h := jite_f h cq
        refine j_aload_n C dX9_rounds_100 0 rfl ?_
        refine j_getW C dX9_rounds_101 inX9 rfl (by decide) rfl 26 (by decide) w_947 rfl rfl ?_
        refine j_iload_n C dX9_rounds_104 1 rfl ?_
        obtain ⟨c105_5, h⟩ := jchk h
        refine j_ialdW C dX9_rounds_105 (by decide) rfl (jin_vp c105_5) ?_
        exact j_iret C dX9_rounds_106 rfl rfl (Nat.zero_le _) (Nat.zero_le _) (jretWI h)
      · have h := jite_t h cq
        refine j_iload_n C dX9_rounds_96 2 rfl ?_
        refine j_goto C dX9_rounds_97 (tgt := 106) (by decide) ?_
        exact j_iret C dX9_rounds_106 rfl rfl (Nat.zero_le _) (Nat.zero_le _) (jretWI h)
    · exact h
  · have h := jite_f h cq
    refine j_aload_n C dX9_rounds_5 0 rfl ?_
    refine j_iload_n C dX9_rounds_6 1 rfl ?_
    refine j_cV1 C dX9_rounds_7 (m_X9_isDoor v1 s rfl) kc_X9_isDoor w_1032 w_1034 wp_44 w_11 jy_X9_isDoor ⟨⟨Nat.le_of_ble_eq_true rfl, Nat.le_of_ble_eq_true rfl⟩, ⟨rfl, rfl⟩, ⟨Nat.zero_le _, Nat.zero_le _⟩⟩ (Nat.le_of_ble_eq_true rfl) (by decide) rfl (r := (RX9, TX9, 32)) rfl rfl rfl (fun _ _ h => h) ?_
    refine j_if_ne C dX9_rounds_10 (tgt := 16) (by decide) (fun cq => ?_) (fun cq => ?_)
    · have h := jite_t h (jb_t cq)
      refine j_aload_n C dX9_rounds_16 0 rfl ?_
      obtain ⟨p17, he17, h⟩ := jbind h
      refine j_cV0 C dX9_rounds_17 (m_X9_beginGuests n s he17) kc_X9_beginGuests w_1297 w_1299 wp_81 w_11 jy_X9_beginGuests ⟨⟨Nat.le_of_ble_eq_true rfl, Nat.le_of_ble_eq_true rfl⟩, ⟨rfl, rfl⟩, ⟨Nat.zero_le _, Nat.zero_le _⟩⟩ (Nat.le_of_ble_eq_true rfl) (by decide) rfl (r := (RX9, TX9, 32)) rfl rfl rfl (fun _ _ h => h) ?_
      refine j_iconst C dX9_rounds_20 (v := 0) (by decide) ?_
      refine j_istore_n C dX9_rounds_21 (by decide) rfl ?_
      refine j_loc C [1, 2, 0] rfl ?_
      obtain ⟨e22, he22, h⟩ := jbind h
      refine lo22 v1 p17  n (0, p17) e22 he22 ?_
      rcases e22 with e22 | r22
      · show K _ _ _ _ _ _
        refine j_iload_n C dX9_rounds_91 1 rfl ?_
        refine j_iconst C dX9_rounds_92 (v := (-1)) (by decide) ?_
        refine j_icmp_ne C dX9_rounds_93 (tgt := 100) (by decide) (fun cq => ?_) (fun cq => ?_)
        · have h := jite_f h cq
          refine j_aload_n C dX9_rounds_100 0 rfl ?_
          refine j_getW C dX9_rounds_101 inX9 rfl (by decide) rfl 26 (by decide) w_947 rfl rfl ?_
          refine j_iload_n C dX9_rounds_104 1 rfl ?_
          obtain ⟨c105_6, h⟩ := jchk h
          refine j_ialdW C dX9_rounds_105 (by decide) rfl (jin_vp c105_6) ?_
          exact j_iret C dX9_rounds_106 rfl rfl (Nat.zero_le _) (Nat.zero_le _) (jretWI h)
        · have h := jite_t h cq
          refine j_iload_n C dX9_rounds_96 2 rfl ?_
          refine j_goto C dX9_rounds_97 (tgt := 106) (by decide) ?_
          exact j_iret C dX9_rounds_106 rfl rfl (Nat.zero_le _) (Nat.zero_le _) (jretWI h)
      · exact h
    · have h := jite_f h (jb_f cq)
      refine j_bipush C dX9_rounds_13 (v := (-2)) (by decide) ?_
      exact j_iret C dX9_rounds_15 rfl rfl (Nat.zero_le _) (Nat.zero_le _) (jretWI h)
-- X9_seen
def J_X9_seen_130 (k1 : Int32) (k2 : Bool) (s : jS) : Option (Int32 × jS) :=
  (if jin k1 324 = true then (jl (upI s 1 (Int32.toNatClampNeg k1) (jb k2)) fun s130_12 => (jl (upI s130_12 1 (Int32.toNatClampNeg 3) ((s130_12.1 1 (Int32.toNatClampNeg 3)) + 1)) fun s140_13 => some ((s140_13.1 1 (Int32.toNatClampNeg 3)), s140_13))) else none)
def F_X9_seen (v1 : Int32) (v2 : Int32) (v3 : Int32) (v4 : Int32) (v5 : Int32) (v6 : Bool) (s : jS) : Option (Int32 × jS) :=
  (if (F_X9_isDoor v1 s) = true then (if (F_X9_isHour v2) = true then (if (F_X9_isKnock v3 v4) = true then (if (F_X9_isIn v5 0 9) = true then (if (s.1 1 (Int32.toNatClampNeg 3)) = 20 then some ((-1), s) else (if jin (84 + (6 * (s.1 1 (Int32.toNatClampNeg 3)))) 324 = true then (jl (upI s 1 (Int32.toNatClampNeg (84 + (6 * (s.1 1 (Int32.toNatClampNeg 3))))) v1) fun s69_2 => (if jin ((84 + (6 * (s.1 1 (Int32.toNatClampNeg 3)))) + 1) 324 = true then (jl (upI s69_2 1 (Int32.toNatClampNeg ((84 + (6 * (s.1 1 (Int32.toNatClampNeg 3)))) + 1)) v2) fun s79_4 => (if jin ((84 + (6 * (s.1 1 (Int32.toNatClampNeg 3)))) + 2) 324 = true then (jl (upI s79_4 1 (Int32.toNatClampNeg ((84 + (6 * (s.1 1 (Int32.toNatClampNeg 3)))) + 2)) v3) fun s89_6 => (if jin ((84 + (6 * (s.1 1 (Int32.toNatClampNeg 3)))) + 3) 324 = true then (jl (upI s89_6 1 (Int32.toNatClampNeg ((84 + (6 * (s.1 1 (Int32.toNatClampNeg 3)))) + 3)) v4) fun s100_8 => (if jin ((84 + (6 * (s.1 1 (Int32.toNatClampNeg 3)))) + 4) 324 = true then (jl (upI s100_8 1 (Int32.toNatClampNeg ((84 + (6 * (s.1 1 (Int32.toNatClampNeg 3)))) + 4)) v5) fun s111_10 => (if v6 = true then J_X9_seen_130 ((84 + (6 * (s.1 1 (Int32.toNatClampNeg 3)))) + 5) true s111_10 else J_X9_seen_130 ((84 + (6 * (s.1 1 (Int32.toNatClampNeg 3)))) + 5) false s111_10)) else none)) else none)) else none)) else none)) else none)) else some ((-1), s)) else some ((-1), s)) else some ((-1), s)) else some ((-1), s))
def rm_X9_seen : Room := { frames := 2, cells := 0, slots := 0, locals := 43 }
set_option maxHeartbeats 4000000 in
set_option maxRecDepth 100000 in
theorem m_X9_seen {l : Launch} {D : va_G} {G : Nat → ClassId} {KV : jV} {ad : Nat → Nat} (v1 : Int32) (v2 : Int32) (v3 : Int32) (v4 : Int32) (v5 : Int32) (v6 : Bool) (s : jS) {p : Int32 × jS} (h : F_X9_seen v1 v2 v3 v4 v5 v6 s = some p) : jM l D G KV yX9_seen cX9_seen 8 (some .int) rm_X9_seen [.ref (ad 0), .int v1, .int v2, .int v3, .int v4, .int v5, .int (jb v6)] (jw 15 (cellM G) ad s) 0 0 (fun v u => v = some (.int p.1) ∧ u = jw 15 (cellM G) ad p.2) := by
  refine jM.of (by decide) (Nat.le_of_ble_eq_true rfl) ?_
  intro K C
  unfold F_X9_seen at h
  have jn130 : ∀ (k1 : Int32) (k2 : Bool) (s : jS) (_ : J_X9_seen_130 k1 k2 s = some p), K 0 0 (jw 15 (cellM G) ad s) 130 [(0, .ref (ad 0))] [.int (jb k2), .int k1, .ref (ad 1)] := by
    intro k1 k2 s h
    unfold J_X9_seen_130 at h
    obtain ⟨c130_11, h⟩ := jchk h
    refine j_iastW C dX9_seen_130 (by decide) (fun _ => rfl) (jin_vp c130_11) (fun s130_12 hs130_12 => ?_)
    have h := jlet h hs130_12
    refine j_aload_n C dX9_seen_131 0 rfl ?_
    refine j_getW C dX9_seen_132 inX9 rfl (by decide) rfl 0 (by decide) w_923 rfl rfl ?_
    refine j_iconst C dX9_seen_135 (v := 3) (by decide) ?_
    refine j_dup2 C dX9_seen_136 rfl rfl ?_
    refine j_ialdW C dX9_seen_137 (by decide) rfl (jin_vp (i := 3) (n := 324) (by decide)) ?_
    refine j_iconst C dX9_seen_138 (v := 1) (by decide) ?_
    refine j_iadd C dX9_seen_139 ?_
    refine j_iastW C dX9_seen_140 (by decide) (fun _ => rfl) (jin_vp (i := 3) (n := 324) (by decide)) (fun s140_13 hs140_13 => ?_)
    have h := jlet h hs140_13
    refine j_aload_n C dX9_seen_141 0 rfl ?_
    refine j_getW C dX9_seen_142 inX9 rfl (by decide) rfl 0 (by decide) w_923 rfl rfl ?_
    refine j_iconst C dX9_seen_145 (v := 3) (by decide) ?_
    refine j_ialdW C dX9_seen_146 (by decide) rfl (jin_vp (i := 3) (n := 324) (by decide)) ?_
    exact j_iret C dX9_seen_147 rfl rfl (Nat.zero_le _) (Nat.zero_le _) (jretWI h)
  show K 0 0 (jw 15 (cellM G) ad s) 0 [(0, .ref (ad 0)), (1, .int v1), (2, .int v2), (3, .int v3), (4, .int v4), (5, .int v5), (6, .int (jb v6))] []
  refine j_aload_n C dX9_seen_0 0 rfl ?_
  refine j_iload_n C dX9_seen_1 1 rfl ?_
  refine j_cV1 C dX9_seen_2 (m_X9_isDoor v1 s rfl) kc_X9_isDoor w_1032 w_1034 wp_44 w_11 jy_X9_isDoor ⟨⟨Nat.le_of_ble_eq_true rfl, Nat.le_of_ble_eq_true rfl⟩, ⟨rfl, rfl⟩, ⟨Nat.zero_le _, Nat.zero_le _⟩⟩ (Nat.le_of_ble_eq_true rfl) (by decide) rfl (r := (RX9, TX9, 32)) rfl rfl rfl (fun _ _ h => h) ?_
  refine j_if_eq C dX9_seen_5 (tgt := 46) (by decide) (fun cq => ?_) (fun cq => ?_)
  · have h := jite_f h (jb_f cq)
    refine j_iconst C dX9_seen_46 (v := (-1)) (by decide) ?_
    exact j_iret C dX9_seen_47 rfl rfl (Nat.zero_le _) (Nat.zero_le _) (jretWI h)
  · have h := jite_t h (jb_t cq)
    refine j_iload_n C dX9_seen_8 2 rfl ?_
    refine j_cS1 C dX9_seen_9 (m_X9_isHour v2 rfl) kc_X9_isHour w_1022 w_1023 w_11 jy_X9_isHour ⟨⟨Nat.le_of_ble_eq_true rfl, Nat.le_of_ble_eq_true rfl⟩, ⟨rfl, rfl⟩, ⟨Nat.zero_le _, Nat.zero_le _⟩⟩ (Nat.le_of_ble_eq_true rfl) rfl (fun _ _ h => h) ?_
    refine j_if_eq C dX9_seen_12 (tgt := 46) (by decide) (fun cq => ?_) (fun cq => ?_)
    · have h := jite_f h (jb_f cq)
      refine j_iconst C dX9_seen_46 (v := (-1)) (by decide) ?_
      exact j_iret C dX9_seen_47 rfl rfl (Nat.zero_le _) (Nat.zero_le _) (jretWI h)
    · have h := jite_t h (jb_t cq)
      refine j_iload_n C dX9_seen_15 3 rfl ?_
      refine j_iload C dX9_seen_16 4 rfl ?_
      refine j_cS1 C dX9_seen_18 (m_X9_isKnock v3 v4 rfl) kc_X9_isKnock w_1180 w_1181 w_11 jy_X9_isKnock ⟨⟨Nat.le_of_ble_eq_true rfl, Nat.le_of_ble_eq_true rfl⟩, ⟨rfl, rfl⟩, ⟨Nat.zero_le _, Nat.zero_le _⟩⟩ (Nat.le_of_ble_eq_true rfl) rfl (fun _ _ h => h) ?_
      refine j_if_eq C dX9_seen_21 (tgt := 46) (by decide) (fun cq => ?_) (fun cq => ?_)
      · have h := jite_f h (jb_f cq)
        refine j_iconst C dX9_seen_46 (v := (-1)) (by decide) ?_
        exact j_iret C dX9_seen_47 rfl rfl (Nat.zero_le _) (Nat.zero_le _) (jretWI h)
      · have h := jite_t h (jb_t cq)
        refine j_iload C dX9_seen_24 5 rfl ?_
        refine j_iconst C dX9_seen_26 (v := 0) (by decide) ?_
        refine j_bipush C dX9_seen_27 (v := 9) (by decide) ?_
        refine j_cS1 C dX9_seen_29 (m_X9_isIn v5 0 9 rfl) kc_X9_isIn w_1025 w_1026 w_11 jy_X9_isIn ⟨⟨Nat.le_of_ble_eq_true rfl, Nat.le_of_ble_eq_true rfl⟩, ⟨rfl, rfl⟩, ⟨Nat.zero_le _, Nat.zero_le _⟩⟩ (Nat.le_of_ble_eq_true rfl) rfl (fun _ _ h => h) ?_
        refine j_if_eq C dX9_seen_32 (tgt := 46) (by decide) (fun cq => ?_) (fun cq => ?_)
        · have h := jite_f h (jb_f cq)
          refine j_iconst C dX9_seen_46 (v := (-1)) (by decide) ?_
          exact j_iret C dX9_seen_47 rfl rfl (Nat.zero_le _) (Nat.zero_le _) (jretWI h)
        · have h := jite_t h (jb_t cq)
          refine j_aload_n C dX9_seen_35 0 rfl ?_
          refine j_getW C dX9_seen_36 inX9 rfl (by decide) rfl 0 (by decide) w_923 rfl rfl ?_
          refine j_iconst C dX9_seen_39 (v := 3) (by decide) ?_
          refine j_ialdW C dX9_seen_40 (by decide) rfl (jin_vp (i := 3) (n := 324) (by decide)) ?_
          refine j_bipush C dX9_seen_41 (v := 20) (by decide) ?_
          refine j_icmp_ne C dX9_seen_43 (tgt := 48) (by decide) (fun cq => ?_) (fun cq => ?_)
          · have h := jite_f h cq
            refine j_bipush C dX9_seen_48 (v := 84) (by decide) ?_
            refine j_bipush C dX9_seen_50 (v := 6) (by decide) ?_
            refine j_aload_n C dX9_seen_52 0 rfl ?_
            refine j_getW C dX9_seen_53 inX9 rfl (by decide) rfl 0 (by decide) w_923 rfl rfl ?_
            refine j_iconst C dX9_seen_56 (v := 3) (by decide) ?_
            refine j_ialdW C dX9_seen_57 (by decide) rfl (jin_vp (i := 3) (n := 324) (by decide)) ?_
            refine j_imul C dX9_seen_58 ?_
            refine j_iadd C dX9_seen_59 ?_
            refine j_istore C dX9_seen_60 (by decide) rfl ?_
            refine j_aload_n C dX9_seen_62 1 rfl ?_
            refine j_getW C dX9_seen_63 inX9 rfl (by decide) rfl 0 (by decide) w_923 rfl rfl ?_
            refine j_iload C dX9_seen_66 0 rfl ?_
            refine j_iload_n C dX9_seen_68 2 rfl ?_
            obtain ⟨c69_1, h⟩ := jchk h
            refine j_iastW C dX9_seen_69 (by decide) (fun _ => rfl) (jin_vp c69_1) (fun s69_2 hs69_2 => ?_)
            have h := jlet h hs69_2
            refine j_aload_n C dX9_seen_70 1 rfl ?_
            refine j_getW C dX9_seen_71 inX9 rfl (by decide) rfl 0 (by decide) w_923 rfl rfl ?_
            refine j_iload C dX9_seen_74 0 rfl ?_
            refine j_iconst C dX9_seen_76 (v := 1) (by decide) ?_
            refine j_iadd C dX9_seen_77 ?_
            refine j_iload_n C dX9_seen_78 3 rfl ?_
            obtain ⟨c79_3, h⟩ := jchk h
            refine j_iastW C dX9_seen_79 (by decide) (fun _ => rfl) (jin_vp c79_3) (fun s79_4 hs79_4 => ?_)
            have h := jlet h hs79_4
            refine j_aload_n C dX9_seen_80 1 rfl ?_
            refine j_getW C dX9_seen_81 inX9 rfl (by decide) rfl 0 (by decide) w_923 rfl rfl ?_
            refine j_iload C dX9_seen_84 0 rfl ?_
            refine j_iconst C dX9_seen_86 (v := 2) (by decide) ?_
            refine j_iadd C dX9_seen_87 ?_
            refine j_iload_n C dX9_seen_88 4 rfl ?_
            obtain ⟨c89_5, h⟩ := jchk h
            refine j_iastW C dX9_seen_89 (by decide) (fun _ => rfl) (jin_vp c89_5) (fun s89_6 hs89_6 => ?_)
            have h := jlet h hs89_6
            refine j_aload_n C dX9_seen_90 1 rfl ?_
            refine j_getW C dX9_seen_91 inX9 rfl (by decide) rfl 0 (by decide) w_923 rfl rfl ?_
            refine j_iload C dX9_seen_94 0 rfl ?_
            refine j_iconst C dX9_seen_96 (v := 3) (by decide) ?_
            refine j_iadd C dX9_seen_97 ?_
            refine j_iload C dX9_seen_98 5 rfl ?_
            obtain ⟨c100_7, h⟩ := jchk h
            refine j_iastW C dX9_seen_100 (by decide) (fun _ => rfl) (jin_vp c100_7) (fun s100_8 hs100_8 => ?_)
            have h := jlet h hs100_8
            refine j_aload_n C dX9_seen_101 1 rfl ?_
            refine j_getW C dX9_seen_102 inX9 rfl (by decide) rfl 0 (by decide) w_923 rfl rfl ?_
            refine j_iload C dX9_seen_105 0 rfl ?_
            refine j_iconst C dX9_seen_107 (v := 4) (by decide) ?_
            refine j_iadd C dX9_seen_108 ?_
            refine j_iload C dX9_seen_109 6 rfl ?_
            obtain ⟨c111_9, h⟩ := jchk h
            refine j_iastW C dX9_seen_111 (by decide) (fun _ => rfl) (jin_vp c111_9) (fun s111_10 hs111_10 => ?_)
            have h := jlet h hs111_10
            refine j_aload_n C dX9_seen_112 1 rfl ?_
            refine j_getW C dX9_seen_113 inX9 rfl (by decide) rfl 0 (by decide) w_923 rfl rfl ?_
            refine j_iload C dX9_seen_116 0 rfl ?_
            refine j_iconst C dX9_seen_118 (v := 5) (by decide) ?_
            refine j_iadd C dX9_seen_119 ?_
            refine j_iload C dX9_seen_120 7 rfl ?_
            refine j_if_eq C dX9_seen_122 (tgt := 129) (by decide) (fun cq => ?_) (fun cq => ?_)
            · have h := jite_f h (jb_f cq)
              refine j_iconst C dX9_seen_129 (v := 0) (by decide) ?_
              refine j_loc C [1] rfl ?_
              exact jn130 ((84 + (6 * (s.1 1 (Int32.toNatClampNeg 3)))) + 5) false s111_10  h
            · have h := jite_t h (jb_t cq)
              refine j_iconst C dX9_seen_125 (v := 1) (by decide) ?_
              refine j_goto C dX9_seen_126 (tgt := 130) (by decide) ?_
              refine j_loc C [1] rfl ?_
              exact jn130 ((84 + (6 * (s.1 1 (Int32.toNatClampNeg 3)))) + 5) true s111_10  h
          · have h := jite_t h cq
            refine j_iconst C dX9_seen_46 (v := (-1)) (by decide) ?_
            exact j_iret C dX9_seen_47 rfl rfl (Nat.zero_le _) (Nat.zero_le _) (jretWI h)
-- X9_canKeep
def J_X9_canKeep_96 (n : Nat) (v1 : Int32) (v2 : Int32) (v3 : Int32) (v4 : Int32) (k0 : Bool) (k1 : Bool) (s : jS) : Option ((Int32 × jS) ⊕ ((Int32 × jS) ⊕ ((Bool × jS)))) :=
  (if (jb k0) = (jb k1) then some (.inl ((v4 + 1), s)) else some (.inr (.inr (false, s))))
def B_X9_canKeep_3 (n : Nat) (v1 : Int32) (v2 : Int32) (v3 : Int32) (q : Int32 × jS) : Option ((Int32 × jS) ⊕ ((Int32 × jS) ⊕ ((Bool × jS)))) :=
  (if (q.2.1 1 (Int32.toNatClampNeg 3)) ≤ q.1 then some (.inr (.inl (q.1, q.2))) else (if jin (84 + (6 * q.1)) 324 = true then (if (q.2.1 1 (Int32.toNatClampNeg (84 + (6 * q.1)))) = v2 then (if jin ((84 + (6 * q.1)) + 1) 324 = true then (if jin ((84 + (6 * q.1)) + 2) 324 = true then (if jin ((84 + (6 * q.1)) + 3) 324 = true then (if jin ((84 + (6 * q.1)) + 4) 324 = true then ((F_X9_isOpen n v1 v2 (q.2.1 1 (Int32.toNatClampNeg ((84 + (6 * q.1)) + 1))) (q.2.1 1 (Int32.toNatClampNeg ((84 + (6 * q.1)) + 2))) (q.2.1 1 (Int32.toNatClampNeg ((84 + (6 * q.1)) + 3))) (q.2.1 1 (Int32.toNatClampNeg ((84 + (6 * q.1)) + 4))) v3 q.2).bind fun p75 => (if jin ((84 + (6 * q.1)) + 5) 324 = true then (if (p75.2.1 1 (Int32.toNatClampNeg ((84 + (6 * q.1)) + 5))) = 1 then J_X9_canKeep_96 n v1 v2 v3 q.1 p75.1 true p75.2 else J_X9_canKeep_96 n v1 v2 v3 q.1 p75.1 false p75.2) else none)) else none) else none) else none) else none) else some (.inl ((q.1 + 1), q.2))) else none))
def F_X9_canKeep (n : Nat) (v1 : Int32) (v2 : Int32) (v3 : Int32) (s : jS) : Option (Bool × jS) :=
  ((lp (B_X9_canKeep_3 n v1 v2 v3) n (0, s)).bind fun e => Sum.elim (fun e3 => some (true, e3.2)) (fun r3 => some r3) e)
def rm_X9_canKeep : Room := { frames := 4, cells := 0, slots := 0, locals := 102 }
set_option maxHeartbeats 4000000 in
set_option maxRecDepth 100000 in
theorem m_X9_canKeep {l : Launch} {D : va_G} {G : Nat → ClassId} {KV : jV} {ad : Nat → Nat} (n : Nat) (v1 : Int32) (v2 : Int32) (v3 : Int32) (s : jS) {p : Bool × jS} (h : F_X9_canKeep n v1 v2 v3 s = some p) : jM l D G KV yX9_canKeep cX9_canKeep 6 (some .boolean) rm_X9_canKeep [.ref (ad 0), .int v1, .int v2, .int v3] (jw 15 (cellM G) ad s) 0 0 (fun v u => v = some (.int (jb p.1)) ∧ u = jw 15 (cellM G) ad p.2) := by
  refine jM.of (by decide) (Nat.le_of_ble_eq_true rfl) ?_
  intro K C
  unfold F_X9_canKeep at h
  have jn96_3 : ∀ (v1 : Int32) (v2 : Int32) (v3 : Int32) (v4 : Int32) (k0 : Bool) (k1 : Bool) (s : jS) (o : (Int32 × jS) ⊕ ((Int32 × jS) ⊕ ((Bool × jS)))), J_X9_canKeep_96 n v1 v2 v3 v4 k0 k1 s = some o → (∀ q, o = .inl q → K 0 0 (jw 15 (cellM G) ad q.2) 3 [(0, .ref (ad 0)), (1, .int v1), (2, .int v2), (3, .int v3), (4, .int q.1)] []) → (∀ e, o = .inr e → Sum.elim (fun e => K 0 0 (jw 15 (cellM G) ad e.2) 107 [] []) (fun r => some r = some p) e) → K 0 0 (jw 15 (cellM G) ad s) 96 [(0, .ref (ad 0)), (1, .int v1), (2, .int v2), (3, .int v3), (4, .int v4)] [.int (jb k1), .int (jb k0)] := by
    intro v1 v2 v3 v4 k0 k1 s o hb hin hout
    unfold J_X9_canKeep_96 at hb
    refine j_icmp_eq C dX9_canKeep_96 (tgt := 101) (by decide) (fun cq => ?_) (fun cq => ?_)
    · have hb := jite_t hb cq
      refine j_iinc C dX9_canKeep_101 4 rfl (v := (v4 + 1)) rfl (by decide) rfl ?_
      refine j_goto C dX9_canKeep_104 (tgt := 3) (by decide) ?_
      refine j_loc C [1, 2, 3, 4, 0] rfl ?_
      have hx := hin _ (jinl hb)
      exact hx
    · have hb := jite_f hb cq
      refine j_iconst C dX9_canKeep_99 (v := 0) (by decide) ?_
      exact j_iret C dX9_canKeep_100 rfl (jb_nar false) (Nat.zero_le _) (Nat.zero_le _) (jretWB (jretL hb hout))
  have lo3 : ∀ (v1 : Int32) (v2 : Int32) (v3 : Int32) (s : jS) (k : Nat) (q : Int32 × jS) (e : (Int32 × jS) ⊕ ((Bool × jS))), lp (B_X9_canKeep_3 n v1 v2 v3) k q = some e → Sum.elim (fun e => K 0 0 (jw 15 (cellM G) ad e.2) 107 [] []) (fun r => some r = some p) e → K 0 0 (jw 15 (cellM G) ad q.2) 3 [(0, .ref (ad 0)), (1, .int v1), (2, .int v2), (3, .int v3), (4, .int q.1)] [] := by
    intro v1 v2 v3 s k q e he hE
    refine jlp (KH := fun q => K 0 0 (jw 15 (cellM G) ad q.2) 3 [(0, .ref (ad 0)), (1, .int v1), (2, .int v2), (3, .int v3), (4, .int q.1)] []) (KE := fun e => Sum.elim (fun e => K 0 0 (jw 15 (cellM G) ad e.2) 107 [] []) (fun r => some r = some p) e) ?_ k q e he hE
    intro q o hb hin hout
    unfold B_X9_canKeep_3 at hb
    show K 0 0 (jw 15 (cellM G) ad q.2) 3 [(0, .ref (ad 0)), (1, .int v1), (2, .int v2), (3, .int v3), (4, .int q.1)] []
    refine j_iload C dX9_canKeep_3 4 rfl ?_
    refine j_aload_n C dX9_canKeep_5 0 rfl ?_
    refine j_getW C dX9_canKeep_6 inX9 rfl (by decide) rfl 0 (by decide) w_923 rfl rfl ?_
    refine j_iconst C dX9_canKeep_9 (v := 3) (by decide) ?_
    refine j_ialdW C dX9_canKeep_10 (by decide) rfl (jin_vp (i := 3) (n := 324) (by decide)) ?_
    refine j_icmp_ge C dX9_canKeep_11 (tgt := 107) (by decide) (fun cq => ?_) (fun cq => ?_)
    · have hb := jite_t hb cq
      refine j_loc C [] rfl ?_
      have hx := hout _ (jinr hb)
      exact hx
    · have hb := jite_f hb cq
      refine j_bipush C dX9_canKeep_14 (v := 84) (by decide) ?_
      refine j_bipush C dX9_canKeep_16 (v := 6) (by decide) ?_
      refine j_iload C dX9_canKeep_18 4 rfl ?_
      refine j_imul C dX9_canKeep_20 ?_
      refine j_iadd C dX9_canKeep_21 ?_
      refine j_istore C dX9_canKeep_22 (by decide) rfl ?_
      refine j_aload_n C dX9_canKeep_24 1 rfl ?_
      refine j_getW C dX9_canKeep_25 inX9 rfl (by decide) rfl 0 (by decide) w_923 rfl rfl ?_
      refine j_iload C dX9_canKeep_28 0 rfl ?_
      obtain ⟨c30_1, hb⟩ := jchk hb
      refine j_ialdW C dX9_canKeep_30 (by decide) rfl (jin_vp c30_1) ?_
      refine j_iload_n C dX9_canKeep_31 3 rfl ?_
      refine j_icmp_ne C dX9_canKeep_32 (tgt := 101) (by decide) (fun cq => ?_) (fun cq => ?_)
      · have hb := jite_f hb cq
        refine j_iinc C dX9_canKeep_101 5 rfl (v := (q.1 + 1)) rfl (by decide) rfl ?_
        refine j_goto C dX9_canKeep_104 (tgt := 3) (by decide) ?_
        refine j_loc C [2, 3, 4, 5, 0] rfl ?_
        have hx := hin _ (jinl hb)
        exact hx
      · have hb := jite_t hb cq
        refine j_aload_n C dX9_canKeep_35 1 rfl ?_
        refine j_iload_n C dX9_canKeep_36 2 rfl ?_
        refine j_iload_n C dX9_canKeep_37 3 rfl ?_
        refine j_aload_n C dX9_canKeep_38 1 rfl ?_
        refine j_getW C dX9_canKeep_39 inX9 rfl (by decide) rfl 0 (by decide) w_923 rfl rfl ?_
        refine j_iload C dX9_canKeep_42 0 rfl ?_
        refine j_iconst C dX9_canKeep_44 (v := 1) (by decide) ?_
        refine j_iadd C dX9_canKeep_45 ?_
        obtain ⟨c46_2, hb⟩ := jchk hb
        refine j_ialdW C dX9_canKeep_46 (by decide) rfl (jin_vp c46_2) ?_
        refine j_aload_n C dX9_canKeep_47 1 rfl ?_
        refine j_getW C dX9_canKeep_48 inX9 rfl (by decide) rfl 0 (by decide) w_923 rfl rfl ?_
        refine j_iload C dX9_canKeep_51 0 rfl ?_
        refine j_iconst C dX9_canKeep_53 (v := 2) (by decide) ?_
        refine j_iadd C dX9_canKeep_54 ?_
        obtain ⟨c55_3, hb⟩ := jchk hb
        refine j_ialdW C dX9_canKeep_55 (by decide) rfl (jin_vp c55_3) ?_
        refine j_aload_n C dX9_canKeep_56 1 rfl ?_
        refine j_getW C dX9_canKeep_57 inX9 rfl (by decide) rfl 0 (by decide) w_923 rfl rfl ?_
        refine j_iload C dX9_canKeep_60 0 rfl ?_
        refine j_iconst C dX9_canKeep_62 (v := 3) (by decide) ?_
        refine j_iadd C dX9_canKeep_63 ?_
        obtain ⟨c64_4, hb⟩ := jchk hb
        refine j_ialdW C dX9_canKeep_64 (by decide) rfl (jin_vp c64_4) ?_
        refine j_aload_n C dX9_canKeep_65 1 rfl ?_
        refine j_getW C dX9_canKeep_66 inX9 rfl (by decide) rfl 0 (by decide) w_923 rfl rfl ?_
        refine j_iload C dX9_canKeep_69 0 rfl ?_
        refine j_iconst C dX9_canKeep_71 (v := 4) (by decide) ?_
        refine j_iadd C dX9_canKeep_72 ?_
        obtain ⟨c73_5, hb⟩ := jchk hb
        refine j_ialdW C dX9_canKeep_73 (by decide) rfl (jin_vp c73_5) ?_
        refine j_iload_n C dX9_canKeep_74 4 rfl ?_
        obtain ⟨p75, he75, hb⟩ := jbind hb
        refine j_cV1 C dX9_canKeep_75 (m_X9_isOpen n v1 v2 (q.2.1 1 (Int32.toNatClampNeg ((84 + (6 * q.1)) + 1))) (q.2.1 1 (Int32.toNatClampNeg ((84 + (6 * q.1)) + 2))) (q.2.1 1 (Int32.toNatClampNeg ((84 + (6 * q.1)) + 3))) (q.2.1 1 (Int32.toNatClampNeg ((84 + (6 * q.1)) + 4))) v3 q.2 he75) kc_X9_isOpen w_1183 w_1185 wp_68 w_11 jy_X9_isOpen ⟨⟨Nat.le_of_ble_eq_true rfl, Nat.le_of_ble_eq_true rfl⟩, ⟨rfl, rfl⟩, ⟨Nat.zero_le _, Nat.zero_le _⟩⟩ (Nat.le_of_ble_eq_true rfl) (by decide) rfl (r := (RX9, TX9, 32)) rfl rfl rfl (fun _ _ h => h) ?_
        refine j_aload_n C dX9_canKeep_78 1 rfl ?_
        refine j_getW C dX9_canKeep_79 inX9 rfl (by decide) rfl 0 (by decide) w_923 rfl rfl ?_
        refine j_iload C dX9_canKeep_82 0 rfl ?_
        refine j_iconst C dX9_canKeep_84 (v := 5) (by decide) ?_
        refine j_iadd C dX9_canKeep_85 ?_
        obtain ⟨c86_6, hb⟩ := jchk hb
        refine j_ialdW C dX9_canKeep_86 (by decide) rfl (jin_vp c86_6) ?_
        refine j_iconst C dX9_canKeep_87 (v := 1) (by decide) ?_
        refine j_icmp_ne C dX9_canKeep_88 (tgt := 95) (by decide) (fun cq => ?_) (fun cq => ?_)
        · have hb := jite_f hb cq
          refine j_iconst C dX9_canKeep_95 (v := 0) (by decide) ?_
          refine j_loc C [1, 2, 3, 4, 5] rfl ?_
          exact jn96_3 v1 v2 v3 q.1 p75.1 false p75.2   _ hb hin hout
        · have hb := jite_t hb cq
          refine j_iconst C dX9_canKeep_91 (v := 1) (by decide) ?_
          refine j_goto C dX9_canKeep_92 (tgt := 96) (by decide) ?_
          refine j_loc C [1, 2, 3, 4, 5] rfl ?_
          exact jn96_3 v1 v2 v3 q.1 p75.1 true p75.2   _ hb hin hout
  show K 0 0 (jw 15 (cellM G) ad s) 0 [(0, .ref (ad 0)), (1, .int v1), (2, .int v2), (3, .int v3)] []
  refine j_iconst C dX9_canKeep_0 (v := 0) (by decide) ?_
  refine j_istore C dX9_canKeep_1 (by decide) rfl ?_
  refine j_loc C [1, 2, 3, 4, 0] rfl ?_
  obtain ⟨e3, he3, h⟩ := jbind h
  refine lo3 v1 v2 v3 s  n (0, s) e3 he3 ?_
  rcases e3 with e3 | r3
  · show K _ _ _ _ _ _
    refine j_iconst C dX9_canKeep_107 (v := 1) (by decide) ?_
    exact j_iret C dX9_canKeep_108 rfl (jb_nar true) (Nat.zero_le _) (Nat.zero_le _) (jretWB h)
  · exact h
-- X9_kept
def B_X9_kept_40 (n : Nat) (v1 : Int32) (v2 : Int32) (q : Int32 × Int32 × jS) : Option ((Int32 × Int32 × jS) ⊕ (Int32 × Int32 × jS)) :=
  (if (q.2.2.1 1 (Int32.toNatClampNeg 0)) ≤ q.2.1 then some (.inr (q.1, q.2.1, q.2.2)) else ((F_X9_canKeep n q.2.1 v1 v2 q.2.2).bind fun p57 => (if p57.1 = true then some (.inl ((q.1 ||| ((1 : Int32) <<< (q.2.1 &&& 31))), (q.2.1 + 1), p57.2)) else some (.inl ((q.1 ||| (0 : Int32)), (q.2.1 + 1), p57.2)))))
def F_X9_kept (n : Nat) (v1 : Int32) (v2 : Int32) (s : jS) : Option (Int32 × jS) :=
  (if (F_X9_isDoor v1 s) = true then (if (F_X9_isIn v2 0 9) = true then ((F_X9_canKeep n (-1) v1 v2 s).bind fun p24 => (if p24.1 = true then ((lp (B_X9_kept_40 n v1 v2) n (16, 0, p24.2)).bind fun e40 => some (e40.1, e40.2.2)) else ((lp (B_X9_kept_40 n v1 v2) n (0, 0, p24.2)).bind fun e40 => some (e40.1, e40.2.2)))) else some ((-1), s)) else some ((-1), s))
def rm_X9_kept : Room := { frames := 5, cells := 0, slots := 0, locals := 127 }
set_option maxHeartbeats 4000000 in
set_option maxRecDepth 100000 in
theorem m_X9_kept {l : Launch} {D : va_G} {G : Nat → ClassId} {KV : jV} {ad : Nat → Nat} (n : Nat) (v1 : Int32) (v2 : Int32) (s : jS) {p : Int32 × jS} (h : F_X9_kept n v1 v2 s = some p) : jM l D G KV yX9_kept cX9_kept 5 (some .int) rm_X9_kept [.ref (ad 0), .int v1, .int v2] (jw 15 (cellM G) ad s) 0 0 (fun v u => v = some (.int p.1) ∧ u = jw 15 (cellM G) ad p.2) := by
  refine jM.of (by decide) (Nat.le_of_ble_eq_true rfl) ?_
  intro K C
  unfold F_X9_kept at h
  have lo40 : ∀ (v1 : Int32) (v2 : Int32) (s : jS) (k : Nat) (q : Int32 × Int32 × jS) (e : Int32 × Int32 × jS), lp (B_X9_kept_40 n v1 v2) k q = some e → K 0 0 (jw 15 (cellM G) ad e.2.2) 79 [(3, .int e.1)] [] → K 0 0 (jw 15 (cellM G) ad q.2.2) 40 [(0, .ref (ad 0)), (1, .int v1), (2, .int v2), (3, .int q.1), (4, .int q.2.1)] [] := by
    intro v1 v2 s k q e he hE
    refine jlp (KH := fun q => K 0 0 (jw 15 (cellM G) ad q.2.2) 40 [(0, .ref (ad 0)), (1, .int v1), (2, .int v2), (3, .int q.1), (4, .int q.2.1)] []) (KE := fun e => K 0 0 (jw 15 (cellM G) ad e.2.2) 79 [(3, .int e.1)] []) ?_ k q e he hE
    intro q o hb hin hout
    unfold B_X9_kept_40 at hb
    show K 0 0 (jw 15 (cellM G) ad q.2.2) 40 [(0, .ref (ad 0)), (1, .int v1), (2, .int v2), (3, .int q.1), (4, .int q.2.1)] []
    refine j_iload C dX9_kept_40 4 rfl ?_
    refine j_aload_n C dX9_kept_42 0 rfl ?_
    refine j_getW C dX9_kept_43 inX9 rfl (by decide) rfl 0 (by decide) w_923 rfl rfl ?_
    refine j_iconst C dX9_kept_46 (v := 0) (by decide) ?_
    refine j_ialdW C dX9_kept_47 (by decide) rfl (jin_vp (i := 0) (n := 324) (by decide)) ?_
    refine j_icmp_ge C dX9_kept_48 (tgt := 79) (by decide) (fun cq => ?_) (fun cq => ?_)
    · have hb := jite_t hb cq
      refine j_loc C [3] rfl ?_
      have hx := hout _ (jinr hb)
      exact hx
    · have hb := jite_f hb cq
      refine j_iload_n C dX9_kept_51 3 rfl ?_
      refine j_aload_n C dX9_kept_52 0 rfl ?_
      refine j_iload C dX9_kept_53 4 rfl ?_
      refine j_iload_n C dX9_kept_55 1 rfl ?_
      refine j_iload_n C dX9_kept_56 2 rfl ?_
      obtain ⟨p57, he57, hb⟩ := jbind hb
      refine j_cV1 C dX9_kept_57 (m_X9_canKeep n q.2.1 v1 v2 q.2.2 he57) kc_X9_canKeep w_1325 w_1327 wp_84 w_11 jy_X9_canKeep ⟨⟨Nat.le_of_ble_eq_true rfl, Nat.le_of_ble_eq_true rfl⟩, ⟨rfl, rfl⟩, ⟨Nat.zero_le _, Nat.zero_le _⟩⟩ (Nat.le_of_ble_eq_true rfl) (by decide) rfl (r := (RX9, TX9, 32)) rfl rfl rfl (fun _ _ h => h) ?_
      refine j_if_eq C dX9_kept_60 (tgt := 70) (by decide) (fun cq => ?_) (fun cq => ?_)
      · have hb := jite_f hb (jb_f cq)
        refine j_iconst C dX9_kept_70 (v := 0) (by decide) ?_
        refine j_ior C dX9_kept_71 ?_
        refine j_istore_n C dX9_kept_72 (by decide) rfl ?_
        refine j_iinc C dX9_kept_73 4 rfl (v := (q.2.1 + 1)) rfl (by decide) rfl ?_
        refine j_goto C dX9_kept_76 (tgt := 40) (by decide) ?_
        refine j_loc C [2, 3, 4, 1, 0] rfl ?_
        have hx := hin _ (jinl hb)
        exact hx
      · have hb := jite_t hb (jb_t cq)
        refine j_iconst C dX9_kept_63 (v := 1) (by decide) ?_
        refine j_iload C dX9_kept_64 4 rfl ?_
        refine j_ishl C dX9_kept_66 ?_
        refine j_goto C dX9_kept_67 (tgt := 71) (by decide) ?_
        refine j_ior C dX9_kept_71 ?_
        refine j_istore_n C dX9_kept_72 (by decide) rfl ?_
        refine j_iinc C dX9_kept_73 4 rfl (v := (q.2.1 + 1)) rfl (by decide) rfl ?_
        refine j_goto C dX9_kept_76 (tgt := 40) (by decide) ?_
        refine j_loc C [2, 3, 4, 1, 0] rfl ?_
        have hx := hin _ (jinl hb)
        exact hx
  show K 0 0 (jw 15 (cellM G) ad s) 0 [(0, .ref (ad 0)), (1, .int v1), (2, .int v2)] []
  refine j_aload_n C dX9_kept_0 0 rfl ?_
  refine j_iload_n C dX9_kept_1 1 rfl ?_
  refine j_cV1 C dX9_kept_2 (m_X9_isDoor v1 s rfl) kc_X9_isDoor w_1032 w_1034 wp_44 w_11 jy_X9_isDoor ⟨⟨Nat.le_of_ble_eq_true rfl, Nat.le_of_ble_eq_true rfl⟩, ⟨rfl, rfl⟩, ⟨Nat.zero_le _, Nat.zero_le _⟩⟩ (Nat.le_of_ble_eq_true rfl) (by decide) rfl (r := (RX9, TX9, 32)) rfl rfl rfl (fun _ _ h => h) ?_
  refine j_if_eq C dX9_kept_5 (tgt := 18) (by decide) (fun cq => ?_) (fun cq => ?_)
  · have h := jite_f h (jb_f cq)
    refine j_iconst C dX9_kept_18 (v := (-1)) (by decide) ?_
    exact j_iret C dX9_kept_19 rfl rfl (Nat.zero_le _) (Nat.zero_le _) (jretWI h)
  · have h := jite_t h (jb_t cq)
    refine j_iload_n C dX9_kept_8 2 rfl ?_
    refine j_iconst C dX9_kept_9 (v := 0) (by decide) ?_
    refine j_bipush C dX9_kept_10 (v := 9) (by decide) ?_
    refine j_cS1 C dX9_kept_12 (m_X9_isIn v2 0 9 rfl) kc_X9_isIn w_1025 w_1026 w_11 jy_X9_isIn ⟨⟨Nat.le_of_ble_eq_true rfl, Nat.le_of_ble_eq_true rfl⟩, ⟨rfl, rfl⟩, ⟨Nat.zero_le _, Nat.zero_le _⟩⟩ (Nat.le_of_ble_eq_true rfl) rfl (fun _ _ h => h) ?_
    refine j_if_ne C dX9_kept_15 (tgt := 20) (by decide) (fun cq => ?_) (fun cq => ?_)
    · have h := jite_t h (jb_t cq)
      refine j_aload_n C dX9_kept_20 0 rfl ?_
      refine j_iconst C dX9_kept_21 (v := (-1)) (by decide) ?_
      refine j_iload_n C dX9_kept_22 1 rfl ?_
      refine j_iload_n C dX9_kept_23 2 rfl ?_
      obtain ⟨p24, he24, h⟩ := jbind h
      refine j_cV1 C dX9_kept_24 (m_X9_canKeep n (-1) v1 v2 s he24) kc_X9_canKeep w_1325 w_1327 wp_84 w_11 jy_X9_canKeep ⟨⟨Nat.le_of_ble_eq_true rfl, Nat.le_of_ble_eq_true rfl⟩, ⟨rfl, rfl⟩, ⟨Nat.zero_le _, Nat.zero_le _⟩⟩ (Nat.le_of_ble_eq_true rfl) (by decide) rfl (r := (RX9, TX9, 32)) rfl rfl rfl (fun _ _ h => h) ?_
      refine j_if_eq C dX9_kept_27 (tgt := 35) (by decide) (fun cq => ?_) (fun cq => ?_)
      · have h := jite_f h (jb_f cq)
        refine j_iconst C dX9_kept_35 (v := 0) (by decide) ?_
        refine j_istore_n C dX9_kept_36 (by decide) rfl ?_
        refine j_iconst C dX9_kept_37 (v := 0) (by decide) ?_
        refine j_istore C dX9_kept_38 (by decide) rfl ?_
        refine j_loc C [2, 3, 4, 1, 0] rfl ?_
        obtain ⟨e40, he40, h⟩ := jbind h
        refine lo40 v1 v2 p24.2  n (0, 0, p24.2) e40 he40 ?_
        refine j_iload_n C dX9_kept_79 0 rfl ?_
        exact j_iret C dX9_kept_80 rfl rfl (Nat.zero_le _) (Nat.zero_le _) (jretWI h)
      · have h := jite_t h (jb_t cq)
        refine j_bipush C dX9_kept_30 (v := 16) (by decide) ?_
        refine j_goto C dX9_kept_32 (tgt := 36) (by decide) ?_
        refine j_istore_n C dX9_kept_36 (by decide) rfl ?_
        refine j_iconst C dX9_kept_37 (v := 0) (by decide) ?_
        refine j_istore C dX9_kept_38 (by decide) rfl ?_
        refine j_loc C [2, 3, 4, 1, 0] rfl ?_
        obtain ⟨e40, he40, h⟩ := jbind h
        refine lo40 v1 v2 p24.2  n (16, 0, p24.2) e40 he40 ?_
        refine j_iload_n C dX9_kept_79 0 rfl ?_
        exact j_iret C dX9_kept_80 rfl rfl (Nat.zero_le _) (Nat.zero_le _) (jretWI h)
    · have h := jite_f h (jb_f cq)
      refine j_iconst C dX9_kept_18 (v := (-1)) (by decide) ?_
      exact j_iret C dX9_kept_19 rfl rfl (Nat.zero_le _) (Nat.zero_le _) (jretWI h)
-- X9_copy_1_2
def B_X9_copy_1_2_2 (n : Nat) (q : Int32 × jS) : Option ((Int32 × jS) ⊕ (Int32 × jS)) :=
  (if 324 ≤ q.1 then some (.inr (q.1, q.2)) else (if jin q.1 324 = true then (jl (upI q.2 2 (Int32.toNatClampNeg q.1) (q.2.1 1 (Int32.toNatClampNeg q.1))) fun s14_2 => some (.inl ((q.1 + 1), s14_2))) else none))
def F_X9_copy_1_2 (n : Nat) (s : jS) : Option jS :=
  ((lp (B_X9_copy_1_2_2 n) n (0, s)).bind fun e2 => some e2.2)
def rm_X9_copy_1_2 : Room := { frames := 0, cells := 0, slots := 0, locals := 0 }
set_option maxHeartbeats 4000000 in
set_option maxRecDepth 100000 in
theorem m_X9_copy_1_2 {l : Launch} {D : va_G} {G : Nat → ClassId} {KV : jV} {ad : Nat → Nat} (n : Nat) (s : jS) {p : jS} (h : F_X9_copy_1_2 n s = some p) : jM l D G KV yX9_copy cX9_copy 3 none rm_X9_copy_1_2 [.ref (ad 1), .ref (ad 2)] (jw 15 (cellM G) ad s) 0 0 (fun v u => v = none ∧ u = jw 15 (cellM G) ad p) := by
  refine jM.of (by decide) (Nat.le_of_ble_eq_true rfl) ?_
  intro K C
  unfold F_X9_copy_1_2 at h
  have lo2 : ∀ (s : jS) (k : Nat) (q : Int32 × jS) (e : Int32 × jS), lp (B_X9_copy_1_2_2 n) k q = some e → K 0 0 (jw 15 (cellM G) ad e.2) 21 [] [] → K 0 0 (jw 15 (cellM G) ad q.2) 2 [(0, .ref (ad 1)), (1, .ref (ad 2)), (2, .int q.1)] [] := by
    intro s k q e he hE
    refine jlp (KH := fun q => K 0 0 (jw 15 (cellM G) ad q.2) 2 [(0, .ref (ad 1)), (1, .ref (ad 2)), (2, .int q.1)] []) (KE := fun e => K 0 0 (jw 15 (cellM G) ad e.2) 21 [] []) ?_ k q e he hE
    intro q o hb hin hout
    unfold B_X9_copy_1_2_2 at hb
    show K 0 0 (jw 15 (cellM G) ad q.2) 2 [(0, .ref (ad 1)), (1, .ref (ad 2)), (2, .int q.1)] []
    refine j_iload_n C dX9_copy_2 2 rfl ?_
    refine j_sipush C dX9_copy_3 (v := 324) (by decide) ?_
    refine j_icmp_ge C dX9_copy_6 (tgt := 21) (by decide) (fun cq => ?_) (fun cq => ?_)
    · have hb := jite_t hb cq
      refine j_loc C [] rfl ?_
      have hx := hout _ (jinr hb)
      exact hx
    · have hb := jite_f hb cq
      refine j_aload_n C dX9_copy_9 1 rfl ?_
      refine j_iload_n C dX9_copy_10 2 rfl ?_
      refine j_aload_n C dX9_copy_11 0 rfl ?_
      refine j_iload_n C dX9_copy_12 2 rfl ?_
      obtain ⟨c13_1, hb⟩ := jchk hb
      refine j_ialdW C dX9_copy_13 (by decide) rfl (jin_vp c13_1) ?_
      refine j_iastW C dX9_copy_14 (by decide) (fun _ => rfl) (jin_vp c13_1) (fun s14_2 hs14_2 => ?_)
      have hb := jlet hb hs14_2
      refine j_iinc C dX9_copy_15 2 rfl (v := (q.1 + 1)) rfl (by decide) rfl ?_
      refine j_goto C dX9_copy_18 (tgt := 2) (by decide) ?_
      refine j_loc C [1, 2, 0] rfl ?_
      have hx := hin _ (jinl hb)
      exact hx
  show K 0 0 (jw 15 (cellM G) ad s) 0 [(0, .ref (ad 1)), (1, .ref (ad 2))] []
  refine j_iconst C dX9_copy_0 (v := 0) (by decide) ?_
  refine j_istore_n C dX9_copy_1 (by decide) rfl ?_
  refine j_loc C [1, 2, 0] rfl ?_
  obtain ⟨e2, he2, h⟩ := jbind h
  refine lo2  s  n (0, s) e2 he2 ?_
  exact j_vret C dX9_copy_21 rfl (Nat.zero_le _) (Nat.zero_le _) (jretWV h)
-- X9_image
def F_X9_image (n : Nat) (s : jS) : Option (Int32 × jS) :=
  ((F_X9_copy_1_2 n s).bind fun p8 => some ((p8.1 1 (Int32.toNatClampNeg 5)), p8))
def rm_X9_image : Room := { frames := 1, cells := 0, slots := 0, locals := 22 }
set_option maxHeartbeats 4000000 in
set_option maxRecDepth 100000 in
theorem m_X9_image {l : Launch} {D : va_G} {G : Nat → ClassId} {KV : jV} {ad : Nat → Nat} (n : Nat) (s : jS) {p : Int32 × jS} (h : F_X9_image n s = some p) : jM l D G KV yX9_image cX9_image 1 (some .int) rm_X9_image [.ref (ad 0)] (jw 15 (cellM G) ad s) 0 0 (fun v u => v = some (.int p.1) ∧ u = jw 15 (cellM G) ad p.2) := by
  refine jM.of (by decide) (Nat.le_of_ble_eq_true rfl) ?_
  intro K C
  unfold F_X9_image at h
  show K 0 0 (jw 15 (cellM G) ad s) 0 [(0, .ref (ad 0))] []
  refine j_aload_n C dX9_image_0 0 rfl ?_
  refine j_getW C dX9_image_1 inX9 rfl (by decide) rfl 0 (by decide) w_923 rfl rfl ?_
  refine j_aload_n C dX9_image_4 0 rfl ?_
  refine j_getW C dX9_image_5 inX9 rfl (by decide) rfl 1 (by decide) w_924 rfl rfl ?_
  obtain ⟨p8, he8, h⟩ := jbind h
  refine j_cS0 C dX9_image_8 (m_X9_copy_1_2 n s he8) kc_X9_copy w_920 w_921 w_11 jy_X9_copy ⟨⟨Nat.le_of_ble_eq_true rfl, Nat.le_of_ble_eq_true rfl⟩, ⟨rfl, rfl⟩, ⟨Nat.zero_le _, Nat.zero_le _⟩⟩ (Nat.le_of_ble_eq_true rfl) rfl (fun _ _ h => h) ?_
  refine j_aload_n C dX9_image_11 0 rfl ?_
  refine j_getW C dX9_image_12 inX9 rfl (by decide) rfl 0 (by decide) w_923 rfl rfl ?_
  refine j_iconst C dX9_image_15 (v := 5) (by decide) ?_
  refine j_ialdW C dX9_image_16 (by decide) rfl (jin_vp (i := 5) (n := 324) (by decide)) ?_
  exact j_iret C dX9_image_17 rfl rfl (Nat.zero_le _) (Nat.zero_le _) (jretWI h)
-- X9_copy_2_1
def B_X9_copy_2_1_2 (n : Nat) (q : Int32 × jS) : Option ((Int32 × jS) ⊕ (Int32 × jS)) :=
  (if 324 ≤ q.1 then some (.inr (q.1, q.2)) else (if jin q.1 324 = true then (jl (upI q.2 1 (Int32.toNatClampNeg q.1) (q.2.1 2 (Int32.toNatClampNeg q.1))) fun s14_2 => some (.inl ((q.1 + 1), s14_2))) else none))
def F_X9_copy_2_1 (n : Nat) (s : jS) : Option jS :=
  ((lp (B_X9_copy_2_1_2 n) n (0, s)).bind fun e2 => some e2.2)
def rm_X9_copy_2_1 : Room := { frames := 0, cells := 0, slots := 0, locals := 0 }
set_option maxHeartbeats 4000000 in
set_option maxRecDepth 100000 in
theorem m_X9_copy_2_1 {l : Launch} {D : va_G} {G : Nat → ClassId} {KV : jV} {ad : Nat → Nat} (n : Nat) (s : jS) {p : jS} (h : F_X9_copy_2_1 n s = some p) : jM l D G KV yX9_copy cX9_copy 3 none rm_X9_copy_2_1 [.ref (ad 2), .ref (ad 1)] (jw 15 (cellM G) ad s) 0 0 (fun v u => v = none ∧ u = jw 15 (cellM G) ad p) := by
  refine jM.of (by decide) (Nat.le_of_ble_eq_true rfl) ?_
  intro K C
  unfold F_X9_copy_2_1 at h
  have lo2 : ∀ (s : jS) (k : Nat) (q : Int32 × jS) (e : Int32 × jS), lp (B_X9_copy_2_1_2 n) k q = some e → K 0 0 (jw 15 (cellM G) ad e.2) 21 [] [] → K 0 0 (jw 15 (cellM G) ad q.2) 2 [(0, .ref (ad 2)), (1, .ref (ad 1)), (2, .int q.1)] [] := by
    intro s k q e he hE
    refine jlp (KH := fun q => K 0 0 (jw 15 (cellM G) ad q.2) 2 [(0, .ref (ad 2)), (1, .ref (ad 1)), (2, .int q.1)] []) (KE := fun e => K 0 0 (jw 15 (cellM G) ad e.2) 21 [] []) ?_ k q e he hE
    intro q o hb hin hout
    unfold B_X9_copy_2_1_2 at hb
    show K 0 0 (jw 15 (cellM G) ad q.2) 2 [(0, .ref (ad 2)), (1, .ref (ad 1)), (2, .int q.1)] []
    refine j_iload_n C dX9_copy_2 2 rfl ?_
    refine j_sipush C dX9_copy_3 (v := 324) (by decide) ?_
    refine j_icmp_ge C dX9_copy_6 (tgt := 21) (by decide) (fun cq => ?_) (fun cq => ?_)
    · have hb := jite_t hb cq
      refine j_loc C [] rfl ?_
      have hx := hout _ (jinr hb)
      exact hx
    · have hb := jite_f hb cq
      refine j_aload_n C dX9_copy_9 1 rfl ?_
      refine j_iload_n C dX9_copy_10 2 rfl ?_
      refine j_aload_n C dX9_copy_11 0 rfl ?_
      refine j_iload_n C dX9_copy_12 2 rfl ?_
      obtain ⟨c13_1, hb⟩ := jchk hb
      refine j_ialdW C dX9_copy_13 (by decide) rfl (jin_vp c13_1) ?_
      refine j_iastW C dX9_copy_14 (by decide) (fun _ => rfl) (jin_vp c13_1) (fun s14_2 hs14_2 => ?_)
      have hb := jlet hb hs14_2
      refine j_iinc C dX9_copy_15 2 rfl (v := (q.1 + 1)) rfl (by decide) rfl ?_
      refine j_goto C dX9_copy_18 (tgt := 2) (by decide) ?_
      refine j_loc C [1, 2, 0] rfl ?_
      have hx := hin _ (jinl hb)
      exact hx
  show K 0 0 (jw 15 (cellM G) ad s) 0 [(0, .ref (ad 2)), (1, .ref (ad 1))] []
  refine j_iconst C dX9_copy_0 (v := 0) (by decide) ?_
  refine j_istore_n C dX9_copy_1 (by decide) rfl ?_
  refine j_loc C [1, 2, 0] rfl ?_
  obtain ⟨e2, he2, h⟩ := jbind h
  refine lo2  s  n (0, s) e2 he2 ?_
  exact j_vret C dX9_copy_21 rfl (Nat.zero_le _) (Nat.zero_le _) (jretWV h)
-- X9_back
def F_X9_back (n : Nat) (s : jS) : Option (Int32 × jS) :=
  ((F_X9_copy_2_1 n s).bind fun p8 => some ((p8.1 1 (Int32.toNatClampNeg 5)), p8))
def rm_X9_back : Room := { frames := 1, cells := 0, slots := 0, locals := 22 }
set_option maxHeartbeats 4000000 in
set_option maxRecDepth 100000 in
theorem m_X9_back {l : Launch} {D : va_G} {G : Nat → ClassId} {KV : jV} {ad : Nat → Nat} (n : Nat) (s : jS) {p : Int32 × jS} (h : F_X9_back n s = some p) : jM l D G KV yX9_back cX9_back 1 (some .int) rm_X9_back [.ref (ad 0)] (jw 15 (cellM G) ad s) 0 0 (fun v u => v = some (.int p.1) ∧ u = jw 15 (cellM G) ad p.2) := by
  refine jM.of (by decide) (Nat.le_of_ble_eq_true rfl) ?_
  intro K C
  unfold F_X9_back at h
  show K 0 0 (jw 15 (cellM G) ad s) 0 [(0, .ref (ad 0))] []
  refine j_aload_n C dX9_back_0 0 rfl ?_
  refine j_getW C dX9_back_1 inX9 rfl (by decide) rfl 1 (by decide) w_924 rfl rfl ?_
  refine j_aload_n C dX9_back_4 0 rfl ?_
  refine j_getW C dX9_back_5 inX9 rfl (by decide) rfl 0 (by decide) w_923 rfl rfl ?_
  obtain ⟨p8, he8, h⟩ := jbind h
  refine j_cS0 C dX9_back_8 (m_X9_copy_2_1 n s he8) kc_X9_copy w_920 w_921 w_11 jy_X9_copy ⟨⟨Nat.le_of_ble_eq_true rfl, Nat.le_of_ble_eq_true rfl⟩, ⟨rfl, rfl⟩, ⟨Nat.zero_le _, Nat.zero_le _⟩⟩ (Nat.le_of_ble_eq_true rfl) rfl (fun _ _ h => h) ?_
  refine j_aload_n C dX9_back_11 0 rfl ?_
  refine j_getW C dX9_back_12 inX9 rfl (by decide) rfl 0 (by decide) w_923 rfl rfl ?_
  refine j_iconst C dX9_back_15 (v := 5) (by decide) ?_
  refine j_ialdW C dX9_back_16 (by decide) rfl (jin_vp (i := 5) (n := 324) (by decide)) ?_
  exact j_iret C dX9_back_17 rfl rfl (Nat.zero_le _) (Nat.zero_le _) (jretWI h)
