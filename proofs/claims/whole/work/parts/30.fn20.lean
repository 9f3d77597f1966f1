theorem dX9_soonestOf_0 : decode cX9_soonestOf 0 = .ok (.iconst 1, 1) := by decide +kernel
theorem dX9_soonestOf_1 : decode cX9_soonestOf 1 = .ok (.istore_n 3, 1) := by decide +kernel
theorem dX9_soonestOf_2 : decode cX9_soonestOf 2 = .ok (.iload_n 3, 1) := by decide +kernel
theorem dX9_soonestOf_3 : decode cX9_soonestOf 3 = .ok (.iload_n 2, 1) := by decide +kernel
theorem dX9_soonestOf_4 : decode cX9_soonestOf 4 = .ok (.if_icmp .gt 55, 3) := by decide +kernel
theorem dX9_soonestOf_7 : decode cX9_soonestOf 7 = .ok (.aload_n 0, 1) := by decide +kernel
theorem dX9_soonestOf_8 : decode cX9_soonestOf 8 = .ok (.iload_n 1, 1) := by decide +kernel
theorem dX9_soonestOf_9 : decode cX9_soonestOf 9 = .ok (.iload_n 3, 1) := by decide +kernel
theorem dX9_soonestOf_10 : decode cX9_soonestOf 10 = .ok (.iconst 1, 1) := by decide +kernel
theorem dX9_soonestOf_11 : decode cX9_soonestOf 11 = .ok (.invokevirtual 288, 3) := by decide +kernel
theorem dX9_soonestOf_14 : decode cX9_soonestOf 14 = .ok (.istore 4, 2) := by decide +kernel
theorem dX9_soonestOf_16 : decode cX9_soonestOf 16 = .ok (.iload 4, 2) := by decide +kernel
theorem dX9_soonestOf_18 : decode cX9_soonestOf 18 = .ok (.ldc_w 281, 3) := by decide +kernel
theorem dX9_soonestOf_21 : decode cX9_soonestOf 21 = .ok (.if_icmp .eq 32, 3) := by decide +kernel
theorem dX9_soonestOf_24 : decode cX9_soonestOf 24 = .ok (.iload 4, 2) := by decide +kernel
theorem dX9_soonestOf_26 : decode cX9_soonestOf 26 = .ok (.bipush 100, 2) := by decide +kernel
theorem dX9_soonestOf_28 : decode cX9_soonestOf 28 = .ok (.idiv, 1) := by decide +kernel
theorem dX9_soonestOf_29 : decode cX9_soonestOf 29 = .ok (.aload_n 0, 1) := by decide +kernel
theorem dX9_soonestOf_30 : decode cX9_soonestOf 30 = .ok (.getfield 43, 3) := by decide +kernel
theorem dX9_soonestOf_33 : decode cX9_soonestOf 33 = .ok (.iconst 4, 1) := by decide +kernel
theorem dX9_soonestOf_34 : decode cX9_soonestOf 34 = .ok (.iload_n 1, 1) := by decide +kernel
theorem dX9_soonestOf_35 : decode cX9_soonestOf 35 = .ok (.imul, 1) := by decide +kernel
theorem dX9_soonestOf_36 : decode cX9_soonestOf 36 = .ok (.iconst 3, 1) := by decide +kernel
theorem dX9_soonestOf_37 : decode cX9_soonestOf 37 = .ok (.iadd, 1) := by decide +kernel
theorem dX9_soonestOf_38 : decode cX9_soonestOf 38 = .ok (.iaload, 1) := by decide +kernel
theorem dX9_soonestOf_39 : decode cX9_soonestOf 39 = .ok (.if_icmp .le 6, 3) := by decide +kernel
theorem dX9_soonestOf_42 : decode cX9_soonestOf 42 = .ok (.goto 11, 3) := by decide +kernel
theorem dX9_soonestOf_45 : decode cX9_soonestOf 45 = .ok (.aload_n 0, 1) := by decide +kernel
theorem dX9_soonestOf_46 : decode cX9_soonestOf 46 = .ok (.iload_n 1, 1) := by decide +kernel
theorem dX9_soonestOf_47 : decode cX9_soonestOf 47 = .ok (.invokevirtual 292, 3) := by decide +kernel
theorem dX9_soonestOf_50 : decode cX9_soonestOf 50 = .ok (.iload 4, 2) := by decide +kernel
theorem dX9_soonestOf_52 : decode cX9_soonestOf 52 = .ok (.ireturn, 1) := by decide +kernel
theorem dX9_soonestOf_53 : decode cX9_soonestOf 53 = .ok (.iinc 3 1, 3) := by decide +kernel
theorem dX9_soonestOf_56 : decode cX9_soonestOf 56 = .ok (.goto (-54), 3) := by decide +kernel
theorem dX9_soonestOf_59 : decode cX9_soonestOf 59 = .ok (.ldc_w 281, 3) := by decide +kernel
theorem dX9_soonestOf_62 : decode cX9_soonestOf 62 = .ok (.ireturn, 1) := by decide +kernel
theorem dX9_cheapest_0 : decode cX9_cheapest 0 = .ok (.aload_n 0, 1) := by decide +kernel
theorem dX9_cheapest_1 : decode cX9_cheapest 1 = .ok (.iload_n 1, 1) := by decide +kernel
theorem dX9_cheapest_2 : decode cX9_cheapest 2 = .ok (.iload_n 2, 1) := by decide +kernel
theorem dX9_cheapest_3 : decode cX9_cheapest 3 = .ok (.iconst 0, 1) := by decide +kernel
theorem dX9_cheapest_4 : decode cX9_cheapest 4 = .ok (.invokevirtual 288, 3) := by decide +kernel
theorem dX9_cheapest_7 : decode cX9_cheapest 7 = .ok (.istore_n 3, 1) := by decide +kernel
theorem dX9_cheapest_8 : decode cX9_cheapest 8 = .ok (.iload_n 3, 1) := by decide +kernel
theorem dX9_cheapest_9 : decode cX9_cheapest 9 = .ok (.ldc_w 281, 3) := by decide +kernel
theorem dX9_cheapest_12 : decode cX9_cheapest 12 = .ok (.if_icmp .eq 20, 3) := by decide +kernel
theorem dX9_cheapest_15 : decode cX9_cheapest 15 = .ok (.iload_n 3, 1) := by decide +kernel
theorem dX9_cheapest_16 : decode cX9_cheapest 16 = .ok (.bipush 100, 2) := by decide +kernel
theorem dX9_cheapest_18 : decode cX9_cheapest 18 = .ok (.idiv, 1) := by decide +kernel
theorem dX9_cheapest_19 : decode cX9_cheapest 19 = .ok (.aload_n 0, 1) := by decide +kernel
theorem dX9_cheapest_20 : decode cX9_cheapest 20 = .ok (.getfield 43, 3) := by decide +kernel
theorem dX9_cheapest_23 : decode cX9_cheapest 23 = .ok (.iconst 4, 1) := by decide +kernel
theorem dX9_cheapest_24 : decode cX9_cheapest 24 = .ok (.iload_n 1, 1) := by decide +kernel
theorem dX9_cheapest_25 : decode cX9_cheapest 25 = .ok (.imul, 1) := by decide +kernel
theorem dX9_cheapest_26 : decode cX9_cheapest 26 = .ok (.iconst 3, 1) := by decide +kernel
theorem dX9_cheapest_27 : decode cX9_cheapest 27 = .ok (.iadd, 1) := by decide +kernel
theorem dX9_cheapest_28 : decode cX9_cheapest 28 = .ok (.iaload, 1) := by decide +kernel
theorem dX9_cheapest_29 : decode cX9_cheapest 29 = .ok (.if_icmp .le 7, 3) := by decide +kernel
theorem dX9_cheapest_32 : decode cX9_cheapest 32 = .ok (.ldc_w 281, 3) := by decide +kernel
theorem dX9_cheapest_35 : decode cX9_cheapest 35 = .ok (.ireturn, 1) := by decide +kernel
theorem dX9_cheapest_36 : decode cX9_cheapest 36 = .ok (.aload_n 0, 1) := by decide +kernel
theorem dX9_cheapest_37 : decode cX9_cheapest 37 = .ok (.iload_n 1, 1) := by decide +kernel
theorem dX9_cheapest_38 : decode cX9_cheapest 38 = .ok (.invokevirtual 292, 3) := by decide +kernel
theorem dX9_cheapest_41 : decode cX9_cheapest 41 = .ok (.iload_n 3, 1) := by decide +kernel
theorem dX9_cheapest_42 : decode cX9_cheapest 42 = .ok (.ireturn, 1) := by decide +kernel
theorem dX9_way_0 : decode cX9_way 0 = .ok (.aload_n 0, 1) := by decide +kernel
theorem dX9_way_1 : decode cX9_way 1 = .ok (.iload_n 1, 1) := by decide +kernel
theorem dX9_way_2 : decode cX9_way 2 = .ok (.iload_n 2, 1) := by decide +kernel
theorem dX9_way_3 : decode cX9_way 3 = .ok (.iload_n 3, 1) := by decide +kernel
theorem dX9_way_4 : decode cX9_way 4 = .ok (.iload 5, 2) := by decide +kernel
theorem dX9_way_6 : decode cX9_way 6 = .ok (.invokevirtual 246, 3) := by decide +kernel
theorem dX9_way_9 : decode cX9_way 9 = .ok (.ifCond .eq 21, 3) := by decide +kernel
theorem dX9_way_12 : decode cX9_way 12 = .ok (.iload 4, 2) := by decide +kernel
theorem dX9_way_14 : decode cX9_way 14 = .ok (.iconst 1, 1) := by decide +kernel
theorem dX9_way_15 : decode cX9_way 15 = .ok (.bipush 48, 2) := by decide +kernel
theorem dX9_way_17 : decode cX9_way 17 = .ok (.invokestatic 69, 3) := by decide +kernel
theorem dX9_way_20 : decode cX9_way 20 = .ok (.ifCond .eq 10, 3) := by decide +kernel
theorem dX9_way_23 : decode cX9_way 23 = .ok (.iload 7, 2) := by decide +kernel
theorem dX9_way_25 : decode cX9_way 25 = .ok (.bipush (-2), 2) := by decide +kernel
theorem dX9_way_27 : decode cX9_way 27 = .ok (.if_icmp .ge 6, 3) := by decide +kernel
theorem dX9_way_30 : decode cX9_way 30 = .ok (.bipush (-3), 2) := by decide +kernel
theorem dX9_way_32 : decode cX9_way 32 = .ok (.ireturn, 1) := by decide +kernel
theorem dX9_way_33 : decode cX9_way 33 = .ok (.aload_n 0, 1) := by decide +kernel
theorem dX9_way_34 : decode cX9_way 34 = .ok (.getfield 43, 3) := by decide +kernel
theorem dX9_way_37 : decode cX9_way 37 = .ok (.bipush 24, 2) := by decide +kernel
theorem dX9_way_39 : decode cX9_way 39 = .ok (.iload_n 1, 1) := by decide +kernel
theorem dX9_way_40 : decode cX9_way 40 = .ok (.iastore, 1) := by decide +kernel
theorem dX9_way_41 : decode cX9_way 41 = .ok (.aload_n 0, 1) := by decide +kernel
theorem dX9_way_42 : decode cX9_way 42 = .ok (.getfield 43, 3) := by decide +kernel
theorem dX9_way_45 : decode cX9_way 45 = .ok (.bipush 25, 2) := by decide +kernel
theorem dX9_way_47 : decode cX9_way 47 = .ok (.iload_n 2, 1) := by decide +kernel
theorem dX9_way_48 : decode cX9_way 48 = .ok (.iastore, 1) := by decide +kernel
theorem dX9_way_49 : decode cX9_way 49 = .ok (.aload_n 0, 1) := by decide +kernel
theorem dX9_way_50 : decode cX9_way 50 = .ok (.getfield 43, 3) := by decide +kernel
theorem dX9_way_53 : decode cX9_way 53 = .ok (.bipush 26, 2) := by decide +kernel
theorem dX9_way_55 : decode cX9_way 55 = .ok (.iload_n 3, 1) := by decide +kernel
theorem dX9_way_56 : decode cX9_way 56 = .ok (.iastore, 1) := by decide +kernel
theorem dX9_way_57 : decode cX9_way 57 = .ok (.aload_n 0, 1) := by decide +kernel
theorem dX9_way_58 : decode cX9_way 58 = .ok (.getfield 43, 3) := by decide +kernel
theorem dX9_way_61 : decode cX9_way 61 = .ok (.bipush 27, 2) := by decide +kernel
theorem dX9_way_63 : decode cX9_way 63 = .ok (.iload 5, 2) := by decide +kernel
theorem dX9_way_65 : decode cX9_way 65 = .ok (.iastore, 1) := by decide +kernel
theorem dX9_way_66 : decode cX9_way 66 = .ok (.aload_n 0, 1) := by decide +kernel
theorem dX9_way_67 : decode cX9_way 67 = .ok (.bipush 6, 2) := by decide +kernel
theorem dX9_way_69 : decode cX9_way 69 = .ok (.bipush 7, 2) := by decide +kernel
theorem dX9_way_71 : decode cX9_way 71 = .ok (.invokevirtual 295, 3) := by decide +kernel
theorem dX9_way_74 : decode cX9_way 74 = .ok (.iload 6, 2) := by decide +kernel
theorem dX9_way_76 : decode cX9_way 76 = .ok (.ifCond .eq 14, 3) := by decide +kernel
theorem dX9_way_79 : decode cX9_way 79 = .ok (.aload_n 0, 1) := by decide +kernel
theorem dX9_way_80 : decode cX9_way 80 = .ok (.bipush 6, 2) := by decide +kernel
theorem dX9_way_82 : decode cX9_way 82 = .ok (.iload 4, 2) := by decide +kernel
theorem dX9_way_84 : decode cX9_way 84 = .ok (.invokevirtual 298, 3) := by decide +kernel
theorem dX9_way_87 : decode cX9_way 87 = .ok (.goto 11, 3) := by decide +kernel
theorem dX9_way_90 : decode cX9_way 90 = .ok (.aload_n 0, 1) := by decide +kernel
theorem dX9_way_91 : decode cX9_way 91 = .ok (.bipush 6, 2) := by decide +kernel
theorem dX9_way_93 : decode cX9_way 93 = .ok (.iload 4, 2) := by decide +kernel
theorem dX9_way_95 : decode cX9_way 95 = .ok (.invokevirtual 301, 3) := by decide +kernel
theorem dX9_way_98 : decode cX9_way 98 = .ok (.istore 8, 2) := by decide +kernel
theorem dX9_way_100 : decode cX9_way 100 = .ok (.iload 8, 2) := by decide +kernel
theorem dX9_way_102 : decode cX9_way 102 = .ok (.ldc_w 281, 3) := by decide +kernel
theorem dX9_way_105 : decode cX9_way 105 = .ok (.if_icmp .ne 6, 3) := by decide +kernel
theorem dX9_way_108 : decode cX9_way 108 = .ok (.bipush (-3), 2) := by decide +kernel
theorem dX9_way_110 : decode cX9_way 110 = .ok (.ireturn, 1) := by decide +kernel
theorem dX9_way_111 : decode cX9_way 111 = .ok (.iload 7, 2) := by decide +kernel
theorem dX9_way_113 : decode cX9_way 113 = .ok (.iconst (-1), 1) := by decide +kernel
theorem dX9_way_114 : decode cX9_way 114 = .ok (.if_icmp .ne 11, 3) := by decide +kernel
theorem dX9_way_117 : decode cX9_way 117 = .ok (.iload 8, 2) := by decide +kernel
theorem dX9_way_119 : decode cX9_way 119 = .ok (.bipush 100, 2) := by decide +kernel
theorem dX9_way_121 : decode cX9_way 121 = .ok (.idiv, 1) := by decide +kernel
theorem dX9_way_122 : decode cX9_way 122 = .ok (.goto 38, 3) := by decide +kernel
theorem dX9_way_125 : decode cX9_way 125 = .ok (.iload 7, 2) := by decide +kernel
theorem dX9_way_127 : decode cX9_way 127 = .ok (.bipush (-2), 2) := by decide +kernel
theorem dX9_way_129 : decode cX9_way 129 = .ok (.if_icmp .ne 10, 3) := by decide +kernel
theorem dX9_way_132 : decode cX9_way 132 = .ok (.aload_n 0, 1) := by decide +kernel
theorem dX9_way_133 : decode cX9_way 133 = .ok (.getfield 285, 3) := by decide +kernel
theorem dX9_way_136 : decode cX9_way 136 = .ok (.goto 24, 3) := by decide +kernel
theorem dX9_way_139 : decode cX9_way 139 = .ok (.iload 7, 2) := by decide +kernel
theorem dX9_way_141 : decode cX9_way 141 = .ok (.aload_n 0, 1) := by decide +kernel
theorem dX9_way_142 : decode cX9_way 142 = .ok (.getfield 285, 3) := by decide +kernel
theorem dX9_way_145 : decode cX9_way 145 = .ok (.if_icmp .ge 13, 3) := by decide +kernel
theorem dX9_way_148 : decode cX9_way 148 = .ok (.aload_n 0, 1) := by decide +kernel
theorem dX9_way_149 : decode cX9_way 149 = .ok (.getfield 56, 3) := by decide +kernel
theorem dX9_way_152 : decode cX9_way 152 = .ok (.iload 7, 2) := by decide +kernel
theorem dX9_way_154 : decode cX9_way 154 = .ok (.iaload, 1) := by decide +kernel
theorem dX9_way_155 : decode cX9_way 155 = .ok (.goto 5, 3) := by decide +kernel
theorem dX9_way_158 : decode cX9_way 158 = .ok (.bipush (-3), 2) := by decide +kernel
theorem dX9_way_160 : decode cX9_way 160 = .ok (.ireturn, 1) := by decide +kernel
theorem dX9_guest_0 : decode cX9_guest 0 = .ok (.aload_n 0, 1) := by decide +kernel
theorem dX9_guest_1 : decode cX9_guest 1 = .ok (.iload_n 1, 1) := by decide +kernel
theorem dX9_guest_2 : decode cX9_guest 2 = .ok (.iload_n 2, 1) := by decide +kernel
theorem dX9_guest_3 : decode cX9_guest 3 = .ok (.iload_n 3, 1) := by decide +kernel
theorem dX9_guest_4 : decode cX9_guest 4 = .ok (.iload 4, 2) := by decide +kernel
theorem dX9_guest_6 : decode cX9_guest 6 = .ok (.invokevirtual 246, 3) := by decide +kernel
theorem dX9_guest_9 : decode cX9_guest 9 = .ok (.ifCond .eq 14, 3) := by decide +kernel
theorem dX9_guest_12 : decode cX9_guest 12 = .ok (.aload_n 0, 1) := by decide +kernel
theorem dX9_guest_13 : decode cX9_guest 13 = .ok (.getfield 7, 3) := by decide +kernel
theorem dX9_guest_16 : decode cX9_guest 16 = .ok (.iconst 2, 1) := by decide +kernel
theorem dX9_guest_17 : decode cX9_guest 17 = .ok (.iaload, 1) := by decide +kernel
theorem dX9_guest_18 : decode cX9_guest 18 = .ok (.bipush 6, 2) := by decide +kernel
theorem dX9_guest_20 : decode cX9_guest 20 = .ok (.if_icmp .ne 5, 3) := by decide +kernel
theorem dX9_guest_23 : decode cX9_guest 23 = .ok (.iconst (-1), 1) := by decide +kernel
theorem dX9_guest_24 : decode cX9_guest 24 = .ok (.ireturn, 1) := by decide +kernel
theorem dX9_guest_25 : decode cX9_guest 25 = .ok (.bipush 60, 2) := by decide +kernel
theorem dX9_guest_27 : decode cX9_guest 27 = .ok (.iconst 4, 1) := by decide +kernel
theorem dX9_guest_28 : decode cX9_guest 28 = .ok (.aload_n 0, 1) := by decide +kernel
theorem dX9_guest_29 : decode cX9_guest 29 = .ok (.getfield 7, 3) := by decide +kernel
theorem dX9_guest_32 : decode cX9_guest 32 = .ok (.iconst 2, 1) := by decide +kernel
theorem dX9_guest_33 : decode cX9_guest 33 = .ok (.iaload, 1) := by decide +kernel
theorem dX9_guest_34 : decode cX9_guest 34 = .ok (.imul, 1) := by decide +kernel
theorem dX9_guest_35 : decode cX9_guest 35 = .ok (.iadd, 1) := by decide +kernel
theorem dX9_guest_36 : decode cX9_guest 36 = .ok (.istore 5, 2) := by decide +kernel
theorem dX9_guest_38 : decode cX9_guest 38 = .ok (.aload_n 0, 1) := by decide +kernel
theorem dX9_guest_39 : decode cX9_guest 39 = .ok (.getfield 7, 3) := by decide +kernel
theorem dX9_guest_42 : decode cX9_guest 42 = .ok (.iload 5, 2) := by decide +kernel
theorem dX9_guest_44 : decode cX9_guest 44 = .ok (.iload_n 1, 1) := by decide +kernel
theorem dX9_guest_45 : decode cX9_guest 45 = .ok (.iastore, 1) := by decide +kernel
theorem dX9_guest_46 : decode cX9_guest 46 = .ok (.aload_n 0, 1) := by decide +kernel
theorem dX9_guest_47 : decode cX9_guest 47 = .ok (.getfield 7, 3) := by decide +kernel
theorem dX9_guest_50 : decode cX9_guest 50 = .ok (.iload 5, 2) := by decide +kernel
theorem dX9_guest_52 : decode cX9_guest 52 = .ok (.iconst 1, 1) := by decide +kernel
theorem dX9_guest_53 : decode cX9_guest 53 = .ok (.iadd, 1) := by decide +kernel
theorem dX9_guest_54 : decode cX9_guest 54 = .ok (.iload_n 2, 1) := by decide +kernel
theorem dX9_guest_55 : decode cX9_guest 55 = .ok (.iastore, 1) := by decide +kernel
theorem dX9_guest_56 : decode cX9_guest 56 = .ok (.aload_n 0, 1) := by decide +kernel
theorem dX9_guest_57 : decode cX9_guest 57 = .ok (.getfield 7, 3) := by decide +kernel
theorem dX9_guest_60 : decode cX9_guest 60 = .ok (.iload 5, 2) := by decide +kernel
theorem dX9_guest_62 : decode cX9_guest 62 = .ok (.iconst 2, 1) := by decide +kernel
theorem dX9_guest_63 : decode cX9_guest 63 = .ok (.iadd, 1) := by decide +kernel
theorem dX9_guest_64 : decode cX9_guest 64 = .ok (.iload_n 3, 1) := by decide +kernel
theorem dX9_guest_65 : decode cX9_guest 65 = .ok (.iastore, 1) := by decide +kernel
theorem dX9_guest_66 : decode cX9_guest 66 = .ok (.aload_n 0, 1) := by decide +kernel
theorem dX9_guest_67 : decode cX9_guest 67 = .ok (.getfield 7, 3) := by decide +kernel
theorem dX9_guest_70 : decode cX9_guest 70 = .ok (.iload 5, 2) := by decide +kernel
theorem dX9_guest_72 : decode cX9_guest 72 = .ok (.iconst 3, 1) := by decide +kernel
theorem dX9_guest_73 : decode cX9_guest 73 = .ok (.iadd, 1) := by decide +kernel
theorem dX9_guest_74 : decode cX9_guest 74 = .ok (.iload 4, 2) := by decide +kernel
theorem dX9_guest_76 : decode cX9_guest 76 = .ok (.iastore, 1) := by decide +kernel
theorem dX9_guest_77 : decode cX9_guest 77 = .ok (.aload_n 0, 1) := by decide +kernel
theorem dX9_guest_78 : decode cX9_guest 78 = .ok (.getfield 7, 3) := by decide +kernel
theorem dX9_guest_81 : decode cX9_guest 81 = .ok (.iconst 2, 1) := by decide +kernel
theorem dX9_guest_82 : decode cX9_guest 82 = .ok (.dup2, 1) := by decide +kernel
theorem dX9_guest_83 : decode cX9_guest 83 = .ok (.iaload, 1) := by decide +kernel
theorem dX9_guest_84 : decode cX9_guest 84 = .ok (.iconst 1, 1) := by decide +kernel
theorem dX9_guest_85 : decode cX9_guest 85 = .ok (.iadd, 1) := by decide +kernel
theorem dX9_guest_86 : decode cX9_guest 86 = .ok (.iastore, 1) := by decide +kernel
theorem dX9_guest_87 : decode cX9_guest 87 = .ok (.aload_n 0, 1) := by decide +kernel
theorem dX9_guest_88 : decode cX9_guest 88 = .ok (.getfield 7, 3) := by decide +kernel
theorem dX9_guest_91 : decode cX9_guest 91 = .ok (.iconst 2, 1) := by decide +kernel
theorem dX9_guest_92 : decode cX9_guest 92 = .ok (.iaload, 1) := by decide +kernel
theorem dX9_guest_93 : decode cX9_guest 93 = .ok (.ireturn, 1) := by decide +kernel
theorem dX9_clear_0 : decode cX9_clear 0 = .ok (.aload_n 0, 1) := by decide +kernel
theorem dX9_clear_1 : decode cX9_clear 1 = .ok (.getfield 7, 3) := by decide +kernel
theorem dX9_clear_4 : decode cX9_clear 4 = .ok (.iconst 2, 1) := by decide +kernel
theorem dX9_clear_5 : decode cX9_clear 5 = .ok (.iaload, 1) := by decide +kernel
theorem dX9_clear_6 : decode cX9_clear 6 = .ok (.istore_n 1, 1) := by decide +kernel
theorem dX9_clear_7 : decode cX9_clear 7 = .ok (.aload_n 0, 1) := by decide +kernel
theorem dX9_clear_8 : decode cX9_clear 8 = .ok (.getfield 7, 3) := by decide +kernel
theorem dX9_clear_11 : decode cX9_clear 11 = .ok (.iconst 2, 1) := by decide +kernel
theorem dX9_clear_12 : decode cX9_clear 12 = .ok (.iconst 0, 1) := by decide +kernel
theorem dX9_clear_13 : decode cX9_clear 13 = .ok (.iastore, 1) := by decide +kernel
theorem dX9_clear_14 : decode cX9_clear 14 = .ok (.iload_n 1, 1) := by decide +kernel
theorem dX9_clear_15 : decode cX9_clear 15 = .ok (.ireturn, 1) := by decide +kernel
theorem dX9_beginGuests_0 : decode cX9_beginGuests 0 = .ok (.iconst 0, 1) := by decide +kernel
theorem dX9_beginGuests_1 : decode cX9_beginGuests 1 = .ok (.istore_n 1, 1) := by decide +kernel
theorem dX9_beginGuests_2 : decode cX9_beginGuests 2 = .ok (.iload_n 1, 1) := by decide +kernel
theorem dX9_beginGuests_3 : decode cX9_beginGuests 3 = .ok (.bipush 24, 2) := by decide +kernel
theorem dX9_beginGuests_5 : decode cX9_beginGuests 5 = .ok (.if_icmp .ge 24, 3) := by decide +kernel
theorem dX9_beginGuests_8 : decode cX9_beginGuests 8 = .ok (.aload_n 0, 1) := by decide +kernel
theorem dX9_beginGuests_9 : decode cX9_beginGuests 9 = .ok (.getfield 43, 3) := by decide +kernel
theorem dX9_beginGuests_12 : decode cX9_beginGuests 12 = .ok (.iload_n 1, 1) := by decide +kernel
theorem dX9_beginGuests_13 : decode cX9_beginGuests 13 = .ok (.aload_n 0, 1) := by decide +kernel
theorem dX9_beginGuests_14 : decode cX9_beginGuests 14 = .ok (.getfield 7, 3) := by decide +kernel
theorem dX9_beginGuests_17 : decode cX9_beginGuests 17 = .ok (.bipush 60, 2) := by decide +kernel
theorem dX9_beginGuests_19 : decode cX9_beginGuests 19 = .ok (.iload_n 1, 1) := by decide +kernel
theorem dX9_beginGuests_20 : decode cX9_beginGuests 20 = .ok (.iadd, 1) := by decide +kernel
theorem dX9_beginGuests_21 : decode cX9_beginGuests 21 = .ok (.iaload, 1) := by decide +kernel
theorem dX9_beginGuests_22 : decode cX9_beginGuests 22 = .ok (.iastore, 1) := by decide +kernel
theorem dX9_beginGuests_23 : decode cX9_beginGuests 23 = .ok (.iinc 1 1, 3) := by decide +kernel
theorem dX9_beginGuests_26 : decode cX9_beginGuests 26 = .ok (.goto (-24), 3) := by decide +kernel
theorem dX9_beginGuests_29 : decode cX9_beginGuests 29 = .ok (.aload_n 0, 1) := by decide +kernel
theorem dX9_beginGuests_30 : decode cX9_beginGuests 30 = .ok (.iconst 0, 1) := by decide +kernel
theorem dX9_beginGuests_31 : decode cX9_beginGuests 31 = .ok (.aload_n 0, 1) := by decide +kernel
theorem dX9_beginGuests_32 : decode cX9_beginGuests 32 = .ok (.getfield 7, 3) := by decide +kernel
theorem dX9_beginGuests_35 : decode cX9_beginGuests 35 = .ok (.iconst 2, 1) := by decide +kernel
theorem dX9_beginGuests_36 : decode cX9_beginGuests 36 = .ok (.iaload, 1) := by decide +kernel
theorem dX9_beginGuests_37 : decode cX9_beginGuests 37 = .ok (.invokevirtual 295, 3) := by decide +kernel
theorem dX9_beginGuests_40 : decode cX9_beginGuests 40 = .ok (.return_, 1) := by decide +kernel
theorem dX9_earned_0 : decode cX9_earned 0 = .ok (.iconst 0, 1) := by decide +kernel
theorem dX9_earned_1 : decode cX9_earned 1 = .ok (.istore_n 2, 1) := by decide +kernel
theorem dX9_earned_2 : decode cX9_earned 2 = .ok (.iconst 0, 1) := by decide +kernel
theorem dX9_earned_3 : decode cX9_earned 3 = .ok (.istore_n 3, 1) := by decide +kernel
theorem dX9_earned_4 : decode cX9_earned 4 = .ok (.iload_n 3, 1) := by decide +kernel
theorem dX9_earned_5 : decode cX9_earned 5 = .ok (.aload_n 0, 1) := by decide +kernel
theorem dX9_earned_6 : decode cX9_earned 6 = .ok (.getfield 7, 3) := by decide +kernel
theorem dX9_earned_9 : decode cX9_earned 9 = .ok (.iconst 2, 1) := by decide +kernel
theorem dX9_earned_10 : decode cX9_earned 10 = .ok (.iaload, 1) := by decide +kernel
theorem dX9_earned_11 : decode cX9_earned 11 = .ok (.if_icmp .ge 71, 3) := by decide +kernel
theorem dX9_earned_14 : decode cX9_earned 14 = .ok (.aload_n 0, 1) := by decide +kernel
theorem dX9_earned_15 : decode cX9_earned 15 = .ok (.iload_n 3, 1) := by decide +kernel
theorem dX9_earned_16 : decode cX9_earned 16 = .ok (.bipush 24, 2) := by decide +kernel
theorem dX9_earned_18 : decode cX9_earned 18 = .ok (.invokevirtual 301, 3) := by decide +kernel
theorem dX9_earned_21 : decode cX9_earned 21 = .ok (.ldc_w 281, 3) := by decide +kernel
theorem dX9_earned_24 : decode cX9_earned 24 = .ok (.if_icmp .ne 6, 3) := by decide +kernel
theorem dX9_earned_27 : decode cX9_earned 27 = .ok (.goto 49, 3) := by decide +kernel
theorem dX9_earned_30 : decode cX9_earned 30 = .ok (.iconst 0, 1) := by decide +kernel
theorem dX9_earned_31 : decode cX9_earned 31 = .ok (.istore 4, 2) := by decide +kernel
theorem dX9_earned_33 : decode cX9_earned 33 = .ok (.iload 4, 2) := by decide +kernel
theorem dX9_earned_35 : decode cX9_earned 35 = .ok (.aload_n 0, 1) := by decide +kernel
theorem dX9_earned_36 : decode cX9_earned 36 = .ok (.getfield 285, 3) := by decide +kernel
theorem dX9_earned_39 : decode cX9_earned 39 = .ok (.if_icmp .ge 37, 3) := by decide +kernel
theorem dX9_earned_42 : decode cX9_earned 42 = .ok (.iload_n 2, 1) := by decide +kernel
theorem dX9_earned_43 : decode cX9_earned 43 = .ok (.aload_n 0, 1) := by decide +kernel
theorem dX9_earned_44 : decode cX9_earned 44 = .ok (.getfield 59, 3) := by decide +kernel
theorem dX9_earned_47 : decode cX9_earned 47 = .ok (.iload 4, 2) := by decide +kernel
theorem dX9_earned_49 : decode cX9_earned 49 = .ok (.iaload, 1) := by decide +kernel
theorem dX9_earned_50 : decode cX9_earned 50 = .ok (.iload_n 1, 1) := by decide +kernel
theorem dX9_earned_51 : decode cX9_earned 51 = .ok (.if_icmp .ne 16, 3) := by decide +kernel
theorem dX9_earned_54 : decode cX9_earned 54 = .ok (.aload_n 0, 1) := by decide +kernel
theorem dX9_earned_55 : decode cX9_earned 55 = .ok (.getfield 56, 3) := by decide +kernel
theorem dX9_earned_58 : decode cX9_earned 58 = .ok (.iload 4, 2) := by decide +kernel
theorem dX9_earned_60 : decode cX9_earned 60 = .ok (.iaload, 1) := by decide +kernel
theorem dX9_earned_61 : decode cX9_earned 61 = .ok (.bipush 10, 2) := by decide +kernel
theorem dX9_earned_63 : decode cX9_earned 63 = .ok (.irem, 1) := by decide +kernel
theorem dX9_earned_64 : decode cX9_earned 64 = .ok (.goto 4, 3) := by decide +kernel
theorem dX9_earned_67 : decode cX9_earned 67 = .ok (.iconst 0, 1) := by decide +kernel
theorem dX9_earned_68 : decode cX9_earned 68 = .ok (.iadd, 1) := by decide +kernel
theorem dX9_earned_69 : decode cX9_earned 69 = .ok (.istore_n 2, 1) := by decide +kernel
theorem dX9_earned_70 : decode cX9_earned 70 = .ok (.iinc 4 1, 3) := by decide +kernel
theorem dX9_earned_73 : decode cX9_earned 73 = .ok (.goto (-40), 3) := by decide +kernel
theorem dX9_earned_76 : decode cX9_earned 76 = .ok (.iinc 3 1, 3) := by decide +kernel
theorem dX9_earned_79 : decode cX9_earned 79 = .ok (.goto (-75), 3) := by decide +kernel
theorem dX9_earned_82 : decode cX9_earned 82 = .ok (.iload_n 2, 1) := by decide +kernel
theorem dX9_earned_83 : decode cX9_earned 83 = .ok (.ireturn, 1) := by decide +kernel
theorem dX9_earns_0 : decode cX9_earns 0 = .ok (.aload_n 0, 1) := by decide +kernel
theorem dX9_earns_1 : decode cX9_earns 1 = .ok (.iload_n 1, 1) := by decide +kernel
theorem dX9_earns_2 : decode cX9_earns 2 = .ok (.invokevirtual 77, 3) := by decide +kernel
theorem dX9_earns_5 : decode cX9_earns 5 = .ok (.ifCond .ne 5, 3) := by decide +kernel
theorem dX9_earns_8 : decode cX9_earns 8 = .ok (.iconst (-1), 1) := by decide +kernel
theorem dX9_earns_9 : decode cX9_earns 9 = .ok (.ireturn, 1) := by decide +kernel
theorem dX9_earns_10 : decode cX9_earns 10 = .ok (.aload_n 0, 1) := by decide +kernel
theorem dX9_earns_11 : decode cX9_earns 11 = .ok (.invokevirtual 304, 3) := by decide +kernel
theorem dX9_earns_14 : decode cX9_earns 14 = .ok (.aload_n 0, 1) := by decide +kernel
theorem dX9_earns_15 : decode cX9_earns 15 = .ok (.iload_n 1, 1) := by decide +kernel
theorem dX9_earns_16 : decode cX9_earns 16 = .ok (.invokevirtual 307, 3) := by decide +kernel
theorem dX9_earns_19 : decode cX9_earns 19 = .ok (.ireturn, 1) := by decide +kernel
theorem dX9_bestRule_0 : decode cX9_bestRule 0 = .ok (.aload_n 0, 1) := by decide +kernel
theorem dX9_bestRule_1 : decode cX9_bestRule 1 = .ok (.getfield 46, 3) := by decide +kernel
theorem dX9_bestRule_4 : decode cX9_bestRule 4 = .ok (.iload_n 1, 1) := by decide +kernel
theorem dX9_bestRule_5 : decode cX9_bestRule 5 = .ok (.iaload, 1) := by decide +kernel
theorem dX9_bestRule_6 : decode cX9_bestRule 6 = .ok (.istore_n 2, 1) := by decide +kernel
theorem dX9_bestRule_7 : decode cX9_bestRule 7 = .ok (.iload_n 2, 1) := by decide +kernel
theorem dX9_bestRule_8 : decode cX9_bestRule 8 = .ok (.istore_n 3, 1) := by decide +kernel
theorem dX9_bestRule_9 : decode cX9_bestRule 9 = .ok (.aload_n 0, 1) := by decide +kernel
theorem dX9_bestRule_10 : decode cX9_bestRule 10 = .ok (.iload_n 1, 1) := by decide +kernel
theorem dX9_bestRule_11 : decode cX9_bestRule 11 = .ok (.invokevirtual 307, 3) := by decide +kernel
theorem dX9_bestRule_14 : decode cX9_bestRule 14 = .ok (.istore 4, 2) := by decide +kernel
theorem dX9_bestRule_16 : decode cX9_bestRule 16 = .ok (.iconst (-1), 1) := by decide +kernel
theorem dX9_bestRule_17 : decode cX9_bestRule 17 = .ok (.istore 5, 2) := by decide +kernel
theorem dX9_bestRule_19 : decode cX9_bestRule 19 = .ok (.iload 5, 2) := by decide +kernel
theorem dX9_bestRule_21 : decode cX9_bestRule 21 = .ok (.aload_n 0, 1) := by decide +kernel
theorem dX9_bestRule_22 : decode cX9_bestRule 22 = .ok (.getfield 7, 3) := by decide +kernel
theorem dX9_bestRule_25 : decode cX9_bestRule 25 = .ok (.iconst 0, 1) := by decide +kernel
theorem dX9_bestRule_26 : decode cX9_bestRule 26 = .ok (.iaload, 1) := by decide +kernel
theorem dX9_bestRule_27 : decode cX9_bestRule 27 = .ok (.if_icmp .ge 41, 3) := by decide +kernel
theorem dX9_bestRule_30 : decode cX9_bestRule 30 = .ok (.aload_n 0, 1) := by decide +kernel
theorem dX9_bestRule_31 : decode cX9_bestRule 31 = .ok (.getfield 46, 3) := by decide +kernel
theorem dX9_bestRule_34 : decode cX9_bestRule 34 = .ok (.iload_n 1, 1) := by decide +kernel
theorem dX9_bestRule_35 : decode cX9_bestRule 35 = .ok (.iload 5, 2) := by decide +kernel
theorem dX9_bestRule_37 : decode cX9_bestRule 37 = .ok (.iastore, 1) := by decide +kernel
theorem dX9_bestRule_38 : decode cX9_bestRule 38 = .ok (.aload_n 0, 1) := by decide +kernel
theorem dX9_bestRule_39 : decode cX9_bestRule 39 = .ok (.iload_n 1, 1) := by decide +kernel
theorem dX9_bestRule_40 : decode cX9_bestRule 40 = .ok (.invokevirtual 307, 3) := by decide +kernel
theorem dX9_bestRule_43 : decode cX9_bestRule 43 = .ok (.istore 6, 2) := by decide +kernel
theorem dX9_bestRule_45 : decode cX9_bestRule 45 = .ok (.iload 6, 2) := by decide +kernel
theorem dX9_bestRule_47 : decode cX9_bestRule 47 = .ok (.iload 4, 2) := by decide +kernel
theorem dX9_bestRule_49 : decode cX9_bestRule 49 = .ok (.if_icmp .gt 6, 3) := by decide +kernel
theorem dX9_bestRule_52 : decode cX9_bestRule 52 = .ok (.goto 10, 3) := by decide +kernel
theorem dX9_bestRule_55 : decode cX9_bestRule 55 = .ok (.iload 5, 2) := by decide +kernel
theorem dX9_bestRule_57 : decode cX9_bestRule 57 = .ok (.istore_n 3, 1) := by decide +kernel
theorem dX9_bestRule_58 : decode cX9_bestRule 58 = .ok (.iload 6, 2) := by decide +kernel
theorem dX9_bestRule_60 : decode cX9_bestRule 60 = .ok (.istore 4, 2) := by decide +kernel
theorem dX9_bestRule_62 : decode cX9_bestRule 62 = .ok (.iinc 5 1, 3) := by decide +kernel
theorem dX9_bestRule_65 : decode cX9_bestRule 65 = .ok (.goto (-46), 3) := by decide +kernel
theorem dX9_bestRule_68 : decode cX9_bestRule 68 = .ok (.aload_n 0, 1) := by decide +kernel
theorem dX9_bestRule_69 : decode cX9_bestRule 69 = .ok (.getfield 46, 3) := by decide +kernel
theorem dX9_bestRule_72 : decode cX9_bestRule 72 = .ok (.iload_n 1, 1) := by decide +kernel
theorem dX9_bestRule_73 : decode cX9_bestRule 73 = .ok (.iload_n 2, 1) := by decide +kernel
theorem dX9_bestRule_74 : decode cX9_bestRule 74 = .ok (.iastore, 1) := by decide +kernel
theorem dX9_bestRule_75 : decode cX9_bestRule 75 = .ok (.iload_n 3, 1) := by decide +kernel
theorem dX9_bestRule_76 : decode cX9_bestRule 76 = .ok (.ireturn, 1) := by decide +kernel
theorem dX9_even_0 : decode cX9_even 0 = .ok (.aload_n 0, 1) := by decide +kernel
theorem dX9_even_1 : decode cX9_even 1 = .ok (.invokevirtual 304, 3) := by decide +kernel
theorem dX9_even_4 : decode cX9_even 4 = .ok (.iconst 0, 1) := by decide +kernel
theorem dX9_even_5 : decode cX9_even 5 = .ok (.istore_n 1, 1) := by decide +kernel
theorem dX9_even_6 : decode cX9_even 6 = .ok (.iload_n 1, 1) := by decide +kernel
theorem dX9_even_7 : decode cX9_even 7 = .ok (.aload_n 0, 1) := by decide +kernel
theorem dX9_even_8 : decode cX9_even 8 = .ok (.getfield 62, 3) := by decide +kernel
theorem dX9_even_11 : decode cX9_even 11 = .ok (.if_icmp .ge 25, 3) := by decide +kernel
theorem dX9_even_14 : decode cX9_even 14 = .ok (.aload_n 0, 1) := by decide +kernel
theorem dX9_even_15 : decode cX9_even 15 = .ok (.iload_n 1, 1) := by decide +kernel
theorem dX9_even_16 : decode cX9_even 16 = .ok (.invokevirtual 310, 3) := by decide +kernel
theorem dX9_even_19 : decode cX9_even 19 = .ok (.aload_n 0, 1) := by decide +kernel
theorem dX9_even_20 : decode cX9_even 20 = .ok (.getfield 46, 3) := by decide +kernel
theorem dX9_even_23 : decode cX9_even 23 = .ok (.iload_n 1, 1) := by decide +kernel
theorem dX9_even_24 : decode cX9_even 24 = .ok (.iaload, 1) := by decide +kernel
theorem dX9_even_25 : decode cX9_even 25 = .ok (.if_icmp .eq 5, 3) := by decide +kernel
theorem dX9_even_28 : decode cX9_even 28 = .ok (.iload_n 1, 1) := by decide +kernel
theorem dX9_even_29 : decode cX9_even 29 = .ok (.ireturn, 1) := by decide +kernel
theorem dX9_even_30 : decode cX9_even 30 = .ok (.iinc 1 1, 3) := by decide +kernel
theorem dX9_even_33 : decode cX9_even 33 = .ok (.goto (-27), 3) := by decide +kernel
theorem dX9_even_36 : decode cX9_even 36 = .ok (.iconst (-1), 1) := by decide +kernel
theorem dX9_even_37 : decode cX9_even 37 = .ok (.ireturn, 1) := by decide +kernel
-- X9_soonestOf
def B_X9_soonestOf_2 (n : Nat) (v1 : Int32) (v2 : Int32) (q : Int32 × jS) : Option ((Int32 × jS) ⊕ ((Int32 × jS) ⊕ ((Int32 × jS)))) :=
  (if v2 < q.1 then some (.inr (.inl (q.1, q.2))) else ((F_X9_reckon n v1 q.1 true q.2).bind fun p11 => (if p11.1 = 1000000 then some (.inl ((q.1 + 1), p11.2)) else (if jin ((4 * v1) + 3) 28 = true then (if (p11.1 / 100) ≤ (p11.2.1 9 (Int32.toNatClampNeg ((4 * v1) + 3))) then ((F_X9_follow n v1 p11.2).bind fun p47 => some (.inr (.inr (p11.1, p47)))) else some (.inl ((q.1 + 1), p11.2))) else none))))
def F_X9_soonestOf (n : Nat) (v1 : Int32) (v2 : Int32) (s : jS) : Option (Int32 × jS) :=
  ((lp (B_X9_soonestOf_2 n v1 v2) n (1, s)).bind fun e => Sum.elim (fun e2 => some (1000000, e2.2)) (fun r2 => some r2) e)
def rm_X9_soonestOf : Room := { frames := 7, cells := 0, slots := 0, locals := 185 }
set_option maxHeartbeats 4000000 in
set_option maxRecDepth 100000 in
theorem m_X9_soonestOf {l : Launch} {D : va_G} {G : Nat → ClassId} {KV : jV} {ad : Nat → Nat} (n : Nat) (v1 : Int32) (v2 : Int32) (s : jS) {p : Int32 × jS} (h : F_X9_soonestOf n v1 v2 s = some p) : jM l D G KV yX9_soonestOf cX9_soonestOf 5 (some .int) rm_X9_soonestOf [.ref (ad 0), .int v1, .int v2] (jw 15 (cellM G) ad s) 0 0 (fun v u => v = some (.int p.1) ∧ u = jw 15 (cellM G) ad p.2) := by
  refine jM.of (by decide) (Nat.le_of_ble_eq_true rfl) ?_
  intro K C
  unfold F_X9_soonestOf at h
  have lo2 : ∀ (v1 : Int32) (v2 : Int32) (s : jS) (k : Nat) (q : Int32 × jS) (e : (Int32 × jS) ⊕ ((Int32 × jS))), lp (B_X9_soonestOf_2 n v1 v2) k q = some e → Sum.elim (fun e => K 0 0 (jw 15 (cellM G) ad e.2) 59 [] []) (fun r => some r = some p) e → K 0 0 (jw 15 (cellM G) ad q.2) 2 [(0, .ref (ad 0)), (1, .int v1), (2, .int v2), (3, .int q.1)] [] := by
    intro v1 v2 s k q e he hE
    refine jlp (KH := fun q => K 0 0 (jw 15 (cellM G) ad q.2) 2 [(0, .ref (ad 0)), (1, .int v1), (2, .int v2), (3, .int q.1)] []) (KE := fun e => Sum.elim (fun e => K 0 0 (jw 15 (cellM G) ad e.2) 59 [] []) (fun r => some r = some p) e) ?_ k q e he hE
    intro q o hb hin hout
    unfold B_X9_soonestOf_2 at hb
    show K 0 0 (jw 15 (cellM G) ad q.2) 2 [(0, .ref (ad 0)), (1, .int v1), (2, .int v2), (3, .int q.1)] []
    refine j_iload_n C dX9_soonestOf_2 3 rfl ?_
    refine j_iload_n C dX9_soonestOf_3 2 rfl ?_
    refine j_icmp_gt C dX9_soonestOf_4 (tgt := 59) (by decide) (fun cq => ?_) (fun cq => ?_)
    · have hb := jite_t hb cq
      refine j_loc C [] rfl ?_
      have hx := hout _ (jinr hb)
      exact hx
    · have hb := jite_f hb cq
      refine j_aload_n C dX9_soonestOf_7 0 rfl ?_
      refine j_iload_n C dX9_soonestOf_8 1 rfl ?_
      refine j_iload_n C dX9_soonestOf_9 3 rfl ?_
      refine j_iconst C dX9_soonestOf_10 (v := 1) (by decide) ?_
      obtain ⟨p11, he11, hb⟩ := jbind hb
      refine j_cV1 C dX9_soonestOf_11 (m_X9_reckon n v1 q.1 true q.2 he11) kc_X9_reckon w_1261 w_1263 wp_76 w_11 jy_X9_reckon ⟨⟨Nat.le_of_ble_eq_true rfl, Nat.le_of_ble_eq_true rfl⟩, ⟨rfl, rfl⟩, ⟨Nat.zero_le _, Nat.zero_le _⟩⟩ (Nat.le_of_ble_eq_true rfl) (by decide) rfl (r := (RX9, TX9, 32)) rfl rfl rfl (fun _ _ h => h) ?_
      refine j_istore C dX9_soonestOf_14 (by decide) rfl ?_
      refine j_iload C dX9_soonestOf_16 0 rfl ?_
      refine j_ldcw C dX9_soonestOf_18 (v := 1000000) w_1265 ?_
      refine j_icmp_eq C dX9_soonestOf_21 (tgt := 53) (by decide) (fun cq => ?_) (fun cq => ?_)
      · have hb := jite_t hb cq
        refine j_iinc C dX9_soonestOf_53 4 rfl (v := (q.1 + 1)) rfl (by decide) rfl ?_
        refine j_goto C dX9_soonestOf_56 (tgt := 2) (by decide) ?_
        refine j_loc C [2, 3, 4, 0] rfl ?_
        have hx := hin _ (jinl hb)
        exact hx
      · have hb := jite_f hb cq
        refine j_iload C dX9_soonestOf_24 0 rfl ?_
        refine j_bipush C dX9_soonestOf_26 (v := 100) (by decide) ?_
        refine j_idiv C dX9_soonestOf_28 (by decide) ?_
        refine j_aload_n C dX9_soonestOf_29 1 rfl ?_
        refine j_getW C dX9_soonestOf_30 inX9 rfl (by decide) rfl 25 (by decide) w_946 rfl rfl ?_
        refine j_iconst C dX9_soonestOf_33 (v := 4) (by decide) ?_
        refine j_iload_n C dX9_soonestOf_34 2 rfl ?_
        refine j_imul C dX9_soonestOf_35 ?_
        refine j_iconst C dX9_soonestOf_36 (v := 3) (by decide) ?_
        refine j_iadd C dX9_soonestOf_37 ?_
        obtain ⟨c38_1, hb⟩ := jchk hb
        refine j_ialdW C dX9_soonestOf_38 (by decide) rfl (jin_vp c38_1) ?_
        refine j_icmp_le C dX9_soonestOf_39 (tgt := 45) (by decide) (fun cq => ?_) (fun cq => ?_)
        · have hb := jite_t hb cq
          refine j_aload_n C dX9_soonestOf_45 1 rfl ?_
          refine j_iload_n C dX9_soonestOf_46 2 rfl ?_
          obtain ⟨p47, he47, hb⟩ := jbind hb
          refine j_cV0 C dX9_soonestOf_47 (m_X9_follow n v1 p11.2 he47) kc_X9_follow w_1277 w_1279 wp_79 w_11 jy_X9_follow ⟨⟨Nat.le_of_ble_eq_true rfl, Nat.le_of_ble_eq_true rfl⟩, ⟨rfl, rfl⟩, ⟨Nat.zero_le _, Nat.zero_le _⟩⟩ (Nat.le_of_ble_eq_true rfl) (by decide) rfl (r := (RX9, TX9, 32)) rfl rfl rfl (fun _ _ h => h) ?_
          refine j_iload C dX9_soonestOf_50 0 rfl ?_
          exact j_iret C dX9_soonestOf_52 rfl rfl (Nat.zero_le _) (Nat.zero_le _) (jretWI (jretL hb hout))
        · have hb := jite_f hb cq
          refine j_goto C dX9_soonestOf_42 (tgt := 53) (by decide) ?_
          refine j_iinc C dX9_soonestOf_53 4 rfl (v := (q.1 + 1)) rfl (by decide) rfl ?_
          refine j_goto C dX9_soonestOf_56 (tgt := 2) (by decide) ?_
          refine j_loc C [2, 3, 4, 0] rfl ?_
          have hx := hin _ (jinl hb)
          exact hx
  show K 0 0 (jw 15 (cellM G) ad s) 0 [(0, .ref (ad 0)), (1, .int v1), (2, .int v2)] []
  refine j_iconst C dX9_soonestOf_0 (v := 1) (by decide) ?_
  refine j_istore_n C dX9_soonestOf_1 (by decide) rfl ?_
  refine j_loc C [1, 2, 3, 0] rfl ?_
  obtain ⟨e2, he2, h⟩ := jbind h
  refine lo2 v1 v2 s  n (1, s) e2 he2 ?_
  rcases e2 with e2 | r2
  · show K _ _ _ _ _ _
    refine j_ldcw C dX9_soonestOf_59 (v := 1000000) w_1265 ?_
    exact j_iret C dX9_soonestOf_62 rfl rfl (Nat.zero_le _) (Nat.zero_le _) (jretWI h)
  · exact h
-- X9_cheapest
def F_X9_cheapest (n : Nat) (v1 : Int32) (v2 : Int32) (s : jS) : Option (Int32 × jS) :=
  ((F_X9_reckon n v1 v2 false s).bind fun p4 => (if p4.1 = 1000000 then some (1000000, p4.2) else (if jin ((4 * v1) + 3) 28 = true then (if (p4.1 / 100) ≤ (p4.2.1 9 (Int32.toNatClampNeg ((4 * v1) + 3))) then ((F_X9_follow n v1 p4.2).bind fun p38 => some (p4.1, p38)) else some (1000000, p4.2)) else none)))
def rm_X9_cheapest : Room := { frames := 7, cells := 0, slots := 0, locals := 185 }
set_option maxHeartbeats 4000000 in
set_option maxRecDepth 100000 in
theorem m_X9_cheapest {l : Launch} {D : va_G} {G : Nat → ClassId} {KV : jV} {ad : Nat → Nat} (n : Nat) (v1 : Int32) (v2 : Int32) (s : jS) {p : Int32 × jS} (h : F_X9_cheapest n v1 v2 s = some p) : jM l D G KV yX9_cheapest cX9_cheapest 4 (some .int) rm_X9_cheapest [.ref (ad 0), .int v1, .int v2] (jw 15 (cellM G) ad s) 0 0 (fun v u => v = some (.int p.1) ∧ u = jw 15 (cellM G) ad p.2) := by
  refine jM.of (by decide) (Nat.le_of_ble_eq_true rfl) ?_
  intro K C
  unfold F_X9_cheapest at h
  show K 0 0 (jw 15 (cellM G) ad s) 0 [(0, .ref (ad 0)), (1, .int v1), (2, .int v2)] []
  refine j_aload_n C dX9_cheapest_0 0 rfl ?_
  refine j_iload_n C dX9_cheapest_1 1 rfl ?_
  refine j_iload_n C dX9_cheapest_2 2 rfl ?_
  refine j_iconst C dX9_cheapest_3 (v := 0) (by decide) ?_
  obtain ⟨p4, he4, h⟩ := jbind h
  refine j_cV1 C dX9_cheapest_4 (m_X9_reckon n v1 v2 false s he4) kc_X9_reckon w_1261 w_1263 wp_76 w_11 jy_X9_reckon ⟨⟨Nat.le_of_ble_eq_true rfl, Nat.le_of_ble_eq_true rfl⟩, ⟨rfl, rfl⟩, ⟨Nat.zero_le _, Nat.zero_le _⟩⟩ (Nat.le_of_ble_eq_true rfl) (by decide) rfl (r := (RX9, TX9, 32)) rfl rfl rfl (fun _ _ h => h) ?_
  refine j_istore_n C dX9_cheapest_7 (by decide) rfl ?_
  refine j_iload_n C dX9_cheapest_8 0 rfl ?_
  refine j_ldcw C dX9_cheapest_9 (v := 1000000) w_1265 ?_
  refine j_icmp_eq C dX9_cheapest_12 (tgt := 32) (by decide) (fun cq => ?_) (fun cq => ?_)
  · have h := jite_t h cq
    refine j_ldcw C dX9_cheapest_32 (v := 1000000) w_1265 ?_
    exact j_iret C dX9_cheapest_35 rfl rfl (Nat.zero_le _) (Nat.zero_le _) (jretWI h)
  · have h := jite_f h cq
    refine j_iload_n C dX9_cheapest_15 0 rfl ?_
    refine j_bipush C dX9_cheapest_16 (v := 100) (by decide) ?_
    refine j_idiv C dX9_cheapest_18 (by decide) ?_
    refine j_aload_n C dX9_cheapest_19 1 rfl ?_
    refine j_getW C dX9_cheapest_20 inX9 rfl (by decide) rfl 25 (by decide) w_946 rfl rfl ?_
    refine j_iconst C dX9_cheapest_23 (v := 4) (by decide) ?_
    refine j_iload_n C dX9_cheapest_24 2 rfl ?_
    refine j_imul C dX9_cheapest_25 ?_
    refine j_iconst C dX9_cheapest_26 (v := 3) (by decide) ?_
    refine j_iadd C dX9_cheapest_27 ?_
    obtain ⟨c28_1, h⟩ := jchk h
    refine j_ialdW C dX9_cheapest_28 (by decide) rfl (jin_vp c28_1) ?_
    refine j_icmp_le C dX9_cheapest_29 (tgt := 36) (by decide) (fun cq => ?_) (fun cq => ?_)
    · have h := jite_t h cq
      refine j_aload_n C dX9_cheapest_36 1 rfl ?_
      refine j_iload_n C dX9_cheapest_37 2 rfl ?_
      obtain ⟨p38, he38, h⟩ := jbind h
      refine j_cV0 C dX9_cheapest_38 (m_X9_follow n v1 p4.2 he38) kc_X9_follow w_1277 w_1279 wp_79 w_11 jy_X9_follow ⟨⟨Nat.le_of_ble_eq_true rfl, Nat.le_of_ble_eq_true rfl⟩, ⟨rfl, rfl⟩, ⟨Nat.zero_le _, Nat.zero_le _⟩⟩ (Nat.le_of_ble_eq_true rfl) (by decide) rfl (r := (RX9, TX9, 32)) rfl rfl rfl (fun _ _ h => h) ?_
      refine j_iload_n C dX9_cheapest_41 0 rfl ?_
      exact j_iret C dX9_cheapest_42 rfl rfl (Nat.zero_le _) (Nat.zero_le _) (jretWI h)
    · have h := jite_f h cq
      refine j_ldcw C dX9_cheapest_32 (v := 1000000) w_1265 ?_
      exact j_iret C dX9_cheapest_35 rfl rfl (Nat.zero_le _) (Nat.zero_le _) (jretWI h)
-- X9_way
def J_X9_way_98 (n : Nat) (v7 : Int32) (k0 : Int32) (s : jS) : Option (Int32 × jS) :=
  (if k0 = 1000000 then some ((-3), s) else (if v7 = (-1) then some ((k0 / 100), s) else (if v7 = (-2) then some ((s.1 0 31), s) else (if (s.1 0 31) ≤ v7 then some ((-3), s) else (if jin v7 48 = true then some ((s.1 13 (Int32.toNatClampNeg v7)), s) else none)))))
def F_X9_way (n : Nat) (v1 : Int32) (v2 : Int32) (v3 : Int32) (v4 : Int32) (v5 : Int32) (v6 : Bool) (v7 : Int32) (s : jS) : Option (Int32 × jS) :=
  (if (F_X9_isTraveller v1 v2 v3 v5 s) = true then (if (F_X9_isIn v4 1 48) = true then (if (-2) ≤ v7 then (jl (upI s 9 (Int32.toNatClampNeg 24) v1) fun s40_1 => (jl (upI s40_1 9 (Int32.toNatClampNeg 25) v2) fun s48_2 => (jl (upI s48_2 9 (Int32.toNatClampNeg 26) v3) fun s56_3 => (jl (upI s56_3 9 (Int32.toNatClampNeg 27) v5) fun s65_4 => ((F_X9_forgetLeasts n 6 7 s65_4).bind fun p71 => (if v6 = true then ((F_X9_soonestOf n 6 v4 p71).bind fun p84 => J_X9_way_98 n v7 p84.1 p84.2) else ((F_X9_cheapest n 6 v4 p71).bind fun p95 => J_X9_way_98 n v7 p95.1 p95.2))))))) else some ((-3), s)) else some ((-3), s)) else some ((-3), s))
def rm_X9_way : Room := { frames := 8, cells := 0, slots := 0, locals := 209 }
set_option maxHeartbeats 4000000 in
set_option maxRecDepth 100000 in
theorem m_X9_way {l : Launch} {D : va_G} {G : Nat → ClassId} {KV : jV} {ad : Nat → Nat} (n : Nat) (v1 : Int32) (v2 : Int32) (v3 : Int32) (v4 : Int32) (v5 : Int32) (v6 : Bool) (v7 : Int32) (s : jS) {p : Int32 × jS} (h : F_X9_way n v1 v2 v3 v4 v5 v6 v7 s = some p) : jM l D G KV yX9_way cX9_way 9 (some .int) rm_X9_way [.ref (ad 0), .int v1, .int v2, .int v3, .int v4, .int v5, .int (jb v6), .int v7] (jw 15 (cellM G) ad s) 0 0 (fun v u => v = some (.int p.1) ∧ u = jw 15 (cellM G) ad p.2) := by
  refine jM.of (by decide) (Nat.le_of_ble_eq_true rfl) ?_
  intro K C
  unfold F_X9_way at h
  have jn98 : ∀ (v7 : Int32) (k0 : Int32) (s : jS) (_ : J_X9_way_98 n v7 k0 s = some p), K 0 0 (jw 15 (cellM G) ad s) 98 [(0, .ref (ad 0)), (7, .int v7)] [.int k0] := by
    intro v7 k0 s h
    unfold J_X9_way_98 at h
    refine j_istore C dX9_way_98 (by decide) rfl ?_
    refine j_iload C dX9_way_100 0 rfl ?_
    refine j_ldcw C dX9_way_102 (v := 1000000) w_1265 ?_
    refine j_icmp_ne C dX9_way_105 (tgt := 111) (by decide) (fun cq => ?_) (fun cq => ?_)
    · have h := jite_f h cq
      refine j_iload C dX9_way_111 2 rfl ?_
      refine j_iconst C dX9_way_113 (v := (-1)) (by decide) ?_
      refine j_icmp_ne C dX9_way_114 (tgt := 125) (by decide) (fun cq => ?_) (fun cq => ?_)
      · have h := jite_f h cq
        refine j_iload C dX9_way_125 2 rfl ?_
        refine j_bipush C dX9_way_127 (v := (-2)) (by decide) ?_
        refine j_icmp_ne C dX9_way_129 (tgt := 139) (by decide) (fun cq => ?_) (fun cq => ?_)
        · have h := jite_f h cq
          refine j_iload C dX9_way_139 2 rfl ?_
          refine j_aload_n C dX9_way_141 1 rfl ?_
          refine j_getW C dX9_way_142 inX9 rfl (by decide) rfl 31 (by decide) w_952 rfl rfl ?_
          refine j_icmp_ge C dX9_way_145 (tgt := 158) (by decide) (fun cq => ?_) (fun cq => ?_)
          · have h := jite_t h cq
            refine j_bipush C dX9_way_158 (v := (-3)) (by decide) ?_
            exact j_iret C dX9_way_160 rfl rfl (Nat.zero_le _) (Nat.zero_le _) (jretWI h)
          · have h := jite_f h cq
            refine j_aload_n C dX9_way_148 1 rfl ?_
            refine j_getW C dX9_way_149 inX9 rfl (by decide) rfl 29 (by decide) w_950 rfl rfl ?_
            refine j_iload C dX9_way_152 2 rfl ?_
            obtain ⟨c154_5, h⟩ := jchk h
            refine j_ialdW C dX9_way_154 (by decide) rfl (jin_vp c154_5) ?_
            refine j_goto C dX9_way_155 (tgt := 160) (by decide) ?_
            exact j_iret C dX9_way_160 rfl rfl (Nat.zero_le _) (Nat.zero_le _) (jretWI h)
        · have h := jite_t h cq
          refine j_aload_n C dX9_way_132 1 rfl ?_
          refine j_getW C dX9_way_133 inX9 rfl (by decide) rfl 31 (by decide) w_952 rfl rfl ?_
          refine j_goto C dX9_way_136 (tgt := 160) (by decide) ?_
          exact j_iret C dX9_way_160 rfl rfl (Nat.zero_le _) (Nat.zero_le _) (jretWI h)
      · have h := jite_t h cq
        refine j_iload C dX9_way_117 0 rfl ?_
        refine j_bipush C dX9_way_119 (v := 100) (by decide) ?_
        refine j_idiv C dX9_way_121 (by decide) ?_
        refine j_goto C dX9_way_122 (tgt := 160) (by decide) ?_
        exact j_iret C dX9_way_160 rfl rfl (Nat.zero_le _) (Nat.zero_le _) (jretWI h)
    · have h := jite_t h cq
      refine j_bipush C dX9_way_108 (v := (-3)) (by decide) ?_
      exact j_iret C dX9_way_110 rfl rfl (Nat.zero_le _) (Nat.zero_le _) (jretWI h)
  show K 0 0 (jw 15 (cellM G) ad s) 0 [(0, .ref (ad 0)), (1, .int v1), (2, .int v2), (3, .int v3), (4, .int v4), (5, .int v5), (6, .int (jb v6)), (7, .int v7)] []
  refine j_aload_n C dX9_way_0 0 rfl ?_
  refine j_iload_n C dX9_way_1 1 rfl ?_
  refine j_iload_n C dX9_way_2 2 rfl ?_
  refine j_iload_n C dX9_way_3 3 rfl ?_
  refine j_iload C dX9_way_4 5 rfl ?_
  refine j_cV1 C dX9_way_6 (m_X9_isTraveller v1 v2 v3 v5 s rfl) kc_X9_isTraveller w_1206 w_1208 wp_70 w_11 jy_X9_isTraveller ⟨⟨Nat.le_of_ble_eq_true rfl, Nat.le_of_ble_eq_true rfl⟩, ⟨rfl, rfl⟩, ⟨Nat.zero_le _, Nat.zero_le _⟩⟩ (Nat.le_of_ble_eq_true rfl) (by decide) rfl (r := (RX9, TX9, 32)) rfl rfl rfl (fun _ _ h => h) ?_
  refine j_if_eq C dX9_way_9 (tgt := 30) (by decide) (fun cq => ?_) (fun cq => ?_)
  · have h := jite_f h (jb_f cq)
    refine j_bipush C dX9_way_30 (v := (-3)) (by decide) ?_
    exact j_iret C dX9_way_32 rfl rfl (Nat.zero_le _) (Nat.zero_le _) (jretWI h)
  · have h := jite_t h (jb_t cq)
    refine j_iload C dX9_way_12 4 rfl ?_
    refine j_iconst C dX9_way_14 (v := 1) (by decide) ?_
    refine j_bipush C dX9_way_15 (v := 48) (by decide) ?_
    refine j_cS1 C dX9_way_17 (m_X9_isIn v4 1 48 rfl) kc_X9_isIn w_1025 w_1026 w_11 jy_X9_isIn ⟨⟨Nat.le_of_ble_eq_true rfl, Nat.le_of_ble_eq_true rfl⟩, ⟨rfl, rfl⟩, ⟨Nat.zero_le _, Nat.zero_le _⟩⟩ (Nat.le_of_ble_eq_true rfl) rfl (fun _ _ h => h) ?_
    refine j_if_eq C dX9_way_20 (tgt := 30) (by decide) (fun cq => ?_) (fun cq => ?_)
    · have h := jite_f h (jb_f cq)
      refine j_bipush C dX9_way_30 (v := (-3)) (by decide) ?_
      exact j_iret C dX9_way_32 rfl rfl (Nat.zero_le _) (Nat.zero_le _) (jretWI h)
    · have h := jite_t h (jb_t cq)
      refine j_iload C dX9_way_23 7 rfl ?_
      refine j_bipush C dX9_way_25 (v := (-2)) (by decide) ?_
      refine j_icmp_ge C dX9_way_27 (tgt := 33) (by decide) (fun cq => ?_) (fun cq => ?_)
      · have h := jite_t h cq
        refine j_aload_n C dX9_way_33 0 rfl ?_
        refine j_getW C dX9_way_34 inX9 rfl (by decide) rfl 25 (by decide) w_946 rfl rfl ?_
        refine j_bipush C dX9_way_37 (v := 24) (by decide) ?_
        refine j_iload_n C dX9_way_39 1 rfl ?_
        refine j_iastW C dX9_way_40 (by decide) (fun _ => rfl) (jin_vp (i := 24) (n := 28) (by decide)) (fun s40_1 hs40_1 => ?_)
        have h := jlet h hs40_1
        refine j_aload_n C dX9_way_41 0 rfl ?_
        refine j_getW C dX9_way_42 inX9 rfl (by decide) rfl 25 (by decide) w_946 rfl rfl ?_
        refine j_bipush C dX9_way_45 (v := 25) (by decide) ?_
        refine j_iload_n C dX9_way_47 2 rfl ?_
        refine j_iastW C dX9_way_48 (by decide) (fun _ => rfl) (jin_vp (i := 25) (n := 28) (by decide)) (fun s48_2 hs48_2 => ?_)
        have h := jlet h hs48_2
        refine j_aload_n C dX9_way_49 0 rfl ?_
        refine j_getW C dX9_way_50 inX9 rfl (by decide) rfl 25 (by decide) w_946 rfl rfl ?_
        refine j_bipush C dX9_way_53 (v := 26) (by decide) ?_
        refine j_iload_n C dX9_way_55 3 rfl ?_
        refine j_iastW C dX9_way_56 (by decide) (fun _ => rfl) (jin_vp (i := 26) (n := 28) (by decide)) (fun s56_3 hs56_3 => ?_)
        have h := jlet h hs56_3
        refine j_aload_n C dX9_way_57 0 rfl ?_
        refine j_getW C dX9_way_58 inX9 rfl (by decide) rfl 25 (by decide) w_946 rfl rfl ?_
        refine j_bipush C dX9_way_61 (v := 27) (by decide) ?_
        refine j_iload C dX9_way_63 5 rfl ?_
        refine j_iastW C dX9_way_65 (by decide) (fun _ => rfl) (jin_vp (i := 27) (n := 28) (by decide)) (fun s65_4 hs65_4 => ?_)
        have h := jlet h hs65_4
        refine j_aload_n C dX9_way_66 0 rfl ?_
        refine j_bipush C dX9_way_67 (v := 6) (by decide) ?_
        refine j_bipush C dX9_way_69 (v := 7) (by decide) ?_
        obtain ⟨p71, he71, h⟩ := jbind h
        refine j_cV0 C dX9_way_71 (m_X9_forgetLeasts n 6 7 s65_4 he71) kc_X9_forgetLeasts w_1252 w_1254 wp_74 w_11 jy_X9_forgetLeasts ⟨⟨Nat.le_of_ble_eq_true rfl, Nat.le_of_ble_eq_true rfl⟩, ⟨rfl, rfl⟩, ⟨Nat.zero_le _, Nat.zero_le _⟩⟩ (Nat.le_of_ble_eq_true rfl) (by decide) rfl (r := (RX9, TX9, 32)) rfl rfl rfl (fun _ _ h => h) ?_
        refine j_iload C dX9_way_74 6 rfl ?_
        refine j_if_eq C dX9_way_76 (tgt := 90) (by decide) (fun cq => ?_) (fun cq => ?_)
        · have h := jite_f h (jb_f cq)
          refine j_aload_n C dX9_way_90 0 rfl ?_
          refine j_bipush C dX9_way_91 (v := 6) (by decide) ?_
          refine j_iload C dX9_way_93 4 rfl ?_
          obtain ⟨p95, he95, h⟩ := jbind h
          refine j_cV1 C dX9_way_95 (m_X9_cheapest n 6 v4 p71 he95) kc_X9_cheapest w_1281 w_1283 wp_80 w_11 jy_X9_cheapest ⟨⟨Nat.le_of_ble_eq_true rfl, Nat.le_of_ble_eq_true rfl⟩, ⟨rfl, rfl⟩, ⟨Nat.zero_le _, Nat.zero_le _⟩⟩ (Nat.le_of_ble_eq_true rfl) (by decide) rfl (r := (RX9, TX9, 32)) rfl rfl rfl (fun _ _ h => h) ?_
          refine j_loc C [0, 7] rfl ?_
          exact jn98 v7 p95.1 p95.2  h
        · have h := jite_t h (jb_t cq)
          refine j_aload_n C dX9_way_79 0 rfl ?_
          refine j_bipush C dX9_way_80 (v := 6) (by decide) ?_
          refine j_iload C dX9_way_82 4 rfl ?_
          obtain ⟨p84, he84, h⟩ := jbind h
          refine j_cV1 C dX9_way_84 (m_X9_soonestOf n 6 v4 p71 he84) kc_X9_soonestOf w_1257 w_1259 wp_75 w_11 jy_X9_soonestOf ⟨⟨Nat.le_of_ble_eq_true rfl, Nat.le_of_ble_eq_true rfl⟩, ⟨rfl, rfl⟩, ⟨Nat.zero_le _, Nat.zero_le _⟩⟩ (Nat.le_of_ble_eq_true rfl) (by decide) rfl (r := (RX9, TX9, 32)) rfl rfl rfl (fun _ _ h => h) ?_
          refine j_goto C dX9_way_87 (tgt := 98) (by decide) ?_
          refine j_loc C [0, 7] rfl ?_
          exact jn98 v7 p84.1 p84.2  h
      · have h := jite_f h cq
        refine j_bipush C dX9_way_30 (v := (-3)) (by decide) ?_
        exact j_iret C dX9_way_32 rfl rfl (Nat.zero_le _) (Nat.zero_le _) (jretWI h)
-- X9_guest
def F_X9_guest (v1 : Int32) (v2 : Int32) (v3 : Int32) (v4 : Int32) (s : jS) : Option (Int32 × jS) :=
  (if (F_X9_isTraveller v1 v2 v3 v4 s) = true then (if (s.1 1 (Int32.toNatClampNeg 2)) = 6 then some ((-1), s) else (if jin (60 + (4 * (s.1 1 (Int32.toNatClampNeg 2)))) 324 = true then (jl (upI s 1 (Int32.toNatClampNeg (60 + (4 * (s.1 1 (Int32.toNatClampNeg 2))))) v1) fun s45_2 => (if jin ((60 + (4 * (s.1 1 (Int32.toNatClampNeg 2)))) + 1) 324 = true then (jl (upI s45_2 1 (Int32.toNatClampNeg ((60 + (4 * (s.1 1 (Int32.toNatClampNeg 2)))) + 1)) v2) fun s55_4 => (if jin ((60 + (4 * (s.1 1 (Int32.toNatClampNeg 2)))) + 2) 324 = true then (jl (upI s55_4 1 (Int32.toNatClampNeg ((60 + (4 * (s.1 1 (Int32.toNatClampNeg 2)))) + 2)) v3) fun s65_6 => (if jin ((60 + (4 * (s.1 1 (Int32.toNatClampNeg 2)))) + 3) 324 = true then (jl (upI s65_6 1 (Int32.toNatClampNeg ((60 + (4 * (s.1 1 (Int32.toNatClampNeg 2)))) + 3)) v4) fun s76_8 => (jl (upI s76_8 1 (Int32.toNatClampNeg 2) ((s76_8.1 1 (Int32.toNatClampNeg 2)) + 1)) fun s86_9 => some ((s86_9.1 1 (Int32.toNatClampNeg 2)), s86_9))) else none)) else none)) else none)) else none)) else some ((-1), s))
def rm_X9_guest : Room := { frames := 3, cells := 0, slots := 0, locals := 66 }
set_option maxHeartbeats 4000000 in
set_option maxRecDepth 100000 in
theorem m_X9_guest {l : Launch} {D : va_G} {G : Nat → ClassId} {KV : jV} {ad : Nat → Nat} (v1 : Int32) (v2 : Int32) (v3 : Int32) (v4 : Int32) (s : jS) {p : Int32 × jS} (h : F_X9_guest v1 v2 v3 v4 s = some p) : jM l D G KV yX9_guest cX9_guest 6 (some .int) rm_X9_guest [.ref (ad 0), .int v1, .int v2, .int v3, .int v4] (jw 15 (cellM G) ad s) 0 0 (fun v u => v = some (.int p.1) ∧ u = jw 15 (cellM G) ad p.2) := by
  refine jM.of (by decide) (Nat.le_of_ble_eq_true rfl) ?_
  intro K C
  unfold F_X9_guest at h
  show K 0 0 (jw 15 (cellM G) ad s) 0 [(0, .ref (ad 0)), (1, .int v1), (2, .int v2), (3, .int v3), (4, .int v4)] []
  refine j_aload_n C dX9_guest_0 0 rfl ?_
  refine j_iload_n C dX9_guest_1 1 rfl ?_
  refine j_iload_n C dX9_guest_2 2 rfl ?_
  refine j_iload_n C dX9_guest_3 3 rfl ?_
  refine j_iload C dX9_guest_4 4 rfl ?_
  refine j_cV1 C dX9_guest_6 (m_X9_isTraveller v1 v2 v3 v4 s rfl) kc_X9_isTraveller w_1206 w_1208 wp_70 w_11 jy_X9_isTraveller ⟨⟨Nat.le_of_ble_eq_true rfl, Nat.le_of_ble_eq_true rfl⟩, ⟨rfl, rfl⟩, ⟨Nat.zero_le _, Nat.zero_le _⟩⟩ (Nat.le_of_ble_eq_true rfl) (by decide) rfl (r := (RX9, TX9, 32)) rfl rfl rfl (fun _ _ h => h) ?_
  refine j_if_eq C dX9_guest_9 (tgt := 23) (by decide) (fun cq => ?_) (fun cq => ?_)
  · have h := jite_f h (jb_f cq)
    refine j_iconst C dX9_guest_23 (v := (-1)) (by decide) ?_
    exact j_iret C dX9_guest_24 rfl rfl (Nat.zero_le _) (Nat.zero_le _) (jretWI h)
  · have h := jite_t h (jb_t cq)
    refine j_aload_n C dX9_guest_12 0 rfl ?_
    refine j_getW C dX9_guest_13 inX9 rfl (by decide) rfl 0 (by decide) w_923 rfl rfl ?_
    refine j_iconst C dX9_guest_16 (v := 2) (by decide) ?_
    refine j_ialdW C dX9_guest_17 (by decide) rfl (jin_vp (i := 2) (n := 324) (by decide)) ?_
    refine j_bipush C dX9_guest_18 (v := 6) (by decide) ?_
    refine j_icmp_ne C dX9_guest_20 (tgt := 25) (by decide) (fun cq => ?_) (fun cq => ?_)
    · have h := jite_f h cq
      refine j_bipush C dX9_guest_25 (v := 60) (by decide) ?_
      refine j_iconst C dX9_guest_27 (v := 4) (by decide) ?_
      refine j_aload_n C dX9_guest_28 0 rfl ?_
      refine j_getW C dX9_guest_29 inX9 rfl (by decide) rfl 0 (by decide) w_923 rfl rfl ?_
      refine j_iconst C dX9_guest_32 (v := 2) (by decide) ?_
      refine j_ialdW C dX9_guest_33 (by decide) rfl (jin_vp (i := 2) (n := 324) (by decide)) ?_
      refine j_imul C dX9_guest_34 ?_
      refine j_iadd C dX9_guest_35 ?_
      refine j_istore C dX9_guest_36 (by decide) rfl ?_
      refine j_aload_n C dX9_guest_38 1 rfl ?_
      refine j_getW C dX9_guest_39 inX9 rfl (by decide) rfl 0 (by decide) w_923 rfl rfl ?_
      refine j_iload C dX9_guest_42 0 rfl ?_
      refine j_iload_n C dX9_guest_44 2 rfl ?_
      obtain ⟨c45_1, h⟩ := jchk h
      refine j_iastW C dX9_guest_45 (by decide) (fun _ => rfl) (jin_vp c45_1) (fun s45_2 hs45_2 => ?_)
      have h := jlet h hs45_2
      refine j_aload_n C dX9_guest_46 1 rfl ?_
      refine j_getW C dX9_guest_47 inX9 rfl (by decide) rfl 0 (by decide) w_923 rfl rfl ?_
      refine j_iload C dX9_guest_50 0 rfl ?_
      refine j_iconst C dX9_guest_52 (v := 1) (by decide) ?_
      refine j_iadd C dX9_guest_53 ?_
      refine j_iload_n C dX9_guest_54 3 rfl ?_
      obtain ⟨c55_3, h⟩ := jchk h
      refine j_iastW C dX9_guest_55 (by decide) (fun _ => rfl) (jin_vp c55_3) (fun s55_4 hs55_4 => ?_)
      have h := jlet h hs55_4
      refine j_aload_n C dX9_guest_56 1 rfl ?_
      refine j_getW C dX9_guest_57 inX9 rfl (by decide) rfl 0 (by decide) w_923 rfl rfl ?_
      refine j_iload C dX9_guest_60 0 rfl ?_
      refine j_iconst C dX9_guest_62 (v := 2) (by decide) ?_
      refine j_iadd C dX9_guest_63 ?_
      refine j_iload_n C dX9_guest_64 4 rfl ?_
      obtain ⟨c65_5, h⟩ := jchk h
      refine j_iastW C dX9_guest_65 (by decide) (fun _ => rfl) (jin_vp c65_5) (fun s65_6 hs65_6 => ?_)
      have h := jlet h hs65_6
      refine j_aload_n C dX9_guest_66 1 rfl ?_
      refine j_getW C dX9_guest_67 inX9 rfl (by decide) rfl 0 (by decide) w_923 rfl rfl ?_
      refine j_iload C dX9_guest_70 0 rfl ?_
      refine j_iconst C dX9_guest_72 (v := 3) (by decide) ?_
      refine j_iadd C dX9_guest_73 ?_
      refine j_iload C dX9_guest_74 5 rfl ?_
      obtain ⟨c76_7, h⟩ := jchk h
      refine j_iastW C dX9_guest_76 (by decide) (fun _ => rfl) (jin_vp c76_7) (fun s76_8 hs76_8 => ?_)
      have h := jlet h hs76_8
      refine j_aload_n C dX9_guest_77 1 rfl ?_
      refine j_getW C dX9_guest_78 inX9 rfl (by decide) rfl 0 (by decide) w_923 rfl rfl ?_
      refine j_iconst C dX9_guest_81 (v := 2) (by decide) ?_
      refine j_dup2 C dX9_guest_82 rfl rfl ?_
      refine j_ialdW C dX9_guest_83 (by decide) rfl (jin_vp (i := 2) (n := 324) (by decide)) ?_
      refine j_iconst C dX9_guest_84 (v := 1) (by decide) ?_
      refine j_iadd C dX9_guest_85 ?_
      refine j_iastW C dX9_guest_86 (by decide) (fun _ => rfl) (jin_vp (i := 2) (n := 324) (by decide)) (fun s86_9 hs86_9 => ?_)
      have h := jlet h hs86_9
      refine j_aload_n C dX9_guest_87 1 rfl ?_
      refine j_getW C dX9_guest_88 inX9 rfl (by decide) rfl 0 (by decide) w_923 rfl rfl ?_
      refine j_iconst C dX9_guest_91 (v := 2) (by decide) ?_
      refine j_ialdW C dX9_guest_92 (by decide) rfl (jin_vp (i := 2) (n := 324) (by decide)) ?_
      exact j_iret C dX9_guest_93 rfl rfl (Nat.zero_le _) (Nat.zero_le _) (jretWI h)
    · have h := jite_t h cq
      refine j_iconst C dX9_guest_23 (v := (-1)) (by decide) ?_
      exact j_iret C dX9_guest_24 rfl rfl (Nat.zero_le _) (Nat.zero_le _) (jretWI h)
-- X9_clear
def F_X9_clear (s : jS) : Option (Int32 × jS) :=
  (jl (upI s 1 (Int32.toNatClampNeg 2) 0) fun s13_1 => some ((s.1 1 (Int32.toNatClampNeg 2)), s13_1))
def rm_X9_clear : Room := { frames := 0, cells := 0, slots := 0, locals := 0 }
set_option maxHeartbeats 4000000 in
set_option maxRecDepth 100000 in
theorem m_X9_clear {l : Launch} {D : va_G} {G : Nat → ClassId} {KV : jV} {ad : Nat → Nat} (s : jS) {p : Int32 × jS} (h : F_X9_clear s = some p) : jM l D G KV yX9_clear cX9_clear 2 (some .int) rm_X9_clear [.ref (ad 0)] (jw 15 (cellM G) ad s) 0 0 (fun v u => v = some (.int p.1) ∧ u = jw 15 (cellM G) ad p.2) := by
  refine jM.of (by decide) (Nat.le_of_ble_eq_true rfl) ?_
  intro K C
  unfold F_X9_clear at h
  show K 0 0 (jw 15 (cellM G) ad s) 0 [(0, .ref (ad 0))] []
  refine j_aload_n C dX9_clear_0 0 rfl ?_
  refine j_getW C dX9_clear_1 inX9 rfl (by decide) rfl 0 (by decide) w_923 rfl rfl ?_
  refine j_iconst C dX9_clear_4 (v := 2) (by decide) ?_
  refine j_ialdW C dX9_clear_5 (by decide) rfl (jin_vp (i := 2) (n := 324) (by decide)) ?_
  refine j_istore_n C dX9_clear_6 (by decide) rfl ?_
  refine j_aload_n C dX9_clear_7 1 rfl ?_
  refine j_getW C dX9_clear_8 inX9 rfl (by decide) rfl 0 (by decide) w_923 rfl rfl ?_
  refine j_iconst C dX9_clear_11 (v := 2) (by decide) ?_
  refine j_iconst C dX9_clear_12 (v := 0) (by decide) ?_
  refine j_iastW C dX9_clear_13 (by decide) (fun _ => rfl) (jin_vp (i := 2) (n := 324) (by decide)) (fun s13_1 hs13_1 => ?_)
  have h := jlet h hs13_1
  refine j_iload_n C dX9_clear_14 0 rfl ?_
  exact j_iret C dX9_clear_15 rfl rfl (Nat.zero_le _) (Nat.zero_le _) (jretWI h)
-- X9_beginGuests
def B_X9_beginGuests_2 (n : Nat) (q : Int32 × jS) : Option ((Int32 × jS) ⊕ (Int32 × jS)) :=
  (if 24 ≤ q.1 then some (.inr (q.1, q.2)) else (if jin (60 + q.1) 324 = true then (if jin q.1 28 = true then (jl (upI q.2 9 (Int32.toNatClampNeg q.1) (q.2.1 1 (Int32.toNatClampNeg (60 + q.1)))) fun s22_3 => some (.inl ((q.1 + 1), s22_3))) else none) else none))
def F_X9_beginGuests (n : Nat) (s : jS) : Option jS :=
  ((lp (B_X9_beginGuests_2 n) n (0, s)).bind fun e2 => ((F_X9_forgetLeasts n 0 (e2.2.1 1 (Int32.toNatClampNeg 2)) e2.2).bind fun p37 => some p37))
def rm_X9_beginGuests : Room := { frames := 1, cells := 0, slots := 0, locals := 23 }
set_option maxHeartbeats 4000000 in
set_option maxRecDepth 100000 in
theorem m_X9_beginGuests {l : Launch} {D : va_G} {G : Nat → ClassId} {KV : jV} {ad : Nat → Nat} (n : Nat) (s : jS) {p : jS} (h : F_X9_beginGuests n s = some p) : jM l D G KV yX9_beginGuests cX9_beginGuests 2 none rm_X9_beginGuests [.ref (ad 0)] (jw 15 (cellM G) ad s) 0 0 (fun v u => v = none ∧ u = jw 15 (cellM G) ad p) := by
  refine jM.of (by decide) (Nat.le_of_ble_eq_true rfl) ?_
  intro K C
  unfold F_X9_beginGuests at h
  have lo2 : ∀ (s : jS) (k : Nat) (q : Int32 × jS) (e : Int32 × jS), lp (B_X9_beginGuests_2 n) k q = some e → K 0 0 (jw 15 (cellM G) ad e.2) 29 [(0, .ref (ad 0))] [] → K 0 0 (jw 15 (cellM G) ad q.2) 2 [(0, .ref (ad 0)), (1, .int q.1)] [] := by
    intro s k q e he hE
    refine jlp (KH := fun q => K 0 0 (jw 15 (cellM G) ad q.2) 2 [(0, .ref (ad 0)), (1, .int q.1)] []) (KE := fun e => K 0 0 (jw 15 (cellM G) ad e.2) 29 [(0, .ref (ad 0))] []) ?_ k q e he hE
    intro q o hb hin hout
    unfold B_X9_beginGuests_2 at hb
    show K 0 0 (jw 15 (cellM G) ad q.2) 2 [(0, .ref (ad 0)), (1, .int q.1)] []
    refine j_iload_n C dX9_beginGuests_2 1 rfl ?_
    refine j_bipush C dX9_beginGuests_3 (v := 24) (by decide) ?_
    refine j_icmp_ge C dX9_beginGuests_5 (tgt := 29) (by decide) (fun cq => ?_) (fun cq => ?_)
    · have hb := jite_t hb cq
      refine j_loc C [0] rfl ?_
      have hx := hout _ (jinr hb)
      exact hx
    · have hb := jite_f hb cq
      refine j_aload_n C dX9_beginGuests_8 0 rfl ?_
      refine j_getW C dX9_beginGuests_9 inX9 rfl (by decide) rfl 25 (by decide) w_946 rfl rfl ?_
      refine j_iload_n C dX9_beginGuests_12 1 rfl ?_
      refine j_aload_n C dX9_beginGuests_13 0 rfl ?_
      refine j_getW C dX9_beginGuests_14 inX9 rfl (by decide) rfl 0 (by decide) w_923 rfl rfl ?_
      refine j_bipush C dX9_beginGuests_17 (v := 60) (by decide) ?_
      refine j_iload_n C dX9_beginGuests_19 1 rfl ?_
      refine j_iadd C dX9_beginGuests_20 ?_
      obtain ⟨c21_1, hb⟩ := jchk hb
      refine j_ialdW C dX9_beginGuests_21 (by decide) rfl (jin_vp c21_1) ?_
      obtain ⟨c22_2, hb⟩ := jchk hb
      refine j_iastW C dX9_beginGuests_22 (by decide) (fun _ => rfl) (jin_vp c22_2) (fun s22_3 hs22_3 => ?_)
      have hb := jlet hb hs22_3
      refine j_iinc C dX9_beginGuests_23 1 rfl (v := (q.1 + 1)) rfl (by decide) rfl ?_
      refine j_goto C dX9_beginGuests_26 (tgt := 2) (by decide) ?_
      refine j_loc C [1, 0] rfl ?_
      have hx := hin _ (jinl hb)
      exact hx
  show K 0 0 (jw 15 (cellM G) ad s) 0 [(0, .ref (ad 0))] []
  refine j_iconst C dX9_beginGuests_0 (v := 0) (by decide) ?_
  refine j_istore_n C dX9_beginGuests_1 (by decide) rfl ?_
  refine j_loc C [1, 0] rfl ?_
  obtain ⟨e2, he2, h⟩ := jbind h
  refine lo2  s  n (0, s) e2 he2 ?_
  refine j_aload_n C dX9_beginGuests_29 0 rfl ?_
  refine j_iconst C dX9_beginGuests_30 (v := 0) (by decide) ?_
  refine j_aload_n C dX9_beginGuests_31 0 rfl ?_
  refine j_getW C dX9_beginGuests_32 inX9 rfl (by decide) rfl 0 (by decide) w_923 rfl rfl ?_
  refine j_iconst C dX9_beginGuests_35 (v := 2) (by decide) ?_
  refine j_ialdW C dX9_beginGuests_36 (by decide) rfl (jin_vp (i := 2) (n := 324) (by decide)) ?_
  obtain ⟨p37, he37, h⟩ := jbind h
  refine j_cV0 C dX9_beginGuests_37 (m_X9_forgetLeasts n 0 (e2.2.1 1 (Int32.toNatClampNeg 2)) e2.2 he37) kc_X9_forgetLeasts w_1252 w_1254 wp_74 w_11 jy_X9_forgetLeasts ⟨⟨Nat.le_of_ble_eq_true rfl, Nat.le_of_ble_eq_true rfl⟩, ⟨rfl, rfl⟩, ⟨Nat.zero_le _, Nat.zero_le _⟩⟩ (Nat.le_of_ble_eq_true rfl) (by decide) rfl (r := (RX9, TX9, 32)) rfl rfl rfl (fun _ _ h => h) ?_
  exact j_vret C dX9_beginGuests_40 rfl (Nat.zero_le _) (Nat.zero_le _) (jretWV h)
-- X9_earned
def B_X9_earned_33 (n : Nat) (v1 : Int32) (v3 : Int32) (s : jS) (q : Int32 × Int32) : Option ((Int32 × Int32) ⊕ (Int32 × Int32)) :=
  (if (s.1 0 31) ≤ q.2 then some (.inr (q.1, q.2)) else (if jin q.2 48 = true then (if (s.1 14 (Int32.toNatClampNeg q.2)) = v1 then some (.inl ((q.1 + ((s.1 13 (Int32.toNatClampNeg q.2)) - (s.1 13 (Int32.toNatClampNeg q.2)) / 10 * 10)), (q.2 + 1))) else some (.inl ((q.1 + 0), (q.2 + 1)))) else none))
def B_X9_earned_4 (n : Nat) (v1 : Int32) (q : Int32 × Int32 × jS) : Option ((Int32 × Int32 × jS) ⊕ (Int32 × Int32 × jS)) :=
  (if (q.2.2.1 1 (Int32.toNatClampNeg 2)) ≤ q.2.1 then some (.inr (q.1, q.2.1, q.2.2)) else ((F_X9_cheapest n q.2.1 24 q.2.2).bind fun p18 => (if p18.1 = 1000000 then some (.inl (q.1, (q.2.1 + 1), p18.2)) else ((lp (B_X9_earned_33 n v1 q.2.1 p18.2) n (q.1, 0)).bind fun e33 => some (.inl (e33.1, (q.2.1 + 1), p18.2))))))
def F_X9_earned (n : Nat) (v1 : Int32) (s : jS) : Option (Int32 × jS) :=
  ((lp (B_X9_earned_4 n v1) n (0, 0, s)).bind fun e4 => some (e4.1, e4.2.2))
def rm_X9_earned : Room := { frames := 8, cells := 0, slots := 0, locals := 208 }
set_option maxHeartbeats 4000000 in
set_option maxRecDepth 100000 in
theorem m_X9_earned {l : Launch} {D : va_G} {G : Nat → ClassId} {KV : jV} {ad : Nat → Nat} (n : Nat) (v1 : Int32) (s : jS) {p : Int32 × jS} (h : F_X9_earned n v1 s = some p) : jM l D G KV yX9_earned cX9_earned 5 (some .int) rm_X9_earned [.ref (ad 0), .int v1] (jw 15 (cellM G) ad s) 0 0 (fun v u => v = some (.int p.1) ∧ u = jw 15 (cellM G) ad p.2) := by
  refine jM.of (by decide) (Nat.le_of_ble_eq_true rfl) ?_
  intro K C
  unfold F_X9_earned at h
  have lo33 : ∀ (v1 : Int32) (v3 : Int32) (s : jS) (k : Nat) (q : Int32 × Int32) (e : Int32 × Int32), lp (B_X9_earned_33 n v1 v3 s) k q = some e → K 0 0 (jw 15 (cellM G) ad s) 76 [(0, .ref (ad 0)), (1, .int v1), (2, .int e.1), (3, .int v3)] [] → K 0 0 (jw 15 (cellM G) ad s) 33 [(0, .ref (ad 0)), (1, .int v1), (2, .int q.1), (3, .int v3), (4, .int q.2)] [] := by
    intro v1 v3 s k q e he hE
    refine jlp (KH := fun q => K 0 0 (jw 15 (cellM G) ad s) 33 [(0, .ref (ad 0)), (1, .int v1), (2, .int q.1), (3, .int v3), (4, .int q.2)] []) (KE := fun e => K 0 0 (jw 15 (cellM G) ad s) 76 [(0, .ref (ad 0)), (1, .int v1), (2, .int e.1), (3, .int v3)] []) ?_ k q e he hE
    intro q o hb hin hout
    unfold B_X9_earned_33 at hb
    show K 0 0 (jw 15 (cellM G) ad s) 33 [(0, .ref (ad 0)), (1, .int v1), (2, .int q.1), (3, .int v3), (4, .int q.2)] []
    refine j_iload C dX9_earned_33 4 rfl ?_
    refine j_aload_n C dX9_earned_35 0 rfl ?_
    refine j_getW C dX9_earned_36 inX9 rfl (by decide) rfl 31 (by decide) w_952 rfl rfl ?_
    refine j_icmp_ge C dX9_earned_39 (tgt := 76) (by decide) (fun cq => ?_) (fun cq => ?_)
    · have hb := jite_t hb cq
      refine j_loc C [0, 1, 2, 3] rfl ?_
      have hx := hout _ (jinr hb)
      exact hx
    · have hb := jite_f hb cq
      refine j_iload_n C dX9_earned_42 2 rfl ?_
      refine j_aload_n C dX9_earned_43 0 rfl ?_
      refine j_getW C dX9_earned_44 inX9 rfl (by decide) rfl 30 (by decide) w_951 rfl rfl ?_
      refine j_iload C dX9_earned_47 4 rfl ?_
      obtain ⟨c49_1, hb⟩ := jchk hb
      refine j_ialdW C dX9_earned_49 (by decide) rfl (jin_vp c49_1) ?_
      refine j_iload_n C dX9_earned_50 1 rfl ?_
      refine j_icmp_ne C dX9_earned_51 (tgt := 67) (by decide) (fun cq => ?_) (fun cq => ?_)
      · have hb := jite_f hb cq
        refine j_iconst C dX9_earned_67 (v := 0) (by decide) ?_
        refine j_iadd C dX9_earned_68 ?_
        refine j_istore_n C dX9_earned_69 (by decide) rfl ?_
        refine j_iinc C dX9_earned_70 4 rfl (v := (q.2 + 1)) rfl (by decide) rfl ?_
        refine j_goto C dX9_earned_73 (tgt := 33) (by decide) ?_
        refine j_loc C [2, 3, 1, 4, 0] rfl ?_
        have hx := hin _ (jinl hb)
        exact hx
      · have hb := jite_t hb cq
        refine j_aload_n C dX9_earned_54 0 rfl ?_
        refine j_getW C dX9_earned_55 inX9 rfl (by decide) rfl 29 (by decide) w_950 rfl rfl ?_
        refine j_iload C dX9_earned_58 4 rfl ?_
        refine j_ialdW C dX9_earned_60 (by decide) rfl (jin_vp c49_1) ?_
        refine j_bipush C dX9_earned_61 (v := 10) (by decide) ?_
        refine j_irem C dX9_earned_63 (by decide) ?_
        refine j_goto C dX9_earned_64 (tgt := 68) (by decide) ?_
        refine j_iadd C dX9_earned_68 ?_
        refine j_istore_n C dX9_earned_69 (by decide) rfl ?_
        refine j_iinc C dX9_earned_70 4 rfl (v := (q.2 + 1)) rfl (by decide) rfl ?_
        refine j_goto C dX9_earned_73 (tgt := 33) (by decide) ?_
        refine j_loc C [2, 3, 1, 4, 0] rfl ?_
        have hx := hin _ (jinl hb)
        exact hx
  have lo4 : ∀ (v1 : Int32) (s : jS) (k : Nat) (q : Int32 × Int32 × jS) (e : Int32 × Int32 × jS), lp (B_X9_earned_4 n v1) k q = some e → K 0 0 (jw 15 (cellM G) ad e.2.2) 82 [(2, .int e.1)] [] → K 0 0 (jw 15 (cellM G) ad q.2.2) 4 [(0, .ref (ad 0)), (1, .int v1), (2, .int q.1), (3, .int q.2.1)] [] := by
    intro v1 s k q e he hE
    refine jlp (KH := fun q => K 0 0 (jw 15 (cellM G) ad q.2.2) 4 [(0, .ref (ad 0)), (1, .int v1), (2, .int q.1), (3, .int q.2.1)] []) (KE := fun e => K 0 0 (jw 15 (cellM G) ad e.2.2) 82 [(2, .int e.1)] []) ?_ k q e he hE
    intro q o hb hin hout
    unfold B_X9_earned_4 at hb
    show K 0 0 (jw 15 (cellM G) ad q.2.2) 4 [(0, .ref (ad 0)), (1, .int v1), (2, .int q.1), (3, .int q.2.1)] []
    refine j_iload_n C dX9_earned_4 3 rfl ?_
    refine j_aload_n C dX9_earned_5 0 rfl ?_
    refine j_getW C dX9_earned_6 inX9 rfl (by decide) rfl 0 (by decide) w_923 rfl rfl ?_
    refine j_iconst C dX9_earned_9 (v := 2) (by decide) ?_
    refine j_ialdW C dX9_earned_10 (by decide) rfl (jin_vp (i := 2) (n := 324) (by decide)) ?_
    refine j_icmp_ge C dX9_earned_11 (tgt := 82) (by decide) (fun cq => ?_) (fun cq => ?_)
    · have hb := jite_t hb cq
      refine j_loc C [2] rfl ?_
      have hx := hout _ (jinr hb)
      exact hx
    · have hb := jite_f hb cq
      refine j_aload_n C dX9_earned_14 0 rfl ?_
      refine j_iload_n C dX9_earned_15 3 rfl ?_
      refine j_bipush C dX9_earned_16 (v := 24) (by decide) ?_
      obtain ⟨p18, he18, hb⟩ := jbind hb
      refine j_cV1 C dX9_earned_18 (m_X9_cheapest n q.2.1 24 q.2.2 he18) kc_X9_cheapest w_1281 w_1283 wp_80 w_11 jy_X9_cheapest ⟨⟨Nat.le_of_ble_eq_true rfl, Nat.le_of_ble_eq_true rfl⟩, ⟨rfl, rfl⟩, ⟨Nat.zero_le _, Nat.zero_le _⟩⟩ (Nat.le_of_ble_eq_true rfl) (by decide) rfl (r := (RX9, TX9, 32)) rfl rfl rfl (fun _ _ h => h) ?_
      refine j_ldcw C dX9_earned_21 (v := 1000000) w_1265 ?_
      refine j_icmp_ne C dX9_earned_24 (tgt := 30) (by decide) (fun cq => ?_) (fun cq => ?_)
      · have hb := jite_f hb cq
        refine j_iconst C dX9_earned_30 (v := 0) (by decide) ?_
        refine j_istore C dX9_earned_31 (by decide) rfl ?_
        refine j_loc C [1, 2, 3, 4, 0] rfl ?_
        obtain ⟨e33, he33, hb⟩ := jbind hb
        refine lo33 v1 q.2.1 p18.2  n (q.1, 0) e33 he33 ?_
        refine j_iinc C dX9_earned_76 3 rfl (v := (q.2.1 + 1)) rfl (by decide) rfl ?_
        refine j_goto C dX9_earned_79 (tgt := 4) (by decide) ?_
        refine j_loc C [1, 2, 3, 0] rfl ?_
        have hx := hin _ (jinl hb)
        exact hx
      · have hb := jite_t hb cq
        refine j_goto C dX9_earned_27 (tgt := 76) (by decide) ?_
        refine j_iinc C dX9_earned_76 3 rfl (v := (q.2.1 + 1)) rfl (by decide) rfl ?_
        refine j_goto C dX9_earned_79 (tgt := 4) (by decide) ?_
        refine j_loc C [1, 2, 3, 0] rfl ?_
        have hx := hin _ (jinl hb)
        exact hx
  show K 0 0 (jw 15 (cellM G) ad s) 0 [(0, .ref (ad 0)), (1, .int v1)] []
  refine j_iconst C dX9_earned_0 (v := 0) (by decide) ?_
  refine j_istore_n C dX9_earned_1 (by decide) rfl ?_
  refine j_iconst C dX9_earned_2 (v := 0) (by decide) ?_
  refine j_istore_n C dX9_earned_3 (by decide) rfl ?_
  refine j_loc C [2, 3, 1, 0] rfl ?_
  obtain ⟨e4, he4, h⟩ := jbind h
  refine lo4 v1 s  n (0, 0, s) e4 he4 ?_
  refine j_iload_n C dX9_earned_82 0 rfl ?_
  exact j_iret C dX9_earned_83 rfl rfl (Nat.zero_le _) (Nat.zero_le _) (jretWI h)
-- X9_earns
def F_X9_earns (n : Nat) (v1 : Int32) (s : jS) : Option (Int32 × jS) :=
  (if (F_X9_isDoor v1 s) = true then ((F_X9_beginGuests n s).bind fun p11 => ((F_X9_earned n v1 p11).bind fun p16 => some (p16.1, p16.2))) else some ((-1), s))
def rm_X9_earns : Room := { frames := 9, cells := 0, slots := 0, locals := 232 }
set_option maxHeartbeats 4000000 in
set_option maxRecDepth 100000 in
theorem m_X9_earns {l : Launch} {D : va_G} {G : Nat → ClassId} {KV : jV} {ad : Nat → Nat} (n : Nat) (v1 : Int32) (s : jS) {p : Int32 × jS} (h : F_X9_earns n v1 s = some p) : jM l D G KV yX9_earns cX9_earns 2 (some .int) rm_X9_earns [.ref (ad 0), .int v1] (jw 15 (cellM G) ad s) 0 0 (fun v u => v = some (.int p.1) ∧ u = jw 15 (cellM G) ad p.2) := by
  refine jM.of (by decide) (Nat.le_of_ble_eq_true rfl) ?_
  intro K C
  unfold F_X9_earns at h
  show K 0 0 (jw 15 (cellM G) ad s) 0 [(0, .ref (ad 0)), (1, .int v1)] []
  refine j_aload_n C dX9_earns_0 0 rfl ?_
  refine j_iload_n C dX9_earns_1 1 rfl ?_
  refine j_cV1 C dX9_earns_2 (m_X9_isDoor v1 s rfl) kc_X9_isDoor w_1032 w_1034 wp_44 w_11 jy_X9_isDoor ⟨⟨Nat.le_of_ble_eq_true rfl, Nat.le_of_ble_eq_true rfl⟩, ⟨rfl, rfl⟩, ⟨Nat.zero_le _, Nat.zero_le _⟩⟩ (Nat.le_of_ble_eq_true rfl) (by decide) rfl (r := (RX9, TX9, 32)) rfl rfl rfl (fun _ _ h => h) ?_
  refine j_if_ne C dX9_earns_5 (tgt := 10) (by decide) (fun cq => ?_) (fun cq => ?_)
  · have h := jite_t h (jb_t cq)
    refine j_aload_n C dX9_earns_10 0 rfl ?_
    obtain ⟨p11, he11, h⟩ := jbind h
    refine j_cV0 C dX9_earns_11 (m_X9_beginGuests n s he11) kc_X9_beginGuests w_1297 w_1299 wp_81 w_11 jy_X9_beginGuests ⟨⟨Nat.le_of_ble_eq_true rfl, Nat.le_of_ble_eq_true rfl⟩, ⟨rfl, rfl⟩, ⟨Nat.zero_le _, Nat.zero_le _⟩⟩ (Nat.le_of_ble_eq_true rfl) (by decide) rfl (r := (RX9, TX9, 32)) rfl rfl rfl (fun _ _ h => h) ?_
    refine j_aload_n C dX9_earns_14 0 rfl ?_
    refine j_iload_n C dX9_earns_15 1 rfl ?_
    obtain ⟨p16, he16, h⟩ := jbind h
    refine j_cV1 C dX9_earns_16 (m_X9_earned n v1 p11 he16) kc_X9_earned w_1301 w_1303 wp_82 w_11 jy_X9_earned ⟨⟨Nat.le_of_ble_eq_true rfl, Nat.le_of_ble_eq_true rfl⟩, ⟨rfl, rfl⟩, ⟨Nat.zero_le _, Nat.zero_le _⟩⟩ (Nat.le_of_ble_eq_true rfl) (by decide) rfl (r := (RX9, TX9, 32)) rfl rfl rfl (fun _ _ h => h) ?_
    exact j_iret C dX9_earns_19 rfl rfl (Nat.zero_le _) (Nat.zero_le _) (jretWI h)
  · have h := jite_f h (jb_f cq)
    refine j_iconst C dX9_earns_8 (v := (-1)) (by decide) ?_
    exact j_iret C dX9_earns_9 rfl rfl (Nat.zero_le _) (Nat.zero_le _) (jretWI h)
-- X9_bestRule
def B_X9_bestRule_19 (n : Nat) (v1 : Int32) (v2 : Int32) (q : Int32 × Int32 × Int32 × jS) : Option ((Int32 × Int32 × Int32 × jS) ⊕ (Int32 × Int32 × Int32 × jS)) :=
  (if (q.2.2.2.1 1 (Int32.toNatClampNeg 0)) ≤ q.2.2.1 then some (.inr (q.1, q.2.1, q.2.2.1, q.2.2.2)) else (if jin v1 8 = true then (jl (upI q.2.2.2 10 (Int32.toNatClampNeg v1) q.2.2.1) fun s37_3 => ((F_X9_earned n v1 s37_3).bind fun p40 => (if q.2.1 < p40.1 then some (.inl (q.2.2.1, p40.1, (q.2.2.1 + 1), p40.2)) else some (.inl (q.1, q.2.1, (q.2.2.1 + 1), p40.2))))) else none))
def F_X9_bestRule (n : Nat) (v1 : Int32) (s : jS) : Option (Int32 × jS) :=
  (if jin v1 8 = true then ((F_X9_earned n v1 s).bind fun p11 => ((lp (B_X9_bestRule_19 n v1 (s.1 10 (Int32.toNatClampNeg v1))) n ((s.1 10 (Int32.toNatClampNeg v1)), p11.1, (-1), p11.2)).bind fun e19 => (if jin v1 8 = true then (jl (upI e19.2.2.2 10 (Int32.toNatClampNeg v1) (s.1 10 (Int32.toNatClampNeg v1))) fun s74_5 => some (e19.1, s74_5)) else none))) else none)
def rm_X9_bestRule : Room := { frames := 9, cells := 0, slots := 0, locals := 232 }
set_option maxHeartbeats 4000000 in
set_option maxRecDepth 100000 in
theorem m_X9_bestRule {l : Launch} {D : va_G} {G : Nat → ClassId} {KV : jV} {ad : Nat → Nat} (n : Nat) (v1 : Int32) (s : jS) {p : Int32 × jS} (h : F_X9_bestRule n v1 s = some p) : jM l D G KV yX9_bestRule cX9_bestRule 7 (some .int) rm_X9_bestRule [.ref (ad 0), .int v1] (jw 15 (cellM G) ad s) 0 0 (fun v u => v = some (.int p.1) ∧ u = jw 15 (cellM G) ad p.2) := by
  refine jM.of (by decide) (Nat.le_of_ble_eq_true rfl) ?_
  intro K C
  unfold F_X9_bestRule at h
  have lo19 : ∀ (v1 : Int32) (v2 : Int32) (s : jS) (k : Nat) (q : Int32 × Int32 × Int32 × jS) (e : Int32 × Int32 × Int32 × jS), lp (B_X9_bestRule_19 n v1 v2) k q = some e → K 0 0 (jw 15 (cellM G) ad e.2.2.2) 68 [(0, .ref (ad 0)), (1, .int v1), (2, .int v2), (3, .int e.1)] [] → K 0 0 (jw 15 (cellM G) ad q.2.2.2) 19 [(0, .ref (ad 0)), (1, .int v1), (2, .int v2), (3, .int q.1), (4, .int q.2.1), (5, .int q.2.2.1)] [] := by
    intro v1 v2 s k q e he hE
    refine jlp (KH := fun q => K 0 0 (jw 15 (cellM G) ad q.2.2.2) 19 [(0, .ref (ad 0)), (1, .int v1), (2, .int v2), (3, .int q.1), (4, .int q.2.1), (5, .int q.2.2.1)] []) (KE := fun e => K 0 0 (jw 15 (cellM G) ad e.2.2.2) 68 [(0, .ref (ad 0)), (1, .int v1), (2, .int v2), (3, .int e.1)] []) ?_ k q e he hE
    intro q o hb hin hout
    unfold B_X9_bestRule_19 at hb
    show K 0 0 (jw 15 (cellM G) ad q.2.2.2) 19 [(0, .ref (ad 0)), (1, .int v1), (2, .int v2), (3, .int q.1), (4, .int q.2.1), (5, .int q.2.2.1)] []
    refine j_iload C dX9_bestRule_19 5 rfl ?_
    refine j_aload_n C dX9_bestRule_21 0 rfl ?_
    refine j_getW C dX9_bestRule_22 inX9 rfl (by decide) rfl 0 (by decide) w_923 rfl rfl ?_
    refine j_iconst C dX9_bestRule_25 (v := 0) (by decide) ?_
    refine j_ialdW C dX9_bestRule_26 (by decide) rfl (jin_vp (i := 0) (n := 324) (by decide)) ?_
    refine j_icmp_ge C dX9_bestRule_27 (tgt := 68) (by decide) (fun cq => ?_) (fun cq => ?_)
    · have hb := jite_t hb cq
      refine j_loc C [0, 1, 2, 3] rfl ?_
      have hx := hout _ (jinr hb)
      exact hx
    · have hb := jite_f hb cq
      refine j_aload_n C dX9_bestRule_30 0 rfl ?_
      refine j_getW C dX9_bestRule_31 inX9 rfl (by decide) rfl 26 (by decide) w_947 rfl rfl ?_
      refine j_iload_n C dX9_bestRule_34 1 rfl ?_
      refine j_iload C dX9_bestRule_35 5 rfl ?_
      obtain ⟨c37_2, hb⟩ := jchk hb
      refine j_iastW C dX9_bestRule_37 (by decide) (fun _ => rfl) (jin_vp c37_2) (fun s37_3 hs37_3 => ?_)
      have hb := jlet hb hs37_3
      refine j_aload_n C dX9_bestRule_38 0 rfl ?_
      refine j_iload_n C dX9_bestRule_39 1 rfl ?_
      obtain ⟨p40, he40, hb⟩ := jbind hb
      refine j_cV1 C dX9_bestRule_40 (m_X9_earned n v1 s37_3 he40) kc_X9_earned w_1301 w_1303 wp_82 w_11 jy_X9_earned ⟨⟨Nat.le_of_ble_eq_true rfl, Nat.le_of_ble_eq_true rfl⟩, ⟨rfl, rfl⟩, ⟨Nat.zero_le _, Nat.zero_le _⟩⟩ (Nat.le_of_ble_eq_true rfl) (by decide) rfl (r := (RX9, TX9, 32)) rfl rfl rfl (fun _ _ h => h) ?_
      refine j_istore C dX9_bestRule_43 (by decide) rfl ?_
      refine j_iload C dX9_bestRule_45 0 rfl ?_
      refine j_iload C dX9_bestRule_47 5 rfl ?_
      refine j_icmp_gt C dX9_bestRule_49 (tgt := 55) (by decide) (fun cq => ?_) (fun cq => ?_)
      · have hb := jite_t hb cq
        refine j_iload C dX9_bestRule_55 6 rfl ?_
        refine j_istore_n C dX9_bestRule_57 (by decide) rfl ?_
        refine j_iload C dX9_bestRule_58 1 rfl ?_
        refine j_istore C dX9_bestRule_60 (by decide) rfl ?_
        refine j_iinc C dX9_bestRule_62 6 rfl (v := (q.2.2.1 + 1)) rfl (by decide) rfl ?_
        refine j_goto C dX9_bestRule_65 (tgt := 19) (by decide) ?_
        refine j_loc C [4, 5, 6, 2, 1, 0] rfl ?_
        have hx := hin _ (jinl hb)
        exact hx
      · have hb := jite_f hb cq
        refine j_goto C dX9_bestRule_52 (tgt := 62) (by decide) ?_
        refine j_iinc C dX9_bestRule_62 6 rfl (v := (q.2.2.1 + 1)) rfl (by decide) rfl ?_
        refine j_goto C dX9_bestRule_65 (tgt := 19) (by decide) ?_
        refine j_loc C [2, 3, 4, 5, 6, 0] rfl ?_
        have hx := hin _ (jinl hb)
        exact hx
  show K 0 0 (jw 15 (cellM G) ad s) 0 [(0, .ref (ad 0)), (1, .int v1)] []
  refine j_aload_n C dX9_bestRule_0 0 rfl ?_
  refine j_getW C dX9_bestRule_1 inX9 rfl (by decide) rfl 26 (by decide) w_947 rfl rfl ?_
  refine j_iload_n C dX9_bestRule_4 1 rfl ?_
  obtain ⟨c5_1, h⟩ := jchk h
  refine j_ialdW C dX9_bestRule_5 (by decide) rfl (jin_vp c5_1) ?_
  refine j_istore_n C dX9_bestRule_6 (by decide) rfl ?_
  refine j_iload_n C dX9_bestRule_7 0 rfl ?_
  refine j_istore_n C dX9_bestRule_8 (by decide) rfl ?_
  refine j_aload_n C dX9_bestRule_9 2 rfl ?_
  refine j_iload_n C dX9_bestRule_10 3 rfl ?_
  obtain ⟨p11, he11, h⟩ := jbind h
  refine j_cV1 C dX9_bestRule_11 (m_X9_earned n v1 s he11) kc_X9_earned w_1301 w_1303 wp_82 w_11 jy_X9_earned ⟨⟨Nat.le_of_ble_eq_true rfl, Nat.le_of_ble_eq_true rfl⟩, ⟨rfl, rfl⟩, ⟨Nat.zero_le _, Nat.zero_le _⟩⟩ (Nat.le_of_ble_eq_true rfl) (by decide) rfl (r := (RX9, TX9, 32)) rfl rfl rfl (fun _ _ h => h) ?_
  refine j_istore C dX9_bestRule_14 (by decide) rfl ?_
  refine j_iconst C dX9_bestRule_16 (v := (-1)) (by decide) ?_
  refine j_istore C dX9_bestRule_17 (by decide) rfl ?_
  refine j_loc C [4, 5, 3, 2, 1, 0] rfl ?_
  obtain ⟨e19, he19, h⟩ := jbind h
  refine lo19 v1 (s.1 10 (Int32.toNatClampNeg v1)) p11.2  n ((s.1 10 (Int32.toNatClampNeg v1)), p11.1, (-1), p11.2) e19 he19 ?_
  refine j_aload_n C dX9_bestRule_68 0 rfl ?_
  refine j_getW C dX9_bestRule_69 inX9 rfl (by decide) rfl 26 (by decide) w_947 rfl rfl ?_
  refine j_iload_n C dX9_bestRule_72 1 rfl ?_
  refine j_iload_n C dX9_bestRule_73 2 rfl ?_
  obtain ⟨c74_4, h⟩ := jchk h
  refine j_iastW C dX9_bestRule_74 (by decide) (fun _ => rfl) (jin_vp c74_4) (fun s74_5 hs74_5 => ?_)
  have h := jlet h hs74_5
  refine j_iload_n C dX9_bestRule_75 3 rfl ?_
  exact j_iret C dX9_bestRule_76 rfl rfl (Nat.zero_le _) (Nat.zero_le _) (jretWI h)
-- X9_even
def B_X9_even_6 (n : Nat) (q : Int32 × jS) : Option ((Int32 × jS) ⊕ ((Int32 × jS) ⊕ ((Int32 × jS)))) :=
  (if (q.2.1 0 2) ≤ q.1 then some (.inr (.inl (q.1, q.2))) else ((F_X9_bestRule n q.1 q.2).bind fun p16 => (if jin q.1 8 = true then (if p16.1 = (p16.2.1 10 (Int32.toNatClampNeg q.1)) then some (.inl ((q.1 + 1), p16.2)) else some (.inr (.inr (q.1, p16.2)))) else none)))
def F_X9_even (n : Nat) (s : jS) : Option (Int32 × jS) :=
  ((F_X9_beginGuests n s).bind fun p1 => ((lp (B_X9_even_6 n) n (0, p1)).bind fun e => Sum.elim (fun e6 => some ((-1), e6.2)) (fun r6 => some r6) e))
def rm_X9_even : Room := { frames := 10, cells := 0, slots := 0, locals := 258 }
set_option maxHeartbeats 4000000 in
set_option maxRecDepth 100000 in
theorem m_X9_even {l : Launch} {D : va_G} {G : Nat → ClassId} {KV : jV} {ad : Nat → Nat} (n : Nat) (s : jS) {p : Int32 × jS} (h : F_X9_even n s = some p) : jM l D G KV yX9_even cX9_even 2 (some .int) rm_X9_even [.ref (ad 0)] (jw 15 (cellM G) ad s) 0 0 (fun v u => v = some (.int p.1) ∧ u = jw 15 (cellM G) ad p.2) := by
  refine jM.of (by decide) (Nat.le_of_ble_eq_true rfl) ?_
  intro K C
  unfold F_X9_even at h
  have lo6 : ∀ (s : jS) (k : Nat) (q : Int32 × jS) (e : (Int32 × jS) ⊕ ((Int32 × jS))), lp (B_X9_even_6 n) k q = some e → Sum.elim (fun e => K 0 0 (jw 15 (cellM G) ad e.2) 36 [] []) (fun r => some r = some p) e → K 0 0 (jw 15 (cellM G) ad q.2) 6 [(0, .ref (ad 0)), (1, .int q.1)] [] := by
    intro s k q e he hE
    refine jlp (KH := fun q => K 0 0 (jw 15 (cellM G) ad q.2) 6 [(0, .ref (ad 0)), (1, .int q.1)] []) (KE := fun e => Sum.elim (fun e => K 0 0 (jw 15 (cellM G) ad e.2) 36 [] []) (fun r => some r = some p) e) ?_ k q e he hE
    intro q o hb hin hout
    unfold B_X9_even_6 at hb
    show K 0 0 (jw 15 (cellM G) ad q.2) 6 [(0, .ref (ad 0)), (1, .int q.1)] []
    refine j_iload_n C dX9_even_6 1 rfl ?_
    refine j_aload_n C dX9_even_7 0 rfl ?_
    refine j_getW C dX9_even_8 inX9 rfl (by decide) rfl 2 (by decide) w_925 rfl rfl ?_
    refine j_icmp_ge C dX9_even_11 (tgt := 36) (by decide) (fun cq => ?_) (fun cq => ?_)
    · have hb := jite_t hb cq
      refine j_loc C [] rfl ?_
      have hx := hout _ (jinr hb)
      exact hx
    · have hb := jite_f hb cq
      refine j_aload_n C dX9_even_14 0 rfl ?_
      refine j_iload_n C dX9_even_15 1 rfl ?_
      obtain ⟨p16, he16, hb⟩ := jbind hb
      refine j_cV1 C dX9_even_16 (m_X9_bestRule n q.1 q.2 he16) kc_X9_bestRule w_1309 w_1311 wp_83 w_11 jy_X9_bestRule ⟨⟨Nat.le_of_ble_eq_true rfl, Nat.le_of_ble_eq_true rfl⟩, ⟨rfl, rfl⟩, ⟨Nat.zero_le _, Nat.zero_le _⟩⟩ (Nat.le_of_ble_eq_true rfl) (by decide) rfl (r := (RX9, TX9, 32)) rfl rfl rfl (fun _ _ h => h) ?_
      refine j_aload_n C dX9_even_19 0 rfl ?_
      refine j_getW C dX9_even_20 inX9 rfl (by decide) rfl 26 (by decide) w_947 rfl rfl ?_
      refine j_iload_n C dX9_even_23 1 rfl ?_
      obtain ⟨c24_1, hb⟩ := jchk hb
      refine j_ialdW C dX9_even_24 (by decide) rfl (jin_vp c24_1) ?_
      refine j_icmp_eq C dX9_even_25 (tgt := 30) (by decide) (fun cq => ?_) (fun cq => ?_)
      · have hb := jite_t hb cq
        refine j_iinc C dX9_even_30 1 rfl (v := (q.1 + 1)) rfl (by decide) rfl ?_
        refine j_goto C dX9_even_33 (tgt := 6) (by decide) ?_
        refine j_loc C [1, 0] rfl ?_
        have hx := hin _ (jinl hb)
        exact hx
      · have hb := jite_f hb cq
        refine j_iload_n C dX9_even_28 1 rfl ?_
        exact j_iret C dX9_even_29 rfl rfl (Nat.zero_le _) (Nat.zero_le _) (jretWI (jretL hb hout))
  show K 0 0 (jw 15 (cellM G) ad s) 0 [(0, .ref (ad 0))] []
  refine j_aload_n C dX9_even_0 0 rfl ?_
  obtain ⟨p1, he1, h⟩ := jbind h
  refine j_cV0 C dX9_even_1 (m_X9_beginGuests n s he1) kc_X9_beginGuests w_1297 w_1299 wp_81 w_11 jy_X9_beginGuests ⟨⟨Nat.le_of_ble_eq_true rfl, Nat.le_of_ble_eq_true rfl⟩, ⟨rfl, rfl⟩, ⟨Nat.zero_le _, Nat.zero_le _⟩⟩ (Nat.le_of_ble_eq_true rfl) (by decide) rfl (r := (RX9, TX9, 32)) rfl rfl rfl (fun _ _ h => h) ?_
  refine j_iconst C dX9_even_4 (v := 0) (by decide) ?_
  refine j_istore_n C dX9_even_5 (by decide) rfl ?_
  refine j_loc C [1, 0] rfl ?_
  obtain ⟨e6, he6, h⟩ := jbind h
  refine lo6  p1  n (0, p1) e6 he6 ?_
  rcases e6 with e6 | r6
  · show K _ _ _ _ _ _
    refine j_iconst C dX9_even_36 (v := (-1)) (by decide) ?_
    exact j_iret C dX9_even_37 rfl rfl (Nat.zero_le _) (Nat.zero_le _) (jretWI h)
  · exact h
