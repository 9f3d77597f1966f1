theorem dX9_keepStep_0 : decode cX9_keepStep 0 = .ok (.aload_n 0, 1) := by decide +kernel
theorem dX9_keepStep_1 : decode cX9_keepStep 1 = .ok (.getfield 7, 3) := by decide +kernel
theorem dX9_keepStep_4 : decode cX9_keepStep 4 = .ok (.iconst 1, 1) := by decide +kernel
theorem dX9_keepStep_5 : decode cX9_keepStep 5 = .ok (.iaload, 1) := by decide +kernel
theorem dX9_keepStep_6 : decode cX9_keepStep 6 = .ok (.bipush 30, 2) := by decide +kernel
theorem dX9_keepStep_8 : decode cX9_keepStep 8 = .ok (.if_icmp .ne 49, 3) := by decide +kernel
theorem dX9_keepStep_11 : decode cX9_keepStep 11 = .ok (.iconst 0, 1) := by decide +kernel
theorem dX9_keepStep_12 : decode cX9_keepStep 12 = .ok (.istore_n 1, 1) := by decide +kernel
theorem dX9_keepStep_13 : decode cX9_keepStep 13 = .ok (.iload_n 1, 1) := by decide +kernel
theorem dX9_keepStep_14 : decode cX9_keepStep 14 = .ok (.bipush 116, 2) := by decide +kernel
theorem dX9_keepStep_16 : decode cX9_keepStep 16 = .ok (.if_icmp .ge 31, 3) := by decide +kernel
theorem dX9_keepStep_19 : decode cX9_keepStep 19 = .ok (.aload_n 0, 1) := by decide +kernel
theorem dX9_keepStep_20 : decode cX9_keepStep 20 = .ok (.getfield 7, 3) := by decide +kernel
theorem dX9_keepStep_23 : decode cX9_keepStep 23 = .ok (.sipush 204, 3) := by decide +kernel
theorem dX9_keepStep_26 : decode cX9_keepStep 26 = .ok (.iload_n 1, 1) := by decide +kernel
theorem dX9_keepStep_27 : decode cX9_keepStep 27 = .ok (.iadd, 1) := by decide +kernel
theorem dX9_keepStep_28 : decode cX9_keepStep 28 = .ok (.aload_n 0, 1) := by decide +kernel
theorem dX9_keepStep_29 : decode cX9_keepStep 29 = .ok (.getfield 7, 3) := by decide +kernel
theorem dX9_keepStep_32 : decode cX9_keepStep 32 = .ok (.sipush 204, 3) := by decide +kernel
theorem dX9_keepStep_35 : decode cX9_keepStep 35 = .ok (.iload_n 1, 1) := by decide +kernel
theorem dX9_keepStep_36 : decode cX9_keepStep 36 = .ok (.iadd, 1) := by decide +kernel
theorem dX9_keepStep_37 : decode cX9_keepStep 37 = .ok (.iconst 4, 1) := by decide +kernel
theorem dX9_keepStep_38 : decode cX9_keepStep 38 = .ok (.iadd, 1) := by decide +kernel
theorem dX9_keepStep_39 : decode cX9_keepStep 39 = .ok (.iaload, 1) := by decide +kernel
theorem dX9_keepStep_40 : decode cX9_keepStep 40 = .ok (.iastore, 1) := by decide +kernel
theorem dX9_keepStep_41 : decode cX9_keepStep 41 = .ok (.iinc 1 1, 3) := by decide +kernel
theorem dX9_keepStep_44 : decode cX9_keepStep 44 = .ok (.goto (-31), 3) := by decide +kernel
theorem dX9_keepStep_47 : decode cX9_keepStep 47 = .ok (.aload_n 0, 1) := by decide +kernel
theorem dX9_keepStep_48 : decode cX9_keepStep 48 = .ok (.getfield 7, 3) := by decide +kernel
theorem dX9_keepStep_51 : decode cX9_keepStep 51 = .ok (.iconst 1, 1) := by decide +kernel
theorem dX9_keepStep_52 : decode cX9_keepStep 52 = .ok (.dup2, 1) := by decide +kernel
theorem dX9_keepStep_53 : decode cX9_keepStep 53 = .ok (.iaload, 1) := by decide +kernel
theorem dX9_keepStep_54 : decode cX9_keepStep 54 = .ok (.iconst 1, 1) := by decide +kernel
theorem dX9_keepStep_55 : decode cX9_keepStep 55 = .ok (.isub, 1) := by decide +kernel
theorem dX9_keepStep_56 : decode cX9_keepStep 56 = .ok (.iastore, 1) := by decide +kernel
theorem dX9_keepStep_57 : decode cX9_keepStep 57 = .ok (.iconst 0, 1) := by decide +kernel
theorem dX9_keepStep_58 : decode cX9_keepStep 58 = .ok (.istore_n 1, 1) := by decide +kernel
theorem dX9_keepStep_59 : decode cX9_keepStep 59 = .ok (.iload_n 1, 1) := by decide +kernel
theorem dX9_keepStep_60 : decode cX9_keepStep 60 = .ok (.iconst 4, 1) := by decide +kernel
theorem dX9_keepStep_61 : decode cX9_keepStep 61 = .ok (.if_icmp .ge 36, 3) := by decide +kernel
theorem dX9_keepStep_64 : decode cX9_keepStep 64 = .ok (.aload_n 0, 1) := by decide +kernel
theorem dX9_keepStep_65 : decode cX9_keepStep 65 = .ok (.getfield 7, 3) := by decide +kernel
theorem dX9_keepStep_68 : decode cX9_keepStep 68 = .ok (.sipush 204, 3) := by decide +kernel
theorem dX9_keepStep_71 : decode cX9_keepStep 71 = .ok (.iconst 4, 1) := by decide +kernel
theorem dX9_keepStep_72 : decode cX9_keepStep 72 = .ok (.aload_n 0, 1) := by decide +kernel
theorem dX9_keepStep_73 : decode cX9_keepStep 73 = .ok (.getfield 7, 3) := by decide +kernel
theorem dX9_keepStep_76 : decode cX9_keepStep 76 = .ok (.iconst 1, 1) := by decide +kernel
theorem dX9_keepStep_77 : decode cX9_keepStep 77 = .ok (.iaload, 1) := by decide +kernel
theorem dX9_keepStep_78 : decode cX9_keepStep 78 = .ok (.imul, 1) := by decide +kernel
theorem dX9_keepStep_79 : decode cX9_keepStep 79 = .ok (.iadd, 1) := by decide +kernel
theorem dX9_keepStep_80 : decode cX9_keepStep 80 = .ok (.iload_n 1, 1) := by decide +kernel
theorem dX9_keepStep_81 : decode cX9_keepStep 81 = .ok (.iadd, 1) := by decide +kernel
theorem dX9_keepStep_82 : decode cX9_keepStep 82 = .ok (.aload_n 0, 1) := by decide +kernel
theorem dX9_keepStep_83 : decode cX9_keepStep 83 = .ok (.getfield 7, 3) := by decide +kernel
theorem dX9_keepStep_86 : decode cX9_keepStep 86 = .ok (.iconst 5, 1) := by decide +kernel
theorem dX9_keepStep_87 : decode cX9_keepStep 87 = .ok (.iload_n 1, 1) := by decide +kernel
theorem dX9_keepStep_88 : decode cX9_keepStep 88 = .ok (.iadd, 1) := by decide +kernel
theorem dX9_keepStep_89 : decode cX9_keepStep 89 = .ok (.iaload, 1) := by decide +kernel
theorem dX9_keepStep_90 : decode cX9_keepStep 90 = .ok (.iastore, 1) := by decide +kernel
theorem dX9_keepStep_91 : decode cX9_keepStep 91 = .ok (.iinc 1 1, 3) := by decide +kernel
theorem dX9_keepStep_94 : decode cX9_keepStep 94 = .ok (.goto (-35), 3) := by decide +kernel
theorem dX9_keepStep_97 : decode cX9_keepStep 97 = .ok (.aload_n 0, 1) := by decide +kernel
theorem dX9_keepStep_98 : decode cX9_keepStep 98 = .ok (.getfield 7, 3) := by decide +kernel
theorem dX9_keepStep_101 : decode cX9_keepStep 101 = .ok (.iconst 1, 1) := by decide +kernel
theorem dX9_keepStep_102 : decode cX9_keepStep 102 = .ok (.dup2, 1) := by decide +kernel
theorem dX9_keepStep_103 : decode cX9_keepStep 103 = .ok (.iaload, 1) := by decide +kernel
theorem dX9_keepStep_104 : decode cX9_keepStep 104 = .ok (.iconst 1, 1) := by decide +kernel
theorem dX9_keepStep_105 : decode cX9_keepStep 105 = .ok (.iadd, 1) := by decide +kernel
theorem dX9_keepStep_106 : decode cX9_keepStep 106 = .ok (.iastore, 1) := by decide +kernel
theorem dX9_keepStep_107 : decode cX9_keepStep 107 = .ok (.return_, 1) := by decide +kernel
theorem dX9_has_0 : decode cX9_has 0 = .ok (.iload_n 0, 1) := by decide +kernel
theorem dX9_has_1 : decode cX9_has 1 = .ok (.iload_n 1, 1) := by decide +kernel
theorem dX9_has_2 : decode cX9_has 2 = .ok (.ishr, 1) := by decide +kernel
theorem dX9_has_3 : decode cX9_has 3 = .ok (.iconst 1, 1) := by decide +kernel
theorem dX9_has_4 : decode cX9_has 4 = .ok (.iand, 1) := by decide +kernel
theorem dX9_has_5 : decode cX9_has 5 = .ok (.iconst 1, 1) := by decide +kernel
theorem dX9_has_6 : decode cX9_has 6 = .ok (.if_icmp .ne 7, 3) := by decide +kernel
theorem dX9_has_9 : decode cX9_has 9 = .ok (.iconst 1, 1) := by decide +kernel
theorem dX9_has_10 : decode cX9_has 10 = .ok (.goto 4, 3) := by decide +kernel
theorem dX9_has_13 : decode cX9_has 13 = .ok (.iconst 0, 1) := by decide +kernel
theorem dX9_has_14 : decode cX9_has 14 = .ok (.ireturn, 1) := by decide +kernel
theorem dX9_hourBy_0 : decode cX9_hourBy 0 = .ok (.aload_n 0, 1) := by decide +kernel
theorem dX9_hourBy_1 : decode cX9_hourBy 1 = .ok (.getfield 7, 3) := by decide +kernel
theorem dX9_hourBy_4 : decode cX9_hourBy 4 = .ok (.bipush 6, 2) := by decide +kernel
theorem dX9_hourBy_6 : decode cX9_hourBy 6 = .ok (.aload_n 0, 1) := by decide +kernel
theorem dX9_hourBy_7 : decode cX9_hourBy 7 = .ok (.getfield 7, 3) := by decide +kernel
theorem dX9_hourBy_10 : decode cX9_hourBy 10 = .ok (.bipush 6, 2) := by decide +kernel
theorem dX9_hourBy_12 : decode cX9_hourBy 12 = .ok (.iaload, 1) := by decide +kernel
theorem dX9_hourBy_13 : decode cX9_hourBy 13 = .ok (.iconst 1, 1) := by decide +kernel
theorem dX9_hourBy_14 : decode cX9_hourBy 14 = .ok (.iadd, 1) := by decide +kernel
theorem dX9_hourBy_15 : decode cX9_hourBy 15 = .ok (.bipush 24, 2) := by decide +kernel
theorem dX9_hourBy_17 : decode cX9_hourBy 17 = .ok (.irem, 1) := by decide +kernel
theorem dX9_hourBy_18 : decode cX9_hourBy 18 = .ok (.iastore, 1) := by decide +kernel
theorem dX9_hourBy_19 : decode cX9_hourBy 19 = .ok (.iload_n 1, 1) := by decide +kernel
theorem dX9_hourBy_20 : decode cX9_hourBy 20 = .ok (.ifCond .eq 24, 3) := by decide +kernel
theorem dX9_hourBy_23 : decode cX9_hourBy 23 = .ok (.aload_n 0, 1) := by decide +kernel
theorem dX9_hourBy_24 : decode cX9_hourBy 24 = .ok (.getfield 7, 3) := by decide +kernel
theorem dX9_hourBy_27 : decode cX9_hourBy 27 = .ok (.iconst 5, 1) := by decide +kernel
theorem dX9_hourBy_28 : decode cX9_hourBy 28 = .ok (.dup2, 1) := by decide +kernel
theorem dX9_hourBy_29 : decode cX9_hourBy 29 = .ok (.iaload, 1) := by decide +kernel
theorem dX9_hourBy_30 : decode cX9_hourBy 30 = .ok (.iconst 1, 1) := by decide +kernel
theorem dX9_hourBy_31 : decode cX9_hourBy 31 = .ok (.iadd, 1) := by decide +kernel
theorem dX9_hourBy_32 : decode cX9_hourBy 32 = .ok (.iastore, 1) := by decide +kernel
theorem dX9_hourBy_33 : decode cX9_hourBy 33 = .ok (.aload_n 0, 1) := by decide +kernel
theorem dX9_hourBy_34 : decode cX9_hourBy 34 = .ok (.getfield 7, 3) := by decide +kernel
theorem dX9_hourBy_37 : decode cX9_hourBy 37 = .ok (.bipush 7, 2) := by decide +kernel
theorem dX9_hourBy_39 : decode cX9_hourBy 39 = .ok (.iconst 0, 1) := by decide +kernel
theorem dX9_hourBy_40 : decode cX9_hourBy 40 = .ok (.iastore, 1) := by decide +kernel
theorem dX9_hourBy_41 : decode cX9_hourBy 41 = .ok (.goto 26, 3) := by decide +kernel
theorem dX9_hourBy_44 : decode cX9_hourBy 44 = .ok (.aload_n 0, 1) := by decide +kernel
theorem dX9_hourBy_45 : decode cX9_hourBy 45 = .ok (.getfield 7, 3) := by decide +kernel
theorem dX9_hourBy_48 : decode cX9_hourBy 48 = .ok (.bipush 7, 2) := by decide +kernel
theorem dX9_hourBy_50 : decode cX9_hourBy 50 = .ok (.iaload, 1) := by decide +kernel
theorem dX9_hourBy_51 : decode cX9_hourBy 51 = .ok (.bipush 9, 2) := by decide +kernel
theorem dX9_hourBy_53 : decode cX9_hourBy 53 = .ok (.if_icmp .ge 14, 3) := by decide +kernel
theorem dX9_hourBy_56 : decode cX9_hourBy 56 = .ok (.aload_n 0, 1) := by decide +kernel
theorem dX9_hourBy_57 : decode cX9_hourBy 57 = .ok (.getfield 7, 3) := by decide +kernel
theorem dX9_hourBy_60 : decode cX9_hourBy 60 = .ok (.bipush 7, 2) := by decide +kernel
theorem dX9_hourBy_62 : decode cX9_hourBy 62 = .ok (.dup2, 1) := by decide +kernel
theorem dX9_hourBy_63 : decode cX9_hourBy 63 = .ok (.iaload, 1) := by decide +kernel
theorem dX9_hourBy_64 : decode cX9_hourBy 64 = .ok (.iconst 1, 1) := by decide +kernel
theorem dX9_hourBy_65 : decode cX9_hourBy 65 = .ok (.iadd, 1) := by decide +kernel
theorem dX9_hourBy_66 : decode cX9_hourBy 66 = .ok (.iastore, 1) := by decide +kernel
theorem dX9_hourBy_67 : decode cX9_hourBy 67 = .ok (.return_, 1) := by decide +kernel
theorem dX9_knock_0 : decode cX9_knock 0 = .ok (.aload_n 0, 1) := by decide +kernel
theorem dX9_knock_1 : decode cX9_knock 1 = .ok (.getfield 7, 3) := by decide +kernel
theorem dX9_knock_4 : decode cX9_knock 4 = .ok (.iconst 5, 1) := by decide +kernel
theorem dX9_knock_5 : decode cX9_knock 5 = .ok (.iaload, 1) := by decide +kernel
theorem dX9_knock_6 : decode cX9_knock 6 = .ok (.istore_n 3, 1) := by decide +kernel
theorem dX9_knock_7 : decode cX9_knock 7 = .ok (.iload_n 3, 1) := by decide +kernel
theorem dX9_knock_8 : decode cX9_knock 8 = .ok (.aload_n 0, 1) := by decide +kernel
theorem dX9_knock_9 : decode cX9_knock 9 = .ok (.getfield 62, 3) := by decide +kernel
theorem dX9_knock_12 : decode cX9_knock 12 = .ok (.if_icmp .eq 22, 3) := by decide +kernel
theorem dX9_knock_15 : decode cX9_knock 15 = .ok (.iload_n 1, 1) := by decide +kernel
theorem dX9_knock_16 : decode cX9_knock 16 = .ok (.iload_n 2, 1) := by decide +kernel
theorem dX9_knock_17 : decode cX9_knock 17 = .ok (.invokestatic 238, 3) := by decide +kernel
theorem dX9_knock_20 : decode cX9_knock 20 = .ok (.ifCond .eq 14, 3) := by decide +kernel
theorem dX9_knock_23 : decode cX9_knock 23 = .ok (.iload_n 2, 1) := by decide +kernel
theorem dX9_knock_24 : decode cX9_knock 24 = .ok (.aload_n 0, 1) := by decide +kernel
theorem dX9_knock_25 : decode cX9_knock 25 = .ok (.getfield 7, 3) := by decide +kernel
theorem dX9_knock_28 : decode cX9_knock 28 = .ok (.bipush 8, 2) := by decide +kernel
theorem dX9_knock_30 : decode cX9_knock 30 = .ok (.iaload, 1) := by decide +kernel
theorem dX9_knock_31 : decode cX9_knock 31 = .ok (.if_icmp .le 5, 3) := by decide +kernel
theorem dX9_knock_34 : decode cX9_knock 34 = .ok (.iconst (-1), 1) := by decide +kernel
theorem dX9_knock_35 : decode cX9_knock 35 = .ok (.ireturn, 1) := by decide +kernel
theorem dX9_knock_36 : decode cX9_knock 36 = .ok (.aload_n 0, 1) := by decide +kernel
theorem dX9_knock_37 : decode cX9_knock 37 = .ok (.invokevirtual 250, 3) := by decide +kernel
theorem dX9_knock_40 : decode cX9_knock 40 = .ok (.aload_n 0, 1) := by decide +kernel
theorem dX9_knock_41 : decode cX9_knock 41 = .ok (.getfield 7, 3) := by decide +kernel
theorem dX9_knock_44 : decode cX9_knock 44 = .ok (.bipush 10, 2) := by decide +kernel
theorem dX9_knock_46 : decode cX9_knock 46 = .ok (.iaload, 1) := by decide +kernel
theorem dX9_knock_47 : decode cX9_knock 47 = .ok (.iload_n 3, 1) := by decide +kernel
theorem dX9_knock_48 : decode cX9_knock 48 = .ok (.invokestatic 253, 3) := by decide +kernel
theorem dX9_knock_51 : decode cX9_knock 51 = .ok (.ifCond .ne 34, 3) := by decide +kernel
theorem dX9_knock_54 : decode cX9_knock 54 = .ok (.aload_n 0, 1) := by decide +kernel
theorem dX9_knock_55 : decode cX9_knock 55 = .ok (.iload_n 3, 1) := by decide +kernel
theorem dX9_knock_56 : decode cX9_knock 56 = .ok (.aload_n 0, 1) := by decide +kernel
theorem dX9_knock_57 : decode cX9_knock 57 = .ok (.getfield 7, 3) := by decide +kernel
theorem dX9_knock_60 : decode cX9_knock 60 = .ok (.bipush 6, 2) := by decide +kernel
theorem dX9_knock_62 : decode cX9_knock 62 = .ok (.iaload, 1) := by decide +kernel
theorem dX9_knock_63 : decode cX9_knock 63 = .ok (.iload_n 1, 1) := by decide +kernel
theorem dX9_knock_64 : decode cX9_knock 64 = .ok (.iload_n 2, 1) := by decide +kernel
theorem dX9_knock_65 : decode cX9_knock 65 = .ok (.aload_n 0, 1) := by decide +kernel
theorem dX9_knock_66 : decode cX9_knock 66 = .ok (.getfield 7, 3) := by decide +kernel
theorem dX9_knock_69 : decode cX9_knock 69 = .ok (.bipush 7, 2) := by decide +kernel
theorem dX9_knock_71 : decode cX9_knock 71 = .ok (.iaload, 1) := by decide +kernel
theorem dX9_knock_72 : decode cX9_knock 72 = .ok (.aload_n 0, 1) := by decide +kernel
theorem dX9_knock_73 : decode cX9_knock 73 = .ok (.getfield 7, 3) := by decide +kernel
theorem dX9_knock_76 : decode cX9_knock 76 = .ok (.bipush 9, 2) := by decide +kernel
theorem dX9_knock_78 : decode cX9_knock 78 = .ok (.iaload, 1) := by decide +kernel
theorem dX9_knock_79 : decode cX9_knock 79 = .ok (.invokevirtual 256, 3) := by decide +kernel
theorem dX9_knock_82 : decode cX9_knock 82 = .ok (.ifCond .eq 7, 3) := by decide +kernel
theorem dX9_knock_85 : decode cX9_knock 85 = .ok (.iconst 1, 1) := by decide +kernel
theorem dX9_knock_86 : decode cX9_knock 86 = .ok (.goto 4, 3) := by decide +kernel
theorem dX9_knock_89 : decode cX9_knock 89 = .ok (.iconst 0, 1) := by decide +kernel
theorem dX9_knock_90 : decode cX9_knock 90 = .ok (.istore 4, 2) := by decide +kernel
theorem dX9_knock_92 : decode cX9_knock 92 = .ok (.iload 4, 2) := by decide +kernel
theorem dX9_knock_94 : decode cX9_knock 94 = .ok (.ifCond .eq 14, 3) := by decide +kernel
theorem dX9_knock_97 : decode cX9_knock 97 = .ok (.aload_n 0, 1) := by decide +kernel
theorem dX9_knock_98 : decode cX9_knock 98 = .ok (.getfield 7, 3) := by decide +kernel
theorem dX9_knock_101 : decode cX9_knock 101 = .ok (.bipush 8, 2) := by decide +kernel
theorem dX9_knock_103 : decode cX9_knock 103 = .ok (.dup2, 1) := by decide +kernel
theorem dX9_knock_104 : decode cX9_knock 104 = .ok (.iaload, 1) := by decide +kernel
theorem dX9_knock_105 : decode cX9_knock 105 = .ok (.iload_n 2, 1) := by decide +kernel
theorem dX9_knock_106 : decode cX9_knock 106 = .ok (.isub, 1) := by decide +kernel
theorem dX9_knock_107 : decode cX9_knock 107 = .ok (.iastore, 1) := by decide +kernel
theorem dX9_knock_108 : decode cX9_knock 108 = .ok (.aload_n 0, 1) := by decide +kernel
theorem dX9_knock_109 : decode cX9_knock 109 = .ok (.iload 4, 2) := by decide +kernel
theorem dX9_knock_111 : decode cX9_knock 111 = .ok (.invokevirtual 259, 3) := by decide +kernel
theorem dX9_knock_114 : decode cX9_knock 114 = .ok (.iload 4, 2) := by decide +kernel
theorem dX9_knock_116 : decode cX9_knock 116 = .ok (.ifCond .eq 7, 3) := by decide +kernel
theorem dX9_knock_119 : decode cX9_knock 119 = .ok (.iconst 1, 1) := by decide +kernel
theorem dX9_knock_120 : decode cX9_knock 120 = .ok (.goto 4, 3) := by decide +kernel
theorem dX9_knock_123 : decode cX9_knock 123 = .ok (.iconst 0, 1) := by decide +kernel
theorem dX9_knock_124 : decode cX9_knock 124 = .ok (.ireturn, 1) := by decide +kernel
theorem dX9_later_0 : decode cX9_later 0 = .ok (.aload_n 0, 1) := by decide +kernel
theorem dX9_later_1 : decode cX9_later 1 = .ok (.getfield 7, 3) := by decide +kernel
theorem dX9_later_4 : decode cX9_later 4 = .ok (.iconst 5, 1) := by decide +kernel
theorem dX9_later_5 : decode cX9_later 5 = .ok (.iaload, 1) := by decide +kernel
theorem dX9_later_6 : decode cX9_later 6 = .ok (.aload_n 0, 1) := by decide +kernel
theorem dX9_later_7 : decode cX9_later 7 = .ok (.getfield 62, 3) := by decide +kernel
theorem dX9_later_10 : decode cX9_later 10 = .ok (.if_icmp .eq 13, 3) := by decide +kernel
theorem dX9_later_13 : decode cX9_later 13 = .ok (.iload_n 1, 1) := by decide +kernel
theorem dX9_later_14 : decode cX9_later 14 = .ok (.iconst 0, 1) := by decide +kernel
theorem dX9_later_15 : decode cX9_later 15 = .ok (.bipush 24, 2) := by decide +kernel
theorem dX9_later_17 : decode cX9_later 17 = .ok (.invokestatic 69, 3) := by decide +kernel
theorem dX9_later_20 : decode cX9_later 20 = .ok (.ifCond .ne 5, 3) := by decide +kernel
theorem dX9_later_23 : decode cX9_later 23 = .ok (.iconst (-1), 1) := by decide +kernel
theorem dX9_later_24 : decode cX9_later 24 = .ok (.ireturn, 1) := by decide +kernel
theorem dX9_later_25 : decode cX9_later 25 = .ok (.iconst 0, 1) := by decide +kernel
theorem dX9_later_26 : decode cX9_later 26 = .ok (.istore_n 2, 1) := by decide +kernel
theorem dX9_later_27 : decode cX9_later 27 = .ok (.iload_n 2, 1) := by decide +kernel
theorem dX9_later_28 : decode cX9_later 28 = .ok (.iload_n 1, 1) := by decide +kernel
theorem dX9_later_29 : decode cX9_later 29 = .ok (.if_icmp .ge 18, 3) := by decide +kernel
theorem dX9_later_32 : decode cX9_later 32 = .ok (.aload_n 0, 1) := by decide +kernel
theorem dX9_later_33 : decode cX9_later 33 = .ok (.invokevirtual 250, 3) := by decide +kernel
theorem dX9_later_36 : decode cX9_later 36 = .ok (.aload_n 0, 1) := by decide +kernel
theorem dX9_later_37 : decode cX9_later 37 = .ok (.iconst 0, 1) := by decide +kernel
theorem dX9_later_38 : decode cX9_later 38 = .ok (.invokevirtual 259, 3) := by decide +kernel
theorem dX9_later_41 : decode cX9_later 41 = .ok (.iinc 2 1, 3) := by decide +kernel
theorem dX9_later_44 : decode cX9_later 44 = .ok (.goto (-17), 3) := by decide +kernel
theorem dX9_later_47 : decode cX9_later 47 = .ok (.aload_n 0, 1) := by decide +kernel
theorem dX9_later_48 : decode cX9_later 48 = .ok (.getfield 7, 3) := by decide +kernel
theorem dX9_later_51 : decode cX9_later 51 = .ok (.bipush 6, 2) := by decide +kernel
theorem dX9_later_53 : decode cX9_later 53 = .ok (.iaload, 1) := by decide +kernel
theorem dX9_later_54 : decode cX9_later 54 = .ok (.ireturn, 1) := by decide +kernel
theorem dX9_isPlayed_0 : decode cX9_isPlayed 0 = .ok (.aload_n 0, 1) := by decide +kernel
theorem dX9_isPlayed_1 : decode cX9_isPlayed 1 = .ok (.getfield 16, 3) := by decide +kernel
theorem dX9_isPlayed_4 : decode cX9_isPlayed 4 = .ok (.iload_n 1, 1) := by decide +kernel
theorem dX9_isPlayed_5 : decode cX9_isPlayed 5 = .ok (.iaload, 1) := by decide +kernel
theorem dX9_isPlayed_6 : decode cX9_isPlayed 6 = .ok (.iconst 1, 1) := by decide +kernel
theorem dX9_isPlayed_7 : decode cX9_isPlayed 7 = .ok (.if_icmp .ne 32, 3) := by decide +kernel
theorem dX9_isPlayed_10 : decode cX9_isPlayed 10 = .ok (.aload_n 0, 1) := by decide +kernel
theorem dX9_isPlayed_11 : decode cX9_isPlayed 11 = .ok (.aload_n 0, 1) := by decide +kernel
theorem dX9_isPlayed_12 : decode cX9_isPlayed 12 = .ok (.getfield 16, 3) := by decide +kernel
theorem dX9_isPlayed_15 : decode cX9_isPlayed 15 = .ok (.iload_n 1, 1) := by decide +kernel
theorem dX9_isPlayed_16 : decode cX9_isPlayed 16 = .ok (.iconst 1, 1) := by decide +kernel
theorem dX9_isPlayed_17 : decode cX9_isPlayed 17 = .ok (.iadd, 1) := by decide +kernel
theorem dX9_isPlayed_18 : decode cX9_isPlayed 18 = .ok (.iaload, 1) := by decide +kernel
theorem dX9_isPlayed_19 : decode cX9_isPlayed 19 = .ok (.aload_n 0, 1) := by decide +kernel
theorem dX9_isPlayed_20 : decode cX9_isPlayed 20 = .ok (.getfield 16, 3) := by decide +kernel
theorem dX9_isPlayed_23 : decode cX9_isPlayed 23 = .ok (.iload_n 1, 1) := by decide +kernel
theorem dX9_isPlayed_24 : decode cX9_isPlayed 24 = .ok (.iconst 2, 1) := by decide +kernel
theorem dX9_isPlayed_25 : decode cX9_isPlayed 25 = .ok (.iadd, 1) := by decide +kernel
theorem dX9_isPlayed_26 : decode cX9_isPlayed 26 = .ok (.iaload, 1) := by decide +kernel
theorem dX9_isPlayed_27 : decode cX9_isPlayed 27 = .ok (.invokevirtual 263, 3) := by decide +kernel
theorem dX9_isPlayed_30 : decode cX9_isPlayed 30 = .ok (.ifCond .lt 7, 3) := by decide +kernel
theorem dX9_isPlayed_33 : decode cX9_isPlayed 33 = .ok (.iconst 1, 1) := by decide +kernel
theorem dX9_isPlayed_34 : decode cX9_isPlayed 34 = .ok (.goto 4, 3) := by decide +kernel
theorem dX9_isPlayed_37 : decode cX9_isPlayed 37 = .ok (.iconst 0, 1) := by decide +kernel
theorem dX9_isPlayed_38 : decode cX9_isPlayed 38 = .ok (.ireturn, 1) := by decide +kernel
theorem dX9_isPlayed_39 : decode cX9_isPlayed 39 = .ok (.aload_n 0, 1) := by decide +kernel
theorem dX9_isPlayed_40 : decode cX9_isPlayed 40 = .ok (.getfield 16, 3) := by decide +kernel
theorem dX9_isPlayed_43 : decode cX9_isPlayed 43 = .ok (.iload_n 1, 1) := by decide +kernel
theorem dX9_isPlayed_44 : decode cX9_isPlayed 44 = .ok (.iaload, 1) := by decide +kernel
theorem dX9_isPlayed_45 : decode cX9_isPlayed 45 = .ok (.iconst 2, 1) := by decide +kernel
theorem dX9_isPlayed_46 : decode cX9_isPlayed 46 = .ok (.if_icmp .ne 18, 3) := by decide +kernel
theorem dX9_isPlayed_49 : decode cX9_isPlayed 49 = .ok (.aload_n 0, 1) := by decide +kernel
theorem dX9_isPlayed_50 : decode cX9_isPlayed 50 = .ok (.aload_n 0, 1) := by decide +kernel
theorem dX9_isPlayed_51 : decode cX9_isPlayed 51 = .ok (.getfield 16, 3) := by decide +kernel
theorem dX9_isPlayed_54 : decode cX9_isPlayed 54 = .ok (.iload_n 1, 1) := by decide +kernel
theorem dX9_isPlayed_55 : decode cX9_isPlayed 55 = .ok (.iconst 1, 1) := by decide +kernel
theorem dX9_isPlayed_56 : decode cX9_isPlayed 56 = .ok (.iadd, 1) := by decide +kernel
theorem dX9_isPlayed_57 : decode cX9_isPlayed 57 = .ok (.iaload, 1) := by decide +kernel
theorem dX9_isPlayed_58 : decode cX9_isPlayed 58 = .ok (.invokevirtual 267, 3) := by decide +kernel
theorem dX9_isPlayed_61 : decode cX9_isPlayed 61 = .ok (.ifCond .lt 7, 3) := by decide +kernel
theorem dX9_isPlayed_64 : decode cX9_isPlayed 64 = .ok (.iconst 1, 1) := by decide +kernel
theorem dX9_isPlayed_65 : decode cX9_isPlayed 65 = .ok (.goto 4, 3) := by decide +kernel
theorem dX9_isPlayed_68 : decode cX9_isPlayed 68 = .ok (.iconst 0, 1) := by decide +kernel
theorem dX9_isPlayed_69 : decode cX9_isPlayed 69 = .ok (.ireturn, 1) := by decide +kernel
theorem dX9_played_0 : decode cX9_played 0 = .ok (.iload_n 1, 1) := by decide +kernel
theorem dX9_played_1 : decode cX9_played 1 = .ok (.iconst 0, 1) := by decide +kernel
theorem dX9_played_2 : decode cX9_played 2 = .ok (.aload_n 0, 1) := by decide +kernel
theorem dX9_played_3 : decode cX9_played 3 = .ok (.getfield 7, 3) := by decide +kernel
theorem dX9_played_6 : decode cX9_played 6 = .ok (.iconst 0, 1) := by decide +kernel
theorem dX9_played_7 : decode cX9_played 7 = .ok (.iaload, 1) := by decide +kernel
theorem dX9_played_8 : decode cX9_played 8 = .ok (.iconst 1, 1) := by decide +kernel
theorem dX9_played_9 : decode cX9_played 9 = .ok (.isub, 1) := by decide +kernel
theorem dX9_played_10 : decode cX9_played 10 = .ok (.invokestatic 69, 3) := by decide +kernel
theorem dX9_played_13 : decode cX9_played 13 = .ok (.ifCond .ne 6, 3) := by decide +kernel
theorem dX9_played_16 : decode cX9_played 16 = .ok (.bipush (-2), 2) := by decide +kernel
theorem dX9_played_18 : decode cX9_played 18 = .ok (.ireturn, 1) := by decide +kernel
theorem dX9_played_19 : decode cX9_played 19 = .ok (.iconst 0, 1) := by decide +kernel
theorem dX9_played_20 : decode cX9_played 20 = .ok (.istore_n 2, 1) := by decide +kernel
theorem dX9_played_21 : decode cX9_played 21 = .ok (.iload_n 2, 1) := by decide +kernel
theorem dX9_played_22 : decode cX9_played 22 = .ok (.aload_n 0, 1) := by decide +kernel
theorem dX9_played_23 : decode cX9_played 23 = .ok (.getfield 16, 3) := by decide +kernel
theorem dX9_played_26 : decode cX9_played 26 = .ok (.sipush 680, 3) := by decide +kernel
theorem dX9_played_29 : decode cX9_played 29 = .ok (.iload_n 1, 1) := by decide +kernel
theorem dX9_played_30 : decode cX9_played 30 = .ok (.imul, 1) := by decide +kernel
theorem dX9_played_31 : decode cX9_played 31 = .ok (.iaload, 1) := by decide +kernel
theorem dX9_played_32 : decode cX9_played 32 = .ok (.if_icmp .ge 29, 3) := by decide +kernel
theorem dX9_played_35 : decode cX9_played 35 = .ok (.aload_n 0, 1) := by decide +kernel
theorem dX9_played_36 : decode cX9_played 36 = .ok (.sipush 680, 3) := by decide +kernel
theorem dX9_played_39 : decode cX9_played 39 = .ok (.iload_n 1, 1) := by decide +kernel
theorem dX9_played_40 : decode cX9_played 40 = .ok (.imul, 1) := by decide +kernel
theorem dX9_played_41 : decode cX9_played 41 = .ok (.iconst 1, 1) := by decide +kernel
theorem dX9_played_42 : decode cX9_played 42 = .ok (.iadd, 1) := by decide +kernel
theorem dX9_played_43 : decode cX9_played 43 = .ok (.iconst 3, 1) := by decide +kernel
theorem dX9_played_44 : decode cX9_played 44 = .ok (.iload_n 2, 1) := by decide +kernel
theorem dX9_played_45 : decode cX9_played 45 = .ok (.imul, 1) := by decide +kernel
theorem dX9_played_46 : decode cX9_played 46 = .ok (.iadd, 1) := by decide +kernel
theorem dX9_played_47 : decode cX9_played 47 = .ok (.invokevirtual 270, 3) := by decide +kernel
theorem dX9_played_50 : decode cX9_played 50 = .ok (.ifCond .ne 5, 3) := by decide +kernel
theorem dX9_played_53 : decode cX9_played 53 = .ok (.iload_n 2, 1) := by decide +kernel
theorem dX9_played_54 : decode cX9_played 54 = .ok (.ireturn, 1) := by decide +kernel
theorem dX9_played_55 : decode cX9_played 55 = .ok (.iinc 2 1, 3) := by decide +kernel
theorem dX9_played_58 : decode cX9_played 58 = .ok (.goto (-37), 3) := by decide +kernel
theorem dX9_played_61 : decode cX9_played 61 = .ok (.iconst (-1), 1) := by decide +kernel
theorem dX9_played_62 : decode cX9_played 62 = .ok (.ireturn, 1) := by decide +kernel
theorem dX9_undo_0 : decode cX9_undo 0 = .ok (.aload_n 0, 1) := by decide +kernel
theorem dX9_undo_1 : decode cX9_undo 1 = .ok (.getfield 7, 3) := by decide +kernel
theorem dX9_undo_4 : decode cX9_undo 4 = .ok (.iconst 1, 1) := by decide +kernel
theorem dX9_undo_5 : decode cX9_undo 5 = .ok (.iaload, 1) := by decide +kernel
theorem dX9_undo_6 : decode cX9_undo 6 = .ok (.ifCond .ne 5, 3) := by decide +kernel
theorem dX9_undo_9 : decode cX9_undo 9 = .ok (.iconst (-1), 1) := by decide +kernel
theorem dX9_undo_10 : decode cX9_undo 10 = .ok (.ireturn, 1) := by decide +kernel
theorem dX9_undo_11 : decode cX9_undo 11 = .ok (.aload_n 0, 1) := by decide +kernel
theorem dX9_undo_12 : decode cX9_undo 12 = .ok (.getfield 7, 3) := by decide +kernel
theorem dX9_undo_15 : decode cX9_undo 15 = .ok (.iconst 1, 1) := by decide +kernel
theorem dX9_undo_16 : decode cX9_undo 16 = .ok (.dup2, 1) := by decide +kernel
theorem dX9_undo_17 : decode cX9_undo 17 = .ok (.iaload, 1) := by decide +kernel
theorem dX9_undo_18 : decode cX9_undo 18 = .ok (.iconst 1, 1) := by decide +kernel
theorem dX9_undo_19 : decode cX9_undo 19 = .ok (.isub, 1) := by decide +kernel
theorem dX9_undo_20 : decode cX9_undo 20 = .ok (.iastore, 1) := by decide +kernel
theorem dX9_undo_21 : decode cX9_undo 21 = .ok (.iconst 0, 1) := by decide +kernel
theorem dX9_undo_22 : decode cX9_undo 22 = .ok (.istore_n 1, 1) := by decide +kernel
theorem dX9_undo_23 : decode cX9_undo 23 = .ok (.iload_n 1, 1) := by decide +kernel
theorem dX9_undo_24 : decode cX9_undo 24 = .ok (.iconst 4, 1) := by decide +kernel
theorem dX9_undo_25 : decode cX9_undo 25 = .ok (.if_icmp .ge 36, 3) := by decide +kernel
theorem dX9_undo_28 : decode cX9_undo 28 = .ok (.aload_n 0, 1) := by decide +kernel
theorem dX9_undo_29 : decode cX9_undo 29 = .ok (.getfield 7, 3) := by decide +kernel
theorem dX9_undo_32 : decode cX9_undo 32 = .ok (.iconst 5, 1) := by decide +kernel
theorem dX9_undo_33 : decode cX9_undo 33 = .ok (.iload_n 1, 1) := by decide +kernel
theorem dX9_undo_34 : decode cX9_undo 34 = .ok (.iadd, 1) := by decide +kernel
theorem dX9_undo_35 : decode cX9_undo 35 = .ok (.aload_n 0, 1) := by decide +kernel
theorem dX9_undo_36 : decode cX9_undo 36 = .ok (.getfield 7, 3) := by decide +kernel
theorem dX9_undo_39 : decode cX9_undo 39 = .ok (.sipush 204, 3) := by decide +kernel
theorem dX9_undo_42 : decode cX9_undo 42 = .ok (.iconst 4, 1) := by decide +kernel
theorem dX9_undo_43 : decode cX9_undo 43 = .ok (.aload_n 0, 1) := by decide +kernel
theorem dX9_undo_44 : decode cX9_undo 44 = .ok (.getfield 7, 3) := by decide +kernel
theorem dX9_undo_47 : decode cX9_undo 47 = .ok (.iconst 1, 1) := by decide +kernel
theorem dX9_undo_48 : decode cX9_undo 48 = .ok (.iaload, 1) := by decide +kernel
theorem dX9_undo_49 : decode cX9_undo 49 = .ok (.imul, 1) := by decide +kernel
theorem dX9_undo_50 : decode cX9_undo 50 = .ok (.iadd, 1) := by decide +kernel
theorem dX9_undo_51 : decode cX9_undo 51 = .ok (.iload_n 1, 1) := by decide +kernel
theorem dX9_undo_52 : decode cX9_undo 52 = .ok (.iadd, 1) := by decide +kernel
theorem dX9_undo_53 : decode cX9_undo 53 = .ok (.iaload, 1) := by decide +kernel
theorem dX9_undo_54 : decode cX9_undo 54 = .ok (.iastore, 1) := by decide +kernel
theorem dX9_undo_55 : decode cX9_undo 55 = .ok (.iinc 1 1, 3) := by decide +kernel
theorem dX9_undo_58 : decode cX9_undo 58 = .ok (.goto (-35), 3) := by decide +kernel
theorem dX9_undo_61 : decode cX9_undo 61 = .ok (.aload_n 0, 1) := by decide +kernel
theorem dX9_undo_62 : decode cX9_undo 62 = .ok (.getfield 7, 3) := by decide +kernel
theorem dX9_undo_65 : decode cX9_undo 65 = .ok (.iconst 1, 1) := by decide +kernel
theorem dX9_undo_66 : decode cX9_undo 66 = .ok (.iaload, 1) := by decide +kernel
theorem dX9_undo_67 : decode cX9_undo 67 = .ok (.ireturn, 1) := by decide +kernel
theorem dX9_traveller_0 : decode cX9_traveller 0 = .ok (.iload_n 1, 1) := by decide +kernel
theorem dX9_traveller_1 : decode cX9_traveller 1 = .ok (.iconst 0, 1) := by decide +kernel
theorem dX9_traveller_2 : decode cX9_traveller 2 = .ok (.iconst 5, 1) := by decide +kernel
theorem dX9_traveller_3 : decode cX9_traveller 3 = .ok (.invokestatic 69, 3) := by decide +kernel
theorem dX9_traveller_6 : decode cX9_traveller 6 = .ok (.ifCond .eq 14, 3) := by decide +kernel
theorem dX9_traveller_9 : decode cX9_traveller 9 = .ok (.aload_n 0, 1) := by decide +kernel
theorem dX9_traveller_10 : decode cX9_traveller 10 = .ok (.getfield 7, 3) := by decide +kernel
theorem dX9_traveller_13 : decode cX9_traveller 13 = .ok (.iconst 5, 1) := by decide +kernel
theorem dX9_traveller_14 : decode cX9_traveller 14 = .ok (.iload_n 1, 1) := by decide +kernel
theorem dX9_traveller_15 : decode cX9_traveller 15 = .ok (.iadd, 1) := by decide +kernel
theorem dX9_traveller_16 : decode cX9_traveller 16 = .ok (.iaload, 1) := by decide +kernel
theorem dX9_traveller_17 : decode cX9_traveller 17 = .ok (.goto 4, 3) := by decide +kernel
theorem dX9_traveller_20 : decode cX9_traveller 20 = .ok (.iconst (-1), 1) := by decide +kernel
theorem dX9_traveller_21 : decode cX9_traveller 21 = .ok (.ireturn, 1) := by decide +kernel
theorem dX9_forgetLeasts_0 : decode cX9_forgetLeasts 0 = .ok (.ldc_w 273, 3) := by decide +kernel
theorem dX9_forgetLeasts_3 : decode cX9_forgetLeasts 3 = .ok (.iload_n 1, 1) := by decide +kernel
theorem dX9_forgetLeasts_4 : decode cX9_forgetLeasts 4 = .ok (.imul, 1) := by decide +kernel
theorem dX9_forgetLeasts_5 : decode cX9_forgetLeasts 5 = .ok (.istore_n 3, 1) := by decide +kernel
theorem dX9_forgetLeasts_6 : decode cX9_forgetLeasts 6 = .ok (.iload_n 3, 1) := by decide +kernel
theorem dX9_forgetLeasts_7 : decode cX9_forgetLeasts 7 = .ok (.ldc_w 273, 3) := by decide +kernel
theorem dX9_forgetLeasts_10 : decode cX9_forgetLeasts 10 = .ok (.iload_n 2, 1) := by decide +kernel
theorem dX9_forgetLeasts_11 : decode cX9_forgetLeasts 11 = .ok (.imul, 1) := by decide +kernel
theorem dX9_forgetLeasts_12 : decode cX9_forgetLeasts 12 = .ok (.if_icmp .ge 16, 3) := by decide +kernel
theorem dX9_forgetLeasts_15 : decode cX9_forgetLeasts 15 = .ok (.aload_n 0, 1) := by decide +kernel
theorem dX9_forgetLeasts_16 : decode cX9_forgetLeasts 16 = .ok (.getfield 50, 3) := by decide +kernel
theorem dX9_forgetLeasts_19 : decode cX9_forgetLeasts 19 = .ok (.iload_n 3, 1) := by decide +kernel
theorem dX9_forgetLeasts_20 : decode cX9_forgetLeasts 20 = .ok (.iconst (-1), 1) := by decide +kernel
theorem dX9_forgetLeasts_21 : decode cX9_forgetLeasts 21 = .ok (.iastore, 1) := by decide +kernel
theorem dX9_forgetLeasts_22 : decode cX9_forgetLeasts 22 = .ok (.iinc 3 1, 3) := by decide +kernel
theorem dX9_forgetLeasts_25 : decode cX9_forgetLeasts 25 = .ok (.goto (-19), 3) := by decide +kernel
theorem dX9_forgetLeasts_28 : decode cX9_forgetLeasts 28 = .ok (.iconst 0, 1) := by decide +kernel
theorem dX9_forgetLeasts_29 : decode cX9_forgetLeasts 29 = .ok (.istore_n 3, 1) := by decide +kernel
theorem dX9_forgetLeasts_30 : decode cX9_forgetLeasts 30 = .ok (.iload_n 3, 1) := by decide +kernel
theorem dX9_forgetLeasts_31 : decode cX9_forgetLeasts 31 = .ok (.bipush 8, 2) := by decide +kernel
theorem dX9_forgetLeasts_33 : decode cX9_forgetLeasts 33 = .ok (.if_icmp .ge 24, 3) := by decide +kernel
theorem dX9_forgetLeasts_36 : decode cX9_forgetLeasts 36 = .ok (.aload_n 0, 1) := by decide +kernel
theorem dX9_forgetLeasts_37 : decode cX9_forgetLeasts 37 = .ok (.getfield 46, 3) := by decide +kernel
theorem dX9_forgetLeasts_40 : decode cX9_forgetLeasts 40 = .ok (.iload_n 3, 1) := by decide +kernel
theorem dX9_forgetLeasts_41 : decode cX9_forgetLeasts 41 = .ok (.aload_n 0, 1) := by decide +kernel
theorem dX9_forgetLeasts_42 : decode cX9_forgetLeasts 42 = .ok (.getfield 7, 3) := by decide +kernel
theorem dX9_forgetLeasts_45 : decode cX9_forgetLeasts 45 = .ok (.bipush 28, 2) := by decide +kernel
theorem dX9_forgetLeasts_47 : decode cX9_forgetLeasts 47 = .ok (.iload_n 3, 1) := by decide +kernel
theorem dX9_forgetLeasts_48 : decode cX9_forgetLeasts 48 = .ok (.iadd, 1) := by decide +kernel
theorem dX9_forgetLeasts_49 : decode cX9_forgetLeasts 49 = .ok (.iaload, 1) := by decide +kernel
theorem dX9_forgetLeasts_50 : decode cX9_forgetLeasts 50 = .ok (.iastore, 1) := by decide +kernel
theorem dX9_forgetLeasts_51 : decode cX9_forgetLeasts 51 = .ok (.iinc 3 1, 3) := by decide +kernel
theorem dX9_forgetLeasts_54 : decode cX9_forgetLeasts 54 = .ok (.goto (-24), 3) := by decide +kernel
theorem dX9_forgetLeasts_57 : decode cX9_forgetLeasts 57 = .ok (.return_, 1) := by decide +kernel
theorem dX9_leftAt_0 : decode cX9_leftAt 0 = .ok (.iload_n 0, 1) := by decide +kernel
theorem dX9_leftAt_1 : decode cX9_leftAt 1 = .ok (.bipush 9, 2) := by decide +kernel
theorem dX9_leftAt_3 : decode cX9_leftAt 3 = .ok (.imul, 1) := by decide +kernel
theorem dX9_leftAt_4 : decode cX9_leftAt 4 = .ok (.iload_n 1, 1) := by decide +kernel
theorem dX9_leftAt_5 : decode cX9_leftAt 5 = .ok (.iadd, 1) := by decide +kernel
theorem dX9_leftAt_6 : decode cX9_leftAt 6 = .ok (.bipush 10, 2) := by decide +kernel
theorem dX9_leftAt_8 : decode cX9_leftAt 8 = .ok (.imul, 1) := by decide +kernel
theorem dX9_leftAt_9 : decode cX9_leftAt 9 = .ok (.iload_n 2, 1) := by decide +kernel
theorem dX9_leftAt_10 : decode cX9_leftAt 10 = .ok (.iadd, 1) := by decide +kernel
theorem dX9_leftAt_11 : decode cX9_leftAt 11 = .ok (.ireturn, 1) := by decide +kernel
-- X9_keepStep
def B_X9_keepStep_59 (n : Nat) (q : Int32 × jS) : Option ((Int32 × jS) ⊕ (Int32 × jS)) :=
  (if 4 ≤ q.1 then some (.inr (q.1, q.2)) else (if jin (5 + q.1) 324 = true then (if jin ((204 + (4 * (q.2.1 1 (Int32.toNatClampNeg 1)))) + q.1) 324 = true then (jl (upI q.2 1 (Int32.toNatClampNeg ((204 + (4 * (q.2.1 1 (Int32.toNatClampNeg 1)))) + q.1)) (q.2.1 1 (Int32.toNatClampNeg (5 + q.1)))) fun s90_3 => some (.inl ((q.1 + 1), s90_3))) else none) else none))
def B_X9_keepStep_13 (n : Nat) (q : Int32 × jS) : Option ((Int32 × jS) ⊕ (Int32 × jS)) :=
  (if 116 ≤ q.1 then some (.inr (q.1, q.2)) else (if jin ((204 + q.1) + 4) 324 = true then (if jin (204 + q.1) 324 = true then (jl (upI q.2 1 (Int32.toNatClampNeg (204 + q.1)) (q.2.1 1 (Int32.toNatClampNeg ((204 + q.1) + 4)))) fun s40_7 => some (.inl ((q.1 + 1), s40_7))) else none) else none))
def F_X9_keepStep (n : Nat) (s : jS) : Option jS :=
  (if (s.1 1 (Int32.toNatClampNeg 1)) = 30 then ((lp (B_X9_keepStep_13 n) n (0, s)).bind fun e13 => (jl (upI e13.2 1 (Int32.toNatClampNeg 1) ((e13.2.1 1 (Int32.toNatClampNeg 1)) - 1)) fun s56_8 => ((lp (B_X9_keepStep_59 n) n (0, s56_8)).bind fun e59 => (jl (upI e59.2 1 (Int32.toNatClampNeg 1) ((e59.2.1 1 (Int32.toNatClampNeg 1)) + 1)) fun s106_9 => some s106_9)))) else ((lp (B_X9_keepStep_59 n) n (0, s)).bind fun e59 => (jl (upI e59.2 1 (Int32.toNatClampNeg 1) ((e59.2.1 1 (Int32.toNatClampNeg 1)) + 1)) fun s106_4 => some s106_4)))
def rm_X9_keepStep : Room := { frames := 0, cells := 0, slots := 0, locals := 0 }
set_option maxHeartbeats 4000000 in
set_option maxRecDepth 100000 in
theorem m_X9_keepStep {l : Launch} {D : va_G} {G : Nat → ClassId} {KV : jV} {ad : Nat → Nat} (n : Nat) (s : jS) {p : jS} (h : F_X9_keepStep n s = some p) : jM l D G KV yX9_keepStep cX9_keepStep 2 none rm_X9_keepStep [.ref (ad 0)] (jw 15 (cellM G) ad s) 0 0 (fun v u => v = none ∧ u = jw 15 (cellM G) ad p) := by
  refine jM.of (by decide) (Nat.le_of_ble_eq_true rfl) ?_
  intro K C
  unfold F_X9_keepStep at h
  have lo59 : ∀ (s : jS) (k : Nat) (q : Int32 × jS) (e : Int32 × jS), lp (B_X9_keepStep_59 n) k q = some e → K 0 0 (jw 15 (cellM G) ad e.2) 97 [(0, .ref (ad 0))] [] → K 0 0 (jw 15 (cellM G) ad q.2) 59 [(0, .ref (ad 0)), (1, .int q.1)] [] := by
    intro s k q e he hE
    refine jlp (KH := fun q => K 0 0 (jw 15 (cellM G) ad q.2) 59 [(0, .ref (ad 0)), (1, .int q.1)] []) (KE := fun e => K 0 0 (jw 15 (cellM G) ad e.2) 97 [(0, .ref (ad 0))] []) ?_ k q e he hE
    intro q o hb hin hout
    unfold B_X9_keepStep_59 at hb
    show K 0 0 (jw 15 (cellM G) ad q.2) 59 [(0, .ref (ad 0)), (1, .int q.1)] []
    refine j_iload_n C dX9_keepStep_59 1 rfl ?_
    refine j_iconst C dX9_keepStep_60 (v := 4) (by decide) ?_
    refine j_icmp_ge C dX9_keepStep_61 (tgt := 97) (by decide) (fun cq => ?_) (fun cq => ?_)
    · have hb := jite_t hb cq
      refine j_loc C [0] rfl ?_
      have hx := hout _ (jinr hb)
      exact hx
    · have hb := jite_f hb cq
      refine j_aload_n C dX9_keepStep_64 0 rfl ?_
      refine j_getW C dX9_keepStep_65 inX9 rfl (by decide) rfl 0 (by decide) w_923 rfl rfl ?_
      refine j_sipush C dX9_keepStep_68 (v := 204) (by decide) ?_
      refine j_iconst C dX9_keepStep_71 (v := 4) (by decide) ?_
      refine j_aload_n C dX9_keepStep_72 0 rfl ?_
      refine j_getW C dX9_keepStep_73 inX9 rfl (by decide) rfl 0 (by decide) w_923 rfl rfl ?_
      refine j_iconst C dX9_keepStep_76 (v := 1) (by decide) ?_
      refine j_ialdW C dX9_keepStep_77 (by decide) rfl (jin_vp (i := 1) (n := 324) (by decide)) ?_
      refine j_imul C dX9_keepStep_78 ?_
      refine j_iadd C dX9_keepStep_79 ?_
      refine j_iload_n C dX9_keepStep_80 1 rfl ?_
      refine j_iadd C dX9_keepStep_81 ?_
      refine j_aload_n C dX9_keepStep_82 0 rfl ?_
      refine j_getW C dX9_keepStep_83 inX9 rfl (by decide) rfl 0 (by decide) w_923 rfl rfl ?_
      refine j_iconst C dX9_keepStep_86 (v := 5) (by decide) ?_
      refine j_iload_n C dX9_keepStep_87 1 rfl ?_
      refine j_iadd C dX9_keepStep_88 ?_
      obtain ⟨c89_1, hb⟩ := jchk hb
      refine j_ialdW C dX9_keepStep_89 (by decide) rfl (jin_vp c89_1) ?_
      obtain ⟨c90_2, hb⟩ := jchk hb
      refine j_iastW C dX9_keepStep_90 (by decide) (fun _ => rfl) (jin_vp c90_2) (fun s90_3 hs90_3 => ?_)
      have hb := jlet hb hs90_3
      refine j_iinc C dX9_keepStep_91 1 rfl (v := (q.1 + 1)) rfl (by decide) rfl ?_
      refine j_goto C dX9_keepStep_94 (tgt := 59) (by decide) ?_
      refine j_loc C [1, 0] rfl ?_
      have hx := hin _ (jinl hb)
      exact hx
  have lo13 : ∀ (s : jS) (k : Nat) (q : Int32 × jS) (e : Int32 × jS), lp (B_X9_keepStep_13 n) k q = some e → K 0 0 (jw 15 (cellM G) ad e.2) 47 [(0, .ref (ad 0))] [] → K 0 0 (jw 15 (cellM G) ad q.2) 13 [(0, .ref (ad 0)), (1, .int q.1)] [] := by
    intro s k q e he hE
    refine jlp (KH := fun q => K 0 0 (jw 15 (cellM G) ad q.2) 13 [(0, .ref (ad 0)), (1, .int q.1)] []) (KE := fun e => K 0 0 (jw 15 (cellM G) ad e.2) 47 [(0, .ref (ad 0))] []) ?_ k q e he hE
    intro q o hb hin hout
    unfold B_X9_keepStep_13 at hb
    show K 0 0 (jw 15 (cellM G) ad q.2) 13 [(0, .ref (ad 0)), (1, .int q.1)] []
    refine j_iload_n C dX9_keepStep_13 1 rfl ?_
    refine j_bipush C dX9_keepStep_14 (v := 116) (by decide) ?_
    refine j_icmp_ge C dX9_keepStep_16 (tgt := 47) (by decide) (fun cq => ?_) (fun cq => ?_)
    · have hb := jite_t hb cq
      refine j_loc C [0] rfl ?_
      have hx := hout _ (jinr hb)
      exact hx
    · have hb := jite_f hb cq
      refine j_aload_n C dX9_keepStep_19 0 rfl ?_
      refine j_getW C dX9_keepStep_20 inX9 rfl (by decide) rfl 0 (by decide) w_923 rfl rfl ?_
      refine j_sipush C dX9_keepStep_23 (v := 204) (by decide) ?_
      refine j_iload_n C dX9_keepStep_26 1 rfl ?_
      refine j_iadd C dX9_keepStep_27 ?_
      refine j_aload_n C dX9_keepStep_28 0 rfl ?_
      refine j_getW C dX9_keepStep_29 inX9 rfl (by decide) rfl 0 (by decide) w_923 rfl rfl ?_
      refine j_sipush C dX9_keepStep_32 (v := 204) (by decide) ?_
      refine j_iload_n C dX9_keepStep_35 1 rfl ?_
      refine j_iadd C dX9_keepStep_36 ?_
      refine j_iconst C dX9_keepStep_37 (v := 4) (by decide) ?_
      refine j_iadd C dX9_keepStep_38 ?_
      obtain ⟨c39_5, hb⟩ := jchk hb
      refine j_ialdW C dX9_keepStep_39 (by decide) rfl (jin_vp c39_5) ?_
      obtain ⟨c40_6, hb⟩ := jchk hb
      refine j_iastW C dX9_keepStep_40 (by decide) (fun _ => rfl) (jin_vp c40_6) (fun s40_7 hs40_7 => ?_)
      have hb := jlet hb hs40_7
      refine j_iinc C dX9_keepStep_41 1 rfl (v := (q.1 + 1)) rfl (by decide) rfl ?_
      refine j_goto C dX9_keepStep_44 (tgt := 13) (by decide) ?_
      refine j_loc C [1, 0] rfl ?_
      have hx := hin _ (jinl hb)
      exact hx
  show K 0 0 (jw 15 (cellM G) ad s) 0 [(0, .ref (ad 0))] []
  refine j_aload_n C dX9_keepStep_0 0 rfl ?_
  refine j_getW C dX9_keepStep_1 inX9 rfl (by decide) rfl 0 (by decide) w_923 rfl rfl ?_
  refine j_iconst C dX9_keepStep_4 (v := 1) (by decide) ?_
  refine j_ialdW C dX9_keepStep_5 (by decide) rfl (jin_vp (i := 1) (n := 324) (by decide)) ?_
  refine j_bipush C dX9_keepStep_6 (v := 30) (by decide) ?_
  refine j_icmp_ne C dX9_keepStep_8 (tgt := 57) (by decide) (fun cq => ?_) (fun cq => ?_)
  · have h := jite_f h cq
    refine j_iconst C dX9_keepStep_57 (v := 0) (by decide) ?_
    refine j_istore_n C dX9_keepStep_58 (by decide) rfl ?_
    refine j_loc C [1, 0] rfl ?_
    obtain ⟨e59, he59, h⟩ := jbind h
    refine lo59  s  n (0, s) e59 he59 ?_
    refine j_aload_n C dX9_keepStep_97 0 rfl ?_
    refine j_getW C dX9_keepStep_98 inX9 rfl (by decide) rfl 0 (by decide) w_923 rfl rfl ?_
    refine j_iconst C dX9_keepStep_101 (v := 1) (by decide) ?_
    refine j_dup2 C dX9_keepStep_102 rfl rfl ?_
    refine j_ialdW C dX9_keepStep_103 (by decide) rfl (jin_vp (i := 1) (n := 324) (by decide)) ?_
    refine j_iconst C dX9_keepStep_104 (v := 1) (by decide) ?_
    refine j_iadd C dX9_keepStep_105 ?_
    refine j_iastW C dX9_keepStep_106 (by decide) (fun _ => rfl) (jin_vp (i := 1) (n := 324) (by decide)) (fun s106_4 hs106_4 => ?_)
    have h := jlet h hs106_4
    exact j_vret C dX9_keepStep_107 rfl (Nat.zero_le _) (Nat.zero_le _) (jretWV h)
  · have h := jite_t h cq
    refine j_iconst C dX9_keepStep_11 (v := 0) (by decide) ?_
    refine j_istore_n C dX9_keepStep_12 (by decide) rfl ?_
    refine j_loc C [1, 0] rfl ?_
    obtain ⟨e13, he13, h⟩ := jbind h
    refine lo13  s  n (0, s) e13 he13 ?_
    refine j_aload_n C dX9_keepStep_47 0 rfl ?_
    refine j_getW C dX9_keepStep_48 inX9 rfl (by decide) rfl 0 (by decide) w_923 rfl rfl ?_
    refine j_iconst C dX9_keepStep_51 (v := 1) (by decide) ?_
    refine j_dup2 C dX9_keepStep_52 rfl rfl ?_
    refine j_ialdW C dX9_keepStep_53 (by decide) rfl (jin_vp (i := 1) (n := 324) (by decide)) ?_
    refine j_iconst C dX9_keepStep_54 (v := 1) (by decide) ?_
    refine j_isub C dX9_keepStep_55 ?_
    refine j_iastW C dX9_keepStep_56 (by decide) (fun _ => rfl) (jin_vp (i := 1) (n := 324) (by decide)) (fun s56_8 hs56_8 => ?_)
    have h := jlet h hs56_8
    refine j_iconst C dX9_keepStep_57 (v := 0) (by decide) ?_
    refine j_istore_n C dX9_keepStep_58 (by decide) rfl ?_
    refine j_loc C [1, 0] rfl ?_
    obtain ⟨e59, he59, h⟩ := jbind h
    refine lo59  s56_8  n (0, s56_8) e59 he59 ?_
    refine j_aload_n C dX9_keepStep_97 0 rfl ?_
    refine j_getW C dX9_keepStep_98 inX9 rfl (by decide) rfl 0 (by decide) w_923 rfl rfl ?_
    refine j_iconst C dX9_keepStep_101 (v := 1) (by decide) ?_
    refine j_dup2 C dX9_keepStep_102 rfl rfl ?_
    refine j_ialdW C dX9_keepStep_103 (by decide) rfl (jin_vp (i := 1) (n := 324) (by decide)) ?_
    refine j_iconst C dX9_keepStep_104 (v := 1) (by decide) ?_
    refine j_iadd C dX9_keepStep_105 ?_
    refine j_iastW C dX9_keepStep_106 (by decide) (fun _ => rfl) (jin_vp (i := 1) (n := 324) (by decide)) (fun s106_9 hs106_9 => ?_)
    have h := jlet h hs106_9
    exact j_vret C dX9_keepStep_107 rfl (Nat.zero_le _) (Nat.zero_le _) (jretWV h)
-- X9_has
def F_X9_has (v0 : Int32) (v1 : Int32) : Bool :=
  (if ((v0 >>> (v1 &&& 31)) &&& (1 : Int32)) = 1 then true else false)
def rm_X9_has : Room := { frames := 0, cells := 0, slots := 0, locals := 0 }
set_option maxHeartbeats 4000000 in
set_option maxRecDepth 100000 in
theorem m_X9_has {l : Launch} {D : va_G} {G : Nat → ClassId} {KV : jV} {ad : Nat → Nat} {s : jS} (v0 : Int32) (v1 : Int32) {p : Bool} (h : F_X9_has v0 v1 = p) : jM l D G KV yX9_has cX9_has 2 (some .boolean) rm_X9_has [.int v0, .int v1] (jw 15 (cellM G) ad s) 0 0 (fun v u => v = some (.int (jb p)) ∧ u = jw 15 (cellM G) ad s) := by
  refine jM.of (by decide) (Nat.le_of_ble_eq_true rfl) ?_
  intro K C
  unfold F_X9_has at h
  show K 0 0 (jw 15 (cellM G) ad s) 0 [(0, .int v0), (1, .int v1)] []
  refine j_iload_n C dX9_has_0 0 rfl ?_
  refine j_iload_n C dX9_has_1 1 rfl ?_
  refine j_ishr C dX9_has_2 ?_
  refine j_iconst C dX9_has_3 (v := 1) (by decide) ?_
  refine j_iand C dX9_has_4 ?_
  refine j_iconst C dX9_has_5 (v := 1) (by decide) ?_
  refine j_icmp_ne C dX9_has_6 (tgt := 13) (by decide) (fun cq => ?_) (fun cq => ?_)
  · have h := jite_f h cq
    refine j_iconst C dX9_has_13 (v := 0) (by decide) ?_
    exact j_iret C dX9_has_14 rfl (jb_nar false) (Nat.zero_le _) (Nat.zero_le _) (jretTB h)
  · have h := jite_t h cq
    refine j_iconst C dX9_has_9 (v := 1) (by decide) ?_
    refine j_goto C dX9_has_10 (tgt := 14) (by decide) ?_
    exact j_iret C dX9_has_14 rfl (jb_nar true) (Nat.zero_le _) (Nat.zero_le _) (jretTB h)
-- X9_hourBy
def F_X9_hourBy (v1 : Bool) (s : jS) : Option jS :=
  (jl (upI s 1 (Int32.toNatClampNeg 6) (((s.1 1 (Int32.toNatClampNeg 6)) + 1) - ((s.1 1 (Int32.toNatClampNeg 6)) + 1) / 24 * 24)) fun s18_1 => (if v1 = true then (jl (upI s18_1 1 (Int32.toNatClampNeg 5) ((s18_1.1 1 (Int32.toNatClampNeg 5)) + 1)) fun s32_3 => (jl (upI s32_3 1 (Int32.toNatClampNeg 7) 0) fun s40_4 => some s40_4)) else (if 9 ≤ (s18_1.1 1 (Int32.toNatClampNeg 7)) then some s18_1 else (jl (upI s18_1 1 (Int32.toNatClampNeg 7) ((s18_1.1 1 (Int32.toNatClampNeg 7)) + 1)) fun s66_2 => some s66_2))))
def rm_X9_hourBy : Room := { frames := 0, cells := 0, slots := 0, locals := 0 }
set_option maxHeartbeats 4000000 in
set_option maxRecDepth 100000 in
theorem m_X9_hourBy {l : Launch} {D : va_G} {G : Nat → ClassId} {KV : jV} {ad : Nat → Nat} (v1 : Bool) (s : jS) {p : jS} (h : F_X9_hourBy v1 s = some p) : jM l D G KV yX9_hourBy cX9_hourBy 2 none rm_X9_hourBy [.ref (ad 0), .int (jb v1)] (jw 15 (cellM G) ad s) 0 0 (fun v u => v = none ∧ u = jw 15 (cellM G) ad p) := by
  refine jM.of (by decide) (Nat.le_of_ble_eq_true rfl) ?_
  intro K C
  unfold F_X9_hourBy at h
  show K 0 0 (jw 15 (cellM G) ad s) 0 [(0, .ref (ad 0)), (1, .int (jb v1))] []
  refine j_aload_n C dX9_hourBy_0 0 rfl ?_
  refine j_getW C dX9_hourBy_1 inX9 rfl (by decide) rfl 0 (by decide) w_923 rfl rfl ?_
  refine j_bipush C dX9_hourBy_4 (v := 6) (by decide) ?_
  refine j_aload_n C dX9_hourBy_6 0 rfl ?_
  refine j_getW C dX9_hourBy_7 inX9 rfl (by decide) rfl 0 (by decide) w_923 rfl rfl ?_
  refine j_bipush C dX9_hourBy_10 (v := 6) (by decide) ?_
  refine j_ialdW C dX9_hourBy_12 (by decide) rfl (jin_vp (i := 6) (n := 324) (by decide)) ?_
  refine j_iconst C dX9_hourBy_13 (v := 1) (by decide) ?_
  refine j_iadd C dX9_hourBy_14 ?_
  refine j_bipush C dX9_hourBy_15 (v := 24) (by decide) ?_
  refine j_irem C dX9_hourBy_17 (by decide) ?_
  refine j_iastW C dX9_hourBy_18 (by decide) (fun _ => rfl) (jin_vp (i := 6) (n := 324) (by decide)) (fun s18_1 hs18_1 => ?_)
  have h := jlet h hs18_1
  refine j_iload_n C dX9_hourBy_19 1 rfl ?_
  refine j_if_eq C dX9_hourBy_20 (tgt := 44) (by decide) (fun cq => ?_) (fun cq => ?_)
  · have h := jite_f h (jb_f cq)
    refine j_aload_n C dX9_hourBy_44 0 rfl ?_
    refine j_getW C dX9_hourBy_45 inX9 rfl (by decide) rfl 0 (by decide) w_923 rfl rfl ?_
    refine j_bipush C dX9_hourBy_48 (v := 7) (by decide) ?_
    refine j_ialdW C dX9_hourBy_50 (by decide) rfl (jin_vp (i := 7) (n := 324) (by decide)) ?_
    refine j_bipush C dX9_hourBy_51 (v := 9) (by decide) ?_
    refine j_icmp_ge C dX9_hourBy_53 (tgt := 67) (by decide) (fun cq => ?_) (fun cq => ?_)
    · have h := jite_t h cq
      exact j_vret C dX9_hourBy_67 rfl (Nat.zero_le _) (Nat.zero_le _) (jretWV h)
    · have h := jite_f h cq
      refine j_aload_n C dX9_hourBy_56 0 rfl ?_
      refine j_getW C dX9_hourBy_57 inX9 rfl (by decide) rfl 0 (by decide) w_923 rfl rfl ?_
      refine j_bipush C dX9_hourBy_60 (v := 7) (by decide) ?_
      refine j_dup2 C dX9_hourBy_62 rfl rfl ?_
      refine j_ialdW C dX9_hourBy_63 (by decide) rfl (jin_vp (i := 7) (n := 324) (by decide)) ?_
      refine j_iconst C dX9_hourBy_64 (v := 1) (by decide) ?_
      refine j_iadd C dX9_hourBy_65 ?_
      refine j_iastW C dX9_hourBy_66 (by decide) (fun _ => rfl) (jin_vp (i := 7) (n := 324) (by decide)) (fun s66_2 hs66_2 => ?_)
      have h := jlet h hs66_2
      exact j_vret C dX9_hourBy_67 rfl (Nat.zero_le _) (Nat.zero_le _) (jretWV h)
  · have h := jite_t h (jb_t cq)
    refine j_aload_n C dX9_hourBy_23 0 rfl ?_
    refine j_getW C dX9_hourBy_24 inX9 rfl (by decide) rfl 0 (by decide) w_923 rfl rfl ?_
    refine j_iconst C dX9_hourBy_27 (v := 5) (by decide) ?_
    refine j_dup2 C dX9_hourBy_28 rfl rfl ?_
    refine j_ialdW C dX9_hourBy_29 (by decide) rfl (jin_vp (i := 5) (n := 324) (by decide)) ?_
    refine j_iconst C dX9_hourBy_30 (v := 1) (by decide) ?_
    refine j_iadd C dX9_hourBy_31 ?_
    refine j_iastW C dX9_hourBy_32 (by decide) (fun _ => rfl) (jin_vp (i := 5) (n := 324) (by decide)) (fun s32_3 hs32_3 => ?_)
    have h := jlet h hs32_3
    refine j_aload_n C dX9_hourBy_33 0 rfl ?_
    refine j_getW C dX9_hourBy_34 inX9 rfl (by decide) rfl 0 (by decide) w_923 rfl rfl ?_
    refine j_bipush C dX9_hourBy_37 (v := 7) (by decide) ?_
    refine j_iconst C dX9_hourBy_39 (v := 0) (by decide) ?_
    refine j_iastW C dX9_hourBy_40 (by decide) (fun _ => rfl) (jin_vp (i := 7) (n := 324) (by decide)) (fun s40_4 hs40_4 => ?_)
    have h := jlet h hs40_4
    refine j_goto C dX9_hourBy_41 (tgt := 67) (by decide) ?_
    exact j_vret C dX9_hourBy_67 rfl (Nat.zero_le _) (Nat.zero_le _) (jretWV h)
-- X9_knock
def J_X9_knock_108 (n : Nat) (v4 : Bool) (s : jS) : Option (Int32 × jS) :=
  ((F_X9_hourBy v4 s).bind fun p111 => (if v4 = true then some (1, p111) else some (0, p111)))
def J_X9_knock_90 (n : Nat) (v2 : Int32) (k0 : Bool) (s : jS) : Option (Int32 × jS) :=
  (if k0 = true then (jl (upI s 1 (Int32.toNatClampNeg 8) ((s.1 1 (Int32.toNatClampNeg 8)) - v2)) fun s107_1 => J_X9_knock_108 n k0 s107_1) else J_X9_knock_108 n k0 s)
def J_X9_knock_85 (n : Nat) (v2 : Int32) (s : jS) : Option (Int32 × jS) :=
  J_X9_knock_90 n v2 true s
def F_X9_knock (n : Nat) (v1 : Int32) (v2 : Int32) (s : jS) : Option (Int32 × jS) :=
  (if (s.1 1 (Int32.toNatClampNeg 5)) = (s.1 0 2) then some ((-1), s) else (if (F_X9_isKnock v1 v2) = true then (if v2 ≤ (s.1 1 (Int32.toNatClampNeg 8)) then ((F_X9_keepStep n s).bind fun p37 => (if (F_X9_has (p37.1 1 (Int32.toNatClampNeg 10)) (s.1 1 (Int32.toNatClampNeg 5))) = true then J_X9_knock_85 n v2 p37 else ((F_X9_opens n (s.1 1 (Int32.toNatClampNeg 5)) (p37.1 1 (Int32.toNatClampNeg 6)) v1 v2 (p37.1 1 (Int32.toNatClampNeg 7)) (p37.1 1 (Int32.toNatClampNeg 9)) p37).bind fun p79 => (if p79.1 = true then J_X9_knock_85 n v2 p79.2 else J_X9_knock_90 n v2 false p79.2)))) else some ((-1), s)) else some ((-1), s)))
def rm_X9_knock : Room := { frames := 5, cells := 0, slots := 0, locals := 128 }
set_option maxHeartbeats 4000000 in
set_option maxRecDepth 100000 in
theorem m_X9_knock {l : Launch} {D : va_G} {G : Nat → ClassId} {KV : jV} {ad : Nat → Nat} (n : Nat) (v1 : Int32) (v2 : Int32) (s : jS) {p : Int32 × jS} (h : F_X9_knock n v1 v2 s = some p) : jM l D G KV yX9_knock cX9_knock 5 (some .int) rm_X9_knock [.ref (ad 0), .int v1, .int v2] (jw 15 (cellM G) ad s) 0 0 (fun v u => v = some (.int p.1) ∧ u = jw 15 (cellM G) ad p.2) := by
  refine jM.of (by decide) (Nat.le_of_ble_eq_true rfl) ?_
  intro K C
  unfold F_X9_knock at h
  have jn108 : ∀ (v4 : Bool) (s : jS) (_ : J_X9_knock_108 n v4 s = some p), K 0 0 (jw 15 (cellM G) ad s) 108 [(0, .ref (ad 0)), (4, .int (jb v4))] [] := by
    intro v4 s h
    unfold J_X9_knock_108 at h
    refine j_aload_n C dX9_knock_108 0 rfl ?_
    refine j_iload C dX9_knock_109 1 rfl ?_
    obtain ⟨p111, he111, h⟩ := jbind h
    refine j_cV0 C dX9_knock_111 (m_X9_hourBy v4 s he111) kc_X9_hourBy w_1226 w_1228 wp_72 w_11 jy_X9_hourBy ⟨⟨Nat.le_of_ble_eq_true rfl, Nat.le_of_ble_eq_true rfl⟩, ⟨rfl, rfl⟩, ⟨Nat.zero_le _, Nat.zero_le _⟩⟩ (Nat.le_of_ble_eq_true rfl) (by decide) rfl (r := (RX9, TX9, 32)) rfl rfl rfl (fun _ _ h => h) ?_
    refine j_iload C dX9_knock_114 1 rfl ?_
    refine j_if_eq C dX9_knock_116 (tgt := 123) (by decide) (fun cq => ?_) (fun cq => ?_)
    · have h := jite_f h (jb_f cq)
      refine j_iconst C dX9_knock_123 (v := 0) (by decide) ?_
      exact j_iret C dX9_knock_124 rfl rfl (Nat.zero_le _) (Nat.zero_le _) (jretWI h)
    · have h := jite_t h (jb_t cq)
      refine j_iconst C dX9_knock_119 (v := 1) (by decide) ?_
      refine j_goto C dX9_knock_120 (tgt := 124) (by decide) ?_
      exact j_iret C dX9_knock_124 rfl rfl (Nat.zero_le _) (Nat.zero_le _) (jretWI h)
  have jn90 : ∀ (v2 : Int32) (k0 : Bool) (s : jS) (_ : J_X9_knock_90 n v2 k0 s = some p), K 0 0 (jw 15 (cellM G) ad s) 90 [(0, .ref (ad 0)), (2, .int v2)] [.int (jb k0)] := by
    intro v2 k0 s h
    unfold J_X9_knock_90 at h
    refine j_istore C dX9_knock_90 (by decide) rfl ?_
    refine j_iload C dX9_knock_92 0 rfl ?_
    refine j_if_eq C dX9_knock_94 (tgt := 108) (by decide) (fun cq => ?_) (fun cq => ?_)
    · have h := jite_f h (jb_f cq)
      refine j_loc C [1, 0] rfl ?_
      exact jn108 k0 s  h
    · have h := jite_t h (jb_t cq)
      refine j_aload_n C dX9_knock_97 1 rfl ?_
      refine j_getW C dX9_knock_98 inX9 rfl (by decide) rfl 0 (by decide) w_923 rfl rfl ?_
      refine j_bipush C dX9_knock_101 (v := 8) (by decide) ?_
      refine j_dup2 C dX9_knock_103 rfl rfl ?_
      refine j_ialdW C dX9_knock_104 (by decide) rfl (jin_vp (i := 8) (n := 324) (by decide)) ?_
      refine j_iload_n C dX9_knock_105 2 rfl ?_
      refine j_isub C dX9_knock_106 ?_
      refine j_iastW C dX9_knock_107 (by decide) (fun _ => rfl) (jin_vp (i := 8) (n := 324) (by decide)) (fun s107_1 hs107_1 => ?_)
      have h := jlet h hs107_1
      refine j_loc C [1, 0] rfl ?_
      exact jn108 k0 s107_1  h
  have jn85 : ∀ (v2 : Int32) (s : jS) (_ : J_X9_knock_85 n v2 s = some p), K 0 0 (jw 15 (cellM G) ad s) 85 [(0, .ref (ad 0)), (2, .int v2)] [] := by
    intro v2 s h
    unfold J_X9_knock_85 at h
    refine j_iconst C dX9_knock_85 (v := 1) (by decide) ?_
    refine j_goto C dX9_knock_86 (tgt := 90) (by decide) ?_
    refine j_loc C [0, 1] rfl ?_
    exact jn90 v2 true s  h
  show K 0 0 (jw 15 (cellM G) ad s) 0 [(0, .ref (ad 0)), (1, .int v1), (2, .int v2)] []
  refine j_aload_n C dX9_knock_0 0 rfl ?_
  refine j_getW C dX9_knock_1 inX9 rfl (by decide) rfl 0 (by decide) w_923 rfl rfl ?_
  refine j_iconst C dX9_knock_4 (v := 5) (by decide) ?_
  refine j_ialdW C dX9_knock_5 (by decide) rfl (jin_vp (i := 5) (n := 324) (by decide)) ?_
  refine j_istore_n C dX9_knock_6 (by decide) rfl ?_
  refine j_iload_n C dX9_knock_7 0 rfl ?_
  refine j_aload_n C dX9_knock_8 1 rfl ?_
  refine j_getW C dX9_knock_9 inX9 rfl (by decide) rfl 2 (by decide) w_925 rfl rfl ?_
  refine j_icmp_eq C dX9_knock_12 (tgt := 34) (by decide) (fun cq => ?_) (fun cq => ?_)
  · have h := jite_t h cq
    refine j_iconst C dX9_knock_34 (v := (-1)) (by decide) ?_
    exact j_iret C dX9_knock_35 rfl rfl (Nat.zero_le _) (Nat.zero_le _) (jretWI h)
  · have h := jite_f h cq
    refine j_iload_n C dX9_knock_15 2 rfl ?_
    refine j_iload_n C dX9_knock_16 3 rfl ?_
    refine j_cS1 C dX9_knock_17 (m_X9_isKnock v1 v2 rfl) kc_X9_isKnock w_1180 w_1181 w_11 jy_X9_isKnock ⟨⟨Nat.le_of_ble_eq_true rfl, Nat.le_of_ble_eq_true rfl⟩, ⟨rfl, rfl⟩, ⟨Nat.zero_le _, Nat.zero_le _⟩⟩ (Nat.le_of_ble_eq_true rfl) rfl (fun _ _ h => h) ?_
    refine j_if_eq C dX9_knock_20 (tgt := 34) (by decide) (fun cq => ?_) (fun cq => ?_)
    · have h := jite_f h (jb_f cq)
      refine j_iconst C dX9_knock_34 (v := (-1)) (by decide) ?_
      exact j_iret C dX9_knock_35 rfl rfl (Nat.zero_le _) (Nat.zero_le _) (jretWI h)
    · have h := jite_t h (jb_t cq)
      refine j_iload_n C dX9_knock_23 3 rfl ?_
      refine j_aload_n C dX9_knock_24 1 rfl ?_
      refine j_getW C dX9_knock_25 inX9 rfl (by decide) rfl 0 (by decide) w_923 rfl rfl ?_
      refine j_bipush C dX9_knock_28 (v := 8) (by decide) ?_
      refine j_ialdW C dX9_knock_30 (by decide) rfl (jin_vp (i := 8) (n := 324) (by decide)) ?_
      refine j_icmp_le C dX9_knock_31 (tgt := 36) (by decide) (fun cq => ?_) (fun cq => ?_)
      · have h := jite_t h cq
        refine j_aload_n C dX9_knock_36 1 rfl ?_
        obtain ⟨p37, he37, h⟩ := jbind h
        refine j_cV0 C dX9_knock_37 (m_X9_keepStep n s he37) kc_X9_keepStep w_1218 w_1220 wp_71 w_11 jy_X9_keepStep ⟨⟨Nat.le_of_ble_eq_true rfl, Nat.le_of_ble_eq_true rfl⟩, ⟨rfl, rfl⟩, ⟨Nat.zero_le _, Nat.zero_le _⟩⟩ (Nat.le_of_ble_eq_true rfl) (by decide) rfl (r := (RX9, TX9, 32)) rfl rfl rfl (fun _ _ h => h) ?_
        refine j_aload_n C dX9_knock_40 1 rfl ?_
        refine j_getW C dX9_knock_41 inX9 rfl (by decide) rfl 0 (by decide) w_923 rfl rfl ?_
        refine j_bipush C dX9_knock_44 (v := 10) (by decide) ?_
        refine j_ialdW C dX9_knock_46 (by decide) rfl (jin_vp (i := 10) (n := 324) (by decide)) ?_
        refine j_iload_n C dX9_knock_47 0 rfl ?_
        refine j_cS1 C dX9_knock_48 (m_X9_has (p37.1 1 (Int32.toNatClampNeg 10)) (s.1 1 (Int32.toNatClampNeg 5)) rfl) kc_X9_has w_1222 w_1223 w_11 jy_X9_has ⟨⟨Nat.le_of_ble_eq_true rfl, Nat.le_of_ble_eq_true rfl⟩, ⟨rfl, rfl⟩, ⟨Nat.zero_le _, Nat.zero_le _⟩⟩ (Nat.le_of_ble_eq_true rfl) rfl (fun _ _ h => h) ?_
        refine j_if_ne C dX9_knock_51 (tgt := 85) (by decide) (fun cq => ?_) (fun cq => ?_)
        · have h := jite_t h (jb_t cq)
          refine j_loc C [1, 3] rfl ?_
          exact jn85 v2 p37  h
        · have h := jite_f h (jb_f cq)
          refine j_aload_n C dX9_knock_54 1 rfl ?_
          refine j_iload_n C dX9_knock_55 0 rfl ?_
          refine j_aload_n C dX9_knock_56 1 rfl ?_
          refine j_getW C dX9_knock_57 inX9 rfl (by decide) rfl 0 (by decide) w_923 rfl rfl ?_
          refine j_bipush C dX9_knock_60 (v := 6) (by decide) ?_
          refine j_ialdW C dX9_knock_62 (by decide) rfl (jin_vp (i := 6) (n := 324) (by decide)) ?_
          refine j_iload_n C dX9_knock_63 2 rfl ?_
          refine j_iload_n C dX9_knock_64 3 rfl ?_
          refine j_aload_n C dX9_knock_65 1 rfl ?_
          refine j_getW C dX9_knock_66 inX9 rfl (by decide) rfl 0 (by decide) w_923 rfl rfl ?_
          refine j_bipush C dX9_knock_69 (v := 7) (by decide) ?_
          refine j_ialdW C dX9_knock_71 (by decide) rfl (jin_vp (i := 7) (n := 324) (by decide)) ?_
          refine j_aload_n C dX9_knock_72 1 rfl ?_
          refine j_getW C dX9_knock_73 inX9 rfl (by decide) rfl 0 (by decide) w_923 rfl rfl ?_
          refine j_bipush C dX9_knock_76 (v := 9) (by decide) ?_
          refine j_ialdW C dX9_knock_78 (by decide) rfl (jin_vp (i := 9) (n := 324) (by decide)) ?_
          obtain ⟨p79, he79, h⟩ := jbind h
          refine j_cV1 C dX9_knock_79 (m_X9_opens n (s.1 1 (Int32.toNatClampNeg 5)) (p37.1 1 (Int32.toNatClampNeg 6)) v1 v2 (p37.1 1 (Int32.toNatClampNeg 7)) (p37.1 1 (Int32.toNatClampNeg 9)) p37 he79) kc_X9_opens w_1225 w_1177 w_1178 w_11 jy_X9_opens ⟨⟨Nat.le_of_ble_eq_true rfl, Nat.le_of_ble_eq_true rfl⟩, ⟨rfl, rfl⟩, ⟨Nat.zero_le _, Nat.zero_le _⟩⟩ (Nat.le_of_ble_eq_true rfl) (by decide) rfl (r := (RX9, TX9, 32)) rfl rfl rfl (fun _ _ h => h) ?_
          refine j_if_eq C dX9_knock_82 (tgt := 89) (by decide) (fun cq => ?_) (fun cq => ?_)
          · have h := jite_f h (jb_f cq)
            refine j_iconst C dX9_knock_89 (v := 0) (by decide) ?_
            refine j_loc C [1, 3] rfl ?_
            exact jn90 v2 false p79.2  h
          · have h := jite_t h (jb_t cq)
            refine j_loc C [1, 3] rfl ?_
            exact jn85 v2 p79.2  h
      · have h := jite_f h cq
        refine j_iconst C dX9_knock_34 (v := (-1)) (by decide) ?_
        exact j_iret C dX9_knock_35 rfl rfl (Nat.zero_le _) (Nat.zero_le _) (jretWI h)
-- X9_later
def B_X9_later_27 (n : Nat) (v1 : Int32) (q : Int32 × jS) : Option ((Int32 × jS) ⊕ (Int32 × jS)) :=
  (if v1 ≤ q.1 then some (.inr (q.1, q.2)) else ((F_X9_keepStep n q.2).bind fun p33 => ((F_X9_hourBy false p33).bind fun p38 => some (.inl ((q.1 + 1), p38)))))
def F_X9_later (n : Nat) (v1 : Int32) (s : jS) : Option (Int32 × jS) :=
  (if (s.1 1 (Int32.toNatClampNeg 5)) = (s.1 0 2) then some ((-1), s) else (if (F_X9_isIn v1 0 24) = true then ((lp (B_X9_later_27 n v1) n (0, s)).bind fun e27 => some ((e27.2.1 1 (Int32.toNatClampNeg 6)), e27.2)) else some ((-1), s)))
def rm_X9_later : Room := { frames := 1, cells := 0, slots := 0, locals := 22 }
set_option maxHeartbeats 4000000 in
set_option maxRecDepth 100000 in
theorem m_X9_later {l : Launch} {D : va_G} {G : Nat → ClassId} {KV : jV} {ad : Nat → Nat} (n : Nat) (v1 : Int32) (s : jS) {p : Int32 × jS} (h : F_X9_later n v1 s = some p) : jM l D G KV yX9_later cX9_later 3 (some .int) rm_X9_later [.ref (ad 0), .int v1] (jw 15 (cellM G) ad s) 0 0 (fun v u => v = some (.int p.1) ∧ u = jw 15 (cellM G) ad p.2) := by
  refine jM.of (by decide) (Nat.le_of_ble_eq_true rfl) ?_
  intro K C
  unfold F_X9_later at h
  have lo27 : ∀ (v1 : Int32) (s : jS) (k : Nat) (q : Int32 × jS) (e : Int32 × jS), lp (B_X9_later_27 n v1) k q = some e → K 0 0 (jw 15 (cellM G) ad e.2) 47 [(0, .ref (ad 0))] [] → K 0 0 (jw 15 (cellM G) ad q.2) 27 [(0, .ref (ad 0)), (1, .int v1), (2, .int q.1)] [] := by
    intro v1 s k q e he hE
    refine jlp (KH := fun q => K 0 0 (jw 15 (cellM G) ad q.2) 27 [(0, .ref (ad 0)), (1, .int v1), (2, .int q.1)] []) (KE := fun e => K 0 0 (jw 15 (cellM G) ad e.2) 47 [(0, .ref (ad 0))] []) ?_ k q e he hE
    intro q o hb hin hout
    unfold B_X9_later_27 at hb
    show K 0 0 (jw 15 (cellM G) ad q.2) 27 [(0, .ref (ad 0)), (1, .int v1), (2, .int q.1)] []
    refine j_iload_n C dX9_later_27 2 rfl ?_
    refine j_iload_n C dX9_later_28 1 rfl ?_
    refine j_icmp_ge C dX9_later_29 (tgt := 47) (by decide) (fun cq => ?_) (fun cq => ?_)
    · have hb := jite_t hb cq
      refine j_loc C [0] rfl ?_
      have hx := hout _ (jinr hb)
      exact hx
    · have hb := jite_f hb cq
      refine j_aload_n C dX9_later_32 0 rfl ?_
      obtain ⟨p33, he33, hb⟩ := jbind hb
      refine j_cV0 C dX9_later_33 (m_X9_keepStep n q.2 he33) kc_X9_keepStep w_1218 w_1220 wp_71 w_11 jy_X9_keepStep ⟨⟨Nat.le_of_ble_eq_true rfl, Nat.le_of_ble_eq_true rfl⟩, ⟨rfl, rfl⟩, ⟨Nat.zero_le _, Nat.zero_le _⟩⟩ (Nat.le_of_ble_eq_true rfl) (by decide) rfl (r := (RX9, TX9, 32)) rfl rfl rfl (fun _ _ h => h) ?_
      refine j_aload_n C dX9_later_36 0 rfl ?_
      refine j_iconst C dX9_later_37 (v := 0) (by decide) ?_
      obtain ⟨p38, he38, hb⟩ := jbind hb
      refine j_cV0 C dX9_later_38 (m_X9_hourBy false p33 he38) kc_X9_hourBy w_1226 w_1228 wp_72 w_11 jy_X9_hourBy ⟨⟨Nat.le_of_ble_eq_true rfl, Nat.le_of_ble_eq_true rfl⟩, ⟨rfl, rfl⟩, ⟨Nat.zero_le _, Nat.zero_le _⟩⟩ (Nat.le_of_ble_eq_true rfl) (by decide) rfl (r := (RX9, TX9, 32)) rfl rfl rfl (fun _ _ h => h) ?_
      refine j_iinc C dX9_later_41 2 rfl (v := (q.1 + 1)) rfl (by decide) rfl ?_
      refine j_goto C dX9_later_44 (tgt := 27) (by decide) ?_
      refine j_loc C [1, 2, 0] rfl ?_
      have hx := hin _ (jinl hb)
      exact hx
  show K 0 0 (jw 15 (cellM G) ad s) 0 [(0, .ref (ad 0)), (1, .int v1)] []
  refine j_aload_n C dX9_later_0 0 rfl ?_
  refine j_getW C dX9_later_1 inX9 rfl (by decide) rfl 0 (by decide) w_923 rfl rfl ?_
  refine j_iconst C dX9_later_4 (v := 5) (by decide) ?_
  refine j_ialdW C dX9_later_5 (by decide) rfl (jin_vp (i := 5) (n := 324) (by decide)) ?_
  refine j_aload_n C dX9_later_6 0 rfl ?_
  refine j_getW C dX9_later_7 inX9 rfl (by decide) rfl 2 (by decide) w_925 rfl rfl ?_
  refine j_icmp_eq C dX9_later_10 (tgt := 23) (by decide) (fun cq => ?_) (fun cq => ?_)
  · have h := jite_t h cq
    refine j_iconst C dX9_later_23 (v := (-1)) (by decide) ?_
    exact j_iret C dX9_later_24 rfl rfl (Nat.zero_le _) (Nat.zero_le _) (jretWI h)
  · have h := jite_f h cq
    refine j_iload_n C dX9_later_13 1 rfl ?_
    refine j_iconst C dX9_later_14 (v := 0) (by decide) ?_
    refine j_bipush C dX9_later_15 (v := 24) (by decide) ?_
    refine j_cS1 C dX9_later_17 (m_X9_isIn v1 0 24 rfl) kc_X9_isIn w_1025 w_1026 w_11 jy_X9_isIn ⟨⟨Nat.le_of_ble_eq_true rfl, Nat.le_of_ble_eq_true rfl⟩, ⟨rfl, rfl⟩, ⟨Nat.zero_le _, Nat.zero_le _⟩⟩ (Nat.le_of_ble_eq_true rfl) rfl (fun _ _ h => h) ?_
    refine j_if_ne C dX9_later_20 (tgt := 25) (by decide) (fun cq => ?_) (fun cq => ?_)
    · have h := jite_t h (jb_t cq)
      refine j_iconst C dX9_later_25 (v := 0) (by decide) ?_
      refine j_istore_n C dX9_later_26 (by decide) rfl ?_
      refine j_loc C [1, 2, 0] rfl ?_
      obtain ⟨e27, he27, h⟩ := jbind h
      refine lo27 v1 s  n (0, s) e27 he27 ?_
      refine j_aload_n C dX9_later_47 0 rfl ?_
      refine j_getW C dX9_later_48 inX9 rfl (by decide) rfl 0 (by decide) w_923 rfl rfl ?_
      refine j_bipush C dX9_later_51 (v := 6) (by decide) ?_
      refine j_ialdW C dX9_later_53 (by decide) rfl (jin_vp (i := 6) (n := 324) (by decide)) ?_
      exact j_iret C dX9_later_54 rfl rfl (Nat.zero_le _) (Nat.zero_le _) (jretWI h)
    · have h := jite_f h (jb_f cq)
      refine j_iconst C dX9_later_23 (v := (-1)) (by decide) ?_
      exact j_iret C dX9_later_24 rfl rfl (Nat.zero_le _) (Nat.zero_le _) (jretWI h)
-- X9_isPlayed
def F_X9_isPlayed (n : Nat) (v1 : Int32) (s : jS) : Option (Bool × jS) :=
  (if jin v1 2720 = true then (if (s.1 3 (Int32.toNatClampNeg v1)) = 1 then (if jin (v1 + 1) 2720 = true then (if jin (v1 + 2) 2720 = true then ((F_X9_knock n (s.1 3 (Int32.toNatClampNeg (v1 + 1))) (s.1 3 (Int32.toNatClampNeg (v1 + 2))) s).bind fun p27 => (if p27.1 < 0 then some (false, p27.2) else some (true, p27.2))) else none) else none) else (if (s.1 3 (Int32.toNatClampNeg v1)) = 2 then (if jin (v1 + 1) 2720 = true then ((F_X9_later n (s.1 3 (Int32.toNatClampNeg (v1 + 1))) s).bind fun p58 => (if p58.1 < 0 then some (false, p58.2) else some (true, p58.2))) else none) else some (true, s))) else none)
def rm_X9_isPlayed : Room := { frames := 6, cells := 0, slots := 0, locals := 152 }
set_option maxHeartbeats 4000000 in
set_option maxRecDepth 100000 in
theorem m_X9_isPlayed {l : Launch} {D : va_G} {G : Nat → ClassId} {KV : jV} {ad : Nat → Nat} (n : Nat) (v1 : Int32) (s : jS) {p : Bool × jS} (h : F_X9_isPlayed n v1 s = some p) : jM l D G KV yX9_isPlayed cX9_isPlayed 2 (some .boolean) rm_X9_isPlayed [.ref (ad 0), .int v1] (jw 15 (cellM G) ad s) 0 0 (fun v u => v = some (.int (jb p.1)) ∧ u = jw 15 (cellM G) ad p.2) := by
  refine jM.of (by decide) (Nat.le_of_ble_eq_true rfl) ?_
  intro K C
  unfold F_X9_isPlayed at h
  show K 0 0 (jw 15 (cellM G) ad s) 0 [(0, .ref (ad 0)), (1, .int v1)] []
  refine j_aload_n C dX9_isPlayed_0 0 rfl ?_
  refine j_getW C dX9_isPlayed_1 inX9 rfl (by decide) rfl 3 (by decide) w_926 rfl rfl ?_
  refine j_iload_n C dX9_isPlayed_4 1 rfl ?_
  obtain ⟨c5_1, h⟩ := jchk h
  refine j_ialdW C dX9_isPlayed_5 (by decide) rfl (jin_vp c5_1) ?_
  refine j_iconst C dX9_isPlayed_6 (v := 1) (by decide) ?_
  refine j_icmp_ne C dX9_isPlayed_7 (tgt := 39) (by decide) (fun cq => ?_) (fun cq => ?_)
  · have h := jite_f h cq
    refine j_aload_n C dX9_isPlayed_39 0 rfl ?_
    refine j_getW C dX9_isPlayed_40 inX9 rfl (by decide) rfl 3 (by decide) w_926 rfl rfl ?_
    refine j_iload_n C dX9_isPlayed_43 1 rfl ?_
    refine j_ialdW C dX9_isPlayed_44 (by decide) rfl (jin_vp c5_1) ?_
    refine j_iconst C dX9_isPlayed_45 (v := 2) (by decide) ?_
    refine j_icmp_ne C dX9_isPlayed_46 (tgt := 64) (by decide) (fun cq => ?_) (fun cq => ?_)
    · have h := jite_f h cq
      refine j_iconst C dX9_isPlayed_64 (v := 1) (by decide) ?_
      refine j_goto C dX9_isPlayed_65 (tgt := 69) (by decide) ?_
      exact j_iret C dX9_isPlayed_69 rfl (jb_nar true) (Nat.zero_le _) (Nat.zero_le _) (jretWB h)
    · have h := jite_t h cq
      refine j_aload_n C dX9_isPlayed_49 0 rfl ?_
      refine j_aload_n C dX9_isPlayed_50 0 rfl ?_
      refine j_getW C dX9_isPlayed_51 inX9 rfl (by decide) rfl 3 (by decide) w_926 rfl rfl ?_
      refine j_iload_n C dX9_isPlayed_54 1 rfl ?_
      refine j_iconst C dX9_isPlayed_55 (v := 1) (by decide) ?_
      refine j_iadd C dX9_isPlayed_56 ?_
      obtain ⟨c57_2, h⟩ := jchk h
      refine j_ialdW C dX9_isPlayed_57 (by decide) rfl (jin_vp c57_2) ?_
      obtain ⟨p58, he58, h⟩ := jbind h
      refine j_cV1 C dX9_isPlayed_58 (m_X9_later n (s.1 3 (Int32.toNatClampNeg (v1 + 1))) s he58) kc_X9_later w_1243 w_1231 w_1232 w_11 jy_X9_later ⟨⟨Nat.le_of_ble_eq_true rfl, Nat.le_of_ble_eq_true rfl⟩, ⟨rfl, rfl⟩, ⟨Nat.zero_le _, Nat.zero_le _⟩⟩ (Nat.le_of_ble_eq_true rfl) (by decide) rfl (r := (RX9, TX9, 32)) rfl rfl rfl (fun _ _ h => h) ?_
      refine j_if_lt C dX9_isPlayed_61 (tgt := 68) (by decide) (fun cq => ?_) (fun cq => ?_)
      · have h := jite_t h cq
        refine j_iconst C dX9_isPlayed_68 (v := 0) (by decide) ?_
        exact j_iret C dX9_isPlayed_69 rfl (jb_nar false) (Nat.zero_le _) (Nat.zero_le _) (jretWB h)
      · have h := jite_f h cq
        refine j_iconst C dX9_isPlayed_64 (v := 1) (by decide) ?_
        refine j_goto C dX9_isPlayed_65 (tgt := 69) (by decide) ?_
        exact j_iret C dX9_isPlayed_69 rfl (jb_nar true) (Nat.zero_le _) (Nat.zero_le _) (jretWB h)
  · have h := jite_t h cq
    refine j_aload_n C dX9_isPlayed_10 0 rfl ?_
    refine j_aload_n C dX9_isPlayed_11 0 rfl ?_
    refine j_getW C dX9_isPlayed_12 inX9 rfl (by decide) rfl 3 (by decide) w_926 rfl rfl ?_
    refine j_iload_n C dX9_isPlayed_15 1 rfl ?_
    refine j_iconst C dX9_isPlayed_16 (v := 1) (by decide) ?_
    refine j_iadd C dX9_isPlayed_17 ?_
    obtain ⟨c18_3, h⟩ := jchk h
    refine j_ialdW C dX9_isPlayed_18 (by decide) rfl (jin_vp c18_3) ?_
    refine j_aload_n C dX9_isPlayed_19 0 rfl ?_
    refine j_getW C dX9_isPlayed_20 inX9 rfl (by decide) rfl 3 (by decide) w_926 rfl rfl ?_
    refine j_iload_n C dX9_isPlayed_23 1 rfl ?_
    refine j_iconst C dX9_isPlayed_24 (v := 2) (by decide) ?_
    refine j_iadd C dX9_isPlayed_25 ?_
    obtain ⟨c26_4, h⟩ := jchk h
    refine j_ialdW C dX9_isPlayed_26 (by decide) rfl (jin_vp c26_4) ?_
    obtain ⟨p27, he27, h⟩ := jbind h
    refine j_cV1 C dX9_isPlayed_27 (m_X9_knock n (s.1 3 (Int32.toNatClampNeg (v1 + 1))) (s.1 3 (Int32.toNatClampNeg (v1 + 2))) s he27) kc_X9_knock w_1242 w_1215 w_1216 w_11 jy_X9_knock ⟨⟨Nat.le_of_ble_eq_true rfl, Nat.le_of_ble_eq_true rfl⟩, ⟨rfl, rfl⟩, ⟨Nat.zero_le _, Nat.zero_le _⟩⟩ (Nat.le_of_ble_eq_true rfl) (by decide) rfl (r := (RX9, TX9, 32)) rfl rfl rfl (fun _ _ h => h) ?_
    refine j_if_lt C dX9_isPlayed_30 (tgt := 37) (by decide) (fun cq => ?_) (fun cq => ?_)
    · have h := jite_t h cq
      refine j_iconst C dX9_isPlayed_37 (v := 0) (by decide) ?_
      exact j_iret C dX9_isPlayed_38 rfl (jb_nar false) (Nat.zero_le _) (Nat.zero_le _) (jretWB h)
    · have h := jite_f h cq
      refine j_iconst C dX9_isPlayed_33 (v := 1) (by decide) ?_
      refine j_goto C dX9_isPlayed_34 (tgt := 38) (by decide) ?_
      exact j_iret C dX9_isPlayed_38 rfl (jb_nar true) (Nat.zero_le _) (Nat.zero_le _) (jretWB h)
-- X9_played
def B_X9_played_21 (n : Nat) (v1 : Int32) (q : Int32 × jS) : Option ((Int32 × jS) ⊕ ((Int32 × jS) ⊕ ((Int32 × jS)))) :=
  (if jin (680 * v1) 2720 = true then (if (q.2.1 3 (Int32.toNatClampNeg (680 * v1))) ≤ q.1 then some (.inr (.inl (q.1, q.2))) else ((F_X9_isPlayed n (((680 * v1) + 1) + (3 * q.1)) q.2).bind fun p47 => (if p47.1 = true then some (.inl ((q.1 + 1), p47.2)) else some (.inr (.inr (q.1, p47.2)))))) else none)
def F_X9_played (n : Nat) (v1 : Int32) (s : jS) : Option (Int32 × jS) :=
  (if (F_X9_isIn v1 0 ((s.1 1 (Int32.toNatClampNeg 0)) - 1)) = true then ((lp (B_X9_played_21 n v1) n (0, s)).bind fun e => Sum.elim (fun e21 => some ((-1), e21.2)) (fun r21 => some r21) e) else some ((-2), s))
def rm_X9_played : Room := { frames := 7, cells := 0, slots := 0, locals := 173 }
set_option maxHeartbeats 4000000 in
set_option maxRecDepth 100000 in
theorem m_X9_played {l : Launch} {D : va_G} {G : Nat → ClassId} {KV : jV} {ad : Nat → Nat} (n : Nat) (v1 : Int32) (s : jS) {p : Int32 × jS} (h : F_X9_played n v1 s = some p) : jM l D G KV yX9_played cX9_played 3 (some .int) rm_X9_played [.ref (ad 0), .int v1] (jw 15 (cellM G) ad s) 0 0 (fun v u => v = some (.int p.1) ∧ u = jw 15 (cellM G) ad p.2) := by
  refine jM.of (by decide) (Nat.le_of_ble_eq_true rfl) ?_
  intro K C
  unfold F_X9_played at h
  have lo21 : ∀ (v1 : Int32) (s : jS) (k : Nat) (q : Int32 × jS) (e : (Int32 × jS) ⊕ ((Int32 × jS))), lp (B_X9_played_21 n v1) k q = some e → Sum.elim (fun e => K 0 0 (jw 15 (cellM G) ad e.2) 61 [] []) (fun r => some r = some p) e → K 0 0 (jw 15 (cellM G) ad q.2) 21 [(0, .ref (ad 0)), (1, .int v1), (2, .int q.1)] [] := by
    intro v1 s k q e he hE
    refine jlp (KH := fun q => K 0 0 (jw 15 (cellM G) ad q.2) 21 [(0, .ref (ad 0)), (1, .int v1), (2, .int q.1)] []) (KE := fun e => Sum.elim (fun e => K 0 0 (jw 15 (cellM G) ad e.2) 61 [] []) (fun r => some r = some p) e) ?_ k q e he hE
    intro q o hb hin hout
    unfold B_X9_played_21 at hb
    show K 0 0 (jw 15 (cellM G) ad q.2) 21 [(0, .ref (ad 0)), (1, .int v1), (2, .int q.1)] []
    refine j_iload_n C dX9_played_21 2 rfl ?_
    refine j_aload_n C dX9_played_22 0 rfl ?_
    refine j_getW C dX9_played_23 inX9 rfl (by decide) rfl 3 (by decide) w_926 rfl rfl ?_
    refine j_sipush C dX9_played_26 (v := 680) (by decide) ?_
    refine j_iload_n C dX9_played_29 1 rfl ?_
    refine j_imul C dX9_played_30 ?_
    obtain ⟨c31_1, hb⟩ := jchk hb
    refine j_ialdW C dX9_played_31 (by decide) rfl (jin_vp c31_1) ?_
    refine j_icmp_ge C dX9_played_32 (tgt := 61) (by decide) (fun cq => ?_) (fun cq => ?_)
    · have hb := jite_t hb cq
      refine j_loc C [] rfl ?_
      have hx := hout _ (jinr hb)
      exact hx
    · have hb := jite_f hb cq
      refine j_aload_n C dX9_played_35 0 rfl ?_
      refine j_sipush C dX9_played_36 (v := 680) (by decide) ?_
      refine j_iload_n C dX9_played_39 1 rfl ?_
      refine j_imul C dX9_played_40 ?_
      refine j_iconst C dX9_played_41 (v := 1) (by decide) ?_
      refine j_iadd C dX9_played_42 ?_
      refine j_iconst C dX9_played_43 (v := 3) (by decide) ?_
      refine j_iload_n C dX9_played_44 2 rfl ?_
      refine j_imul C dX9_played_45 ?_
      refine j_iadd C dX9_played_46 ?_
      obtain ⟨p47, he47, hb⟩ := jbind hb
      refine j_cV1 C dX9_played_47 (m_X9_isPlayed n (((680 * v1) + 1) + (3 * q.1)) q.2 he47) kc_X9_isPlayed w_1238 w_1240 wp_73 w_11 jy_X9_isPlayed ⟨⟨Nat.le_of_ble_eq_true rfl, Nat.le_of_ble_eq_true rfl⟩, ⟨rfl, rfl⟩, ⟨Nat.zero_le _, Nat.zero_le _⟩⟩ (Nat.le_of_ble_eq_true rfl) (by decide) rfl (r := (RX9, TX9, 32)) rfl rfl rfl (fun _ _ h => h) ?_
      refine j_if_ne C dX9_played_50 (tgt := 55) (by decide) (fun cq => ?_) (fun cq => ?_)
      · have hb := jite_t hb (jb_t cq)
        refine j_iinc C dX9_played_55 2 rfl (v := (q.1 + 1)) rfl (by decide) rfl ?_
        refine j_goto C dX9_played_58 (tgt := 21) (by decide) ?_
        refine j_loc C [1, 2, 0] rfl ?_
        have hx := hin _ (jinl hb)
        exact hx
      · have hb := jite_f hb (jb_f cq)
        refine j_iload_n C dX9_played_53 2 rfl ?_
        exact j_iret C dX9_played_54 rfl rfl (Nat.zero_le _) (Nat.zero_le _) (jretWI (jretL hb hout))
  show K 0 0 (jw 15 (cellM G) ad s) 0 [(0, .ref (ad 0)), (1, .int v1)] []
  refine j_iload_n C dX9_played_0 1 rfl ?_
  refine j_iconst C dX9_played_1 (v := 0) (by decide) ?_
  refine j_aload_n C dX9_played_2 0 rfl ?_
  refine j_getW C dX9_played_3 inX9 rfl (by decide) rfl 0 (by decide) w_923 rfl rfl ?_
  refine j_iconst C dX9_played_6 (v := 0) (by decide) ?_
  refine j_ialdW C dX9_played_7 (by decide) rfl (jin_vp (i := 0) (n := 324) (by decide)) ?_
  refine j_iconst C dX9_played_8 (v := 1) (by decide) ?_
  refine j_isub C dX9_played_9 ?_
  refine j_cS1 C dX9_played_10 (m_X9_isIn v1 0 ((s.1 1 (Int32.toNatClampNeg 0)) - 1) rfl) kc_X9_isIn w_1025 w_1026 w_11 jy_X9_isIn ⟨⟨Nat.le_of_ble_eq_true rfl, Nat.le_of_ble_eq_true rfl⟩, ⟨rfl, rfl⟩, ⟨Nat.zero_le _, Nat.zero_le _⟩⟩ (Nat.le_of_ble_eq_true rfl) rfl (fun _ _ h => h) ?_
  refine j_if_ne C dX9_played_13 (tgt := 19) (by decide) (fun cq => ?_) (fun cq => ?_)
  · have h := jite_t h (jb_t cq)
    refine j_iconst C dX9_played_19 (v := 0) (by decide) ?_
    refine j_istore_n C dX9_played_20 (by decide) rfl ?_
    refine j_loc C [1, 2, 0] rfl ?_
    obtain ⟨e21, he21, h⟩ := jbind h
    refine lo21 v1 s  n (0, s) e21 he21 ?_
    rcases e21 with e21 | r21
    · show K _ _ _ _ _ _
      refine j_iconst C dX9_played_61 (v := (-1)) (by decide) ?_
      exact j_iret C dX9_played_62 rfl rfl (Nat.zero_le _) (Nat.zero_le _) (jretWI h)
    · exact h
  · have h := jite_f h (jb_f cq)
    refine j_bipush C dX9_played_16 (v := (-2)) (by decide) ?_
    exact j_iret C dX9_played_18 rfl rfl (Nat.zero_le _) (Nat.zero_le _) (jretWI h)
-- X9_undo
def B_X9_undo_23 (n : Nat) (q : Int32 × jS) : Option ((Int32 × jS) ⊕ (Int32 × jS)) :=
  (if 4 ≤ q.1 then some (.inr (q.1, q.2)) else (if jin ((204 + (4 * (q.2.1 1 (Int32.toNatClampNeg 1)))) + q.1) 324 = true then (if jin (5 + q.1) 324 = true then (jl (upI q.2 1 (Int32.toNatClampNeg (5 + q.1)) (q.2.1 1 (Int32.toNatClampNeg ((204 + (4 * (q.2.1 1 (Int32.toNatClampNeg 1)))) + q.1)))) fun s54_4 => some (.inl ((q.1 + 1), s54_4))) else none) else none))
def F_X9_undo (n : Nat) (s : jS) : Option (Int32 × jS) :=
  (if (s.1 1 (Int32.toNatClampNeg 1)) = 0 then some ((-1), s) else (jl (upI s 1 (Int32.toNatClampNeg 1) ((s.1 1 (Int32.toNatClampNeg 1)) - 1)) fun s20_1 => ((lp (B_X9_undo_23 n) n (0, s20_1)).bind fun e23 => some ((e23.2.1 1 (Int32.toNatClampNeg 1)), e23.2))))
def rm_X9_undo : Room := { frames := 0, cells := 0, slots := 0, locals := 0 }
set_option maxHeartbeats 4000000 in
set_option maxRecDepth 100000 in
theorem m_X9_undo {l : Launch} {D : va_G} {G : Nat → ClassId} {KV : jV} {ad : Nat → Nat} (n : Nat) (s : jS) {p : Int32 × jS} (h : F_X9_undo n s = some p) : jM l D G KV yX9_undo cX9_undo 2 (some .int) rm_X9_undo [.ref (ad 0)] (jw 15 (cellM G) ad s) 0 0 (fun v u => v = some (.int p.1) ∧ u = jw 15 (cellM G) ad p.2) := by
  refine jM.of (by decide) (Nat.le_of_ble_eq_true rfl) ?_
  intro K C
  unfold F_X9_undo at h
  have lo23 : ∀ (s : jS) (k : Nat) (q : Int32 × jS) (e : Int32 × jS), lp (B_X9_undo_23 n) k q = some e → K 0 0 (jw 15 (cellM G) ad e.2) 61 [(0, .ref (ad 0))] [] → K 0 0 (jw 15 (cellM G) ad q.2) 23 [(0, .ref (ad 0)), (1, .int q.1)] [] := by
    intro s k q e he hE
    refine jlp (KH := fun q => K 0 0 (jw 15 (cellM G) ad q.2) 23 [(0, .ref (ad 0)), (1, .int q.1)] []) (KE := fun e => K 0 0 (jw 15 (cellM G) ad e.2) 61 [(0, .ref (ad 0))] []) ?_ k q e he hE
    intro q o hb hin hout
    unfold B_X9_undo_23 at hb
    show K 0 0 (jw 15 (cellM G) ad q.2) 23 [(0, .ref (ad 0)), (1, .int q.1)] []
    refine j_iload_n C dX9_undo_23 1 rfl ?_
    refine j_iconst C dX9_undo_24 (v := 4) (by decide) ?_
    refine j_icmp_ge C dX9_undo_25 (tgt := 61) (by decide) (fun cq => ?_) (fun cq => ?_)
    · have hb := jite_t hb cq
      refine j_loc C [0] rfl ?_
      have hx := hout _ (jinr hb)
      exact hx
    · have hb := jite_f hb cq
      refine j_aload_n C dX9_undo_28 0 rfl ?_
      refine j_getW C dX9_undo_29 inX9 rfl (by decide) rfl 0 (by decide) w_923 rfl rfl ?_
      refine j_iconst C dX9_undo_32 (v := 5) (by decide) ?_
      refine j_iload_n C dX9_undo_33 1 rfl ?_
      refine j_iadd C dX9_undo_34 ?_
      refine j_aload_n C dX9_undo_35 0 rfl ?_
      refine j_getW C dX9_undo_36 inX9 rfl (by decide) rfl 0 (by decide) w_923 rfl rfl ?_
      refine j_sipush C dX9_undo_39 (v := 204) (by decide) ?_
      refine j_iconst C dX9_undo_42 (v := 4) (by decide) ?_
      refine j_aload_n C dX9_undo_43 0 rfl ?_
      refine j_getW C dX9_undo_44 inX9 rfl (by decide) rfl 0 (by decide) w_923 rfl rfl ?_
      refine j_iconst C dX9_undo_47 (v := 1) (by decide) ?_
      refine j_ialdW C dX9_undo_48 (by decide) rfl (jin_vp (i := 1) (n := 324) (by decide)) ?_
      refine j_imul C dX9_undo_49 ?_
      refine j_iadd C dX9_undo_50 ?_
      refine j_iload_n C dX9_undo_51 1 rfl ?_
      refine j_iadd C dX9_undo_52 ?_
      obtain ⟨c53_2, hb⟩ := jchk hb
      refine j_ialdW C dX9_undo_53 (by decide) rfl (jin_vp c53_2) ?_
      obtain ⟨c54_3, hb⟩ := jchk hb
      refine j_iastW C dX9_undo_54 (by decide) (fun _ => rfl) (jin_vp c54_3) (fun s54_4 hs54_4 => ?_)
      have hb := jlet hb hs54_4
      refine j_iinc C dX9_undo_55 1 rfl (v := (q.1 + 1)) rfl (by decide) rfl ?_
      refine j_goto C dX9_undo_58 (tgt := 23) (by decide) ?_
      refine j_loc C [1, 0] rfl ?_
      have hx := hin _ (jinl hb)
      exact hx
  show K 0 0 (jw 15 (cellM G) ad s) 0 [(0, .ref (ad 0))] []
  refine j_aload_n C dX9_undo_0 0 rfl ?_
  refine j_getW C dX9_undo_1 inX9 rfl (by decide) rfl 0 (by decide) w_923 rfl rfl ?_
  refine j_iconst C dX9_undo_4 (v := 1) (by decide) ?_
  refine j_ialdW C dX9_undo_5 (by decide) rfl (jin_vp (i := 1) (n := 324) (by decide)) ?_
  refine j_if_ne C dX9_undo_6 (tgt := 11) (by decide) (fun cq => ?_) (fun cq => ?_)
  · have h := jite_f h cq
    refine j_aload_n C dX9_undo_11 0 rfl ?_
    refine j_getW C dX9_undo_12 inX9 rfl (by decide) rfl 0 (by decide) w_923 rfl rfl ?_
    refine j_iconst C dX9_undo_15 (v := 1) (by decide) ?_
    refine j_dup2 C dX9_undo_16 rfl rfl ?_
    refine j_ialdW C dX9_undo_17 (by decide) rfl (jin_vp (i := 1) (n := 324) (by decide)) ?_
    refine j_iconst C dX9_undo_18 (v := 1) (by decide) ?_
    refine j_isub C dX9_undo_19 ?_
    refine j_iastW C dX9_undo_20 (by decide) (fun _ => rfl) (jin_vp (i := 1) (n := 324) (by decide)) (fun s20_1 hs20_1 => ?_)
    have h := jlet h hs20_1
    refine j_iconst C dX9_undo_21 (v := 0) (by decide) ?_
    refine j_istore_n C dX9_undo_22 (by decide) rfl ?_
    refine j_loc C [1, 0] rfl ?_
    obtain ⟨e23, he23, h⟩ := jbind h
    refine lo23  s20_1  n (0, s20_1) e23 he23 ?_
    refine j_aload_n C dX9_undo_61 0 rfl ?_
    refine j_getW C dX9_undo_62 inX9 rfl (by decide) rfl 0 (by decide) w_923 rfl rfl ?_
    refine j_iconst C dX9_undo_65 (v := 1) (by decide) ?_
    refine j_ialdW C dX9_undo_66 (by decide) rfl (jin_vp (i := 1) (n := 324) (by decide)) ?_
    exact j_iret C dX9_undo_67 rfl rfl (Nat.zero_le _) (Nat.zero_le _) (jretWI h)
  · have h := jite_t h cq
    refine j_iconst C dX9_undo_9 (v := (-1)) (by decide) ?_
    exact j_iret C dX9_undo_10 rfl rfl (Nat.zero_le _) (Nat.zero_le _) (jretWI h)
-- X9_traveller
def F_X9_traveller (v1 : Int32) (s : jS) : Option Int32 :=
  (if (F_X9_isIn v1 0 5) = true then (if jin (5 + v1) 324 = true then some (s.1 1 (Int32.toNatClampNeg (5 + v1))) else none) else some (-1))
def rm_X9_traveller : Room := { frames := 1, cells := 0, slots := 0, locals := 22 }
set_option maxHeartbeats 4000000 in
set_option maxRecDepth 100000 in
theorem m_X9_traveller {l : Launch} {D : va_G} {G : Nat → ClassId} {KV : jV} {ad : Nat → Nat} (v1 : Int32) (s : jS) {p : Int32} (h : F_X9_traveller v1 s = some p) : jM l D G KV yX9_traveller cX9_traveller 2 (some .int) rm_X9_traveller [.ref (ad 0), .int v1] (jw 15 (cellM G) ad s) 0 0 (fun v u => v = some (.int p) ∧ u = jw 15 (cellM G) ad s) := by
  refine jM.of (by decide) (Nat.le_of_ble_eq_true rfl) ?_
  intro K C
  unfold F_X9_traveller at h
  show K 0 0 (jw 15 (cellM G) ad s) 0 [(0, .ref (ad 0)), (1, .int v1)] []
  refine j_iload_n C dX9_traveller_0 1 rfl ?_
  refine j_iconst C dX9_traveller_1 (v := 0) (by decide) ?_
  refine j_iconst C dX9_traveller_2 (v := 5) (by decide) ?_
  refine j_cS1 C dX9_traveller_3 (m_X9_isIn v1 0 5 rfl) kc_X9_isIn w_1025 w_1026 w_11 jy_X9_isIn ⟨⟨Nat.le_of_ble_eq_true rfl, Nat.le_of_ble_eq_true rfl⟩, ⟨rfl, rfl⟩, ⟨Nat.zero_le _, Nat.zero_le _⟩⟩ (Nat.le_of_ble_eq_true rfl) rfl (fun _ _ h => h) ?_
  refine j_if_eq C dX9_traveller_6 (tgt := 20) (by decide) (fun cq => ?_) (fun cq => ?_)
  · have h := jite_f h (jb_f cq)
    refine j_iconst C dX9_traveller_20 (v := (-1)) (by decide) ?_
    exact j_iret C dX9_traveller_21 rfl rfl (Nat.zero_le _) (Nat.zero_le _) (jretPI h)
  · have h := jite_t h (jb_t cq)
    refine j_aload_n C dX9_traveller_9 0 rfl ?_
    refine j_getW C dX9_traveller_10 inX9 rfl (by decide) rfl 0 (by decide) w_923 rfl rfl ?_
    refine j_iconst C dX9_traveller_13 (v := 5) (by decide) ?_
    refine j_iload_n C dX9_traveller_14 1 rfl ?_
    refine j_iadd C dX9_traveller_15 ?_
    obtain ⟨c16_1, h⟩ := jchk h
    refine j_ialdW C dX9_traveller_16 (by decide) rfl (jin_vp c16_1) ?_
    refine j_goto C dX9_traveller_17 (tgt := 21) (by decide) ?_
    exact j_iret C dX9_traveller_21 rfl rfl (Nat.zero_le _) (Nat.zero_le _) (jretPI h)
-- X9_forgetLeasts
def B_X9_forgetLeasts_6 (n : Nat) (v2 : Int32) (q : Int32 × jS) : Option ((Int32 × jS) ⊕ (Int32 × jS)) :=
  (if (53760 * v2) ≤ q.1 then some (.inr (q.1, q.2)) else (if jin q.1 376320 = true then (jl (upI q.2 11 (Int32.toNatClampNeg q.1) (-1)) fun s21_2 => some (.inl ((q.1 + 1), s21_2))) else none))
def B_X9_forgetLeasts_30 (n : Nat) (q : Int32 × jS) : Option ((Int32 × jS) ⊕ (Int32 × jS)) :=
  (if 8 ≤ q.1 then some (.inr (q.1, q.2)) else (if jin (28 + q.1) 324 = true then (if jin q.1 8 = true then (jl (upI q.2 10 (Int32.toNatClampNeg q.1) (q.2.1 1 (Int32.toNatClampNeg (28 + q.1)))) fun s50_5 => some (.inl ((q.1 + 1), s50_5))) else none) else none))
def F_X9_forgetLeasts (n : Nat) (v1 : Int32) (v2 : Int32) (s : jS) : Option jS :=
  ((lp (B_X9_forgetLeasts_6 n v2) n ((53760 * v1), s)).bind fun e6 => ((lp (B_X9_forgetLeasts_30 n) n (0, e6.2)).bind fun e30 => some e30.2))
def rm_X9_forgetLeasts : Room := { frames := 0, cells := 0, slots := 0, locals := 0 }
set_option maxHeartbeats 4000000 in
set_option maxRecDepth 100000 in
theorem m_X9_forgetLeasts {l : Launch} {D : va_G} {G : Nat → ClassId} {KV : jV} {ad : Nat → Nat} (n : Nat) (v1 : Int32) (v2 : Int32) (s : jS) {p : jS} (h : F_X9_forgetLeasts n v1 v2 s = some p) : jM l D G KV yX9_forgetLeasts cX9_forgetLeasts 4 none rm_X9_forgetLeasts [.ref (ad 0), .int v1, .int v2] (jw 15 (cellM G) ad s) 0 0 (fun v u => v = none ∧ u = jw 15 (cellM G) ad p) := by
  refine jM.of (by decide) (Nat.le_of_ble_eq_true rfl) ?_
  intro K C
  unfold F_X9_forgetLeasts at h
  have lo6 : ∀ (v2 : Int32) (s : jS) (k : Nat) (q : Int32 × jS) (e : Int32 × jS), lp (B_X9_forgetLeasts_6 n v2) k q = some e → K 0 0 (jw 15 (cellM G) ad e.2) 28 [(0, .ref (ad 0))] [] → K 0 0 (jw 15 (cellM G) ad q.2) 6 [(0, .ref (ad 0)), (2, .int v2), (3, .int q.1)] [] := by
    intro v2 s k q e he hE
    refine jlp (KH := fun q => K 0 0 (jw 15 (cellM G) ad q.2) 6 [(0, .ref (ad 0)), (2, .int v2), (3, .int q.1)] []) (KE := fun e => K 0 0 (jw 15 (cellM G) ad e.2) 28 [(0, .ref (ad 0))] []) ?_ k q e he hE
    intro q o hb hin hout
    unfold B_X9_forgetLeasts_6 at hb
    show K 0 0 (jw 15 (cellM G) ad q.2) 6 [(0, .ref (ad 0)), (2, .int v2), (3, .int q.1)] []
    refine j_iload_n C dX9_forgetLeasts_6 2 rfl ?_
    refine j_ldcw C dX9_forgetLeasts_7 (v := 53760) w_1256 ?_
    refine j_iload_n C dX9_forgetLeasts_10 1 rfl ?_
    refine j_imul C dX9_forgetLeasts_11 ?_
    refine j_icmp_ge C dX9_forgetLeasts_12 (tgt := 28) (by decide) (fun cq => ?_) (fun cq => ?_)
    · have hb := jite_t hb cq
      refine j_loc C [0] rfl ?_
      have hx := hout _ (jinr hb)
      exact hx
    · have hb := jite_f hb cq
      refine j_aload_n C dX9_forgetLeasts_15 0 rfl ?_
      refine j_getW C dX9_forgetLeasts_16 inX9 rfl (by decide) rfl 27 (by decide) w_948 rfl rfl ?_
      refine j_iload_n C dX9_forgetLeasts_19 2 rfl ?_
      refine j_iconst C dX9_forgetLeasts_20 (v := (-1)) (by decide) ?_
      obtain ⟨c21_1, hb⟩ := jchk hb
      refine j_iastW C dX9_forgetLeasts_21 (by decide) (fun _ => rfl) (jin_vp c21_1) (fun s21_2 hs21_2 => ?_)
      have hb := jlet hb hs21_2
      refine j_iinc C dX9_forgetLeasts_22 2 rfl (v := (q.1 + 1)) rfl (by decide) rfl ?_
      refine j_goto C dX9_forgetLeasts_25 (tgt := 6) (by decide) ?_
      refine j_loc C [1, 2, 0] rfl ?_
      have hx := hin _ (jinl hb)
      exact hx
  have lo30 : ∀ (s : jS) (k : Nat) (q : Int32 × jS) (e : Int32 × jS), lp (B_X9_forgetLeasts_30 n) k q = some e → K 0 0 (jw 15 (cellM G) ad e.2) 57 [] [] → K 0 0 (jw 15 (cellM G) ad q.2) 30 [(0, .ref (ad 0)), (3, .int q.1)] [] := by
    intro s k q e he hE
    refine jlp (KH := fun q => K 0 0 (jw 15 (cellM G) ad q.2) 30 [(0, .ref (ad 0)), (3, .int q.1)] []) (KE := fun e => K 0 0 (jw 15 (cellM G) ad e.2) 57 [] []) ?_ k q e he hE
    intro q o hb hin hout
    unfold B_X9_forgetLeasts_30 at hb
    show K 0 0 (jw 15 (cellM G) ad q.2) 30 [(0, .ref (ad 0)), (3, .int q.1)] []
    refine j_iload_n C dX9_forgetLeasts_30 1 rfl ?_
    refine j_bipush C dX9_forgetLeasts_31 (v := 8) (by decide) ?_
    refine j_icmp_ge C dX9_forgetLeasts_33 (tgt := 57) (by decide) (fun cq => ?_) (fun cq => ?_)
    · have hb := jite_t hb cq
      refine j_loc C [] rfl ?_
      have hx := hout _ (jinr hb)
      exact hx
    · have hb := jite_f hb cq
      refine j_aload_n C dX9_forgetLeasts_36 0 rfl ?_
      refine j_getW C dX9_forgetLeasts_37 inX9 rfl (by decide) rfl 26 (by decide) w_947 rfl rfl ?_
      refine j_iload_n C dX9_forgetLeasts_40 1 rfl ?_
      refine j_aload_n C dX9_forgetLeasts_41 0 rfl ?_
      refine j_getW C dX9_forgetLeasts_42 inX9 rfl (by decide) rfl 0 (by decide) w_923 rfl rfl ?_
      refine j_bipush C dX9_forgetLeasts_45 (v := 28) (by decide) ?_
      refine j_iload_n C dX9_forgetLeasts_47 1 rfl ?_
      refine j_iadd C dX9_forgetLeasts_48 ?_
      obtain ⟨c49_3, hb⟩ := jchk hb
      refine j_ialdW C dX9_forgetLeasts_49 (by decide) rfl (jin_vp c49_3) ?_
      obtain ⟨c50_4, hb⟩ := jchk hb
      refine j_iastW C dX9_forgetLeasts_50 (by decide) (fun _ => rfl) (jin_vp c50_4) (fun s50_5 hs50_5 => ?_)
      have hb := jlet hb hs50_5
      refine j_iinc C dX9_forgetLeasts_51 1 rfl (v := (q.1 + 1)) rfl (by decide) rfl ?_
      refine j_goto C dX9_forgetLeasts_54 (tgt := 30) (by decide) ?_
      refine j_loc C [1, 0] rfl ?_
      have hx := hin _ (jinl hb)
      exact hx
  show K 0 0 (jw 15 (cellM G) ad s) 0 [(0, .ref (ad 0)), (1, .int v1), (2, .int v2)] []
  refine j_ldcw C dX9_forgetLeasts_0 (v := 53760) w_1256 ?_
  refine j_iload_n C dX9_forgetLeasts_3 1 rfl ?_
  refine j_imul C dX9_forgetLeasts_4 ?_
  refine j_istore_n C dX9_forgetLeasts_5 (by decide) rfl ?_
  refine j_loc C [1, 3, 0] rfl ?_
  obtain ⟨e6, he6, h⟩ := jbind h
  refine lo6 v2 s  n ((53760 * v1), s) e6 he6 ?_
  refine j_iconst C dX9_forgetLeasts_28 (v := 0) (by decide) ?_
  refine j_istore_n C dX9_forgetLeasts_29 (by decide) rfl ?_
  refine j_loc C [1, 0] rfl ?_
  obtain ⟨e30, he30, h⟩ := jbind h
  refine lo30  e6.2  n (0, e6.2) e30 he30 ?_
  exact j_vret C dX9_forgetLeasts_57 rfl (Nat.zero_le _) (Nat.zero_le _) (jretWV h)
-- X9_leftAt
def F_X9_leftAt (v0 : Int32) (v1 : Int32) (v2 : Int32) : Int32 :=
  ((((v0 * 9) + v1) * 10) + v2)
def rm_X9_leftAt : Room := { frames := 0, cells := 0, slots := 0, locals := 0 }
set_option maxHeartbeats 4000000 in
set_option maxRecDepth 100000 in
theorem m_X9_leftAt {l : Launch} {D : va_G} {G : Nat → ClassId} {KV : jV} {ad : Nat → Nat} {s : jS} (v0 : Int32) (v1 : Int32) (v2 : Int32) {p : Int32} (h : F_X9_leftAt v0 v1 v2 = p) : jM l D G KV yX9_leftAt cX9_leftAt 3 (some .int) rm_X9_leftAt [.int v0, .int v1, .int v2] (jw 15 (cellM G) ad s) 0 0 (fun v u => v = some (.int p) ∧ u = jw 15 (cellM G) ad s) := by
  refine jM.of (by decide) (Nat.le_of_ble_eq_true rfl) ?_
  intro K C
  unfold F_X9_leftAt at h
  show K 0 0 (jw 15 (cellM G) ad s) 0 [(0, .int v0), (1, .int v1), (2, .int v2)] []
  refine j_iload_n C dX9_leftAt_0 0 rfl ?_
  refine j_bipush C dX9_leftAt_1 (v := 9) (by decide) ?_
  refine j_imul C dX9_leftAt_3 ?_
  refine j_iload_n C dX9_leftAt_4 1 rfl ?_
  refine j_iadd C dX9_leftAt_5 ?_
  refine j_bipush C dX9_leftAt_6 (v := 10) (by decide) ?_
  refine j_imul C dX9_leftAt_8 ?_
  refine j_iload_n C dX9_leftAt_9 2 rfl ?_
  refine j_iadd C dX9_leftAt_10 ?_
  exact j_iret C dX9_leftAt_11 rfl rfl (Nat.zero_le _) (Nat.zero_le _) (jretTI h)
