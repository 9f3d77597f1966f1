theorem dX0_earned_0 : decode cX0_earned 0 = .ok (.iconst 0, 1) := by decide +kernel
theorem dX0_earned_1 : decode cX0_earned 1 = .ok (.istore_n 2, 1) := by decide +kernel
theorem dX0_earned_2 : decode cX0_earned 2 = .ok (.aload_n 0, 1) := by decide +kernel
theorem dX0_earned_3 : decode cX0_earned 3 = .ok (.getfield 22, 3) := by decide +kernel
theorem dX0_earned_6 : decode cX0_earned 6 = .ok (.getfield 74, 3) := by decide +kernel
theorem dX0_earned_9 : decode cX0_earned 9 = .ok (.iload_n 1, 1) := by decide +kernel
theorem dX0_earned_10 : decode cX0_earned 10 = .ok (.baload, 1) := by decide +kernel
theorem dX0_earned_11 : decode cX0_earned 11 = .ok (.ifCond .ne 19, 3) := by decide +kernel
theorem dX0_earned_14 : decode cX0_earned 14 = .ok (.aload_n 0, 1) := by decide +kernel
theorem dX0_earned_15 : decode cX0_earned 15 = .ok (.getfield 26, 3) := by decide +kernel
theorem dX0_earned_18 : decode cX0_earned 18 = .ok (.aload_n 0, 1) := by decide +kernel
theorem dX0_earned_19 : decode cX0_earned 19 = .ok (.getfield 9, 3) := by decide +kernel
theorem dX0_earned_22 : decode cX0_earned 22 = .ok (.iload_n 1, 1) := by decide +kernel
theorem dX0_earned_23 : decode cX0_earned 23 = .ok (.iaload, 1) := by decide +kernel
theorem dX0_earned_24 : decode cX0_earned 24 = .ok (.invokevirtual 94, 3) := by decide +kernel
theorem dX0_earned_27 : decode cX0_earned 27 = .ok (.ifCond .ne 5, 3) := by decide +kernel
theorem dX0_earned_30 : decode cX0_earned 30 = .ok (.iload_n 2, 1) := by decide +kernel
theorem dX0_earned_31 : decode cX0_earned 31 = .ok (.ireturn, 1) := by decide +kernel
theorem dX0_earned_32 : decode cX0_earned 32 = .ok (.aload_n 0, 1) := by decide +kernel
theorem dX0_earned_33 : decode cX0_earned 33 = .ok (.getfield 22, 3) := by decide +kernel
theorem dX0_earned_36 : decode cX0_earned 36 = .ok (.getfield 78, 3) := by decide +kernel
theorem dX0_earned_39 : decode cX0_earned 39 = .ok (.astore_n 3, 1) := by decide +kernel
theorem dX0_earned_40 : decode cX0_earned 40 = .ok (.iconst 0, 1) := by decide +kernel
theorem dX0_earned_41 : decode cX0_earned 41 = .ok (.istore 4, 2) := by decide +kernel
theorem dX0_earned_43 : decode cX0_earned 43 = .ok (.iload 4, 2) := by decide +kernel
theorem dX0_earned_45 : decode cX0_earned 45 = .ok (.aload_n 0, 1) := by decide +kernel
theorem dX0_earned_46 : decode cX0_earned 46 = .ok (.getfield 22, 3) := by decide +kernel
theorem dX0_earned_49 : decode cX0_earned 49 = .ok (.getfield 71, 3) := by decide +kernel
theorem dX0_earned_52 : decode cX0_earned 52 = .ok (.if_icmp .ge 85, 3) := by decide +kernel
theorem dX0_earned_55 : decode cX0_earned 55 = .ok (.iload 4, 2) := by decide +kernel
theorem dX0_earned_57 : decode cX0_earned 57 = .ok (.bipush 6, 2) := by decide +kernel
theorem dX0_earned_59 : decode cX0_earned 59 = .ok (.if_icmp .ge 78, 3) := by decide +kernel
theorem dX0_earned_62 : decode cX0_earned 62 = .ok (.iload 4, 2) := by decide +kernel
theorem dX0_earned_64 : decode cX0_earned 64 = .ok (.iconst 4, 1) := by decide +kernel
theorem dX0_earned_65 : decode cX0_earned 65 = .ok (.imul, 1) := by decide +kernel
theorem dX0_earned_66 : decode cX0_earned 66 = .ok (.istore 5, 2) := by decide +kernel
theorem dX0_earned_68 : decode cX0_earned 68 = .ok (.aload_n 3, 1) := by decide +kernel
theorem dX0_earned_69 : decode cX0_earned 69 = .ok (.iload 5, 2) := by decide +kernel
theorem dX0_earned_71 : decode cX0_earned 71 = .ok (.iconst 1, 1) := by decide +kernel
theorem dX0_earned_72 : decode cX0_earned 72 = .ok (.iadd, 1) := by decide +kernel
theorem dX0_earned_73 : decode cX0_earned 73 = .ok (.iaload, 1) := by decide +kernel
theorem dX0_earned_74 : decode cX0_earned 74 = .ok (.istore 6, 2) := by decide +kernel
theorem dX0_earned_76 : decode cX0_earned 76 = .ok (.iload 6, 2) := by decide +kernel
theorem dX0_earned_78 : decode cX0_earned 78 = .ok (.iload_n 1, 1) := by decide +kernel
theorem dX0_earned_79 : decode cX0_earned 79 = .ok (.invokestatic 81, 3) := by decide +kernel
theorem dX0_earned_82 : decode cX0_earned 82 = .ok (.ifCond .ne 49, 3) := by decide +kernel
theorem dX0_earned_85 : decode cX0_earned 85 = .ok (.aload_n 0, 1) := by decide +kernel
theorem dX0_earned_86 : decode cX0_earned 86 = .ok (.getfield 30, 3) := by decide +kernel
theorem dX0_earned_89 : decode cX0_earned 89 = .ok (.aload_n 0, 1) := by decide +kernel
theorem dX0_earned_90 : decode cX0_earned 90 = .ok (.getfield 9, 3) := by decide +kernel
theorem dX0_earned_93 : decode cX0_earned 93 = .ok (.aload_n 3, 1) := by decide +kernel
theorem dX0_earned_94 : decode cX0_earned 94 = .ok (.iload 5, 2) := by decide +kernel
theorem dX0_earned_96 : decode cX0_earned 96 = .ok (.iaload, 1) := by decide +kernel
theorem dX0_earned_97 : decode cX0_earned 97 = .ok (.iload 6, 2) := by decide +kernel
theorem dX0_earned_99 : decode cX0_earned 99 = .ok (.aload_n 3, 1) := by decide +kernel
theorem dX0_earned_100 : decode cX0_earned 100 = .ok (.iload 5, 2) := by decide +kernel
theorem dX0_earned_102 : decode cX0_earned 102 = .ok (.iconst 2, 1) := by decide +kernel
theorem dX0_earned_103 : decode cX0_earned 103 = .ok (.iadd, 1) := by decide +kernel
theorem dX0_earned_104 : decode cX0_earned 104 = .ok (.iaload, 1) := by decide +kernel
theorem dX0_earned_105 : decode cX0_earned 105 = .ok (.bipush 24, 2) := by decide +kernel
theorem dX0_earned_107 : decode cX0_earned 107 = .ok (.aload_n 3, 1) := by decide +kernel
theorem dX0_earned_108 : decode cX0_earned 108 = .ok (.iload 5, 2) := by decide +kernel
theorem dX0_earned_110 : decode cX0_earned 110 = .ok (.iconst 3, 1) := by decide +kernel
theorem dX0_earned_111 : decode cX0_earned 111 = .ok (.iadd, 1) := by decide +kernel
theorem dX0_earned_112 : decode cX0_earned 112 = .ok (.iaload, 1) := by decide +kernel
theorem dX0_earned_113 : decode cX0_earned 113 = .ok (.invokevirtual 97, 3) := by decide +kernel
theorem dX0_earned_116 : decode cX0_earned 116 = .ok (.ifCond .eq 15, 3) := by decide +kernel
theorem dX0_earned_119 : decode cX0_earned 119 = .ok (.iload_n 2, 1) := by decide +kernel
theorem dX0_earned_120 : decode cX0_earned 120 = .ok (.aload_n 0, 1) := by decide +kernel
theorem dX0_earned_121 : decode cX0_earned 121 = .ok (.getfield 30, 3) := by decide +kernel
theorem dX0_earned_124 : decode cX0_earned 124 = .ok (.getfield 103, 3) := by decide +kernel
theorem dX0_earned_127 : decode cX0_earned 127 = .ok (.iload_n 1, 1) := by decide +kernel
theorem dX0_earned_128 : decode cX0_earned 128 = .ok (.iaload, 1) := by decide +kernel
theorem dX0_earned_129 : decode cX0_earned 129 = .ok (.iadd, 1) := by decide +kernel
theorem dX0_earned_130 : decode cX0_earned 130 = .ok (.istore_n 2, 1) := by decide +kernel
theorem dX0_earned_131 : decode cX0_earned 131 = .ok (.iinc 4 1, 3) := by decide +kernel
theorem dX0_earned_134 : decode cX0_earned 134 = .ok (.goto (-91), 3) := by decide +kernel
theorem dX0_earned_137 : decode cX0_earned 137 = .ok (.iload_n 2, 1) := by decide +kernel
theorem dX0_earned_138 : decode cX0_earned 138 = .ok (.ireturn, 1) := by decide +kernel
theorem dX0_earnedNow_0 : decode cX0_earnedNow 0 = .ok (.aload_n 0, 1) := by decide +kernel
theorem dX0_earnedNow_1 : decode cX0_earnedNow 1 = .ok (.iconst 0, 1) := by decide +kernel
theorem dX0_earnedNow_2 : decode cX0_earnedNow 2 = .ok (.invokevirtual 38, 3) := by decide +kernel
theorem dX0_earnedNow_5 : decode cX0_earnedNow 5 = .ok (.aload_n 0, 1) := by decide +kernel
theorem dX0_earnedNow_6 : decode cX0_earnedNow 6 = .ok (.iload_n 1, 1) := by decide +kernel
theorem dX0_earnedNow_7 : decode cX0_earnedNow 7 = .ok (.invokevirtual 42, 3) := by decide +kernel
theorem dX0_earnedNow_10 : decode cX0_earnedNow 10 = .ok (.ireturn, 1) := by decide +kernel
theorem dX8_earns_0 : decode cX8_earns 0 = .ok (.aload_n 0, 1) := by decide +kernel
theorem dX8_earns_1 : decode cX8_earns 1 = .ok (.iload_n 1, 1) := by decide +kernel
theorem dX8_earns_2 : decode cX8_earns 2 = .ok (.invokevirtual 97, 3) := by decide +kernel
theorem dX8_earns_5 : decode cX8_earns 5 = .ok (.ifCond .eq 14, 3) := by decide +kernel
theorem dX8_earns_8 : decode cX8_earns 8 = .ok (.aload_n 0, 1) := by decide +kernel
theorem dX8_earns_9 : decode cX8_earns 9 = .ok (.getfield 78, 3) := by decide +kernel
theorem dX8_earns_12 : decode cX8_earns 12 = .ok (.iload_n 1, 1) := by decide +kernel
theorem dX8_earns_13 : decode cX8_earns 13 = .ok (.invokevirtual 233, 3) := by decide +kernel
theorem dX8_earns_16 : decode cX8_earns 16 = .ok (.goto 4, 3) := by decide +kernel
theorem dX8_earns_19 : decode cX8_earns 19 = .ok (.iconst (-1), 1) := by decide +kernel
theorem dX8_earns_20 : decode cX8_earns 20 = .ok (.ireturn, 1) := by decide +kernel
theorem dX0_bestRule_0 : decode cX0_bestRule 0 = .ok (.aload_n 0, 1) := by decide +kernel
theorem dX0_bestRule_1 : decode cX0_bestRule 1 = .ok (.getfield 9, 3) := by decide +kernel
theorem dX0_bestRule_4 : decode cX0_bestRule 4 = .ok (.iload_n 1, 1) := by decide +kernel
theorem dX0_bestRule_5 : decode cX0_bestRule 5 = .ok (.iaload, 1) := by decide +kernel
theorem dX0_bestRule_6 : decode cX0_bestRule 6 = .ok (.istore_n 2, 1) := by decide +kernel
theorem dX0_bestRule_7 : decode cX0_bestRule 7 = .ok (.iload_n 2, 1) := by decide +kernel
theorem dX0_bestRule_8 : decode cX0_bestRule 8 = .ok (.istore_n 3, 1) := by decide +kernel
theorem dX0_bestRule_9 : decode cX0_bestRule 9 = .ok (.aload_n 0, 1) := by decide +kernel
theorem dX0_bestRule_10 : decode cX0_bestRule 10 = .ok (.iload_n 1, 1) := by decide +kernel
theorem dX0_bestRule_11 : decode cX0_bestRule 11 = .ok (.invokevirtual 42, 3) := by decide +kernel
theorem dX0_bestRule_14 : decode cX0_bestRule 14 = .ok (.istore 4, 2) := by decide +kernel
theorem dX0_bestRule_16 : decode cX0_bestRule 16 = .ok (.iconst (-1), 1) := by decide +kernel
theorem dX0_bestRule_17 : decode cX0_bestRule 17 = .ok (.istore 5, 2) := by decide +kernel
theorem dX0_bestRule_19 : decode cX0_bestRule 19 = .ok (.iload 5, 2) := by decide +kernel
theorem dX0_bestRule_21 : decode cX0_bestRule 21 = .ok (.aload_n 0, 1) := by decide +kernel
theorem dX0_bestRule_22 : decode cX0_bestRule 22 = .ok (.getfield 22, 3) := by decide +kernel
theorem dX0_bestRule_25 : decode cX0_bestRule 25 = .ok (.getfield 85, 3) := by decide +kernel
theorem dX0_bestRule_28 : decode cX0_bestRule 28 = .ok (.if_icmp .ge 48, 3) := by decide +kernel
theorem dX0_bestRule_31 : decode cX0_bestRule 31 = .ok (.aload_n 0, 1) := by decide +kernel
theorem dX0_bestRule_32 : decode cX0_bestRule 32 = .ok (.getfield 9, 3) := by decide +kernel
theorem dX0_bestRule_35 : decode cX0_bestRule 35 = .ok (.iload_n 1, 1) := by decide +kernel
theorem dX0_bestRule_36 : decode cX0_bestRule 36 = .ok (.iload 5, 2) := by decide +kernel
theorem dX0_bestRule_38 : decode cX0_bestRule 38 = .ok (.iastore, 1) := by decide +kernel
theorem dX0_bestRule_39 : decode cX0_bestRule 39 = .ok (.iload 5, 2) := by decide +kernel
theorem dX0_bestRule_41 : decode cX0_bestRule 41 = .ok (.iload_n 2, 1) := by decide +kernel
theorem dX0_bestRule_42 : decode cX0_bestRule 42 = .ok (.if_icmp .ne 7, 3) := by decide +kernel
theorem dX0_bestRule_45 : decode cX0_bestRule 45 = .ok (.iconst 0, 1) := by decide +kernel
theorem dX0_bestRule_46 : decode cX0_bestRule 46 = .ok (.goto 8, 3) := by decide +kernel
theorem dX0_bestRule_49 : decode cX0_bestRule 49 = .ok (.aload_n 0, 1) := by decide +kernel
theorem dX0_bestRule_50 : decode cX0_bestRule 50 = .ok (.iload_n 1, 1) := by decide +kernel
theorem dX0_bestRule_51 : decode cX0_bestRule 51 = .ok (.invokevirtual 42, 3) := by decide +kernel
theorem dX0_bestRule_54 : decode cX0_bestRule 54 = .ok (.istore 6, 2) := by decide +kernel
theorem dX0_bestRule_56 : decode cX0_bestRule 56 = .ok (.iload 6, 2) := by decide +kernel
theorem dX0_bestRule_58 : decode cX0_bestRule 58 = .ok (.iload 4, 2) := by decide +kernel
theorem dX0_bestRule_60 : decode cX0_bestRule 60 = .ok (.if_icmp .le 10, 3) := by decide +kernel
theorem dX0_bestRule_63 : decode cX0_bestRule 63 = .ok (.iload 6, 2) := by decide +kernel
theorem dX0_bestRule_65 : decode cX0_bestRule 65 = .ok (.istore 4, 2) := by decide +kernel
theorem dX0_bestRule_67 : decode cX0_bestRule 67 = .ok (.iload 5, 2) := by decide +kernel
theorem dX0_bestRule_69 : decode cX0_bestRule 69 = .ok (.istore_n 3, 1) := by decide +kernel
theorem dX0_bestRule_70 : decode cX0_bestRule 70 = .ok (.iinc 5 1, 3) := by decide +kernel
theorem dX0_bestRule_73 : decode cX0_bestRule 73 = .ok (.goto (-54), 3) := by decide +kernel
theorem dX0_bestRule_76 : decode cX0_bestRule 76 = .ok (.aload_n 0, 1) := by decide +kernel
theorem dX0_bestRule_77 : decode cX0_bestRule 77 = .ok (.getfield 9, 3) := by decide +kernel
theorem dX0_bestRule_80 : decode cX0_bestRule 80 = .ok (.iload_n 1, 1) := by decide +kernel
theorem dX0_bestRule_81 : decode cX0_bestRule 81 = .ok (.iload_n 2, 1) := by decide +kernel
theorem dX0_bestRule_82 : decode cX0_bestRule 82 = .ok (.iastore, 1) := by decide +kernel
theorem dX0_bestRule_83 : decode cX0_bestRule 83 = .ok (.iload_n 3, 1) := by decide +kernel
theorem dX0_bestRule_84 : decode cX0_bestRule 84 = .ok (.ireturn, 1) := by decide +kernel
theorem dX0_firstUneven_0 : decode cX0_firstUneven 0 = .ok (.aload_n 0, 1) := by decide +kernel
theorem dX0_firstUneven_1 : decode cX0_firstUneven 1 = .ok (.iconst 1, 1) := by decide +kernel
theorem dX0_firstUneven_2 : decode cX0_firstUneven 2 = .ok (.invokevirtual 38, 3) := by decide +kernel
theorem dX0_firstUneven_5 : decode cX0_firstUneven 5 = .ok (.iconst 0, 1) := by decide +kernel
theorem dX0_firstUneven_6 : decode cX0_firstUneven 6 = .ok (.istore_n 1, 1) := by decide +kernel
theorem dX0_firstUneven_7 : decode cX0_firstUneven 7 = .ok (.iload_n 1, 1) := by decide +kernel
theorem dX0_firstUneven_8 : decode cX0_firstUneven 8 = .ok (.aload_n 0, 1) := by decide +kernel
theorem dX0_firstUneven_9 : decode cX0_firstUneven 9 = .ok (.getfield 18, 3) := by decide +kernel
theorem dX0_firstUneven_12 : decode cX0_firstUneven 12 = .ok (.if_icmp .ge 25, 3) := by decide +kernel
theorem dX0_firstUneven_15 : decode cX0_firstUneven 15 = .ok (.aload_n 0, 1) := by decide +kernel
theorem dX0_firstUneven_16 : decode cX0_firstUneven 16 = .ok (.iload_n 1, 1) := by decide +kernel
theorem dX0_firstUneven_17 : decode cX0_firstUneven 17 = .ok (.invokevirtual 46, 3) := by decide +kernel
theorem dX0_firstUneven_20 : decode cX0_firstUneven 20 = .ok (.aload_n 0, 1) := by decide +kernel
theorem dX0_firstUneven_21 : decode cX0_firstUneven 21 = .ok (.getfield 9, 3) := by decide +kernel
theorem dX0_firstUneven_24 : decode cX0_firstUneven 24 = .ok (.iload_n 1, 1) := by decide +kernel
theorem dX0_firstUneven_25 : decode cX0_firstUneven 25 = .ok (.iaload, 1) := by decide +kernel
theorem dX0_firstUneven_26 : decode cX0_firstUneven 26 = .ok (.if_icmp .eq 5, 3) := by decide +kernel
theorem dX0_firstUneven_29 : decode cX0_firstUneven 29 = .ok (.iload_n 1, 1) := by decide +kernel
theorem dX0_firstUneven_30 : decode cX0_firstUneven 30 = .ok (.ireturn, 1) := by decide +kernel
theorem dX0_firstUneven_31 : decode cX0_firstUneven 31 = .ok (.iinc 1 1, 3) := by decide +kernel
theorem dX0_firstUneven_34 : decode cX0_firstUneven 34 = .ok (.goto (-27), 3) := by decide +kernel
theorem dX0_firstUneven_37 : decode cX0_firstUneven 37 = .ok (.iconst (-1), 1) := by decide +kernel
theorem dX0_firstUneven_38 : decode cX0_firstUneven 38 = .ok (.ireturn, 1) := by decide +kernel
theorem dX8_even_0 : decode cX8_even 0 = .ok (.aload_n 0, 1) := by decide +kernel
theorem dX8_even_1 : decode cX8_even 1 = .ok (.getfield 78, 3) := by decide +kernel
theorem dX8_even_4 : decode cX8_even 4 = .ok (.invokevirtual 237, 3) := by decide +kernel
theorem dX8_even_7 : decode cX8_even 7 = .ok (.ireturn, 1) := by decide +kernel
theorem dX0_trialNumber_0 : decode cX0_trialNumber 0 = .ok (.iconst 0, 1) := by decide +kernel
theorem dX0_trialNumber_1 : decode cX0_trialNumber 1 = .ok (.istore_n 1, 1) := by decide +kernel
theorem dX0_trialNumber_2 : decode cX0_trialNumber 2 = .ok (.iconst 0, 1) := by decide +kernel
theorem dX0_trialNumber_3 : decode cX0_trialNumber 3 = .ok (.istore_n 2, 1) := by decide +kernel
theorem dX0_trialNumber_4 : decode cX0_trialNumber 4 = .ok (.iload_n 2, 1) := by decide +kernel
theorem dX0_trialNumber_5 : decode cX0_trialNumber 5 = .ok (.aload_n 0, 1) := by decide +kernel
theorem dX0_trialNumber_6 : decode cX0_trialNumber 6 = .ok (.getfield 18, 3) := by decide +kernel
theorem dX0_trialNumber_9 : decode cX0_trialNumber 9 = .ok (.if_icmp .ge 22, 3) := by decide +kernel
theorem dX0_trialNumber_12 : decode cX0_trialNumber 12 = .ok (.iload_n 1, 1) := by decide +kernel
theorem dX0_trialNumber_13 : decode cX0_trialNumber 13 = .ok (.iconst 5, 1) := by decide +kernel
theorem dX0_trialNumber_14 : decode cX0_trialNumber 14 = .ok (.imul, 1) := by decide +kernel
theorem dX0_trialNumber_15 : decode cX0_trialNumber 15 = .ok (.aload_n 0, 1) := by decide +kernel
theorem dX0_trialNumber_16 : decode cX0_trialNumber 16 = .ok (.getfield 9, 3) := by decide +kernel
theorem dX0_trialNumber_19 : decode cX0_trialNumber 19 = .ok (.iload_n 2, 1) := by decide +kernel
theorem dX0_trialNumber_20 : decode cX0_trialNumber 20 = .ok (.iaload, 1) := by decide +kernel
theorem dX0_trialNumber_21 : decode cX0_trialNumber 21 = .ok (.iadd, 1) := by decide +kernel
theorem dX0_trialNumber_22 : decode cX0_trialNumber 22 = .ok (.iconst 1, 1) := by decide +kernel
theorem dX0_trialNumber_23 : decode cX0_trialNumber 23 = .ok (.iadd, 1) := by decide +kernel
theorem dX0_trialNumber_24 : decode cX0_trialNumber 24 = .ok (.istore_n 1, 1) := by decide +kernel
theorem dX0_trialNumber_25 : decode cX0_trialNumber 25 = .ok (.iinc 2 1, 3) := by decide +kernel
theorem dX0_trialNumber_28 : decode cX0_trialNumber 28 = .ok (.goto (-24), 3) := by decide +kernel
theorem dX0_trialNumber_31 : decode cX0_trialNumber 31 = .ok (.iload_n 1, 1) := by decide +kernel
theorem dX0_trialNumber_32 : decode cX0_trialNumber 32 = .ok (.ireturn, 1) := by decide +kernel
theorem dX0_isPast_0 : decode cX0_isPast 0 = .ok (.iconst 0, 1) := by decide +kernel
theorem dX0_isPast_1 : decode cX0_isPast 1 = .ok (.istore_n 2, 1) := by decide +kernel
theorem dX0_isPast_2 : decode cX0_isPast 2 = .ok (.iload_n 2, 1) := by decide +kernel
theorem dX0_isPast_3 : decode cX0_isPast 3 = .ok (.iload_n 1, 1) := by decide +kernel
theorem dX0_isPast_4 : decode cX0_isPast 4 = .ok (.if_icmp .ge 26, 3) := by decide +kernel
theorem dX0_isPast_7 : decode cX0_isPast 7 = .ok (.aload_n 0, 1) := by decide +kernel
theorem dX0_isPast_8 : decode cX0_isPast 8 = .ok (.getfield 15, 3) := by decide +kernel
theorem dX0_isPast_11 : decode cX0_isPast 11 = .ok (.iload_n 2, 1) := by decide +kernel
theorem dX0_isPast_12 : decode cX0_isPast 12 = .ok (.iaload, 1) := by decide +kernel
theorem dX0_isPast_13 : decode cX0_isPast 13 = .ok (.aload_n 0, 1) := by decide +kernel
theorem dX0_isPast_14 : decode cX0_isPast 14 = .ok (.getfield 15, 3) := by decide +kernel
theorem dX0_isPast_17 : decode cX0_isPast 17 = .ok (.iload_n 1, 1) := by decide +kernel
theorem dX0_isPast_18 : decode cX0_isPast 18 = .ok (.iaload, 1) := by decide +kernel
theorem dX0_isPast_19 : decode cX0_isPast 19 = .ok (.if_icmp .ne 5, 3) := by decide +kernel
theorem dX0_isPast_22 : decode cX0_isPast 22 = .ok (.iconst 1, 1) := by decide +kernel
theorem dX0_isPast_23 : decode cX0_isPast 23 = .ok (.ireturn, 1) := by decide +kernel
theorem dX0_isPast_24 : decode cX0_isPast 24 = .ok (.iinc 2 1, 3) := by decide +kernel
theorem dX0_isPast_27 : decode cX0_isPast 27 = .ok (.goto (-25), 3) := by decide +kernel
theorem dX0_isPast_30 : decode cX0_isPast 30 = .ok (.iconst 0, 1) := by decide +kernel
theorem dX0_isPast_31 : decode cX0_isPast 31 = .ok (.ireturn, 1) := by decide +kernel
-- X7_canPass_52
def J_X7_canPass_52_98 (n : Nat) (v2 : Int32) (v3 : Int32) (v4 : Int32) (v5 : Bool) (k1 : Int32) (k2 : Int32) (s : jS) : Option ((Int32 × jS) ⊕ ((Int32 × jS) ⊕ ((Bool × jS)))) :=
  (if jin k1 8 = true then (jl (upI s 38 (Int32.toNatClampNeg k1) k2) fun s98_4 => (if v5 = true then (if jin v4 8 = true then (jl (upI s98_4 39 (Int32.toNatClampNeg v4) 0) fun s130_6 => some (.inl ((v4 + 1), s130_6))) else none) else (if jin v4 8 = true then ((F_X3_looksAtWaited (s98_4.1 52 (Int32.toNatClampNeg v4)) s98_4).bind fun p118 => (if p118 = true then (jl (upI s98_4 39 (Int32.toNatClampNeg v4) 9) fun s130_9 => some (.inl ((v4 + 1), s130_9))) else (jl (upI s98_4 39 (Int32.toNatClampNeg v4) 0) fun s130_8 => some (.inl ((v4 + 1), s130_8))))) else none))) else none)
def J_X7_canPass_52_69 (n : Nat) (v2 : Int32) (v3 : Int32) (v4 : Int32) (v5 : Bool) (s : jS) : Option ((Int32 × jS) ⊕ ((Int32 × jS) ⊕ ((Bool × jS)))) :=
  (if v5 = true then J_X7_canPass_52_98 n v2 v3 v4 v5 v4 (-1) s else (if jin v4 8 = true then ((F_X3_placeOf (s.1 52 (Int32.toNatClampNeg v4)) v4 v2 s).bind fun p95 => J_X7_canPass_52_98 n v2 v3 v4 v5 v4 p95 s) else none))
def J_X7_canPass_52_46 (n : Nat) (v2 : Int32) (v3 : Int32) (v4 : Int32) (k0 : Bool) (s : jS) : Option ((Int32 × jS) ⊕ ((Int32 × jS) ⊕ ((Bool × jS)))) :=
  (if k0 = true then J_X7_canPass_52_69 n v2 v3 v4 k0 s else (if jin v4 8 = true then ((F_X3_isOpening (s.1 52 (Int32.toNatClampNeg v4)) s).bind fun p61 => (if p61 = true then J_X7_canPass_52_69 n v2 v3 v4 k0 s else some (.inr (.inr (false, s))))) else none))
def J_X7_canPass_52_41 (n : Nat) (v2 : Int32) (v3 : Int32) (v4 : Int32) (s : jS) : Option ((Int32 × jS) ⊕ ((Int32 × jS) ⊕ ((Bool × jS)))) :=
  J_X7_canPass_52_46 n v2 v3 v4 true s
def B_X7_canPass_52_3 (n : Nat) (v2 : Int32) (v3 : Int32) (q : Int32 × jS) : Option ((Int32 × jS) ⊕ ((Int32 × jS) ⊕ ((Bool × jS)))) :=
  (if (q.2.1 33 4) ≤ q.1 then some (.inr (.inl (q.1, q.2))) else (if 8 ≤ q.1 then some (.inr (.inl (q.1, q.2))) else (if jin q.1 8 = true then (if (jz (q.2.1 22 (Int32.toNatClampNeg q.1))) = true then J_X7_canPass_52_41 n v2 v3 q.1 q.2 else (if (F_X8_hasKey v3 q.1) = true then J_X7_canPass_52_41 n v2 v3 q.1 q.2 else J_X7_canPass_52_46 n v2 v3 q.1 false q.2)) else none)))
def F_X7_canPass_52 (n : Nat) (v2 : Int32) (v3 : Int32) (s : jS) : Option (Bool × jS) :=
  ((lp (B_X7_canPass_52_3 n v2 v3) n (0, s)).bind fun e => Sum.elim (fun e3 => some (true, e3.2)) (fun r3 => some r3) e)
def rm_X7_canPass_52 : Room := { frames := 1, cells := 0, slots := 0, locals := 26 }
set_option maxHeartbeats 4000000 in
set_option maxRecDepth 100000 in
theorem m_X7_canPass_52 {l : Launch} {D : va_G} {G : Nat → ClassId} {KV : jV} {ad : Nat → Nat} {nd : Nat} (n : Nat) (v2 : Int32) (v3 : Int32) (s : jS) {p : Bool × jS} (h : F_X7_canPass_52 n v2 v3 s = some p) : jM l D G KV yX7_canPass cX7_canPass 6 (some .boolean) rm_X7_canPass_52 [.ref (ad 33), .ref (ad 52), .int v2, .int v3] (jw 54 (cellC G nd) ad s) 0 0 (fun v u => v = some (.int (jb p.1)) ∧ u = jw 54 (cellC G nd) ad p.2) := by
  refine jM.of (by decide) (Nat.le_of_ble_eq_true rfl) ?_
  intro K C
  unfold F_X7_canPass_52 at h
  have jn98_3 : ∀ (v2 : Int32) (v3 : Int32) (v4 : Int32) (v5 : Bool) (k1 : Int32) (k2 : Int32) (s : jS) (o : (Int32 × jS) ⊕ ((Int32 × jS) ⊕ ((Bool × jS)))), J_X7_canPass_52_98 n v2 v3 v4 v5 k1 k2 s = some o → (∀ q, o = .inl q → K 0 0 (jw 54 (cellC G nd) ad q.2) 3 [(0, .ref (ad 33)), (1, .ref (ad 52)), (2, .int v2), (3, .int v3), (4, .int q.1)] []) → (∀ e, o = .inr e → Sum.elim (fun e => K 0 0 (jw 54 (cellC G nd) ad e.2) 137 [] []) (fun r => some r = some p) e) → K 0 0 (jw 54 (cellC G nd) ad s) 98 [(0, .ref (ad 33)), (1, .ref (ad 52)), (2, .int v2), (3, .int v3), (4, .int v4), (5, .int (jb v5))] [.int k2, .int k1, .ref (ad 38)] := by
    intro v2 v3 v4 v5 k1 k2 s o hb hin hout
    unfold J_X7_canPass_52_98 at hb
    obtain ⟨c98_3, hb⟩ := jchk hb
    refine j_iastW C dX7_canPass_98 (by decide) (fun _ => rfl) (jin_vp c98_3) (fun s98_4 hs98_4 => ?_)
    have hb := jlet hb hs98_4
    refine j_aload_n C dX7_canPass_99 0 rfl ?_
    refine j_getW C dX7_canPass_100 inX7 rfl (by decide) rfl 10 (by decide) w_244 rfl rfl ?_
    refine j_iload C dX7_canPass_103 4 rfl ?_
    refine j_iload C dX7_canPass_105 5 rfl ?_
    refine j_if_ne C dX7_canPass_107 (tgt := 129) (by decide) (fun cq => ?_) (fun cq => ?_)
    · have hb := jite_t hb (jb_t cq)
      refine j_iconst C dX7_canPass_129 (v := 0) (by decide) ?_
      obtain ⟨c130_5, hb⟩ := jchk hb
      refine j_iastW C dX7_canPass_130 (by decide) (fun _ => rfl) (jin_vp c130_5) (fun s130_6 hs130_6 => ?_)
      have hb := jlet hb hs130_6
      refine j_iinc C dX7_canPass_131 4 rfl (v := (v4 + 1)) rfl (by decide) rfl ?_
      refine j_goto C dX7_canPass_134 (tgt := 3) (by decide) ?_
      refine j_loc C [1, 2, 3, 4, 0] rfl ?_
      have hx := hin _ (jinl hb)
      exact hx
    · have hb := jite_f hb (jb_f cq)
      refine j_aload_n C dX7_canPass_110 0 rfl ?_
      refine j_getW C dX7_canPass_111 inX7 rfl (by decide) rfl 6 (by decide) w_240 rfl rfl ?_
      refine j_aload_n C dX7_canPass_114 1 rfl ?_
      refine j_iload C dX7_canPass_115 4 rfl ?_
      obtain ⟨c117_7, hb⟩ := jchk hb
      refine j_ialdW C dX7_canPass_117 (by decide) rfl (jin_vp c117_7) ?_
      obtain ⟨p118, he118, hb⟩ := jbind hb
      refine j_cV1 C dX7_canPass_118 (m_X3_looksAtWaited (s98_4.1 52 (Int32.toNatClampNeg v4)) s98_4 he118) kc_X3_looksAtWaited w_779 w_780 w_781 w_7 jy_X3_looksAtWaited ⟨⟨Nat.le_of_ble_eq_true rfl, Nat.le_of_ble_eq_true rfl⟩, ⟨rfl, rfl⟩, ⟨Nat.zero_le _, Nat.zero_le _⟩⟩ (Nat.le_of_ble_eq_true rfl) (by decide) rfl (r := (RX3, TX3, 7)) rfl rfl rfl (fun _ _ h => h) ?_
      refine j_if_eq C dX7_canPass_121 (tgt := 129) (by decide) (fun cq => ?_) (fun cq => ?_)
      · have hb := jite_f hb (jb_f cq)
        refine j_iconst C dX7_canPass_129 (v := 0) (by decide) ?_
        refine j_iastW C dX7_canPass_130 (by decide) (fun _ => rfl) (jin_vp c117_7) (fun s130_8 hs130_8 => ?_)
        have hb := jlet hb hs130_8
        refine j_iinc C dX7_canPass_131 4 rfl (v := (v4 + 1)) rfl (by decide) rfl ?_
        refine j_goto C dX7_canPass_134 (tgt := 3) (by decide) ?_
        refine j_loc C [1, 2, 3, 4, 0] rfl ?_
        have hx := hin _ (jinl hb)
        exact hx
      · have hb := jite_t hb (jb_t cq)
        refine j_bipush C dX7_canPass_124 (v := 9) (by decide) ?_
        refine j_goto C dX7_canPass_126 (tgt := 130) (by decide) ?_
        refine j_iastW C dX7_canPass_130 (by decide) (fun _ => rfl) (jin_vp c117_7) (fun s130_9 hs130_9 => ?_)
        have hb := jlet hb hs130_9
        refine j_iinc C dX7_canPass_131 4 rfl (v := (v4 + 1)) rfl (by decide) rfl ?_
        refine j_goto C dX7_canPass_134 (tgt := 3) (by decide) ?_
        refine j_loc C [1, 2, 3, 4, 0] rfl ?_
        have hx := hin _ (jinl hb)
        exact hx
  have jn69_3 : ∀ (v2 : Int32) (v3 : Int32) (v4 : Int32) (v5 : Bool) (s : jS) (o : (Int32 × jS) ⊕ ((Int32 × jS) ⊕ ((Bool × jS)))), J_X7_canPass_52_69 n v2 v3 v4 v5 s = some o → (∀ q, o = .inl q → K 0 0 (jw 54 (cellC G nd) ad q.2) 3 [(0, .ref (ad 33)), (1, .ref (ad 52)), (2, .int v2), (3, .int v3), (4, .int q.1)] []) → (∀ e, o = .inr e → Sum.elim (fun e => K 0 0 (jw 54 (cellC G nd) ad e.2) 137 [] []) (fun r => some r = some p) e) → K 0 0 (jw 54 (cellC G nd) ad s) 69 [(0, .ref (ad 33)), (1, .ref (ad 52)), (2, .int v2), (3, .int v3), (4, .int v4), (5, .int (jb v5))] [] := by
    intro v2 v3 v4 v5 s o hb hin hout
    unfold J_X7_canPass_52_69 at hb
    refine j_aload_n C dX7_canPass_69 0 rfl ?_
    refine j_getW C dX7_canPass_70 inX7 rfl (by decide) rfl 9 (by decide) w_243 rfl rfl ?_
    refine j_iload C dX7_canPass_73 4 rfl ?_
    refine j_iload C dX7_canPass_75 5 rfl ?_
    refine j_if_eq C dX7_canPass_77 (tgt := 84) (by decide) (fun cq => ?_) (fun cq => ?_)
    · have hb := jite_f hb (jb_f cq)
      refine j_aload_n C dX7_canPass_84 0 rfl ?_
      refine j_getW C dX7_canPass_85 inX7 rfl (by decide) rfl 6 (by decide) w_240 rfl rfl ?_
      refine j_aload_n C dX7_canPass_88 1 rfl ?_
      refine j_iload C dX7_canPass_89 4 rfl ?_
      obtain ⟨c91_2, hb⟩ := jchk hb
      refine j_ialdW C dX7_canPass_91 (by decide) rfl (jin_vp c91_2) ?_
      refine j_iload C dX7_canPass_92 4 rfl ?_
      refine j_iload_n C dX7_canPass_94 2 rfl ?_
      obtain ⟨p95, he95, hb⟩ := jbind hb
      refine j_cV1 C dX7_canPass_95 (m_X3_placeOf (s.1 52 (Int32.toNatClampNeg v4)) v4 v2 s he95) kc_X3_placeOf w_778 w_757 w_758 w_7 jy_X3_placeOf ⟨⟨Nat.le_of_ble_eq_true rfl, Nat.le_of_ble_eq_true rfl⟩, ⟨rfl, rfl⟩, ⟨Nat.zero_le _, Nat.zero_le _⟩⟩ (Nat.le_of_ble_eq_true rfl) (by decide) rfl (r := (RX3, TX3, 7)) rfl rfl rfl (fun _ _ h => h) ?_
      refine j_loc C [0, 1, 2, 3, 4, 5] rfl ?_
      exact jn98_3 v2 v3 v4 v5 v4 p95 s   _ hb hin hout
    · have hb := jite_t hb (jb_t cq)
      refine j_iconst C dX7_canPass_80 (v := (-1)) (by decide) ?_
      refine j_goto C dX7_canPass_81 (tgt := 98) (by decide) ?_
      refine j_loc C [0, 1, 2, 3, 4, 5] rfl ?_
      exact jn98_3 v2 v3 v4 v5 v4 (-1) s   _ hb hin hout
  have jn46_3 : ∀ (v2 : Int32) (v3 : Int32) (v4 : Int32) (k0 : Bool) (s : jS) (o : (Int32 × jS) ⊕ ((Int32 × jS) ⊕ ((Bool × jS)))), J_X7_canPass_52_46 n v2 v3 v4 k0 s = some o → (∀ q, o = .inl q → K 0 0 (jw 54 (cellC G nd) ad q.2) 3 [(0, .ref (ad 33)), (1, .ref (ad 52)), (2, .int v2), (3, .int v3), (4, .int q.1)] []) → (∀ e, o = .inr e → Sum.elim (fun e => K 0 0 (jw 54 (cellC G nd) ad e.2) 137 [] []) (fun r => some r = some p) e) → K 0 0 (jw 54 (cellC G nd) ad s) 46 [(0, .ref (ad 33)), (1, .ref (ad 52)), (2, .int v2), (3, .int v3), (4, .int v4)] [.int (jb k0)] := by
    intro v2 v3 v4 k0 s o hb hin hout
    unfold J_X7_canPass_52_46 at hb
    refine j_istore C dX7_canPass_46 (by decide) rfl ?_
    refine j_iload C dX7_canPass_48 0 rfl ?_
    refine j_if_ne C dX7_canPass_50 (tgt := 69) (by decide) (fun cq => ?_) (fun cq => ?_)
    · have hb := jite_t hb (jb_t cq)
      refine j_loc C [1, 2, 3, 4, 5, 0] rfl ?_
      exact jn69_3 v2 v3 v4 k0 s   _ hb hin hout
    · have hb := jite_f hb (jb_f cq)
      refine j_aload_n C dX7_canPass_53 1 rfl ?_
      refine j_getW C dX7_canPass_54 inX7 rfl (by decide) rfl 6 (by decide) w_240 rfl rfl ?_
      refine j_aload_n C dX7_canPass_57 2 rfl ?_
      refine j_iload C dX7_canPass_58 5 rfl ?_
      obtain ⟨c60_10, hb⟩ := jchk hb
      refine j_ialdW C dX7_canPass_60 (by decide) rfl (jin_vp c60_10) ?_
      obtain ⟨p61, he61, hb⟩ := jbind hb
      refine j_cV1 C dX7_canPass_61 (m_X3_isOpening (s.1 52 (Int32.toNatClampNeg v4)) s he61) kc_X3_isOpening w_777 w_651 w_652 w_7 jy_X3_isOpening ⟨⟨Nat.le_of_ble_eq_true rfl, Nat.le_of_ble_eq_true rfl⟩, ⟨rfl, rfl⟩, ⟨Nat.zero_le _, Nat.zero_le _⟩⟩ (Nat.le_of_ble_eq_true rfl) (by decide) rfl (r := (RX3, TX3, 7)) rfl rfl rfl (fun _ _ h => h) ?_
      refine j_if_ne C dX7_canPass_64 (tgt := 69) (by decide) (fun cq => ?_) (fun cq => ?_)
      · have hb := jite_t hb (jb_t cq)
        refine j_loc C [1, 2, 3, 4, 5, 0] rfl ?_
        exact jn69_3 v2 v3 v4 k0 s   _ hb hin hout
      · have hb := jite_f hb (jb_f cq)
        refine j_iconst C dX7_canPass_67 (v := 0) (by decide) ?_
        exact j_iret C dX7_canPass_68 rfl (jb_nar false) (Nat.zero_le _) (Nat.zero_le _) (jretWB (jretL hb hout))
  have jn41_3 : ∀ (v2 : Int32) (v3 : Int32) (v4 : Int32) (s : jS) (o : (Int32 × jS) ⊕ ((Int32 × jS) ⊕ ((Bool × jS)))), J_X7_canPass_52_41 n v2 v3 v4 s = some o → (∀ q, o = .inl q → K 0 0 (jw 54 (cellC G nd) ad q.2) 3 [(0, .ref (ad 33)), (1, .ref (ad 52)), (2, .int v2), (3, .int v3), (4, .int q.1)] []) → (∀ e, o = .inr e → Sum.elim (fun e => K 0 0 (jw 54 (cellC G nd) ad e.2) 137 [] []) (fun r => some r = some p) e) → K 0 0 (jw 54 (cellC G nd) ad s) 41 [(0, .ref (ad 33)), (1, .ref (ad 52)), (2, .int v2), (3, .int v3), (4, .int v4)] [] := by
    intro v2 v3 v4 s o hb hin hout
    unfold J_X7_canPass_52_41 at hb
    refine j_iconst C dX7_canPass_41 (v := 1) (by decide) ?_
    refine j_goto C dX7_canPass_42 (tgt := 46) (by decide) ?_
    refine j_loc C [0, 1, 2, 3, 4] rfl ?_
    exact jn46_3 v2 v3 v4 true s   _ hb hin hout
  have lo3 : ∀ (v2 : Int32) (v3 : Int32) (s : jS) (k : Nat) (q : Int32 × jS) (e : (Int32 × jS) ⊕ ((Bool × jS))), lp (B_X7_canPass_52_3 n v2 v3) k q = some e → Sum.elim (fun e => K 0 0 (jw 54 (cellC G nd) ad e.2) 137 [] []) (fun r => some r = some p) e → K 0 0 (jw 54 (cellC G nd) ad q.2) 3 [(0, .ref (ad 33)), (1, .ref (ad 52)), (2, .int v2), (3, .int v3), (4, .int q.1)] [] := by
    intro v2 v3 s k q e he hE
    refine jlp (KH := fun q => K 0 0 (jw 54 (cellC G nd) ad q.2) 3 [(0, .ref (ad 33)), (1, .ref (ad 52)), (2, .int v2), (3, .int v3), (4, .int q.1)] []) (KE := fun e => Sum.elim (fun e => K 0 0 (jw 54 (cellC G nd) ad e.2) 137 [] []) (fun r => some r = some p) e) ?_ k q e he hE
    intro q o hb hin hout
    unfold B_X7_canPass_52_3 at hb
    show K 0 0 (jw 54 (cellC G nd) ad q.2) 3 [(0, .ref (ad 33)), (1, .ref (ad 52)), (2, .int v2), (3, .int v3), (4, .int q.1)] []
    refine j_iload C dX7_canPass_3 4 rfl ?_
    refine j_aload_n C dX7_canPass_5 0 rfl ?_
    refine j_getW C dX7_canPass_6 inX7 rfl (by decide) rfl 4 (by decide) w_238 rfl rfl ?_
    refine j_icmp_ge C dX7_canPass_9 (tgt := 137) (by decide) (fun cq => ?_) (fun cq => ?_)
    · have hb := jite_t hb cq
      refine j_loc C [] rfl ?_
      have hx := hout _ (jinr hb)
      exact hx
    · have hb := jite_f hb cq
      refine j_iload C dX7_canPass_12 4 rfl ?_
      refine j_aload_n C dX7_canPass_14 1 rfl ?_
      refine j_alenW C dX7_canPass_15 (by decide) rfl (by decide) (v := 8) rfl ?_
      refine j_icmp_ge C dX7_canPass_16 (tgt := 137) (by decide) (fun cq => ?_) (fun cq => ?_)
      · have hb := jite_t hb cq
        refine j_loc C [] rfl ?_
        have hx := hout _ (jinr hb)
        exact hx
      · have hb := jite_f hb cq
        refine j_aload_n C dX7_canPass_19 0 rfl ?_
        refine j_getW C dX7_canPass_20 inX7 rfl (by decide) rfl 5 (by decide) w_239 rfl rfl ?_
        refine j_getW C dX7_canPass_23 inX2 rfl (by decide) rfl 3 (by decide) w_126 rfl rfl ?_
        refine j_iload C dX7_canPass_26 4 rfl ?_
        obtain ⟨c28_1, hb⟩ := jchk hb
        refine j_zaldW C dX7_canPass_28 (by decide) rfl (jin_vp c28_1) ?_
        refine j_if_ne C dX7_canPass_29 (tgt := 41) (by decide) (fun cq => ?_) (fun cq => ?_)
        · have hb := jite_t hb (jb_t cq)
          refine j_loc C [0, 1, 2, 3, 4] rfl ?_
          exact jn41_3 v2 v3 q.1 q.2   _ hb hin hout
        · have hb := jite_f hb (jb_f cq)
          refine j_iload_n C dX7_canPass_32 3 rfl ?_
          refine j_iload C dX7_canPass_33 4 rfl ?_
          refine j_cSN1 C (host := "RoadOfDoors") dX7_canPass_35 (m_X8_hasKey v3 q.1 rfl) kc_X8_hasKey (by decide +kernel) w_694 w_1 jy_X8_hasKey ⟨⟨Nat.le_of_ble_eq_true rfl, Nat.le_of_ble_eq_true rfl⟩, ⟨rfl, rfl⟩, ⟨Nat.zero_le _, Nat.zero_le _⟩⟩ (Nat.le_of_ble_eq_true rfl) rfl (fun _ _ h => h) ?_
          refine j_if_eq C dX7_canPass_38 (tgt := 45) (by decide) (fun cq => ?_) (fun cq => ?_)
          · have hb := jite_f hb (jb_f cq)
            refine j_iconst C dX7_canPass_45 (v := 0) (by decide) ?_
            refine j_loc C [0, 1, 2, 3, 4] rfl ?_
            exact jn46_3 v2 v3 q.1 false q.2   _ hb hin hout
          · have hb := jite_t hb (jb_t cq)
            refine j_loc C [0, 1, 2, 3, 4] rfl ?_
            exact jn41_3 v2 v3 q.1 q.2   _ hb hin hout
  show K 0 0 (jw 54 (cellC G nd) ad s) 0 [(0, .ref (ad 33)), (1, .ref (ad 52)), (2, .int v2), (3, .int v3)] []
  refine j_iconst C dX7_canPass_0 (v := 0) (by decide) ?_
  refine j_istore C dX7_canPass_1 (by decide) rfl ?_
  refine j_loc C [1, 2, 3, 4, 0] rfl ?_
  obtain ⟨e3, he3, h⟩ := jbind h
  refine lo3 v2 v3 s  n (0, s) e3 he3 ?_
  rcases e3 with e3 | r3
  · show K _ _ _ _ _ _
    refine j_iconst C dX7_canPass_137 (v := 1) (by decide) ?_
    exact j_iret C dX7_canPass_138 rfl (jb_nar true) (Nat.zero_le _) (Nat.zero_le _) (jretWB h)
  · exact h
-- X7_findCheapest_52
def J_X7_findCheapest_52_48 (nd : Nat) (n : Nat) (v7 : Int32) (k0 : Bool) (s : jS) : Option (Bool × jS) :=
  (if k0 = true then ((F_X7_walk nd n v7 s).bind fun p58 => some (k0, p58)) else some (k0, s))
def J_X7_findCheapest_52_47 (nd : Nat) (n : Nat) (v7 : Int32) (s : jS) : Option (Bool × jS) :=
  J_X7_findCheapest_52_48 nd n v7 false s
def F_X7_findCheapest_52 (nd : Nat) (n : Nat) (v2 : Int32) (v3 : Int32) (v4 : Int32) (v5 : Int32) (v6 : Int32) (s : jS) : Option (Bool × jS) :=
  ((F_X7_canPass_52 n v2 v3 s).bind fun p4 => (if p4.1 = true then (jl (upI p4.2 33 11 v4) fun s15_1 => ((F_X7_cheapest nd n v5 s15_1).bind fun p21 => (if 1048576 ≤ p21.1 then J_X7_findCheapest_52_47 nd n p21.1 p21.2 else (if v6 < (p21.1 >>> ((6 : Int32) &&& 31)) then J_X7_findCheapest_52_47 nd n p21.1 p21.2 else J_X7_findCheapest_52_48 nd n p21.1 true p21.2)))) else some (false, p4.2)))
def rm_X7_findCheapest_52 : Room := { frames := 3, cells := 0, slots := 0, locals := 70 }
set_option maxHeartbeats 4000000 in
set_option maxRecDepth 100000 in
theorem m_X7_findCheapest_52 {l : Launch} {D : va_G} {G : Nat → ClassId} {KV : jV} {ad : Nat → Nat} (nd : Nat) (n : Nat) (v2 : Int32) (v3 : Int32) (v4 : Int32) (v5 : Int32) (v6 : Int32) (s : jS) {p : Bool × jS} (h : F_X7_findCheapest_52 nd n v2 v3 v4 v5 v6 s = some p) : jM l D G KV yX7_findCheapest cX7_findCheapest 9 (some .boolean) rm_X7_findCheapest_52 [.ref (ad 33), .ref (ad 52), .int v2, .int v3, .int v4, .int v5, .int v6] (jw 54 (cellC G nd) ad s) 0 0 (fun v u => v = some (.int (jb p.1)) ∧ u = jw 54 (cellC G nd) ad p.2) := by
  refine jM.of (by decide) (Nat.le_of_ble_eq_true rfl) ?_
  intro K C
  unfold F_X7_findCheapest_52 at h
  have jn48 : ∀ (v7 : Int32) (k0 : Bool) (s : jS) (_ : J_X7_findCheapest_52_48 nd n v7 k0 s = some p), K 0 0 (jw 54 (cellC G nd) ad s) 48 [(0, .ref (ad 33)), (7, .int v7)] [.int (jb k0)] := by
    intro v7 k0 s h
    unfold J_X7_findCheapest_52_48 at h
    refine j_istore C dX7_findCheapest_48 (by decide) rfl ?_
    refine j_iload C dX7_findCheapest_50 0 rfl ?_
    refine j_if_eq C dX7_findCheapest_52 (tgt := 61) (by decide) (fun cq => ?_) (fun cq => ?_)
    · have h := jite_f h (jb_f cq)
      refine j_iload C dX7_findCheapest_61 0 rfl ?_
      exact j_iret C dX7_findCheapest_63 rfl (jb_nar k0) (Nat.zero_le _) (Nat.zero_le _) (jretWB h)
    · have h := jite_t h (jb_t cq)
      refine j_aload_n C dX7_findCheapest_55 1 rfl ?_
      refine j_iload C dX7_findCheapest_56 2 rfl ?_
      obtain ⟨p58, he58, h⟩ := jbind h
      refine j_cV0 C dX7_findCheapest_58 (m_X7_walk nd n v7 s he58) kc_X7_walk w_803 w_805 wp_36 w_8 jy_X7_walk ⟨⟨Nat.le_of_ble_eq_true rfl, Nat.le_of_ble_eq_true rfl⟩, ⟨rfl, rfl⟩, ⟨Nat.zero_le _, Nat.zero_le _⟩⟩ (Nat.le_of_ble_eq_true rfl) (by decide) rfl (r := (RX7, TX7, 12)) rfl rfl rfl (fun _ _ h => h) ?_
      refine j_iload C dX7_findCheapest_61 0 rfl ?_
      exact j_iret C dX7_findCheapest_63 rfl (jb_nar k0) (Nat.zero_le _) (Nat.zero_le _) (jretWB h)
  have jn47 : ∀ (v7 : Int32) (s : jS) (_ : J_X7_findCheapest_52_47 nd n v7 s = some p), K 0 0 (jw 54 (cellC G nd) ad s) 47 [(0, .ref (ad 33)), (7, .int v7)] [] := by
    intro v7 s h
    unfold J_X7_findCheapest_52_47 at h
    refine j_iconst C dX7_findCheapest_47 (v := 0) (by decide) ?_
    refine j_loc C [0, 1] rfl ?_
    exact jn48 v7 false s  h
  show K 0 0 (jw 54 (cellC G nd) ad s) 0 [(0, .ref (ad 33)), (1, .ref (ad 52)), (2, .int v2), (3, .int v3), (4, .int v4), (5, .int v5), (6, .int v6)] []
  refine j_aload_n C dX7_findCheapest_0 0 rfl ?_
  refine j_aload_n C dX7_findCheapest_1 1 rfl ?_
  refine j_iload_n C dX7_findCheapest_2 2 rfl ?_
  refine j_iload_n C dX7_findCheapest_3 3 rfl ?_
  obtain ⟨p4, he4, h⟩ := jbind h
  refine j_cV1 C dX7_findCheapest_4 (m_X7_canPass_52 n v2 v3 s he4) kc_X7_canPass w_772 w_774 wp_33 w_8 jy_X7_canPass ⟨⟨Nat.le_of_ble_eq_true rfl, Nat.le_of_ble_eq_true rfl⟩, ⟨rfl, rfl⟩, ⟨Nat.zero_le _, Nat.zero_le _⟩⟩ (Nat.le_of_ble_eq_true rfl) (by decide) rfl (r := (RX7, TX7, 12)) rfl rfl rfl (fun _ _ h => h) ?_
  refine j_if_ne C dX7_findCheapest_7 (tgt := 12) (by decide) (fun cq => ?_) (fun cq => ?_)
  · have h := jite_t h (jb_t cq)
    refine j_aload_n C dX7_findCheapest_12 0 rfl ?_
    refine j_iload C dX7_findCheapest_13 4 rfl ?_
    refine j_putI C dX7_findCheapest_15 inX7 tyX7 tyX7_ok nmX7 rfl (by decide) 11 rfl rfl (by decide) w_245 rfl rfl rfl rfl (Nat.le_of_ble_eq_true rfl) (fun s15_1 hs15_1 => ?_)
    have h := jlet h hs15_1
    refine j_aload_n C dX7_findCheapest_18 0 rfl ?_
    refine j_iload C dX7_findCheapest_19 5 rfl ?_
    obtain ⟨p21, he21, h⟩ := jbind h
    refine j_cV1 C dX7_findCheapest_21 (m_X7_cheapest nd n v5 s15_1 he21) kc_X7_cheapest w_783 w_785 wp_34 w_8 jy_X7_cheapest ⟨⟨Nat.le_of_ble_eq_true rfl, Nat.le_of_ble_eq_true rfl⟩, ⟨rfl, rfl⟩, ⟨Nat.zero_le _, Nat.zero_le _⟩⟩ (Nat.le_of_ble_eq_true rfl) (by decide) rfl (r := (RX7, TX7, 12)) rfl rfl rfl (fun _ _ h => h) ?_
    refine j_istore C dX7_findCheapest_24 (by decide) rfl ?_
    refine j_iload C dX7_findCheapest_26 0 rfl ?_
    refine j_ldc C dX7_findCheapest_28 (v := 1048576) w_787 ?_
    refine j_icmp_ge C dX7_findCheapest_30 (tgt := 47) (by decide) (fun cq => ?_) (fun cq => ?_)
    · have h := jite_t h cq
      refine j_loc C [1, 0] rfl ?_
      exact jn47 p21.1 p21.2  h
    · have h := jite_f h cq
      refine j_iload C dX7_findCheapest_33 0 rfl ?_
      refine j_bipush C dX7_findCheapest_35 (v := 6) (by decide) ?_
      refine j_ishr C dX7_findCheapest_37 ?_
      refine j_iload C dX7_findCheapest_38 7 rfl ?_
      refine j_icmp_gt C dX7_findCheapest_40 (tgt := 47) (by decide) (fun cq => ?_) (fun cq => ?_)
      · have h := jite_t h cq
        refine j_loc C [1, 0] rfl ?_
        exact jn47 p21.1 p21.2  h
      · have h := jite_f h cq
        refine j_iconst C dX7_findCheapest_43 (v := 1) (by decide) ?_
        refine j_goto C dX7_findCheapest_44 (tgt := 48) (by decide) ?_
        refine j_loc C [1, 0] rfl ?_
        exact jn48 p21.1 true p21.2  h
  · have h := jite_f h (jb_f cq)
    refine j_iconst C dX7_findCheapest_10 (v := 0) (by decide) ?_
    exact j_iret C dX7_findCheapest_11 rfl (jb_nar false) (Nat.zero_le _) (Nat.zero_le _) (jretWB h)
-- X0_earned
def B_X0_earned_43 (nd : Nat) (n : Nat) (v1 : Int32) (q : Int32 × Int32 × jS) : Option ((Int32 × Int32 × jS) ⊕ (Int32 × Int32 × jS)) :=
  (if (q.2.2.1 18 8) ≤ q.2.1 then some (.inr (q.1, q.2.1, q.2.2)) else (if 6 ≤ q.2.1 then some (.inr (q.1, q.2.1, q.2.2)) else (if jin ((q.2.1 * 4) + 1) 24 = true then (if (F_X8_hasKey (q.2.2.1 23 (Int32.toNatClampNeg ((q.2.1 * 4) + 1))) v1) = true then some (.inl (q.1, (q.2.1 + 1), q.2.2)) else (if jin (q.2.1 * 4) 24 = true then (if jin ((q.2.1 * 4) + 2) 24 = true then (if jin ((q.2.1 * 4) + 3) 24 = true then ((F_X7_findCheapest_52 nd n (q.2.2.1 23 (Int32.toNatClampNeg (q.2.1 * 4))) (q.2.2.1 23 (Int32.toNatClampNeg ((q.2.1 * 4) + 1))) (q.2.2.1 23 (Int32.toNatClampNeg ((q.2.1 * 4) + 2))) 24 (q.2.2.1 23 (Int32.toNatClampNeg ((q.2.1 * 4) + 3))) q.2.2).bind fun p113 => (if p113.1 = true then (if jin v1 8 = true then some (.inl ((q.1 + (p113.2.1 35 (Int32.toNatClampNeg v1))), (q.2.1 + 1), p113.2)) else none) else some (.inl (q.1, (q.2.1 + 1), p113.2)))) else none) else none) else none)) else none)))
def F_X0_earned (nd : Nat) (n : Nat) (v1 : Int32) (s : jS) : Option (Int32 × jS) :=
  (if jin v1 8 = true then (if (jz (s.1 22 (Int32.toNatClampNeg v1))) = true then some (0, s) else ((F_X3_isOpening (s.1 52 (Int32.toNatClampNeg v1)) s).bind fun p24 => (if p24 = true then ((lp (B_X0_earned_43 nd n v1) n (0, 0, s)).bind fun e43 => some (e43.1, e43.2.2)) else some (0, s)))) else none)
def rm_X0_earned : Room := { frames := 4, cells := 0, slots := 0, locals := 98 }
set_option maxHeartbeats 4000000 in
set_option maxRecDepth 100000 in
theorem m_X0_earned {l : Launch} {D : va_G} {G : Nat → ClassId} {KV : jV} {ad : Nat → Nat} (nd : Nat) (n : Nat) (v1 : Int32) (s : jS) {p : Int32 × jS} (h : F_X0_earned nd n v1 s = some p) : jM l D G KV yX0_earned cX0_earned 7 (some .int) rm_X0_earned [.ref (ad 51), .int v1] (jw 54 (cellC G nd) ad s) 0 0 (fun v u => v = some (.int p.1) ∧ u = jw 54 (cellC G nd) ad p.2) := by
  refine jM.of (by decide) (Nat.le_of_ble_eq_true rfl) ?_
  intro K C
  unfold F_X0_earned at h
  have lo43 : ∀ (v1 : Int32) (s : jS) (k : Nat) (q : Int32 × Int32 × jS) (e : Int32 × Int32 × jS), lp (B_X0_earned_43 nd n v1) k q = some e → K 0 0 (jw 54 (cellC G nd) ad e.2.2) 137 [(2, .int e.1)] [] → K 0 0 (jw 54 (cellC G nd) ad q.2.2) 43 [(0, .ref (ad 51)), (1, .int v1), (2, .int q.1), (3, .ref (ad 23)), (4, .int q.2.1)] [] := by
    intro v1 s k q e he hE
    refine jlp (KH := fun q => K 0 0 (jw 54 (cellC G nd) ad q.2.2) 43 [(0, .ref (ad 51)), (1, .int v1), (2, .int q.1), (3, .ref (ad 23)), (4, .int q.2.1)] []) (KE := fun e => K 0 0 (jw 54 (cellC G nd) ad e.2.2) 137 [(2, .int e.1)] []) ?_ k q e he hE
    intro q o hb hin hout
    unfold B_X0_earned_43 at hb
    show K 0 0 (jw 54 (cellC G nd) ad q.2.2) 43 [(0, .ref (ad 51)), (1, .int v1), (2, .int q.1), (3, .ref (ad 23)), (4, .int q.2.1)] []
    refine j_iload C dX0_earned_43 4 rfl ?_
    refine j_aload_n C dX0_earned_45 0 rfl ?_
    refine j_getW C dX0_earned_46 inX0 rfl (by decide) rfl 2 (by decide) w_319 rfl rfl ?_
    refine j_getW C dX0_earned_49 inX2 rfl (by decide) rfl 8 (by decide) w_140 rfl rfl ?_
    refine j_icmp_ge C dX0_earned_52 (tgt := 137) (by decide) (fun cq => ?_) (fun cq => ?_)
    · have hb := jite_t hb cq
      refine j_loc C [2] rfl ?_
      have hx := hout _ (jinr hb)
      exact hx
    · have hb := jite_f hb cq
      refine j_iload C dX0_earned_55 4 rfl ?_
      refine j_bipush C dX0_earned_57 (v := 6) (by decide) ?_
      refine j_icmp_ge C dX0_earned_59 (tgt := 137) (by decide) (fun cq => ?_) (fun cq => ?_)
      · have hb := jite_t hb cq
        refine j_loc C [2] rfl ?_
        have hx := hout _ (jinr hb)
        exact hx
      · have hb := jite_f hb cq
        refine j_iload C dX0_earned_62 4 rfl ?_
        refine j_iconst C dX0_earned_64 (v := 4) (by decide) ?_
        refine j_imul C dX0_earned_65 ?_
        refine j_istore C dX0_earned_66 (by decide) rfl ?_
        refine j_aload_n C dX0_earned_68 4 rfl ?_
        refine j_iload C dX0_earned_69 0 rfl ?_
        refine j_iconst C dX0_earned_71 (v := 1) (by decide) ?_
        refine j_iadd C dX0_earned_72 ?_
        obtain ⟨c73_2, hb⟩ := jchk hb
        refine j_ialdW C dX0_earned_73 (by decide) rfl (jin_vp c73_2) ?_
        refine j_istore C dX0_earned_74 (by decide) rfl ?_
        refine j_iload C dX0_earned_76 0 rfl ?_
        refine j_iload_n C dX0_earned_78 3 rfl ?_
        refine j_cSN1 C (host := "RoadOfDoors") dX0_earned_79 (m_X8_hasKey (q.2.2.1 23 (Int32.toNatClampNeg ((q.2.1 * 4) + 1))) v1 rfl) kc_X8_hasKey (by decide +kernel) w_694 w_1 jy_X8_hasKey ⟨⟨Nat.le_of_ble_eq_true rfl, Nat.le_of_ble_eq_true rfl⟩, ⟨rfl, rfl⟩, ⟨Nat.zero_le _, Nat.zero_le _⟩⟩ (Nat.le_of_ble_eq_true rfl) rfl (fun _ _ h => h) ?_
        refine j_if_ne C dX0_earned_82 (tgt := 131) (by decide) (fun cq => ?_) (fun cq => ?_)
        · have hb := jite_t hb (jb_t cq)
          refine j_iinc C dX0_earned_131 6 rfl (v := (q.2.1 + 1)) rfl (by decide) rfl ?_
          refine j_goto C dX0_earned_134 (tgt := 43) (by decide) ?_
          refine j_loc C [3, 4, 5, 6, 0] rfl ?_
          have hx := hin _ (jinl hb)
          exact hx
        · have hb := jite_f hb (jb_f cq)
          refine j_aload_n C dX0_earned_85 2 rfl ?_
          refine j_getW C dX0_earned_86 inX0 rfl (by decide) rfl 4 (by decide) w_321 rfl rfl ?_
          refine j_aload_n C dX0_earned_89 2 rfl ?_
          refine j_getW C dX0_earned_90 inX0 rfl (by decide) rfl 0 (by decide) w_316 rfl rfl ?_
          refine j_aload_n C dX0_earned_93 5 rfl ?_
          refine j_iload C dX0_earned_94 1 rfl ?_
          obtain ⟨c96_3, hb⟩ := jchk hb
          refine j_ialdW C dX0_earned_96 (by decide) rfl (jin_vp c96_3) ?_
          refine j_iload C dX0_earned_97 0 rfl ?_
          refine j_aload_n C dX0_earned_99 5 rfl ?_
          refine j_iload C dX0_earned_100 1 rfl ?_
          refine j_iconst C dX0_earned_102 (v := 2) (by decide) ?_
          refine j_iadd C dX0_earned_103 ?_
          obtain ⟨c104_4, hb⟩ := jchk hb
          refine j_ialdW C dX0_earned_104 (by decide) rfl (jin_vp c104_4) ?_
          refine j_bipush C dX0_earned_105 (v := 24) (by decide) ?_
          refine j_aload_n C dX0_earned_107 5 rfl ?_
          refine j_iload C dX0_earned_108 1 rfl ?_
          refine j_iconst C dX0_earned_110 (v := 3) (by decide) ?_
          refine j_iadd C dX0_earned_111 ?_
          obtain ⟨c112_5, hb⟩ := jchk hb
          refine j_ialdW C dX0_earned_112 (by decide) rfl (jin_vp c112_5) ?_
          obtain ⟨p113, he113, hb⟩ := jbind hb
          refine j_cV1 C dX0_earned_113 (m_X7_findCheapest_52 nd n (q.2.2.1 23 (Int32.toNatClampNeg (q.2.1 * 4))) (q.2.2.1 23 (Int32.toNatClampNeg ((q.2.1 * 4) + 1))) (q.2.2.1 23 (Int32.toNatClampNeg ((q.2.1 * 4) + 2))) 24 (q.2.2.1 23 (Int32.toNatClampNeg ((q.2.1 * 4) + 3))) q.2.2 he113) kc_X7_findCheapest w_844 w_769 w_770 w_8 jy_X7_findCheapest ⟨⟨Nat.le_of_ble_eq_true rfl, Nat.le_of_ble_eq_true rfl⟩, ⟨rfl, rfl⟩, ⟨Nat.zero_le _, Nat.zero_le _⟩⟩ (Nat.le_of_ble_eq_true rfl) (by decide) rfl (r := (RX7, TX7, 12)) rfl rfl rfl (fun _ _ h => h) ?_
          refine j_if_eq C dX0_earned_116 (tgt := 131) (by decide) (fun cq => ?_) (fun cq => ?_)
          · have hb := jite_f hb (jb_f cq)
            refine j_iinc C dX0_earned_131 6 rfl (v := (q.2.1 + 1)) rfl (by decide) rfl ?_
            refine j_goto C dX0_earned_134 (tgt := 43) (by decide) ?_
            refine j_loc C [3, 4, 5, 6, 0] rfl ?_
            have hx := hin _ (jinl hb)
            exact hx
          · have hb := jite_t hb (jb_t cq)
            refine j_iload_n C dX0_earned_119 4 rfl ?_
            refine j_aload_n C dX0_earned_120 2 rfl ?_
            refine j_getW C dX0_earned_121 inX0 rfl (by decide) rfl 4 (by decide) w_321 rfl rfl ?_
            refine j_getW C dX0_earned_124 inX7 rfl (by decide) rfl 3 (by decide) w_237 rfl rfl ?_
            refine j_iload_n C dX0_earned_127 3 rfl ?_
            obtain ⟨c128_6, hb⟩ := jchk hb
            refine j_ialdW C dX0_earned_128 (by decide) rfl (jin_vp c128_6) ?_
            refine j_iadd C dX0_earned_129 ?_
            refine j_istore_n C dX0_earned_130 (by decide) rfl ?_
            refine j_iinc C dX0_earned_131 6 rfl (v := (q.2.1 + 1)) rfl (by decide) rfl ?_
            refine j_goto C dX0_earned_134 (tgt := 43) (by decide) ?_
            refine j_loc C [4, 5, 1, 6, 0] rfl ?_
            have hx := hin _ (jinl hb)
            exact hx
  show K 0 0 (jw 54 (cellC G nd) ad s) 0 [(0, .ref (ad 51)), (1, .int v1)] []
  refine j_iconst C dX0_earned_0 (v := 0) (by decide) ?_
  refine j_istore_n C dX0_earned_1 (by decide) rfl ?_
  refine j_aload_n C dX0_earned_2 1 rfl ?_
  refine j_getW C dX0_earned_3 inX0 rfl (by decide) rfl 2 (by decide) w_319 rfl rfl ?_
  refine j_getW C dX0_earned_6 inX2 rfl (by decide) rfl 3 (by decide) w_128 rfl rfl ?_
  refine j_iload_n C dX0_earned_9 2 rfl ?_
  obtain ⟨c10_1, h⟩ := jchk h
  refine j_zaldW C dX0_earned_10 (by decide) rfl (jin_vp c10_1) ?_
  refine j_if_ne C dX0_earned_11 (tgt := 30) (by decide) (fun cq => ?_) (fun cq => ?_)
  · have h := jite_t h (jb_t cq)
    refine j_iload_n C dX0_earned_30 0 rfl ?_
    exact j_iret C dX0_earned_31 rfl rfl (Nat.zero_le _) (Nat.zero_le _) (jretWI h)
  · have h := jite_f h (jb_f cq)
    refine j_aload_n C dX0_earned_14 1 rfl ?_
    refine j_getW C dX0_earned_15 inX0 rfl (by decide) rfl 3 (by decide) w_320 rfl rfl ?_
    refine j_aload_n C dX0_earned_18 1 rfl ?_
    refine j_getW C dX0_earned_19 inX0 rfl (by decide) rfl 0 (by decide) w_316 rfl rfl ?_
    refine j_iload_n C dX0_earned_22 2 rfl ?_
    refine j_ialdW C dX0_earned_23 (by decide) rfl (jin_vp c10_1) ?_
    obtain ⟨p24, he24, h⟩ := jbind h
    refine j_cV1 C dX0_earned_24 (m_X3_isOpening (s.1 52 (Int32.toNatClampNeg v1)) s he24) kc_X3_isOpening w_843 w_651 w_652 w_7 jy_X3_isOpening ⟨⟨Nat.le_of_ble_eq_true rfl, Nat.le_of_ble_eq_true rfl⟩, ⟨rfl, rfl⟩, ⟨Nat.zero_le _, Nat.zero_le _⟩⟩ (Nat.le_of_ble_eq_true rfl) (by decide) rfl (r := (RX3, TX3, 7)) rfl rfl rfl (fun _ _ h => h) ?_
    refine j_if_ne C dX0_earned_27 (tgt := 32) (by decide) (fun cq => ?_) (fun cq => ?_)
    · have h := jite_t h (jb_t cq)
      refine j_aload_n C dX0_earned_32 1 rfl ?_
      refine j_getW C dX0_earned_33 inX0 rfl (by decide) rfl 2 (by decide) w_319 rfl rfl ?_
      refine j_getW C dX0_earned_36 inX2 rfl (by decide) rfl 4 (by decide) w_130 rfl rfl ?_
      refine j_astore_n C dX0_earned_39 (by decide) rfl ?_
      refine j_iconst C dX0_earned_40 (v := 0) (by decide) ?_
      refine j_istore C dX0_earned_41 (by decide) rfl ?_
      refine j_loc C [3, 4, 2, 1, 0] rfl ?_
      obtain ⟨e43, he43, h⟩ := jbind h
      refine lo43 v1 s  n (0, 0, s) e43 he43 ?_
      refine j_iload_n C dX0_earned_137 0 rfl ?_
      exact j_iret C dX0_earned_138 rfl rfl (Nat.zero_le _) (Nat.zero_le _) (jretWI h)
    · have h := jite_f h (jb_f cq)
      refine j_iload_n C dX0_earned_30 0 rfl ?_
      exact j_iret C dX0_earned_31 rfl rfl (Nat.zero_le _) (Nat.zero_le _) (jretWI h)
-- X0_earnedNow
def F_X0_earnedNow (nd : Nat) (n : Nat) (v1 : Int32) (s : jS) : Option (Int32 × jS) :=
  ((F_X0_startTrial nd n false s).bind fun p2 => ((F_X0_earned nd n v1 p2).bind fun p7 => some (p7.1, p7.2)))
def rm_X0_earnedNow : Room := { frames := 5, cells := 0, slots := 0, locals := 131 }
set_option maxHeartbeats 4000000 in
set_option maxRecDepth 100000 in
theorem m_X0_earnedNow {l : Launch} {D : va_G} {G : Nat → ClassId} {KV : jV} {ad : Nat → Nat} (nd : Nat) (n : Nat) (v1 : Int32) (s : jS) {p : Int32 × jS} (h : F_X0_earnedNow nd n v1 s = some p) : jM l D G KV yX0_earnedNow cX0_earnedNow 2 (some .int) rm_X0_earnedNow [.ref (ad 51), .int v1] (jw 54 (cellC G nd) ad s) 0 0 (fun v u => v = some (.int p.1) ∧ u = jw 54 (cellC G nd) ad p.2) := by
  refine jM.of (by decide) (Nat.le_of_ble_eq_true rfl) ?_
  intro K C
  unfold F_X0_earnedNow at h
  show K 0 0 (jw 54 (cellC G nd) ad s) 0 [(0, .ref (ad 51)), (1, .int v1)] []
  refine j_aload_n C dX0_earnedNow_0 0 rfl ?_
  refine j_iconst C dX0_earnedNow_1 (v := 0) (by decide) ?_
  obtain ⟨p2, he2, h⟩ := jbind h
  refine j_cV0 C dX0_earnedNow_2 (m_X0_startTrial nd n false s he2) kc_X0_startTrial w_832 w_834 wp_37 w_10 jy_X0_startTrial ⟨⟨Nat.le_of_ble_eq_true rfl, Nat.le_of_ble_eq_true rfl⟩, ⟨rfl, rfl⟩, ⟨Nat.zero_le _, Nat.zero_le _⟩⟩ (Nat.le_of_ble_eq_true rfl) (by decide) rfl (r := (RX0, TX0, 8)) rfl rfl rfl (fun _ _ h => h) ?_
  refine j_aload_n C dX0_earnedNow_5 0 rfl ?_
  refine j_iload_n C dX0_earnedNow_6 1 rfl ?_
  obtain ⟨p7, he7, h⟩ := jbind h
  refine j_cV1 C dX0_earnedNow_7 (m_X0_earned nd n v1 p2 he7) kc_X0_earned w_839 w_841 wp_38 w_10 jy_X0_earned ⟨⟨Nat.le_of_ble_eq_true rfl, Nat.le_of_ble_eq_true rfl⟩, ⟨rfl, rfl⟩, ⟨Nat.zero_le _, Nat.zero_le _⟩⟩ (Nat.le_of_ble_eq_true rfl) (by decide) rfl (r := (RX0, TX0, 8)) rfl rfl rfl (fun _ _ h => h) ?_
  exact j_iret C dX0_earnedNow_10 rfl rfl (Nat.zero_le _) (Nat.zero_le _) (jretWI h)
-- X8_earns
def F_X8_earns (nd : Nat) (n : Nat) (v1 : Int32) (s : jS) : Option (Int32 × jS) :=
  (if (F_X8_isDoor v1 s) = true then ((F_X0_earnedNow nd n v1 s).bind fun p13 => some (p13.1, p13.2)) else some ((-1), s))
def rm_X8_earns : Room := { frames := 6, cells := 0, slots := 0, locals := 152 }
set_option maxHeartbeats 4000000 in
set_option maxRecDepth 100000 in
theorem m_X8_earns {l : Launch} {D : va_G} {G : Nat → ClassId} {KV : jV} {ad : Nat → Nat} (nd : Nat) (n : Nat) (v1 : Int32) (s : jS) {p : Int32 × jS} (h : F_X8_earns nd n v1 s = some p) : jM l D G KV yX8_earns cX8_earns 2 (some .int) rm_X8_earns [.ref (ad 0), .int v1] (jw 54 (cellC G nd) ad s) 0 0 (fun v u => v = some (.int p.1) ∧ u = jw 54 (cellC G nd) ad p.2) := by
  refine jM.of (by decide) (Nat.le_of_ble_eq_true rfl) ?_
  intro K C
  unfold F_X8_earns at h
  show K 0 0 (jw 54 (cellC G nd) ad s) 0 [(0, .ref (ad 0)), (1, .int v1)] []
  refine j_aload_n C dX8_earns_0 0 rfl ?_
  refine j_iload_n C dX8_earns_1 1 rfl ?_
  refine j_cV1 C dX8_earns_2 (m_X8_isDoor v1 s rfl) kc_X8_isDoor w_396 w_398 wp_1 w_1 jy_X8_isDoor ⟨⟨Nat.le_of_ble_eq_true rfl, Nat.le_of_ble_eq_true rfl⟩, ⟨rfl, rfl⟩, ⟨Nat.zero_le _, Nat.zero_le _⟩⟩ (Nat.le_of_ble_eq_true rfl) (by decide) rfl (r := (RX8, TX8, 9)) rfl rfl rfl (fun _ _ h => h) ?_
  refine j_if_eq C dX8_earns_5 (tgt := 19) (by decide) (fun cq => ?_) (fun cq => ?_)
  · have h := jite_f h (jb_f cq)
    refine j_iconst C dX8_earns_19 (v := (-1)) (by decide) ?_
    exact j_iret C dX8_earns_20 rfl rfl (Nat.zero_le _) (Nat.zero_le _) (jretWI h)
  · have h := jite_t h (jb_t cq)
    refine j_aload_n C dX8_earns_8 0 rfl ?_
    refine j_getW C dX8_earns_9 inX8 rfl (by decide) rfl 8 (by decide) w_350 rfl rfl ?_
    refine j_iload_n C dX8_earns_12 1 rfl ?_
    obtain ⟨p13, he13, h⟩ := jbind h
    refine j_cV1 C dX8_earns_13 (m_X0_earnedNow nd n v1 s he13) kc_X0_earnedNow w_828 w_829 w_830 w_10 jy_X0_earnedNow ⟨⟨Nat.le_of_ble_eq_true rfl, Nat.le_of_ble_eq_true rfl⟩, ⟨rfl, rfl⟩, ⟨Nat.zero_le _, Nat.zero_le _⟩⟩ (Nat.le_of_ble_eq_true rfl) (by decide) rfl (r := (RX0, TX0, 8)) rfl rfl rfl (fun _ _ h => h) ?_
    refine j_goto C dX8_earns_16 (tgt := 20) (by decide) ?_
    exact j_iret C dX8_earns_20 rfl rfl (Nat.zero_le _) (Nat.zero_le _) (jretWI h)
-- X0_bestRule
def J_X0_bestRule_54 (nd : Nat) (n : Nat) (v1 : Int32) (v2 : Int32) (v3 : Int32) (v4 : Int32) (v5 : Int32) (k0 : Int32) (s : jS) : Option ((Int32 × Int32 × Int32 × jS) ⊕ (Int32 × Int32 × Int32 × jS)) :=
  (if k0 ≤ v4 then some (.inl (v3, v4, (v5 + 1), s)) else some (.inl (v5, k0, (v5 + 1), s)))
def B_X0_bestRule_19 (nd : Nat) (n : Nat) (v1 : Int32) (v2 : Int32) (q : Int32 × Int32 × Int32 × jS) : Option ((Int32 × Int32 × Int32 × jS) ⊕ (Int32 × Int32 × Int32 × jS)) :=
  (if (q.2.2.2.1 18 7) ≤ q.2.2.1 then some (.inr (q.1, q.2.1, q.2.2.1, q.2.2.2)) else (if jin v1 8 = true then (jl (upI q.2.2.2 52 (Int32.toNatClampNeg v1) q.2.2.1) fun s38_3 => (if q.2.2.1 = v2 then J_X0_bestRule_54 nd n v1 v2 q.1 q.2.1 q.2.2.1 0 s38_3 else ((F_X0_earned nd n v1 s38_3).bind fun p51 => J_X0_bestRule_54 nd n v1 v2 q.1 q.2.1 q.2.2.1 p51.1 p51.2))) else none))
def F_X0_bestRule (nd : Nat) (n : Nat) (v1 : Int32) (s : jS) : Option (Int32 × jS) :=
  (if jin v1 8 = true then ((F_X0_earned nd n v1 s).bind fun p11 => ((lp (B_X0_bestRule_19 nd n v1 (s.1 52 (Int32.toNatClampNeg v1))) n ((s.1 52 (Int32.toNatClampNeg v1)), p11.1, (-1), p11.2)).bind fun e19 => (if jin v1 8 = true then (jl (upI e19.2.2.2 52 (Int32.toNatClampNeg v1) (s.1 52 (Int32.toNatClampNeg v1))) fun s82_5 => some (e19.1, s82_5)) else none))) else none)
def rm_X0_bestRule : Room := { frames := 5, cells := 0, slots := 0, locals := 124 }
set_option maxHeartbeats 4000000 in
set_option maxRecDepth 100000 in
theorem m_X0_bestRule {l : Launch} {D : va_G} {G : Nat → ClassId} {KV : jV} {ad : Nat → Nat} (nd : Nat) (n : Nat) (v1 : Int32) (s : jS) {p : Int32 × jS} (h : F_X0_bestRule nd n v1 s = some p) : jM l D G KV yX0_bestRule cX0_bestRule 7 (some .int) rm_X0_bestRule [.ref (ad 51), .int v1] (jw 54 (cellC G nd) ad s) 0 0 (fun v u => v = some (.int p.1) ∧ u = jw 54 (cellC G nd) ad p.2) := by
  refine jM.of (by decide) (Nat.le_of_ble_eq_true rfl) ?_
  intro K C
  unfold F_X0_bestRule at h
  have jn54_19 : ∀ (v1 : Int32) (v2 : Int32) (v3 : Int32) (v4 : Int32) (v5 : Int32) (k0 : Int32) (s : jS) (o : (Int32 × Int32 × Int32 × jS) ⊕ (Int32 × Int32 × Int32 × jS)), J_X0_bestRule_54 nd n v1 v2 v3 v4 v5 k0 s = some o → (∀ q, o = .inl q → K 0 0 (jw 54 (cellC G nd) ad q.2.2.2) 19 [(0, .ref (ad 51)), (1, .int v1), (2, .int v2), (3, .int q.1), (4, .int q.2.1), (5, .int q.2.2.1)] []) → (∀ e, o = .inr e → K 0 0 (jw 54 (cellC G nd) ad e.2.2.2) 76 [(0, .ref (ad 51)), (1, .int v1), (2, .int v2), (3, .int e.1)] []) → K 0 0 (jw 54 (cellC G nd) ad s) 54 [(0, .ref (ad 51)), (1, .int v1), (2, .int v2), (3, .int v3), (4, .int v4), (5, .int v5)] [.int k0] := by
    intro v1 v2 v3 v4 v5 k0 s o hb hin hout
    unfold J_X0_bestRule_54 at hb
    refine j_istore C dX0_bestRule_54 (by decide) rfl ?_
    refine j_iload C dX0_bestRule_56 0 rfl ?_
    refine j_iload C dX0_bestRule_58 5 rfl ?_
    refine j_icmp_le C dX0_bestRule_60 (tgt := 70) (by decide) (fun cq => ?_) (fun cq => ?_)
    · have hb := jite_t hb cq
      refine j_iinc C dX0_bestRule_70 6 rfl (v := (v5 + 1)) rfl (by decide) rfl ?_
      refine j_goto C dX0_bestRule_73 (tgt := 19) (by decide) ?_
      refine j_loc C [2, 3, 4, 5, 6, 0] rfl ?_
      have hx := hin _ (jinl hb)
      exact hx
    · have hb := jite_f hb cq
      refine j_iload C dX0_bestRule_63 0 rfl ?_
      refine j_istore C dX0_bestRule_65 (by decide) rfl ?_
      refine j_iload C dX0_bestRule_67 6 rfl ?_
      refine j_istore_n C dX0_bestRule_69 (by decide) rfl ?_
      refine j_iinc C dX0_bestRule_70 6 rfl (v := (v5 + 1)) rfl (by decide) rfl ?_
      refine j_goto C dX0_bestRule_73 (tgt := 19) (by decide) ?_
      refine j_loc C [4, 5, 6, 1, 2, 0] rfl ?_
      have hx := hin _ (jinl hb)
      exact hx
  have lo19 : ∀ (v1 : Int32) (v2 : Int32) (s : jS) (k : Nat) (q : Int32 × Int32 × Int32 × jS) (e : Int32 × Int32 × Int32 × jS), lp (B_X0_bestRule_19 nd n v1 v2) k q = some e → K 0 0 (jw 54 (cellC G nd) ad e.2.2.2) 76 [(0, .ref (ad 51)), (1, .int v1), (2, .int v2), (3, .int e.1)] [] → K 0 0 (jw 54 (cellC G nd) ad q.2.2.2) 19 [(0, .ref (ad 51)), (1, .int v1), (2, .int v2), (3, .int q.1), (4, .int q.2.1), (5, .int q.2.2.1)] [] := by
    intro v1 v2 s k q e he hE
    refine jlp (KH := fun q => K 0 0 (jw 54 (cellC G nd) ad q.2.2.2) 19 [(0, .ref (ad 51)), (1, .int v1), (2, .int v2), (3, .int q.1), (4, .int q.2.1), (5, .int q.2.2.1)] []) (KE := fun e => K 0 0 (jw 54 (cellC G nd) ad e.2.2.2) 76 [(0, .ref (ad 51)), (1, .int v1), (2, .int v2), (3, .int e.1)] []) ?_ k q e he hE
    intro q o hb hin hout
    unfold B_X0_bestRule_19 at hb
    show K 0 0 (jw 54 (cellC G nd) ad q.2.2.2) 19 [(0, .ref (ad 51)), (1, .int v1), (2, .int v2), (3, .int q.1), (4, .int q.2.1), (5, .int q.2.2.1)] []
    refine j_iload C dX0_bestRule_19 5 rfl ?_
    refine j_aload_n C dX0_bestRule_21 0 rfl ?_
    refine j_getW C dX0_bestRule_22 inX0 rfl (by decide) rfl 2 (by decide) w_319 rfl rfl ?_
    refine j_getW C dX0_bestRule_25 inX2 rfl (by decide) rfl 7 (by decide) w_137 rfl rfl ?_
    refine j_icmp_ge C dX0_bestRule_28 (tgt := 76) (by decide) (fun cq => ?_) (fun cq => ?_)
    · have hb := jite_t hb cq
      refine j_loc C [0, 1, 2, 3] rfl ?_
      have hx := hout _ (jinr hb)
      exact hx
    · have hb := jite_f hb cq
      refine j_aload_n C dX0_bestRule_31 0 rfl ?_
      refine j_getW C dX0_bestRule_32 inX0 rfl (by decide) rfl 0 (by decide) w_316 rfl rfl ?_
      refine j_iload_n C dX0_bestRule_35 1 rfl ?_
      refine j_iload C dX0_bestRule_36 5 rfl ?_
      obtain ⟨c38_2, hb⟩ := jchk hb
      refine j_iastW C dX0_bestRule_38 (by decide) (fun _ => rfl) (jin_vp c38_2) (fun s38_3 hs38_3 => ?_)
      have hb := jlet hb hs38_3
      refine j_iload C dX0_bestRule_39 5 rfl ?_
      refine j_iload_n C dX0_bestRule_41 2 rfl ?_
      refine j_icmp_ne C dX0_bestRule_42 (tgt := 49) (by decide) (fun cq => ?_) (fun cq => ?_)
      · have hb := jite_f hb cq
        refine j_aload_n C dX0_bestRule_49 0 rfl ?_
        refine j_iload_n C dX0_bestRule_50 1 rfl ?_
        obtain ⟨p51, he51, hb⟩ := jbind hb
        refine j_cV1 C dX0_bestRule_51 (m_X0_earned nd n v1 s38_3 he51) kc_X0_earned w_839 w_841 wp_38 w_10 jy_X0_earned ⟨⟨Nat.le_of_ble_eq_true rfl, Nat.le_of_ble_eq_true rfl⟩, ⟨rfl, rfl⟩, ⟨Nat.zero_le _, Nat.zero_le _⟩⟩ (Nat.le_of_ble_eq_true rfl) (by decide) rfl (r := (RX0, TX0, 8)) rfl rfl rfl (fun _ _ h => h) ?_
        refine j_loc C [0, 1, 2, 3, 4, 5] rfl ?_
        exact jn54_19 v1 v2 q.1 q.2.1 q.2.2.1 p51.1 p51.2   _ hb hin hout
      · have hb := jite_t hb cq
        refine j_iconst C dX0_bestRule_45 (v := 0) (by decide) ?_
        refine j_goto C dX0_bestRule_46 (tgt := 54) (by decide) ?_
        refine j_loc C [0, 1, 2, 3, 4, 5] rfl ?_
        exact jn54_19 v1 v2 q.1 q.2.1 q.2.2.1 0 s38_3   _ hb hin hout
  show K 0 0 (jw 54 (cellC G nd) ad s) 0 [(0, .ref (ad 51)), (1, .int v1)] []
  refine j_aload_n C dX0_bestRule_0 0 rfl ?_
  refine j_getW C dX0_bestRule_1 inX0 rfl (by decide) rfl 0 (by decide) w_316 rfl rfl ?_
  refine j_iload_n C dX0_bestRule_4 1 rfl ?_
  obtain ⟨c5_1, h⟩ := jchk h
  refine j_ialdW C dX0_bestRule_5 (by decide) rfl (jin_vp c5_1) ?_
  refine j_istore_n C dX0_bestRule_6 (by decide) rfl ?_
  refine j_iload_n C dX0_bestRule_7 0 rfl ?_
  refine j_istore_n C dX0_bestRule_8 (by decide) rfl ?_
  refine j_aload_n C dX0_bestRule_9 2 rfl ?_
  refine j_iload_n C dX0_bestRule_10 3 rfl ?_
  obtain ⟨p11, he11, h⟩ := jbind h
  refine j_cV1 C dX0_bestRule_11 (m_X0_earned nd n v1 s he11) kc_X0_earned w_839 w_841 wp_38 w_10 jy_X0_earned ⟨⟨Nat.le_of_ble_eq_true rfl, Nat.le_of_ble_eq_true rfl⟩, ⟨rfl, rfl⟩, ⟨Nat.zero_le _, Nat.zero_le _⟩⟩ (Nat.le_of_ble_eq_true rfl) (by decide) rfl (r := (RX0, TX0, 8)) rfl rfl rfl (fun _ _ h => h) ?_
  refine j_istore C dX0_bestRule_14 (by decide) rfl ?_
  refine j_iconst C dX0_bestRule_16 (v := (-1)) (by decide) ?_
  refine j_istore C dX0_bestRule_17 (by decide) rfl ?_
  refine j_loc C [4, 5, 3, 2, 1, 0] rfl ?_
  obtain ⟨e19, he19, h⟩ := jbind h
  refine lo19 v1 (s.1 52 (Int32.toNatClampNeg v1)) p11.2  n ((s.1 52 (Int32.toNatClampNeg v1)), p11.1, (-1), p11.2) e19 he19 ?_
  refine j_aload_n C dX0_bestRule_76 0 rfl ?_
  refine j_getW C dX0_bestRule_77 inX0 rfl (by decide) rfl 0 (by decide) w_316 rfl rfl ?_
  refine j_iload_n C dX0_bestRule_80 1 rfl ?_
  refine j_iload_n C dX0_bestRule_81 2 rfl ?_
  obtain ⟨c82_4, h⟩ := jchk h
  refine j_iastW C dX0_bestRule_82 (by decide) (fun _ => rfl) (jin_vp c82_4) (fun s82_5 hs82_5 => ?_)
  have h := jlet h hs82_5
  refine j_iload_n C dX0_bestRule_83 3 rfl ?_
  exact j_iret C dX0_bestRule_84 rfl rfl (Nat.zero_le _) (Nat.zero_le _) (jretWI h)
-- X0_firstUneven
def B_X0_firstUneven_7 (nd : Nat) (n : Nat) (q : Int32 × jS) : Option ((Int32 × jS) ⊕ ((Int32 × jS) ⊕ ((Int32 × jS)))) :=
  (if (q.2.1 51 1) ≤ q.1 then some (.inr (.inl (q.1, q.2))) else ((F_X0_bestRule nd n q.1 q.2).bind fun p17 => (if jin q.1 8 = true then (if p17.1 = (p17.2.1 52 (Int32.toNatClampNeg q.1)) then some (.inl ((q.1 + 1), p17.2)) else some (.inr (.inr (q.1, p17.2)))) else none)))
def F_X0_firstUneven (nd : Nat) (n : Nat) (s : jS) : Option (Int32 × jS) :=
  ((F_X0_startTrial nd n true s).bind fun p2 => ((lp (B_X0_firstUneven_7 nd n) n (0, p2)).bind fun e => Sum.elim (fun e7 => some ((-1), e7.2)) (fun r7 => some r7) e))
def rm_X0_firstUneven : Room := { frames := 6, cells := 0, slots := 0, locals := 150 }
set_option maxHeartbeats 4000000 in
set_option maxRecDepth 100000 in
theorem m_X0_firstUneven {l : Launch} {D : va_G} {G : Nat → ClassId} {KV : jV} {ad : Nat → Nat} (nd : Nat) (n : Nat) (s : jS) {p : Int32 × jS} (h : F_X0_firstUneven nd n s = some p) : jM l D G KV yX0_firstUneven cX0_firstUneven 2 (some .int) rm_X0_firstUneven [.ref (ad 51)] (jw 54 (cellC G nd) ad s) 0 0 (fun v u => v = some (.int p.1) ∧ u = jw 54 (cellC G nd) ad p.2) := by
  refine jM.of (by decide) (Nat.le_of_ble_eq_true rfl) ?_
  intro K C
  unfold F_X0_firstUneven at h
  have lo7 : ∀ (s : jS) (k : Nat) (q : Int32 × jS) (e : (Int32 × jS) ⊕ ((Int32 × jS))), lp (B_X0_firstUneven_7 nd n) k q = some e → Sum.elim (fun e => K 0 0 (jw 54 (cellC G nd) ad e.2) 37 [] []) (fun r => some r = some p) e → K 0 0 (jw 54 (cellC G nd) ad q.2) 7 [(0, .ref (ad 51)), (1, .int q.1)] [] := by
    intro s k q e he hE
    refine jlp (KH := fun q => K 0 0 (jw 54 (cellC G nd) ad q.2) 7 [(0, .ref (ad 51)), (1, .int q.1)] []) (KE := fun e => Sum.elim (fun e => K 0 0 (jw 54 (cellC G nd) ad e.2) 37 [] []) (fun r => some r = some p) e) ?_ k q e he hE
    intro q o hb hin hout
    unfold B_X0_firstUneven_7 at hb
    show K 0 0 (jw 54 (cellC G nd) ad q.2) 7 [(0, .ref (ad 51)), (1, .int q.1)] []
    refine j_iload_n C dX0_firstUneven_7 1 rfl ?_
    refine j_aload_n C dX0_firstUneven_8 0 rfl ?_
    refine j_getW C dX0_firstUneven_9 inX0 rfl (by decide) rfl 1 (by decide) w_318 rfl rfl ?_
    refine j_icmp_ge C dX0_firstUneven_12 (tgt := 37) (by decide) (fun cq => ?_) (fun cq => ?_)
    · have hb := jite_t hb cq
      refine j_loc C [] rfl ?_
      have hx := hout _ (jinr hb)
      exact hx
    · have hb := jite_f hb cq
      refine j_aload_n C dX0_firstUneven_15 0 rfl ?_
      refine j_iload_n C dX0_firstUneven_16 1 rfl ?_
      obtain ⟨p17, he17, hb⟩ := jbind hb
      refine j_cV1 C dX0_firstUneven_17 (m_X0_bestRule nd n q.1 q.2 he17) kc_X0_bestRule w_853 w_855 wp_39 w_10 jy_X0_bestRule ⟨⟨Nat.le_of_ble_eq_true rfl, Nat.le_of_ble_eq_true rfl⟩, ⟨rfl, rfl⟩, ⟨Nat.zero_le _, Nat.zero_le _⟩⟩ (Nat.le_of_ble_eq_true rfl) (by decide) rfl (r := (RX0, TX0, 8)) rfl rfl rfl (fun _ _ h => h) ?_
      refine j_aload_n C dX0_firstUneven_20 0 rfl ?_
      refine j_getW C dX0_firstUneven_21 inX0 rfl (by decide) rfl 0 (by decide) w_316 rfl rfl ?_
      refine j_iload_n C dX0_firstUneven_24 1 rfl ?_
      obtain ⟨c25_1, hb⟩ := jchk hb
      refine j_ialdW C dX0_firstUneven_25 (by decide) rfl (jin_vp c25_1) ?_
      refine j_icmp_eq C dX0_firstUneven_26 (tgt := 31) (by decide) (fun cq => ?_) (fun cq => ?_)
      · have hb := jite_t hb cq
        refine j_iinc C dX0_firstUneven_31 1 rfl (v := (q.1 + 1)) rfl (by decide) rfl ?_
        refine j_goto C dX0_firstUneven_34 (tgt := 7) (by decide) ?_
        refine j_loc C [1, 0] rfl ?_
        have hx := hin _ (jinl hb)
        exact hx
      · have hb := jite_f hb cq
        refine j_iload_n C dX0_firstUneven_29 1 rfl ?_
        exact j_iret C dX0_firstUneven_30 rfl rfl (Nat.zero_le _) (Nat.zero_le _) (jretWI (jretL hb hout))
  show K 0 0 (jw 54 (cellC G nd) ad s) 0 [(0, .ref (ad 51))] []
  refine j_aload_n C dX0_firstUneven_0 0 rfl ?_
  refine j_iconst C dX0_firstUneven_1 (v := 1) (by decide) ?_
  obtain ⟨p2, he2, h⟩ := jbind h
  refine j_cV0 C dX0_firstUneven_2 (m_X0_startTrial nd n true s he2) kc_X0_startTrial w_832 w_834 wp_37 w_10 jy_X0_startTrial ⟨⟨Nat.le_of_ble_eq_true rfl, Nat.le_of_ble_eq_true rfl⟩, ⟨rfl, rfl⟩, ⟨Nat.zero_le _, Nat.zero_le _⟩⟩ (Nat.le_of_ble_eq_true rfl) (by decide) rfl (r := (RX0, TX0, 8)) rfl rfl rfl (fun _ _ h => h) ?_
  refine j_iconst C dX0_firstUneven_5 (v := 0) (by decide) ?_
  refine j_istore_n C dX0_firstUneven_6 (by decide) rfl ?_
  refine j_loc C [1, 0] rfl ?_
  obtain ⟨e7, he7, h⟩ := jbind h
  refine lo7  p2  n (0, p2) e7 he7 ?_
  rcases e7 with e7 | r7
  · show K _ _ _ _ _ _
    refine j_iconst C dX0_firstUneven_37 (v := (-1)) (by decide) ?_
    exact j_iret C dX0_firstUneven_38 rfl rfl (Nat.zero_le _) (Nat.zero_le _) (jretWI h)
  · exact h
-- X8_even
def F_X8_even (nd : Nat) (n : Nat) (s : jS) : Option (Int32 × jS) :=
  ((F_X0_firstUneven nd n s).bind fun p4 => some (p4.1, p4.2))
def rm_X8_even : Room := { frames := 7, cells := 0, slots := 0, locals := 171 }
set_option maxHeartbeats 4000000 in
set_option maxRecDepth 100000 in
theorem m_X8_even {l : Launch} {D : va_G} {G : Nat → ClassId} {KV : jV} {ad : Nat → Nat} (nd : Nat) (n : Nat) (s : jS) {p : Int32 × jS} (h : F_X8_even nd n s = some p) : jM l D G KV yX8_even cX8_even 1 (some .int) rm_X8_even [.ref (ad 0)] (jw 54 (cellC G nd) ad s) 0 0 (fun v u => v = some (.int p.1) ∧ u = jw 54 (cellC G nd) ad p.2) := by
  refine jM.of (by decide) (Nat.le_of_ble_eq_true rfl) ?_
  intro K C
  unfold F_X8_even at h
  show K 0 0 (jw 54 (cellC G nd) ad s) 0 [(0, .ref (ad 0))] []
  refine j_aload_n C dX8_even_0 0 rfl ?_
  refine j_getW C dX8_even_1 inX8 rfl (by decide) rfl 8 (by decide) w_350 rfl rfl ?_
  obtain ⟨p4, he4, h⟩ := jbind h
  refine j_cV1 C dX8_even_4 (m_X0_firstUneven nd n s he4) kc_X0_firstUneven w_849 w_850 w_851 w_10 jy_X0_firstUneven ⟨⟨Nat.le_of_ble_eq_true rfl, Nat.le_of_ble_eq_true rfl⟩, ⟨rfl, rfl⟩, ⟨Nat.zero_le _, Nat.zero_le _⟩⟩ (Nat.le_of_ble_eq_true rfl) (by decide) rfl (r := (RX0, TX0, 8)) rfl rfl rfl (fun _ _ h => h) ?_
  exact j_iret C dX8_even_7 rfl rfl (Nat.zero_le _) (Nat.zero_le _) (jretWI h)
-- X0_trialNumber
def B_X0_trialNumber_4 (n : Nat) (s : jS) (q : Int32 × Int32) : Option ((Int32 × Int32) ⊕ (Int32 × Int32)) :=
  (if (s.1 51 1) ≤ q.2 then some (.inr (q.1, q.2)) else (if jin q.2 8 = true then some (.inl ((((q.1 * 5) + (s.1 52 (Int32.toNatClampNeg q.2))) + 1), (q.2 + 1))) else none))
def F_X0_trialNumber (n : Nat) (s : jS) : Option Int32 :=
  ((lp (B_X0_trialNumber_4 n s) n (0, 0)).bind fun e4 => some e4.1)
def rm_X0_trialNumber : Room := { frames := 0, cells := 0, slots := 0, locals := 0 }
set_option maxHeartbeats 4000000 in
set_option maxRecDepth 100000 in
theorem m_X0_trialNumber {l : Launch} {D : va_G} {G : Nat → ClassId} {KV : jV} {ad : Nat → Nat} {nd : Nat} (n : Nat) (s : jS) {p : Int32} (h : F_X0_trialNumber n s = some p) : jM l D G KV yX0_trialNumber cX0_trialNumber 3 (some .int) rm_X0_trialNumber [.ref (ad 51)] (jw 54 (cellC G nd) ad s) 0 0 (fun v u => v = some (.int p) ∧ u = jw 54 (cellC G nd) ad s) := by
  refine jM.of (by decide) (Nat.le_of_ble_eq_true rfl) ?_
  intro K C
  unfold F_X0_trialNumber at h
  have lo4 : ∀ (k : Nat) (q : Int32 × Int32) (e : Int32 × Int32), lp (B_X0_trialNumber_4 n s) k q = some e → K 0 0 (jw 54 (cellC G nd) ad s) 31 [(1, .int e.1)] [] → K 0 0 (jw 54 (cellC G nd) ad s) 4 [(0, .ref (ad 51)), (1, .int q.1), (2, .int q.2)] [] := by
    intro k q e he hE
    refine jlp (KH := fun q => K 0 0 (jw 54 (cellC G nd) ad s) 4 [(0, .ref (ad 51)), (1, .int q.1), (2, .int q.2)] []) (KE := fun e => K 0 0 (jw 54 (cellC G nd) ad s) 31 [(1, .int e.1)] []) ?_ k q e he hE
    intro q o hb hin hout
    unfold B_X0_trialNumber_4 at hb
    show K 0 0 (jw 54 (cellC G nd) ad s) 4 [(0, .ref (ad 51)), (1, .int q.1), (2, .int q.2)] []
    refine j_iload_n C dX0_trialNumber_4 2 rfl ?_
    refine j_aload_n C dX0_trialNumber_5 0 rfl ?_
    refine j_getW C dX0_trialNumber_6 inX0 rfl (by decide) rfl 1 (by decide) w_318 rfl rfl ?_
    refine j_icmp_ge C dX0_trialNumber_9 (tgt := 31) (by decide) (fun cq => ?_) (fun cq => ?_)
    · have hb := jite_t hb cq
      refine j_loc C [1] rfl ?_
      have hx := hout _ (jinr hb)
      exact hx
    · have hb := jite_f hb cq
      refine j_iload_n C dX0_trialNumber_12 1 rfl ?_
      refine j_iconst C dX0_trialNumber_13 (v := 5) (by decide) ?_
      refine j_imul C dX0_trialNumber_14 ?_
      refine j_aload_n C dX0_trialNumber_15 0 rfl ?_
      refine j_getW C dX0_trialNumber_16 inX0 rfl (by decide) rfl 0 (by decide) w_316 rfl rfl ?_
      refine j_iload_n C dX0_trialNumber_19 2 rfl ?_
      obtain ⟨c20_1, hb⟩ := jchk hb
      refine j_ialdW C dX0_trialNumber_20 (by decide) rfl (jin_vp c20_1) ?_
      refine j_iadd C dX0_trialNumber_21 ?_
      refine j_iconst C dX0_trialNumber_22 (v := 1) (by decide) ?_
      refine j_iadd C dX0_trialNumber_23 ?_
      refine j_istore_n C dX0_trialNumber_24 (by decide) rfl ?_
      refine j_iinc C dX0_trialNumber_25 2 rfl (v := (q.2 + 1)) rfl (by decide) rfl ?_
      refine j_goto C dX0_trialNumber_28 (tgt := 4) (by decide) ?_
      refine j_loc C [2, 1, 0] rfl ?_
      have hx := hin _ (jinl hb)
      exact hx
  show K 0 0 (jw 54 (cellC G nd) ad s) 0 [(0, .ref (ad 51))] []
  refine j_iconst C dX0_trialNumber_0 (v := 0) (by decide) ?_
  refine j_istore_n C dX0_trialNumber_1 (by decide) rfl ?_
  refine j_iconst C dX0_trialNumber_2 (v := 0) (by decide) ?_
  refine j_istore_n C dX0_trialNumber_3 (by decide) rfl ?_
  refine j_loc C [2, 1, 0] rfl ?_
  obtain ⟨e4, he4, h⟩ := jbind h
  refine lo4    n (0, 0) e4 he4 ?_
  refine j_iload_n C dX0_trialNumber_31 0 rfl ?_
  exact j_iret C dX0_trialNumber_32 rfl rfl (Nat.zero_le _) (Nat.zero_le _) (jretPI h)
-- X0_isPast
def B_X0_isPast_2 (n : Nat) (v1 : Int32) (s : jS) (q : Int32) : Option (Int32 ⊕ ((Int32) ⊕ Bool)) :=
  (if v1 ≤ q then some (.inr (.inl q)) else (if jin q 21 = true then (if jin v1 21 = true then (if (s.1 53 (Int32.toNatClampNeg q)) = (s.1 53 (Int32.toNatClampNeg v1)) then some (.inr (.inr true)) else some (.inl (q + 1))) else none) else none))
def F_X0_isPast (n : Nat) (v1 : Int32) (s : jS) : Option Bool :=
  ((lp (B_X0_isPast_2 n v1 s) n 0).bind fun e => Sum.elim (fun e2 => some false) (fun r2 => some r2) e)
def rm_X0_isPast : Room := { frames := 0, cells := 0, slots := 0, locals := 0 }
set_option maxHeartbeats 4000000 in
set_option maxRecDepth 100000 in
theorem m_X0_isPast {l : Launch} {D : va_G} {G : Nat → ClassId} {KV : jV} {ad : Nat → Nat} {nd : Nat} (n : Nat) (v1 : Int32) (s : jS) {p : Bool} (h : F_X0_isPast n v1 s = some p) : jM l D G KV yX0_isPast cX0_isPast 3 (some .boolean) rm_X0_isPast [.ref (ad 51), .int v1] (jw 54 (cellC G nd) ad s) 0 0 (fun v u => v = some (.int (jb p)) ∧ u = jw 54 (cellC G nd) ad s) := by
  refine jM.of (by decide) (Nat.le_of_ble_eq_true rfl) ?_
  intro K C
  unfold F_X0_isPast at h
  have lo2 : ∀ (v1 : Int32) (k : Nat) (q : Int32) (e : (Int32) ⊕ Bool), lp (B_X0_isPast_2 n v1 s) k q = some e → Sum.elim (fun e => K 0 0 (jw 54 (cellC G nd) ad s) 30 [] []) (fun r => some r = some p) e → K 0 0 (jw 54 (cellC G nd) ad s) 2 [(0, .ref (ad 51)), (1, .int v1), (2, .int q)] [] := by
    intro v1 k q e he hE
    refine jlp (KH := fun q => K 0 0 (jw 54 (cellC G nd) ad s) 2 [(0, .ref (ad 51)), (1, .int v1), (2, .int q)] []) (KE := fun e => Sum.elim (fun e => K 0 0 (jw 54 (cellC G nd) ad s) 30 [] []) (fun r => some r = some p) e) ?_ k q e he hE
    intro q o hb hin hout
    unfold B_X0_isPast_2 at hb
    show K 0 0 (jw 54 (cellC G nd) ad s) 2 [(0, .ref (ad 51)), (1, .int v1), (2, .int q)] []
    refine j_iload_n C dX0_isPast_2 2 rfl ?_
    refine j_iload_n C dX0_isPast_3 1 rfl ?_
    refine j_icmp_ge C dX0_isPast_4 (tgt := 30) (by decide) (fun cq => ?_) (fun cq => ?_)
    · have hb := jite_t hb cq
      refine j_loc C [] rfl ?_
      have hx := hout _ (jinr hb)
      exact hx
    · have hb := jite_f hb cq
      refine j_aload_n C dX0_isPast_7 0 rfl ?_
      refine j_getW C dX0_isPast_8 inX0 rfl (by decide) rfl 5 (by decide) w_322 rfl rfl ?_
      refine j_iload_n C dX0_isPast_11 2 rfl ?_
      obtain ⟨c12_1, hb⟩ := jchk hb
      refine j_ialdW C dX0_isPast_12 (by decide) rfl (jin_vp c12_1) ?_
      refine j_aload_n C dX0_isPast_13 0 rfl ?_
      refine j_getW C dX0_isPast_14 inX0 rfl (by decide) rfl 5 (by decide) w_322 rfl rfl ?_
      refine j_iload_n C dX0_isPast_17 1 rfl ?_
      obtain ⟨c18_2, hb⟩ := jchk hb
      refine j_ialdW C dX0_isPast_18 (by decide) rfl (jin_vp c18_2) ?_
      refine j_icmp_ne C dX0_isPast_19 (tgt := 24) (by decide) (fun cq => ?_) (fun cq => ?_)
      · have hb := jite_f hb cq
        refine j_iinc C dX0_isPast_24 2 rfl (v := (q + 1)) rfl (by decide) rfl ?_
        refine j_goto C dX0_isPast_27 (tgt := 2) (by decide) ?_
        refine j_loc C [1, 2, 0] rfl ?_
        have hx := hin _ (jinl hb)
        exact hx
      · have hb := jite_t hb cq
        refine j_iconst C dX0_isPast_22 (v := 1) (by decide) ?_
        exact j_iret C dX0_isPast_23 rfl (jb_nar true) (Nat.zero_le _) (Nat.zero_le _) (jretPB (jretL hb hout))
  show K 0 0 (jw 54 (cellC G nd) ad s) 0 [(0, .ref (ad 51)), (1, .int v1)] []
  refine j_iconst C dX0_isPast_0 (v := 0) (by decide) ?_
  refine j_istore_n C dX0_isPast_1 (by decide) rfl ?_
  refine j_loc C [1, 2, 0] rfl ?_
  obtain ⟨e2, he2, h⟩ := jbind h
  refine lo2 v1   n 0 e2 he2 ?_
  rcases e2 with e2 | r2
  · show K _ _ _ _ _ _
    refine j_iconst C dX0_isPast_30 (v := 0) (by decide) ?_
    exact j_iret C dX0_isPast_31 rfl (jb_nar false) (Nat.zero_le _) (Nat.zero_le _) (jretPB h)
  · exact h
