theorem dX5_addClause_0 : decode cX5_addClause 0 = .ok (.aload_n 0, 1) := by decide +kernel
theorem dX5_addClause_1 : decode cX5_addClause 1 = .ok (.getfield 25, 3) := by decide +kernel
theorem dX5_addClause_4 : decode cX5_addClause 4 = .ok (.ifCond .lt 42, 3) := by decide +kernel
theorem dX5_addClause_7 : decode cX5_addClause 7 = .ok (.aload_n 0, 1) := by decide +kernel
theorem dX5_addClause_8 : decode cX5_addClause 8 = .ok (.getfield 25, 3) := by decide +kernel
theorem dX5_addClause_11 : decode cX5_addClause 11 = .ok (.bipush 24, 2) := by decide +kernel
theorem dX5_addClause_13 : decode cX5_addClause 13 = .ok (.if_icmp .ge 33, 3) := by decide +kernel
theorem dX5_addClause_16 : decode cX5_addClause 16 = .ok (.aload_n 0, 1) := by decide +kernel
theorem dX5_addClause_17 : decode cX5_addClause 17 = .ok (.getfield 15, 3) := by decide +kernel
theorem dX5_addClause_20 : decode cX5_addClause 20 = .ok (.aload_n 0, 1) := by decide +kernel
theorem dX5_addClause_21 : decode cX5_addClause 21 = .ok (.getfield 25, 3) := by decide +kernel
theorem dX5_addClause_24 : decode cX5_addClause 24 = .ok (.iload_n 1, 1) := by decide +kernel
theorem dX5_addClause_25 : decode cX5_addClause 25 = .ok (.iastore, 1) := by decide +kernel
theorem dX5_addClause_26 : decode cX5_addClause 26 = .ok (.aload_n 0, 1) := by decide +kernel
theorem dX5_addClause_27 : decode cX5_addClause 27 = .ok (.getfield 18, 3) := by decide +kernel
theorem dX5_addClause_30 : decode cX5_addClause 30 = .ok (.aload_n 0, 1) := by decide +kernel
theorem dX5_addClause_31 : decode cX5_addClause 31 = .ok (.getfield 25, 3) := by decide +kernel
theorem dX5_addClause_34 : decode cX5_addClause 34 = .ok (.iconst 0, 1) := by decide +kernel
theorem dX5_addClause_35 : decode cX5_addClause 35 = .ok (.iastore, 1) := by decide +kernel
theorem dX5_addClause_36 : decode cX5_addClause 36 = .ok (.aload_n 0, 1) := by decide +kernel
theorem dX5_addClause_37 : decode cX5_addClause 37 = .ok (.dup, 1) := by decide +kernel
theorem dX5_addClause_38 : decode cX5_addClause 38 = .ok (.getfield 25, 3) := by decide +kernel
theorem dX5_addClause_41 : decode cX5_addClause 41 = .ok (.iconst 1, 1) := by decide +kernel
theorem dX5_addClause_42 : decode cX5_addClause 42 = .ok (.iadd, 1) := by decide +kernel
theorem dX5_addClause_43 : decode cX5_addClause 43 = .ok (.putfield 25, 3) := by decide +kernel
theorem dX5_addClause_46 : decode cX5_addClause 46 = .ok (.return_, 1) := by decide +kernel
theorem dX1_takeClause_0 : decode cX1_takeClause 0 = .ok (.iload_n 1, 1) := by decide +kernel
theorem dX1_takeClause_1 : decode cX1_takeClause 1 = .ok (.iconst 4, 1) := by decide +kernel
theorem dX1_takeClause_2 : decode cX1_takeClause 2 = .ok (.if_icmp .eq 22, 3) := by decide +kernel
theorem dX1_takeClause_5 : decode cX1_takeClause 5 = .ok (.iload_n 1, 1) := by decide +kernel
theorem dX1_takeClause_6 : decode cX1_takeClause 6 = .ok (.iconst 5, 1) := by decide +kernel
theorem dX1_takeClause_7 : decode cX1_takeClause 7 = .ok (.if_icmp .eq 17, 3) := by decide +kernel
theorem dX1_takeClause_10 : decode cX1_takeClause 10 = .ok (.iload_n 1, 1) := by decide +kernel
theorem dX1_takeClause_11 : decode cX1_takeClause 11 = .ok (.bipush 7, 2) := by decide +kernel
theorem dX1_takeClause_13 : decode cX1_takeClause 13 = .ok (.if_icmp .eq 11, 3) := by decide +kernel
theorem dX1_takeClause_16 : decode cX1_takeClause 16 = .ok (.aload_n 0, 1) := by decide +kernel
theorem dX1_takeClause_17 : decode cX1_takeClause 17 = .ok (.iconst 1, 1) := by decide +kernel
theorem dX1_takeClause_18 : decode cX1_takeClause 18 = .ok (.invokevirtual 82, 3) := by decide +kernel
theorem dX1_takeClause_21 : decode cX1_takeClause 21 = .ok (.goto 118, 3) := by decide +kernel
theorem dX1_takeClause_24 : decode cX1_takeClause 24 = .ok (.iload_n 1, 1) := by decide +kernel
theorem dX1_takeClause_25 : decode cX1_takeClause 25 = .ok (.iconst 4, 1) := by decide +kernel
theorem dX1_takeClause_26 : decode cX1_takeClause 26 = .ok (.if_icmp .ne 21, 3) := by decide +kernel
theorem dX1_takeClause_29 : decode cX1_takeClause 29 = .ok (.aload_n 0, 1) := by decide +kernel
theorem dX1_takeClause_30 : decode cX1_takeClause 30 = .ok (.getfield 26, 3) := by decide +kernel
theorem dX1_takeClause_33 : decode cX1_takeClause 33 = .ok (.getfield 85, 3) := by decide +kernel
theorem dX1_takeClause_36 : decode cX1_takeClause 36 = .ok (.ifCond .eq 11, 3) := by decide +kernel
theorem dX1_takeClause_39 : decode cX1_takeClause 39 = .ok (.aload_n 0, 1) := by decide +kernel
theorem dX1_takeClause_40 : decode cX1_takeClause 40 = .ok (.iconst 4, 1) := by decide +kernel
theorem dX1_takeClause_41 : decode cX1_takeClause 41 = .ok (.invokevirtual 82, 3) := by decide +kernel
theorem dX1_takeClause_44 : decode cX1_takeClause 44 = .ok (.goto 95, 3) := by decide +kernel
theorem dX1_takeClause_47 : decode cX1_takeClause 47 = .ok (.aload_n 0, 1) := by decide +kernel
theorem dX1_takeClause_48 : decode cX1_takeClause 48 = .ok (.getfield 26, 3) := by decide +kernel
theorem dX1_takeClause_51 : decode cX1_takeClause 51 = .ok (.getfield 89, 3) := by decide +kernel
theorem dX1_takeClause_54 : decode cX1_takeClause 54 = .ok (.bipush 24, 2) := by decide +kernel
theorem dX1_takeClause_56 : decode cX1_takeClause 56 = .ok (.if_icmp .lt 11, 3) := by decide +kernel
theorem dX1_takeClause_59 : decode cX1_takeClause 59 = .ok (.aload_n 0, 1) := by decide +kernel
theorem dX1_takeClause_60 : decode cX1_takeClause 60 = .ok (.iconst 5, 1) := by decide +kernel
theorem dX1_takeClause_61 : decode cX1_takeClause 61 = .ok (.invokevirtual 82, 3) := by decide +kernel
theorem dX1_takeClause_64 : decode cX1_takeClause 64 = .ok (.goto 75, 3) := by decide +kernel
theorem dX1_takeClause_67 : decode cX1_takeClause 67 = .ok (.iload_n 1, 1) := by decide +kernel
theorem dX1_takeClause_68 : decode cX1_takeClause 68 = .ok (.iconst 4, 1) := by decide +kernel
theorem dX1_takeClause_69 : decode cX1_takeClause 69 = .ok (.if_icmp .ne 48, 3) := by decide +kernel
theorem dX1_takeClause_72 : decode cX1_takeClause 72 = .ok (.aload_n 0, 1) := by decide +kernel
theorem dX1_takeClause_73 : decode cX1_takeClause 73 = .ok (.getfield 26, 3) := by decide +kernel
theorem dX1_takeClause_76 : decode cX1_takeClause 76 = .ok (.iconst (-1), 1) := by decide +kernel
theorem dX1_takeClause_77 : decode cX1_takeClause 77 = .ok (.invokevirtual 92, 3) := by decide +kernel
theorem dX1_takeClause_80 : decode cX1_takeClause 80 = .ok (.aload_n 0, 1) := by decide +kernel
theorem dX1_takeClause_81 : decode cX1_takeClause 81 = .ok (.getfield 26, 3) := by decide +kernel
theorem dX1_takeClause_84 : decode cX1_takeClause 84 = .ok (.iconst 1, 1) := by decide +kernel
theorem dX1_takeClause_85 : decode cX1_takeClause 85 = .ok (.putfield 85, 3) := by decide +kernel
theorem dX1_takeClause_88 : decode cX1_takeClause 88 = .ok (.aload_n 0, 1) := by decide +kernel
theorem dX1_takeClause_89 : decode cX1_takeClause 89 = .ok (.iconst 0, 1) := by decide +kernel
theorem dX1_takeClause_90 : decode cX1_takeClause 90 = .ok (.putfield 95, 3) := by decide +kernel
theorem dX1_takeClause_93 : decode cX1_takeClause 93 = .ok (.aload_n 0, 1) := by decide +kernel
theorem dX1_takeClause_94 : decode cX1_takeClause 94 = .ok (.iconst 0, 1) := by decide +kernel
theorem dX1_takeClause_95 : decode cX1_takeClause 95 = .ok (.putfield 98, 3) := by decide +kernel
theorem dX1_takeClause_98 : decode cX1_takeClause 98 = .ok (.aload_n 0, 1) := by decide +kernel
theorem dX1_takeClause_99 : decode cX1_takeClause 99 = .ok (.iconst 0, 1) := by decide +kernel
theorem dX1_takeClause_100 : decode cX1_takeClause 100 = .ok (.putfield 101, 3) := by decide +kernel
theorem dX1_takeClause_103 : decode cX1_takeClause 103 = .ok (.aload_n 0, 1) := by decide +kernel
theorem dX1_takeClause_104 : decode cX1_takeClause 104 = .ok (.iconst 0, 1) := by decide +kernel
theorem dX1_takeClause_105 : decode cX1_takeClause 105 = .ok (.putfield 104, 3) := by decide +kernel
theorem dX1_takeClause_108 : decode cX1_takeClause 108 = .ok (.aload_n 0, 1) := by decide +kernel
theorem dX1_takeClause_109 : decode cX1_takeClause 109 = .ok (.bipush 6, 2) := by decide +kernel
theorem dX1_takeClause_111 : decode cX1_takeClause 111 = .ok (.putfield 30, 3) := by decide +kernel
theorem dX1_takeClause_114 : decode cX1_takeClause 114 = .ok (.goto 25, 3) := by decide +kernel
theorem dX1_takeClause_117 : decode cX1_takeClause 117 = .ok (.aload_n 0, 1) := by decide +kernel
theorem dX1_takeClause_118 : decode cX1_takeClause 118 = .ok (.getfield 26, 3) := by decide +kernel
theorem dX1_takeClause_121 : decode cX1_takeClause 121 = .ok (.iconst 0, 1) := by decide +kernel
theorem dX1_takeClause_122 : decode cX1_takeClause 122 = .ok (.invokevirtual 92, 3) := by decide +kernel
theorem dX1_takeClause_125 : decode cX1_takeClause 125 = .ok (.aload_n 0, 1) := by decide +kernel
theorem dX1_takeClause_126 : decode cX1_takeClause 126 = .ok (.iload_n 1, 1) := by decide +kernel
theorem dX1_takeClause_127 : decode cX1_takeClause 127 = .ok (.iconst 5, 1) := by decide +kernel
theorem dX1_takeClause_128 : decode cX1_takeClause 128 = .ok (.if_icmp .ne 7, 3) := by decide +kernel
theorem dX1_takeClause_131 : decode cX1_takeClause 131 = .ok (.iconst 1, 1) := by decide +kernel
theorem dX1_takeClause_132 : decode cX1_takeClause 132 = .ok (.goto 4, 3) := by decide +kernel
theorem dX1_takeClause_135 : decode cX1_takeClause 135 = .ok (.iconst 4, 1) := by decide +kernel
theorem dX1_takeClause_136 : decode cX1_takeClause 136 = .ok (.putfield 30, 3) := by decide +kernel
theorem dX1_takeClause_139 : decode cX1_takeClause 139 = .ok (.return_, 1) := by decide +kernel
theorem dX1_takeNumber_0 : decode cX1_takeNumber 0 = .ok (.aload_n 0, 1) := by decide +kernel
theorem dX1_takeNumber_1 : decode cX1_takeNumber 1 = .ok (.getfield 22, 3) := by decide +kernel
theorem dX1_takeNumber_4 : decode cX1_takeNumber 4 = .ok (.getfield 46, 3) := by decide +kernel
theorem dX1_takeNumber_7 : decode cX1_takeNumber 7 = .ok (.iconst 2, 1) := by decide +kernel
theorem dX1_takeNumber_8 : decode cX1_takeNumber 8 = .ok (.if_icmp .eq 11, 3) := by decide +kernel
theorem dX1_takeNumber_11 : decode cX1_takeNumber 11 = .ok (.aload_n 0, 1) := by decide +kernel
theorem dX1_takeNumber_12 : decode cX1_takeNumber 12 = .ok (.iconst 1, 1) := by decide +kernel
theorem dX1_takeNumber_13 : decode cX1_takeNumber 13 = .ok (.invokevirtual 82, 3) := by decide +kernel
theorem dX1_takeNumber_16 : decode cX1_takeNumber 16 = .ok (.goto 31, 3) := by decide +kernel
theorem dX1_takeNumber_19 : decode cX1_takeNumber 19 = .ok (.aload_n 0, 1) := by decide +kernel
theorem dX1_takeNumber_20 : decode cX1_takeNumber 20 = .ok (.getfield 22, 3) := by decide +kernel
theorem dX1_takeNumber_23 : decode cX1_takeNumber 23 = .ok (.getfield 63, 3) := by decide +kernel
theorem dX1_takeNumber_26 : decode cX1_takeNumber 26 = .ok (.iload_n 1, 1) := by decide +kernel
theorem dX1_takeNumber_27 : decode cX1_takeNumber 27 = .ok (.iload_n 2, 1) := by decide +kernel
theorem dX1_takeNumber_28 : decode cX1_takeNumber 28 = .ok (.invokestatic 107, 3) := by decide +kernel
theorem dX1_takeNumber_31 : decode cX1_takeNumber 31 = .ok (.ifCond .ne 11, 3) := by decide +kernel
theorem dX1_takeNumber_34 : decode cX1_takeNumber 34 = .ok (.aload_n 0, 1) := by decide +kernel
theorem dX1_takeNumber_35 : decode cX1_takeNumber 35 = .ok (.iconst 2, 1) := by decide +kernel
theorem dX1_takeNumber_36 : decode cX1_takeNumber 36 = .ok (.invokevirtual 82, 3) := by decide +kernel
theorem dX1_takeNumber_39 : decode cX1_takeNumber 39 = .ok (.goto 8, 3) := by decide +kernel
theorem dX1_takeNumber_42 : decode cX1_takeNumber 42 = .ok (.aload_n 0, 1) := by decide +kernel
theorem dX1_takeNumber_43 : decode cX1_takeNumber 43 = .ok (.iload_n 3, 1) := by decide +kernel
theorem dX1_takeNumber_44 : decode cX1_takeNumber 44 = .ok (.putfield 30, 3) := by decide +kernel
theorem dX1_takeNumber_47 : decode cX1_takeNumber 47 = .ok (.return_, 1) := by decide +kernel
theorem dX5_setKnocks_0 : decode cX5_setKnocks 0 = .ok (.aload_n 0, 1) := by decide +kernel
theorem dX5_setKnocks_1 : decode cX5_setKnocks 1 = .ok (.getfield 25, 3) := by decide +kernel
theorem dX5_setKnocks_4 : decode cX5_setKnocks 4 = .ok (.iconst 1, 1) := by decide +kernel
theorem dX5_setKnocks_5 : decode cX5_setKnocks 5 = .ok (.bipush 24, 2) := by decide +kernel
theorem dX5_setKnocks_7 : decode cX5_setKnocks 7 = .ok (.invokestatic 39, 3) := by decide +kernel
theorem dX5_setKnocks_10 : decode cX5_setKnocks 10 = .ok (.ifCond .eq 15, 3) := by decide +kernel
theorem dX5_setKnocks_13 : decode cX5_setKnocks 13 = .ok (.aload_n 0, 1) := by decide +kernel
theorem dX5_setKnocks_14 : decode cX5_setKnocks 14 = .ok (.getfield 15, 3) := by decide +kernel
theorem dX5_setKnocks_17 : decode cX5_setKnocks 17 = .ok (.aload_n 0, 1) := by decide +kernel
theorem dX5_setKnocks_18 : decode cX5_setKnocks 18 = .ok (.getfield 25, 3) := by decide +kernel
theorem dX5_setKnocks_21 : decode cX5_setKnocks 21 = .ok (.iconst 1, 1) := by decide +kernel
theorem dX5_setKnocks_22 : decode cX5_setKnocks 22 = .ok (.isub, 1) := by decide +kernel
theorem dX5_setKnocks_23 : decode cX5_setKnocks 23 = .ok (.iload_n 1, 1) := by decide +kernel
theorem dX5_setKnocks_24 : decode cX5_setKnocks 24 = .ok (.iastore, 1) := by decide +kernel
theorem dX5_setKnocks_25 : decode cX5_setKnocks 25 = .ok (.return_, 1) := by decide +kernel
theorem dX1_takeSign_0 : decode cX1_takeSign 0 = .ok (.aload_n 0, 1) := by decide +kernel
theorem dX1_takeSign_1 : decode cX1_takeSign 1 = .ok (.getfield 22, 3) := by decide +kernel
theorem dX1_takeSign_4 : decode cX1_takeSign 4 = .ok (.getfield 46, 3) := by decide +kernel
theorem dX1_takeSign_7 : decode cX1_takeSign 7 = .ok (.iload_n 1, 1) := by decide +kernel
theorem dX1_takeSign_8 : decode cX1_takeSign 8 = .ok (.if_icmp .eq 11, 3) := by decide +kernel
theorem dX1_takeSign_11 : decode cX1_takeSign 11 = .ok (.aload_n 0, 1) := by decide +kernel
theorem dX1_takeSign_12 : decode cX1_takeSign 12 = .ok (.iconst 1, 1) := by decide +kernel
theorem dX1_takeSign_13 : decode cX1_takeSign 13 = .ok (.invokevirtual 82, 3) := by decide +kernel
theorem dX1_takeSign_16 : decode cX1_takeSign 16 = .ok (.goto 8, 3) := by decide +kernel
theorem dX1_takeSign_19 : decode cX1_takeSign 19 = .ok (.aload_n 0, 1) := by decide +kernel
theorem dX1_takeSign_20 : decode cX1_takeSign 20 = .ok (.iload_n 2, 1) := by decide +kernel
theorem dX1_takeSign_21 : decode cX1_takeSign 21 = .ok (.putfield 30, 3) := by decide +kernel
theorem dX1_takeSign_24 : decode cX1_takeSign 24 = .ok (.return_, 1) := by decide +kernel
theorem dX5_setAmount_0 : decode cX5_setAmount 0 = .ok (.aload_n 0, 1) := by decide +kernel
theorem dX5_setAmount_1 : decode cX5_setAmount 1 = .ok (.getfield 25, 3) := by decide +kernel
theorem dX5_setAmount_4 : decode cX5_setAmount 4 = .ok (.iconst 1, 1) := by decide +kernel
theorem dX5_setAmount_5 : decode cX5_setAmount 5 = .ok (.bipush 24, 2) := by decide +kernel
theorem dX5_setAmount_7 : decode cX5_setAmount 7 = .ok (.invokestatic 39, 3) := by decide +kernel
theorem dX5_setAmount_10 : decode cX5_setAmount 10 = .ok (.ifCond .eq 15, 3) := by decide +kernel
theorem dX5_setAmount_13 : decode cX5_setAmount 13 = .ok (.aload_n 0, 1) := by decide +kernel
theorem dX5_setAmount_14 : decode cX5_setAmount 14 = .ok (.getfield 18, 3) := by decide +kernel
theorem dX5_setAmount_17 : decode cX5_setAmount 17 = .ok (.aload_n 0, 1) := by decide +kernel
theorem dX5_setAmount_18 : decode cX5_setAmount 18 = .ok (.getfield 25, 3) := by decide +kernel
theorem dX5_setAmount_21 : decode cX5_setAmount 21 = .ok (.iconst 1, 1) := by decide +kernel
theorem dX5_setAmount_22 : decode cX5_setAmount 22 = .ok (.isub, 1) := by decide +kernel
theorem dX5_setAmount_23 : decode cX5_setAmount 23 = .ok (.iload_n 1, 1) := by decide +kernel
theorem dX5_setAmount_24 : decode cX5_setAmount 24 = .ok (.iastore, 1) := by decide +kernel
theorem dX5_setAmount_25 : decode cX5_setAmount 25 = .ok (.return_, 1) := by decide +kernel
theorem dX1_put_0 : decode cX1_put 0 = .ok (.aload_n 0, 1) := by decide +kernel
theorem dX1_put_1 : decode cX1_put 1 = .ok (.getfield 95, 3) := by decide +kernel
theorem dX1_put_4 : decode cX1_put 4 = .ok (.ifCond .lt 32, 3) := by decide +kernel
theorem dX1_put_7 : decode cX1_put 7 = .ok (.aload_n 0, 1) := by decide +kernel
theorem dX1_put_8 : decode cX1_put 8 = .ok (.getfield 95, 3) := by decide +kernel
theorem dX1_put_11 : decode cX1_put 11 = .ok (.bipush 64, 2) := by decide +kernel
theorem dX1_put_13 : decode cX1_put 13 = .ok (.if_icmp .ge 23, 3) := by decide +kernel
theorem dX1_put_16 : decode cX1_put 16 = .ok (.aload_n 0, 1) := by decide +kernel
theorem dX1_put_17 : decode cX1_put 17 = .ok (.getfield 18, 3) := by decide +kernel
theorem dX1_put_20 : decode cX1_put 20 = .ok (.aload_n 0, 1) := by decide +kernel
theorem dX1_put_21 : decode cX1_put 21 = .ok (.getfield 95, 3) := by decide +kernel
theorem dX1_put_24 : decode cX1_put 24 = .ok (.iload_n 1, 1) := by decide +kernel
theorem dX1_put_25 : decode cX1_put 25 = .ok (.iastore, 1) := by decide +kernel
theorem dX1_put_26 : decode cX1_put 26 = .ok (.aload_n 0, 1) := by decide +kernel
theorem dX1_put_27 : decode cX1_put 27 = .ok (.dup, 1) := by decide +kernel
theorem dX1_put_28 : decode cX1_put 28 = .ok (.getfield 95, 3) := by decide +kernel
theorem dX1_put_31 : decode cX1_put 31 = .ok (.iconst 1, 1) := by decide +kernel
theorem dX1_put_32 : decode cX1_put 32 = .ok (.iadd, 1) := by decide +kernel
theorem dX1_put_33 : decode cX1_put 33 = .ok (.putfield 95, 3) := by decide +kernel
theorem dX1_put_36 : decode cX1_put 36 = .ok (.return_, 1) := by decide +kernel
theorem dX1_nest_0 : decode cX1_nest 0 = .ok (.aload_n 0, 1) := by decide +kernel
theorem dX1_nest_1 : decode cX1_nest 1 = .ok (.getfield 98, 3) := by decide +kernel
theorem dX1_nest_4 : decode cX1_nest 4 = .ok (.bipush 8, 2) := by decide +kernel
theorem dX1_nest_6 : decode cX1_nest 6 = .ok (.if_icmp .lt 9, 3) := by decide +kernel
theorem dX1_nest_9 : decode cX1_nest 9 = .ok (.aload_n 0, 1) := by decide +kernel
theorem dX1_nest_10 : decode cX1_nest 10 = .ok (.iconst 3, 1) := by decide +kernel
theorem dX1_nest_11 : decode cX1_nest 11 = .ok (.invokevirtual 82, 3) := by decide +kernel
theorem dX1_nest_14 : decode cX1_nest 14 = .ok (.return_, 1) := by decide +kernel
theorem dX1_nest_15 : decode cX1_nest 15 = .ok (.aload_n 0, 1) := by decide +kernel
theorem dX1_nest_16 : decode cX1_nest 16 = .ok (.dup, 1) := by decide +kernel
theorem dX1_nest_17 : decode cX1_nest 17 = .ok (.getfield 98, 3) := by decide +kernel
theorem dX1_nest_20 : decode cX1_nest 20 = .ok (.iconst 1, 1) := by decide +kernel
theorem dX1_nest_21 : decode cX1_nest 21 = .ok (.iadd, 1) := by decide +kernel
theorem dX1_nest_22 : decode cX1_nest 22 = .ok (.putfield 98, 3) := by decide +kernel
theorem dX1_nest_25 : decode cX1_nest 25 = .ok (.aload_n 0, 1) := by decide +kernel
theorem dX1_nest_26 : decode cX1_nest 26 = .ok (.dup, 1) := by decide +kernel
theorem dX1_nest_27 : decode cX1_nest 27 = .ok (.getfield 101, 3) := by decide +kernel
theorem dX1_nest_30 : decode cX1_nest 30 = .ok (.iload_n 1, 1) := by decide +kernel
theorem dX1_nest_31 : decode cX1_nest 31 = .ok (.bipush 9, 2) := by decide +kernel
theorem dX1_nest_33 : decode cX1_nest 33 = .ok (.if_icmp .ne 7, 3) := by decide +kernel
theorem dX1_nest_36 : decode cX1_nest 36 = .ok (.iconst 1, 1) := by decide +kernel
theorem dX1_nest_37 : decode cX1_nest 37 = .ok (.goto 4, 3) := by decide +kernel
theorem dX1_nest_40 : decode cX1_nest 40 = .ok (.iconst 0, 1) := by decide +kernel
theorem dX1_nest_41 : decode cX1_nest 41 = .ok (.iadd, 1) := by decide +kernel
theorem dX1_nest_42 : decode cX1_nest 42 = .ok (.putfield 101, 3) := by decide +kernel
theorem dX1_nest_45 : decode cX1_nest 45 = .ok (.aload_n 0, 1) := by decide +kernel
theorem dX1_nest_46 : decode cX1_nest 46 = .ok (.iload_n 1, 1) := by decide +kernel
theorem dX1_nest_47 : decode cX1_nest 47 = .ok (.invokevirtual 131, 3) := by decide +kernel
theorem dX1_nest_50 : decode cX1_nest 50 = .ok (.return_, 1) := by decide +kernel
theorem dX1_pileAt_0 : decode cX1_pileAt 0 = .ok (.iload_n 1, 1) := by decide +kernel
theorem dX1_pileAt_1 : decode cX1_pileAt 1 = .ok (.ifCond .lt 18, 3) := by decide +kernel
theorem dX1_pileAt_4 : decode cX1_pileAt 4 = .ok (.iload_n 1, 1) := by decide +kernel
theorem dX1_pileAt_5 : decode cX1_pileAt 5 = .ok (.bipush 64, 2) := by decide +kernel
theorem dX1_pileAt_7 : decode cX1_pileAt 7 = .ok (.if_icmp .ge 12, 3) := by decide +kernel
theorem dX1_pileAt_10 : decode cX1_pileAt 10 = .ok (.aload_n 0, 1) := by decide +kernel
theorem dX1_pileAt_11 : decode cX1_pileAt 11 = .ok (.getfield 18, 3) := by decide +kernel
theorem dX1_pileAt_14 : decode cX1_pileAt 14 = .ok (.iload_n 1, 1) := by decide +kernel
theorem dX1_pileAt_15 : decode cX1_pileAt 15 = .ok (.iaload, 1) := by decide +kernel
theorem dX1_pileAt_16 : decode cX1_pileAt 16 = .ok (.goto 5, 3) := by decide +kernel
theorem dX1_pileAt_19 : decode cX1_pileAt 19 = .ok (.bipush 9, 2) := by decide +kernel
theorem dX1_pileAt_21 : decode cX1_pileAt 21 = .ok (.ireturn, 1) := by decide +kernel
theorem dX1_atAsk_0 : decode cX1_atAsk 0 = .ok (.aload_n 0, 1) := by decide +kernel
theorem dX1_atAsk_1 : decode cX1_atAsk 1 = .ok (.getfield 95, 3) := by decide +kernel
theorem dX1_atAsk_4 : decode cX1_atAsk 4 = .ok (.ifCond .le 16, 3) := by decide +kernel
theorem dX1_atAsk_7 : decode cX1_atAsk 7 = .ok (.aload_n 0, 1) := by decide +kernel
theorem dX1_atAsk_8 : decode cX1_atAsk 8 = .ok (.aload_n 0, 1) := by decide +kernel
theorem dX1_atAsk_9 : decode cX1_atAsk 9 = .ok (.getfield 95, 3) := by decide +kernel
theorem dX1_atAsk_12 : decode cX1_atAsk 12 = .ok (.iconst 1, 1) := by decide +kernel
theorem dX1_atAsk_13 : decode cX1_atAsk 13 = .ok (.isub, 1) := by decide +kernel
theorem dX1_atAsk_14 : decode cX1_atAsk 14 = .ok (.invokevirtual 127, 3) := by decide +kernel
theorem dX1_atAsk_17 : decode cX1_atAsk 17 = .ok (.goto 5, 3) := by decide +kernel
theorem dX1_atAsk_20 : decode cX1_atAsk 20 = .ok (.bipush 11, 2) := by decide +kernel
theorem dX1_atAsk_22 : decode cX1_atAsk 22 = .ok (.istore_n 1, 1) := by decide +kernel
theorem dX1_atAsk_23 : decode cX1_atAsk 23 = .ok (.iload_n 1, 1) := by decide +kernel
theorem dX1_atAsk_24 : decode cX1_atAsk 24 = .ok (.bipush 11, 2) := by decide +kernel
theorem dX1_atAsk_26 : decode cX1_atAsk 26 = .ok (.if_icmp .eq 15, 3) := by decide +kernel
theorem dX1_atAsk_29 : decode cX1_atAsk 29 = .ok (.iload_n 1, 1) := by decide +kernel
theorem dX1_atAsk_30 : decode cX1_atAsk 30 = .ok (.bipush 12, 2) := by decide +kernel
theorem dX1_atAsk_32 : decode cX1_atAsk 32 = .ok (.if_icmp .eq 9, 3) := by decide +kernel
theorem dX1_atAsk_35 : decode cX1_atAsk 35 = .ok (.iload_n 1, 1) := by decide +kernel
theorem dX1_atAsk_36 : decode cX1_atAsk 36 = .ok (.bipush 13, 2) := by decide +kernel
theorem dX1_atAsk_38 : decode cX1_atAsk 38 = .ok (.if_icmp .ne 7, 3) := by decide +kernel
theorem dX1_atAsk_41 : decode cX1_atAsk 41 = .ok (.iconst 1, 1) := by decide +kernel
theorem dX1_atAsk_42 : decode cX1_atAsk 42 = .ok (.goto 4, 3) := by decide +kernel
theorem dX1_atAsk_45 : decode cX1_atAsk 45 = .ok (.iconst 0, 1) := by decide +kernel
theorem dX1_atAsk_46 : decode cX1_atAsk 46 = .ok (.ireturn, 1) := by decide +kernel
theorem dX5_addWord_0 : decode cX5_addWord 0 = .ok (.aload_n 0, 1) := by decide +kernel
theorem dX5_addWord_1 : decode cX5_addWord 1 = .ok (.getfield 21, 3) := by decide +kernel
theorem dX5_addWord_4 : decode cX5_addWord 4 = .ok (.ifCond .lt 33, 3) := by decide +kernel
theorem dX5_addWord_7 : decode cX5_addWord 7 = .ok (.aload_n 0, 1) := by decide +kernel
theorem dX5_addWord_8 : decode cX5_addWord 8 = .ok (.getfield 21, 3) := by decide +kernel
theorem dX5_addWord_11 : decode cX5_addWord 11 = .ok (.sipush 300, 3) := by decide +kernel
theorem dX5_addWord_14 : decode cX5_addWord 14 = .ok (.if_icmp .ge 23, 3) := by decide +kernel
theorem dX5_addWord_17 : decode cX5_addWord 17 = .ok (.aload_n 0, 1) := by decide +kernel
theorem dX5_addWord_18 : decode cX5_addWord 18 = .ok (.getfield 9, 3) := by decide +kernel
theorem dX5_addWord_21 : decode cX5_addWord 21 = .ok (.aload_n 0, 1) := by decide +kernel
theorem dX5_addWord_22 : decode cX5_addWord 22 = .ok (.getfield 21, 3) := by decide +kernel
theorem dX5_addWord_25 : decode cX5_addWord 25 = .ok (.iload_n 1, 1) := by decide +kernel
theorem dX5_addWord_26 : decode cX5_addWord 26 = .ok (.iastore, 1) := by decide +kernel
theorem dX5_addWord_27 : decode cX5_addWord 27 = .ok (.aload_n 0, 1) := by decide +kernel
theorem dX5_addWord_28 : decode cX5_addWord 28 = .ok (.dup, 1) := by decide +kernel
theorem dX5_addWord_29 : decode cX5_addWord 29 = .ok (.getfield 21, 3) := by decide +kernel
theorem dX5_addWord_32 : decode cX5_addWord 32 = .ok (.iconst 1, 1) := by decide +kernel
theorem dX5_addWord_33 : decode cX5_addWord 33 = .ok (.iadd, 1) := by decide +kernel
theorem dX5_addWord_34 : decode cX5_addWord 34 = .ok (.putfield 21, 3) := by decide +kernel
theorem dX5_addWord_37 : decode cX5_addWord 37 = .ok (.return_, 1) := by decide +kernel
theorem dX5_addName_0 : decode cX5_addName 0 = .ok (.aload_n 0, 1) := by decide +kernel
theorem dX5_addName_1 : decode cX5_addName 1 = .ok (.sipush 10000, 3) := by decide +kernel
theorem dX5_addName_4 : decode cX5_addName 4 = .ok (.iload_n 1, 1) := by decide +kernel
theorem dX5_addName_5 : decode cX5_addName 5 = .ok (.iadd, 1) := by decide +kernel
theorem dX5_addName_6 : decode cX5_addName 6 = .ok (.invokevirtual 35, 3) := by decide +kernel
theorem dX5_addName_9 : decode cX5_addName 9 = .ok (.aload_n 0, 1) := by decide +kernel
theorem dX5_addName_10 : decode cX5_addName 10 = .ok (.dup, 1) := by decide +kernel
theorem dX5_addName_11 : decode cX5_addName 11 = .ok (.getfield 28, 3) := by decide +kernel
theorem dX5_addName_14 : decode cX5_addName 14 = .ok (.iconst 1, 1) := by decide +kernel
theorem dX5_addName_15 : decode cX5_addName 15 = .ok (.iload_n 1, 1) := by decide +kernel
theorem dX5_addName_16 : decode cX5_addName 16 = .ok (.ishl, 1) := by decide +kernel
theorem dX5_addName_17 : decode cX5_addName 17 = .ok (.ior, 1) := by decide +kernel
theorem dX5_addName_18 : decode cX5_addName 18 = .ok (.putfield 28, 3) := by decide +kernel
theorem dX5_addName_21 : decode cX5_addName 21 = .ok (.return_, 1) := by decide +kernel
theorem dX1_levelOf_0 : decode cX1_levelOf 0 = .ok (.iload_n 0, 1) := by decide +kernel
theorem dX1_levelOf_1 : decode cX1_levelOf 1 = .ok (.tableswitch 87 11 24 #[71, 73, 75, 77, 77, 77, 77, 77, 77, 79, 79, 81, 81, 84], 71) := by decide +kernel
theorem dX1_levelOf_72 : decode cX1_levelOf 72 = .ok (.iconst 1, 1) := by decide +kernel
theorem dX1_levelOf_73 : decode cX1_levelOf 73 = .ok (.ireturn, 1) := by decide +kernel
theorem dX1_levelOf_74 : decode cX1_levelOf 74 = .ok (.iconst 2, 1) := by decide +kernel
theorem dX1_levelOf_75 : decode cX1_levelOf 75 = .ok (.ireturn, 1) := by decide +kernel
theorem dX1_levelOf_76 : decode cX1_levelOf 76 = .ok (.iconst 3, 1) := by decide +kernel
theorem dX1_levelOf_77 : decode cX1_levelOf 77 = .ok (.ireturn, 1) := by decide +kernel
theorem dX1_levelOf_78 : decode cX1_levelOf 78 = .ok (.iconst 4, 1) := by decide +kernel
theorem dX1_levelOf_79 : decode cX1_levelOf 79 = .ok (.ireturn, 1) := by decide +kernel
theorem dX1_levelOf_80 : decode cX1_levelOf 80 = .ok (.iconst 5, 1) := by decide +kernel
theorem dX1_levelOf_81 : decode cX1_levelOf 81 = .ok (.ireturn, 1) := by decide +kernel
theorem dX1_levelOf_82 : decode cX1_levelOf 82 = .ok (.bipush 6, 2) := by decide +kernel
theorem dX1_levelOf_84 : decode cX1_levelOf 84 = .ok (.ireturn, 1) := by decide +kernel
theorem dX1_levelOf_85 : decode cX1_levelOf 85 = .ok (.bipush 7, 2) := by decide +kernel
theorem dX1_levelOf_87 : decode cX1_levelOf 87 = .ok (.ireturn, 1) := by decide +kernel
theorem dX1_levelOf_88 : decode cX1_levelOf 88 = .ok (.iconst 0, 1) := by decide +kernel
theorem dX1_levelOf_89 : decode cX1_levelOf 89 = .ok (.ireturn, 1) := by decide +kernel
-- X5_addClause
def F_X5_addClause (t0 : Nat) (v1 : Int32) (s : jS) : Option jS :=
  (if (s.1 (2 + 4 * t0) 4) < 0 then some s else (if 24 ≤ (s.1 (2 + 4 * t0) 4) then some s else (if jin (s.1 (2 + 4 * t0) 4) 24 = true then (jl (upI s (2 + 4 * t0 + 2) (Int32.toNatClampNeg (s.1 (2 + 4 * t0) 4)) v1) fun s25_2 => (if jin (s25_2.1 (2 + 4 * t0) 4) 24 = true then (jl (upI s25_2 (2 + 4 * t0 + 3) (Int32.toNatClampNeg (s25_2.1 (2 + 4 * t0) 4)) 0) fun s35_4 => (jl (upI s35_4 (2 + 4 * t0) 4 ((s35_4.1 (2 + 4 * t0) 4) + 1)) fun s43_5 => some s43_5)) else none)) else none)))
def rm_X5_addClause : Room := { frames := 0, cells := 0, slots := 0, locals := 0 }
set_option maxHeartbeats 4000000 in
set_option maxRecDepth 100000 in
theorem m_X5_addClause {l : Launch} {D : va_G} {G : Nat → ClassId} {KV : jV} {ad : Nat → Nat} {nd : Nat} (t0 : Nat) (v1 : Int32) (s : jS) (ht0 : t0 < 4) {p : jS} (h : F_X5_addClause t0 v1 s = some p) : jM l D G KV yX5_addClause cX5_addClause 2 none rm_X5_addClause [.ref (ad (2 + 4 * t0)), .int v1] (jw 54 (cellC G nd) ad s) 0 0 (fun v u => v = none ∧ u = jw 54 (cellC G nd) ad p) := by
  refine jM.of (by decide) (Nat.le_of_ble_eq_true rfl) ?_
  intro K C
  unfold F_X5_addClause at h
  show K 0 0 (jw 54 (cellC G nd) ad s) 0 [(0, .ref (ad (2 + 4 * t0))), (1, .int v1)] []
  refine j_aload_n C dX5_addClause_0 0 rfl ?_
  refine j_getW C dX5_addClause_1 inX5 rfl (cTq0 ht0) (cT0 ht0) 4 (by decide) w_47 rfl rfl ?_
  refine j_if_lt C dX5_addClause_4 (tgt := 46) (by decide) (fun cq => ?_) (fun cq => ?_)
  · have h := jite_t h cq
    exact j_vret C dX5_addClause_46 rfl (Nat.zero_le _) (Nat.zero_le _) (jretWV h)
  · have h := jite_f h cq
    refine j_aload_n C dX5_addClause_7 0 rfl ?_
    refine j_getW C dX5_addClause_8 inX5 rfl (cTq0 ht0) (cT0 ht0) 4 (by decide) w_47 rfl rfl ?_
    refine j_bipush C dX5_addClause_11 (v := 24) (by decide) ?_
    refine j_icmp_ge C dX5_addClause_13 (tgt := 46) (by decide) (fun cq => ?_) (fun cq => ?_)
    · have h := jite_t h cq
      exact j_vret C dX5_addClause_46 rfl (Nat.zero_le _) (Nat.zero_le _) (jretWV h)
    · have h := jite_f h cq
      refine j_aload_n C dX5_addClause_16 0 rfl ?_
      refine j_getW C dX5_addClause_17 inX5 rfl (cTq0 ht0) (cT0 ht0) 1 (by decide) w_41 rfl rfl ?_
      refine j_aload_n C dX5_addClause_20 0 rfl ?_
      refine j_getW C dX5_addClause_21 inX5 rfl (cTq0 ht0) (cT0 ht0) 4 (by decide) w_47 rfl rfl ?_
      refine j_iload_n C dX5_addClause_24 1 rfl ?_
      obtain ⟨c25_1, h⟩ := jchk h
      refine j_iastW C dX5_addClause_25 (cTq2 ht0) (fun _ => (cT2 ht0)) (jin_vp c25_1) (fun s25_2 hs25_2 => ?_)
      have h := jlet h hs25_2
      refine j_aload_n C dX5_addClause_26 0 rfl ?_
      refine j_getW C dX5_addClause_27 inX5 rfl (cTq0 ht0) (cT0 ht0) 2 (by decide) w_43 rfl rfl ?_
      refine j_aload_n C dX5_addClause_30 0 rfl ?_
      refine j_getW C dX5_addClause_31 inX5 rfl (cTq0 ht0) (cT0 ht0) 4 (by decide) w_47 rfl rfl ?_
      refine j_iconst C dX5_addClause_34 (v := 0) (by decide) ?_
      obtain ⟨c35_3, h⟩ := jchk h
      refine j_iastW C dX5_addClause_35 (cTq3 ht0) (fun _ => (cT3 ht0)) (jin_vp c35_3) (fun s35_4 hs35_4 => ?_)
      have h := jlet h hs35_4
      refine j_aload_n C dX5_addClause_36 0 rfl ?_
      refine j_dup C dX5_addClause_37 rfl ?_
      refine j_getW C dX5_addClause_38 inX5 rfl (cTq0 ht0) (cT0 ht0) 4 (by decide) w_47 rfl rfl ?_
      refine j_iconst C dX5_addClause_41 (v := 1) (by decide) ?_
      refine j_iadd C dX5_addClause_42 ?_
      refine j_putI C dX5_addClause_43 inX5 tyX5 tyX5_ok nmX5 rfl (cTq0 ht0) 4 (cT0 ht0) (cT0 ht0) (by decide) w_47 rfl rfl rfl rfl (Nat.le_of_ble_eq_true rfl) (fun s43_5 hs43_5 => ?_)
      have h := jlet h hs43_5
      exact j_vret C dX5_addClause_46 rfl (Nat.zero_le _) (Nat.zero_le _) (jretWV h)
-- X1_takeClause
def J_X1_takeClause_47 (v1 : Int32) (s : jS) : Option jS :=
  (if jin (s.1 49 4) 4 = true then (if (s.1 (2 + 4 * (s.1 49 4).toNatClampNeg) 4) < 24 then (if v1 = 4 then ((F_X5_addClause ((s.1 49 4).toNatClampNeg) (-1) s).bind fun p77 => (if jin (p77.1 49 4) 4 = true then (jl (upI p77 (2 + 4 * (p77.1 49 4).toNatClampNeg) 6 (jb true)) fun s85_5 => (jl (upI s85_5 49 6 0) fun s90_6 => (jl (upI s90_6 49 7 0) fun s95_7 => (jl (upI s95_7 49 8 0) fun s100_8 => (jl (upI s100_8 49 9 (jb false)) fun s105_9 => (jl (upI s105_9 49 5 6) fun s111_10 => some s111_10)))))) else none)) else ((F_X5_addClause ((s.1 49 4).toNatClampNeg) 0 s).bind fun p122 => (if v1 = 5 then (jl (upI p122 49 5 1) fun s136_3 => some s136_3) else (jl (upI p122 49 5 4) fun s136_2 => some s136_2)))) else ((F_X1_refuse 5 s).bind fun p61 => some p61)) else none)
def J_X1_takeClause_24 (v1 : Int32) (s : jS) : Option jS :=
  (if v1 = 4 then (if jin (s.1 49 4) 4 = true then (if (jz (s.1 (2 + 4 * (s.1 49 4).toNatClampNeg) 6)) = true then ((F_X1_refuse 4 s).bind fun p41 => some p41) else J_X1_takeClause_47 v1 s) else none) else J_X1_takeClause_47 v1 s)
def F_X1_takeClause (v1 : Int32) (s : jS) : Option jS :=
  (if v1 = 4 then J_X1_takeClause_24 v1 s else (if v1 = 5 then J_X1_takeClause_24 v1 s else (if v1 = 7 then J_X1_takeClause_24 v1 s else ((F_X1_refuse 1 s).bind fun p18 => some p18))))
def rm_X1_takeClause : Room := { frames := 1, cells := 0, slots := 0, locals := 21 }
set_option maxHeartbeats 4000000 in
set_option maxRecDepth 100000 in
theorem m_X1_takeClause {l : Launch} {D : va_G} {G : Nat → ClassId} {KV : jV} {ad : Nat → Nat} {nd : Nat} (v1 : Int32) (s : jS) {p : jS} (h : F_X1_takeClause v1 s = some p) : jM l D G KV yX1_takeClause cX1_takeClause 2 none rm_X1_takeClause [.ref (ad 49), .int v1] (jw 54 (cellC G nd) ad s) 0 0 (fun v u => v = none ∧ u = jw 54 (cellC G nd) ad p) := by
  refine jM.of (by decide) (Nat.le_of_ble_eq_true rfl) ?_
  intro K C
  unfold F_X1_takeClause at h
  have jn47 : ∀ (v1 : Int32) (s : jS) (_ : J_X1_takeClause_47 v1 s = some p), K 0 0 (jw 54 (cellC G nd) ad s) 47 [(0, .ref (ad 49)), (1, .int v1)] [] := by
    intro v1 s h
    unfold J_X1_takeClause_47 at h
    refine j_aload_n C dX1_takeClause_47 0 rfl ?_
    refine j_getW C dX1_takeClause_48 inX1 rfl (by decide) rfl 4 (by decide) w_283 rfl rfl ?_
    obtain ⟨c48_1, h⟩ := jchk h
    refine j_getW C dX1_takeClause_51 inX5 rfl (cTq0 (jin_lt c48_1)) (cT0 (jin_lt c48_1)) 4 (by decide) w_48 rfl rfl ?_
    refine j_bipush C dX1_takeClause_54 (v := 24) (by decide) ?_
    refine j_icmp_lt C dX1_takeClause_56 (tgt := 67) (by decide) (fun cq => ?_) (fun cq => ?_)
    · have h := jite_t h cq
      refine j_iload_n C dX1_takeClause_67 1 rfl ?_
      refine j_iconst C dX1_takeClause_68 (v := 4) (by decide) ?_
      refine j_icmp_ne C dX1_takeClause_69 (tgt := 117) (by decide) (fun cq => ?_) (fun cq => ?_)
      · have h := jite_f h cq
        refine j_aload_n C dX1_takeClause_117 0 rfl ?_
        refine j_getW C dX1_takeClause_118 inX1 rfl (by decide) rfl 4 (by decide) w_283 rfl rfl ?_
        refine j_iconst C dX1_takeClause_121 (v := 0) (by decide) ?_
        obtain ⟨p122, he122, h⟩ := jbind h
        refine j_cV0 C dX1_takeClause_122 (m_X5_addClause ((s.1 49 4).toNatClampNeg) 0 s (jin_lt c48_1) he122) kc_X5_addClause w_556 w_557 w_558 w_3 jy_X5_addClause ⟨⟨Nat.le_of_ble_eq_true rfl, Nat.le_of_ble_eq_true rfl⟩, ⟨rfl, rfl⟩, ⟨Nat.zero_le _, Nat.zero_le _⟩⟩ (Nat.le_of_ble_eq_true rfl) (cTq0 (jin_lt c48_1)) (cT0 (jin_lt c48_1)) (r := (RX5, TX5, 7)) rfl rfl rfl (fun _ _ h => h) ?_
        refine j_aload_n C dX1_takeClause_125 0 rfl ?_
        refine j_iload_n C dX1_takeClause_126 1 rfl ?_
        refine j_iconst C dX1_takeClause_127 (v := 5) (by decide) ?_
        refine j_icmp_ne C dX1_takeClause_128 (tgt := 135) (by decide) (fun cq => ?_) (fun cq => ?_)
        · have h := jite_f h cq
          refine j_iconst C dX1_takeClause_135 (v := 4) (by decide) ?_
          refine j_putI C dX1_takeClause_136 inX1 tyX1 tyX1_ok nmX1 rfl (by decide) 5 rfl rfl (by decide) w_284 rfl rfl rfl rfl (Nat.le_of_ble_eq_true rfl) (fun s136_2 hs136_2 => ?_)
          have h := jlet h hs136_2
          exact j_vret C dX1_takeClause_139 rfl (Nat.zero_le _) (Nat.zero_le _) (jretWV h)
        · have h := jite_t h cq
          refine j_iconst C dX1_takeClause_131 (v := 1) (by decide) ?_
          refine j_goto C dX1_takeClause_132 (tgt := 136) (by decide) ?_
          refine j_putI C dX1_takeClause_136 inX1 tyX1 tyX1_ok nmX1 rfl (by decide) 5 rfl rfl (by decide) w_284 rfl rfl rfl rfl (Nat.le_of_ble_eq_true rfl) (fun s136_3 hs136_3 => ?_)
          have h := jlet h hs136_3
          exact j_vret C dX1_takeClause_139 rfl (Nat.zero_le _) (Nat.zero_le _) (jretWV h)
      · have h := jite_t h cq
        refine j_aload_n C dX1_takeClause_72 0 rfl ?_
        refine j_getW C dX1_takeClause_73 inX1 rfl (by decide) rfl 4 (by decide) w_283 rfl rfl ?_
        refine j_iconst C dX1_takeClause_76 (v := (-1)) (by decide) ?_
        obtain ⟨p77, he77, h⟩ := jbind h
        refine j_cV0 C dX1_takeClause_77 (m_X5_addClause ((s.1 49 4).toNatClampNeg) (-1) s (jin_lt c48_1) he77) kc_X5_addClause w_556 w_557 w_558 w_3 jy_X5_addClause ⟨⟨Nat.le_of_ble_eq_true rfl, Nat.le_of_ble_eq_true rfl⟩, ⟨rfl, rfl⟩, ⟨Nat.zero_le _, Nat.zero_le _⟩⟩ (Nat.le_of_ble_eq_true rfl) (cTq0 (jin_lt c48_1)) (cT0 (jin_lt c48_1)) (r := (RX5, TX5, 7)) rfl rfl rfl (fun _ _ h => h) ?_
        refine j_aload_n C dX1_takeClause_80 0 rfl ?_
        refine j_getW C dX1_takeClause_81 inX1 rfl (by decide) rfl 4 (by decide) w_283 rfl rfl ?_
        obtain ⟨c81_4, h⟩ := jchk h
        refine j_iconst C dX1_takeClause_84 (v := 1) (by decide) ?_
        refine j_putI C dX1_takeClause_85 inX5 tyX5 tyX5_ok nmX5 rfl (cTq0 (jin_lt c81_4)) 6 (x := jb true) (cT0 (jin_lt c81_4)) (cT0 (jin_lt c81_4)) (by decide) w_54 rfl rfl (jb_nar true) (jb_fit true) (Nat.le_of_ble_eq_true rfl) (fun s85_5 hs85_5 => ?_)
        have h := jlet h hs85_5
        refine j_aload_n C dX1_takeClause_88 0 rfl ?_
        refine j_iconst C dX1_takeClause_89 (v := 0) (by decide) ?_
        refine j_putI C dX1_takeClause_90 inX1 tyX1 tyX1_ok nmX1 rfl (by decide) 6 rfl rfl (by decide) w_285 rfl rfl rfl rfl (Nat.le_of_ble_eq_true rfl) (fun s90_6 hs90_6 => ?_)
        have h := jlet h hs90_6
        refine j_aload_n C dX1_takeClause_93 0 rfl ?_
        refine j_iconst C dX1_takeClause_94 (v := 0) (by decide) ?_
        refine j_putI C dX1_takeClause_95 inX1 tyX1 tyX1_ok nmX1 rfl (by decide) 7 rfl rfl (by decide) w_286 rfl rfl rfl rfl (Nat.le_of_ble_eq_true rfl) (fun s95_7 hs95_7 => ?_)
        have h := jlet h hs95_7
        refine j_aload_n C dX1_takeClause_98 0 rfl ?_
        refine j_iconst C dX1_takeClause_99 (v := 0) (by decide) ?_
        refine j_putI C dX1_takeClause_100 inX1 tyX1 tyX1_ok nmX1 rfl (by decide) 8 rfl rfl (by decide) w_287 rfl rfl rfl rfl (Nat.le_of_ble_eq_true rfl) (fun s100_8 hs100_8 => ?_)
        have h := jlet h hs100_8
        refine j_aload_n C dX1_takeClause_103 0 rfl ?_
        refine j_iconst C dX1_takeClause_104 (v := 0) (by decide) ?_
        refine j_putI C dX1_takeClause_105 inX1 tyX1 tyX1_ok nmX1 rfl (by decide) 9 (x := jb false) rfl rfl (by decide) w_288 rfl rfl (jb_nar false) (jb_fit false) (Nat.le_of_ble_eq_true rfl) (fun s105_9 hs105_9 => ?_)
        have h := jlet h hs105_9
        refine j_aload_n C dX1_takeClause_108 0 rfl ?_
        refine j_bipush C dX1_takeClause_109 (v := 6) (by decide) ?_
        refine j_putI C dX1_takeClause_111 inX1 tyX1 tyX1_ok nmX1 rfl (by decide) 5 rfl rfl (by decide) w_284 rfl rfl rfl rfl (Nat.le_of_ble_eq_true rfl) (fun s111_10 hs111_10 => ?_)
        have h := jlet h hs111_10
        refine j_goto C dX1_takeClause_114 (tgt := 139) (by decide) ?_
        exact j_vret C dX1_takeClause_139 rfl (Nat.zero_le _) (Nat.zero_le _) (jretWV h)
    · have h := jite_f h cq
      refine j_aload_n C dX1_takeClause_59 0 rfl ?_
      refine j_iconst C dX1_takeClause_60 (v := 5) (by decide) ?_
      obtain ⟨p61, he61, h⟩ := jbind h
      refine j_cV0 C dX1_takeClause_61 (m_X1_refuse 5 s he61) kc_X1_refuse w_552 w_554 wp_10 w_9 jy_X1_refuse ⟨⟨Nat.le_of_ble_eq_true rfl, Nat.le_of_ble_eq_true rfl⟩, ⟨rfl, rfl⟩, ⟨Nat.zero_le _, Nat.zero_le _⟩⟩ (Nat.le_of_ble_eq_true rfl) (by decide) rfl (r := (RX1, TX1, 10)) rfl rfl rfl (fun _ _ h => h) ?_
      refine j_goto C dX1_takeClause_64 (tgt := 139) (by decide) ?_
      exact j_vret C dX1_takeClause_139 rfl (Nat.zero_le _) (Nat.zero_le _) (jretWV h)
  have jn24 : ∀ (v1 : Int32) (s : jS) (_ : J_X1_takeClause_24 v1 s = some p), K 0 0 (jw 54 (cellC G nd) ad s) 24 [(0, .ref (ad 49)), (1, .int v1)] [] := by
    intro v1 s h
    unfold J_X1_takeClause_24 at h
    refine j_iload_n C dX1_takeClause_24 1 rfl ?_
    refine j_iconst C dX1_takeClause_25 (v := 4) (by decide) ?_
    refine j_icmp_ne C dX1_takeClause_26 (tgt := 47) (by decide) (fun cq => ?_) (fun cq => ?_)
    · have h := jite_f h cq
      refine j_loc C [0, 1] rfl ?_
      exact jn47 v1 s  h
    · have h := jite_t h cq
      refine j_aload_n C dX1_takeClause_29 0 rfl ?_
      refine j_getW C dX1_takeClause_30 inX1 rfl (by decide) rfl 4 (by decide) w_283 rfl rfl ?_
      obtain ⟨c30_11, h⟩ := jchk h
      refine j_getW C dX1_takeClause_33 inX5 rfl (cTq0 (jin_lt c30_11)) (cT0 (jin_lt c30_11)) 6 (by decide) w_54 rfl rfl ?_
      refine j_if_eq C dX1_takeClause_36 (tgt := 47) (by decide) (fun cq => ?_) (fun cq => ?_)
      · have h := jite_f h (jb_f cq)
        refine j_loc C [0, 1] rfl ?_
        exact jn47 v1 s  h
      · have h := jite_t h (jb_t cq)
        refine j_aload_n C dX1_takeClause_39 0 rfl ?_
        refine j_iconst C dX1_takeClause_40 (v := 4) (by decide) ?_
        obtain ⟨p41, he41, h⟩ := jbind h
        refine j_cV0 C dX1_takeClause_41 (m_X1_refuse 4 s he41) kc_X1_refuse w_552 w_554 wp_10 w_9 jy_X1_refuse ⟨⟨Nat.le_of_ble_eq_true rfl, Nat.le_of_ble_eq_true rfl⟩, ⟨rfl, rfl⟩, ⟨Nat.zero_le _, Nat.zero_le _⟩⟩ (Nat.le_of_ble_eq_true rfl) (by decide) rfl (r := (RX1, TX1, 10)) rfl rfl rfl (fun _ _ h => h) ?_
        refine j_goto C dX1_takeClause_44 (tgt := 139) (by decide) ?_
        exact j_vret C dX1_takeClause_139 rfl (Nat.zero_le _) (Nat.zero_le _) (jretWV h)
  show K 0 0 (jw 54 (cellC G nd) ad s) 0 [(0, .ref (ad 49)), (1, .int v1)] []
  refine j_iload_n C dX1_takeClause_0 1 rfl ?_
  refine j_iconst C dX1_takeClause_1 (v := 4) (by decide) ?_
  refine j_icmp_eq C dX1_takeClause_2 (tgt := 24) (by decide) (fun cq => ?_) (fun cq => ?_)
  · have h := jite_t h cq
    refine j_loc C [0, 1] rfl ?_
    exact jn24 v1 s  h
  · have h := jite_f h cq
    refine j_iload_n C dX1_takeClause_5 1 rfl ?_
    refine j_iconst C dX1_takeClause_6 (v := 5) (by decide) ?_
    refine j_icmp_eq C dX1_takeClause_7 (tgt := 24) (by decide) (fun cq => ?_) (fun cq => ?_)
    · have h := jite_t h cq
      refine j_loc C [0, 1] rfl ?_
      exact jn24 v1 s  h
    · have h := jite_f h cq
      refine j_iload_n C dX1_takeClause_10 1 rfl ?_
      refine j_bipush C dX1_takeClause_11 (v := 7) (by decide) ?_
      refine j_icmp_eq C dX1_takeClause_13 (tgt := 24) (by decide) (fun cq => ?_) (fun cq => ?_)
      · have h := jite_t h cq
        refine j_loc C [0, 1] rfl ?_
        exact jn24 v1 s  h
      · have h := jite_f h cq
        refine j_aload_n C dX1_takeClause_16 0 rfl ?_
        refine j_iconst C dX1_takeClause_17 (v := 1) (by decide) ?_
        obtain ⟨p18, he18, h⟩ := jbind h
        refine j_cV0 C dX1_takeClause_18 (m_X1_refuse 1 s he18) kc_X1_refuse w_552 w_554 wp_10 w_9 jy_X1_refuse ⟨⟨Nat.le_of_ble_eq_true rfl, Nat.le_of_ble_eq_true rfl⟩, ⟨rfl, rfl⟩, ⟨Nat.zero_le _, Nat.zero_le _⟩⟩ (Nat.le_of_ble_eq_true rfl) (by decide) rfl (r := (RX1, TX1, 10)) rfl rfl rfl (fun _ _ h => h) ?_
        refine j_goto C dX1_takeClause_21 (tgt := 139) (by decide) ?_
        exact j_vret C dX1_takeClause_139 rfl (Nat.zero_le _) (Nat.zero_le _) (jretWV h)
-- X1_takeNumber
def F_X1_takeNumber (v1 : Int32) (v2 : Int32) (v3 : Int32) (s : jS) : Option jS :=
  (if (s.1 27 2) = 2 then (if (F_X8_within (s.1 27 3) v1 v2) = true then (jl (upI s 49 5 v3) fun s44_1 => some s44_1) else ((F_X1_refuse 2 s).bind fun p36 => some p36)) else ((F_X1_refuse 1 s).bind fun p13 => some p13))
def rm_X1_takeNumber : Room := { frames := 1, cells := 0, slots := 0, locals := 22 }
set_option maxHeartbeats 4000000 in
set_option maxRecDepth 100000 in
theorem m_X1_takeNumber {l : Launch} {D : va_G} {G : Nat → ClassId} {KV : jV} {ad : Nat → Nat} {nd : Nat} (v1 : Int32) (v2 : Int32) (v3 : Int32) (s : jS) {p : jS} (h : F_X1_takeNumber v1 v2 v3 s = some p) : jM l D G KV yX1_takeNumber cX1_takeNumber 4 none rm_X1_takeNumber [.ref (ad 49), .int v1, .int v2, .int v3] (jw 54 (cellC G nd) ad s) 0 0 (fun v u => v = none ∧ u = jw 54 (cellC G nd) ad p) := by
  refine jM.of (by decide) (Nat.le_of_ble_eq_true rfl) ?_
  intro K C
  unfold F_X1_takeNumber at h
  show K 0 0 (jw 54 (cellC G nd) ad s) 0 [(0, .ref (ad 49)), (1, .int v1), (2, .int v2), (3, .int v3)] []
  refine j_aload_n C dX1_takeNumber_0 0 rfl ?_
  refine j_getW C dX1_takeNumber_1 inX1 rfl (by decide) rfl 2 (by decide) w_281 rfl rfl ?_
  refine j_getW C dX1_takeNumber_4 inX4 rfl (by decide) rfl 2 (by decide) w_174 rfl rfl ?_
  refine j_iconst C dX1_takeNumber_7 (v := 2) (by decide) ?_
  refine j_icmp_eq C dX1_takeNumber_8 (tgt := 19) (by decide) (fun cq => ?_) (fun cq => ?_)
  · have h := jite_t h cq
    refine j_aload_n C dX1_takeNumber_19 0 rfl ?_
    refine j_getW C dX1_takeNumber_20 inX1 rfl (by decide) rfl 2 (by decide) w_281 rfl rfl ?_
    refine j_getW C dX1_takeNumber_23 inX4 rfl (by decide) rfl 3 (by decide) w_176 rfl rfl ?_
    refine j_iload_n C dX1_takeNumber_26 1 rfl ?_
    refine j_iload_n C dX1_takeNumber_27 2 rfl ?_
    refine j_cSN1 C (host := "RoadOfDoors") dX1_takeNumber_28 (m_X8_within (s.1 27 3) v1 v2 rfl) kc_X8_within (by decide +kernel) w_378 w_1 jy_X8_within ⟨⟨Nat.le_of_ble_eq_true rfl, Nat.le_of_ble_eq_true rfl⟩, ⟨rfl, rfl⟩, ⟨Nat.zero_le _, Nat.zero_le _⟩⟩ (Nat.le_of_ble_eq_true rfl) rfl (fun _ _ h => h) ?_
    refine j_if_ne C dX1_takeNumber_31 (tgt := 42) (by decide) (fun cq => ?_) (fun cq => ?_)
    · have h := jite_t h (jb_t cq)
      refine j_aload_n C dX1_takeNumber_42 0 rfl ?_
      refine j_iload_n C dX1_takeNumber_43 3 rfl ?_
      refine j_putI C dX1_takeNumber_44 inX1 tyX1 tyX1_ok nmX1 rfl (by decide) 5 rfl rfl (by decide) w_284 rfl rfl rfl rfl (Nat.le_of_ble_eq_true rfl) (fun s44_1 hs44_1 => ?_)
      have h := jlet h hs44_1
      exact j_vret C dX1_takeNumber_47 rfl (Nat.zero_le _) (Nat.zero_le _) (jretWV h)
    · have h := jite_f h (jb_f cq)
      refine j_aload_n C dX1_takeNumber_34 0 rfl ?_
      refine j_iconst C dX1_takeNumber_35 (v := 2) (by decide) ?_
      obtain ⟨p36, he36, h⟩ := jbind h
      refine j_cV0 C dX1_takeNumber_36 (m_X1_refuse 2 s he36) kc_X1_refuse w_552 w_554 wp_10 w_9 jy_X1_refuse ⟨⟨Nat.le_of_ble_eq_true rfl, Nat.le_of_ble_eq_true rfl⟩, ⟨rfl, rfl⟩, ⟨Nat.zero_le _, Nat.zero_le _⟩⟩ (Nat.le_of_ble_eq_true rfl) (by decide) rfl (r := (RX1, TX1, 10)) rfl rfl rfl (fun _ _ h => h) ?_
      refine j_goto C dX1_takeNumber_39 (tgt := 47) (by decide) ?_
      exact j_vret C dX1_takeNumber_47 rfl (Nat.zero_le _) (Nat.zero_le _) (jretWV h)
  · have h := jite_f h cq
    refine j_aload_n C dX1_takeNumber_11 0 rfl ?_
    refine j_iconst C dX1_takeNumber_12 (v := 1) (by decide) ?_
    obtain ⟨p13, he13, h⟩ := jbind h
    refine j_cV0 C dX1_takeNumber_13 (m_X1_refuse 1 s he13) kc_X1_refuse w_552 w_554 wp_10 w_9 jy_X1_refuse ⟨⟨Nat.le_of_ble_eq_true rfl, Nat.le_of_ble_eq_true rfl⟩, ⟨rfl, rfl⟩, ⟨Nat.zero_le _, Nat.zero_le _⟩⟩ (Nat.le_of_ble_eq_true rfl) (by decide) rfl (r := (RX1, TX1, 10)) rfl rfl rfl (fun _ _ h => h) ?_
    refine j_goto C dX1_takeNumber_16 (tgt := 47) (by decide) ?_
    exact j_vret C dX1_takeNumber_47 rfl (Nat.zero_le _) (Nat.zero_le _) (jretWV h)
-- X5_setKnocks
def F_X5_setKnocks (t0 : Nat) (v1 : Int32) (s : jS) : Option jS :=
  (if (F_X8_within (s.1 (2 + 4 * t0) 4) 1 24) = true then (if jin ((s.1 (2 + 4 * t0) 4) - 1) 24 = true then (jl (upI s (2 + 4 * t0 + 2) (Int32.toNatClampNeg ((s.1 (2 + 4 * t0) 4) - 1)) v1) fun s24_2 => some s24_2) else none) else some s)
def rm_X5_setKnocks : Room := { frames := 1, cells := 0, slots := 0, locals := 22 }
set_option maxHeartbeats 4000000 in
set_option maxRecDepth 100000 in
theorem m_X5_setKnocks {l : Launch} {D : va_G} {G : Nat → ClassId} {KV : jV} {ad : Nat → Nat} {nd : Nat} (t0 : Nat) (v1 : Int32) (s : jS) (ht0 : t0 < 4) {p : jS} (h : F_X5_setKnocks t0 v1 s = some p) : jM l D G KV yX5_setKnocks cX5_setKnocks 2 none rm_X5_setKnocks [.ref (ad (2 + 4 * t0)), .int v1] (jw 54 (cellC G nd) ad s) 0 0 (fun v u => v = none ∧ u = jw 54 (cellC G nd) ad p) := by
  refine jM.of (by decide) (Nat.le_of_ble_eq_true rfl) ?_
  intro K C
  unfold F_X5_setKnocks at h
  show K 0 0 (jw 54 (cellC G nd) ad s) 0 [(0, .ref (ad (2 + 4 * t0))), (1, .int v1)] []
  refine j_aload_n C dX5_setKnocks_0 0 rfl ?_
  refine j_getW C dX5_setKnocks_1 inX5 rfl (cTq0 ht0) (cT0 ht0) 4 (by decide) w_47 rfl rfl ?_
  refine j_iconst C dX5_setKnocks_4 (v := 1) (by decide) ?_
  refine j_bipush C dX5_setKnocks_5 (v := 24) (by decide) ?_
  refine j_cSN1 C (host := "RoadOfDoors") dX5_setKnocks_7 (m_X8_within (s.1 (2 + 4 * t0) 4) 1 24 rfl) kc_X8_within (by decide +kernel) w_378 w_1 jy_X8_within ⟨⟨Nat.le_of_ble_eq_true rfl, Nat.le_of_ble_eq_true rfl⟩, ⟨rfl, rfl⟩, ⟨Nat.zero_le _, Nat.zero_le _⟩⟩ (Nat.le_of_ble_eq_true rfl) rfl (fun _ _ h => h) ?_
  refine j_if_eq C dX5_setKnocks_10 (tgt := 25) (by decide) (fun cq => ?_) (fun cq => ?_)
  · have h := jite_f h (jb_f cq)
    exact j_vret C dX5_setKnocks_25 rfl (Nat.zero_le _) (Nat.zero_le _) (jretWV h)
  · have h := jite_t h (jb_t cq)
    refine j_aload_n C dX5_setKnocks_13 0 rfl ?_
    refine j_getW C dX5_setKnocks_14 inX5 rfl (cTq0 ht0) (cT0 ht0) 1 (by decide) w_41 rfl rfl ?_
    refine j_aload_n C dX5_setKnocks_17 0 rfl ?_
    refine j_getW C dX5_setKnocks_18 inX5 rfl (cTq0 ht0) (cT0 ht0) 4 (by decide) w_47 rfl rfl ?_
    refine j_iconst C dX5_setKnocks_21 (v := 1) (by decide) ?_
    refine j_isub C dX5_setKnocks_22 ?_
    refine j_iload_n C dX5_setKnocks_23 1 rfl ?_
    obtain ⟨c24_1, h⟩ := jchk h
    refine j_iastW C dX5_setKnocks_24 (cTq2 ht0) (fun _ => (cT2 ht0)) (jin_vp c24_1) (fun s24_2 hs24_2 => ?_)
    have h := jlet h hs24_2
    exact j_vret C dX5_setKnocks_25 rfl (Nat.zero_le _) (Nat.zero_le _) (jretWV h)
-- X1_takeSign
def F_X1_takeSign (v1 : Int32) (v2 : Int32) (s : jS) : Option jS :=
  (if (s.1 27 2) = v1 then (jl (upI s 49 5 v2) fun s21_1 => some s21_1) else ((F_X1_refuse 1 s).bind fun p13 => some p13))
def rm_X1_takeSign : Room := { frames := 1, cells := 0, slots := 0, locals := 21 }
set_option maxHeartbeats 4000000 in
set_option maxRecDepth 100000 in
theorem m_X1_takeSign {l : Launch} {D : va_G} {G : Nat → ClassId} {KV : jV} {ad : Nat → Nat} {nd : Nat} (v1 : Int32) (v2 : Int32) (s : jS) {p : jS} (h : F_X1_takeSign v1 v2 s = some p) : jM l D G KV yX1_takeSign cX1_takeSign 3 none rm_X1_takeSign [.ref (ad 49), .int v1, .int v2] (jw 54 (cellC G nd) ad s) 0 0 (fun v u => v = none ∧ u = jw 54 (cellC G nd) ad p) := by
  refine jM.of (by decide) (Nat.le_of_ble_eq_true rfl) ?_
  intro K C
  unfold F_X1_takeSign at h
  show K 0 0 (jw 54 (cellC G nd) ad s) 0 [(0, .ref (ad 49)), (1, .int v1), (2, .int v2)] []
  refine j_aload_n C dX1_takeSign_0 0 rfl ?_
  refine j_getW C dX1_takeSign_1 inX1 rfl (by decide) rfl 2 (by decide) w_281 rfl rfl ?_
  refine j_getW C dX1_takeSign_4 inX4 rfl (by decide) rfl 2 (by decide) w_174 rfl rfl ?_
  refine j_iload_n C dX1_takeSign_7 1 rfl ?_
  refine j_icmp_eq C dX1_takeSign_8 (tgt := 19) (by decide) (fun cq => ?_) (fun cq => ?_)
  · have h := jite_t h cq
    refine j_aload_n C dX1_takeSign_19 0 rfl ?_
    refine j_iload_n C dX1_takeSign_20 2 rfl ?_
    refine j_putI C dX1_takeSign_21 inX1 tyX1 tyX1_ok nmX1 rfl (by decide) 5 rfl rfl (by decide) w_284 rfl rfl rfl rfl (Nat.le_of_ble_eq_true rfl) (fun s21_1 hs21_1 => ?_)
    have h := jlet h hs21_1
    exact j_vret C dX1_takeSign_24 rfl (Nat.zero_le _) (Nat.zero_le _) (jretWV h)
  · have h := jite_f h cq
    refine j_aload_n C dX1_takeSign_11 0 rfl ?_
    refine j_iconst C dX1_takeSign_12 (v := 1) (by decide) ?_
    obtain ⟨p13, he13, h⟩ := jbind h
    refine j_cV0 C dX1_takeSign_13 (m_X1_refuse 1 s he13) kc_X1_refuse w_552 w_554 wp_10 w_9 jy_X1_refuse ⟨⟨Nat.le_of_ble_eq_true rfl, Nat.le_of_ble_eq_true rfl⟩, ⟨rfl, rfl⟩, ⟨Nat.zero_le _, Nat.zero_le _⟩⟩ (Nat.le_of_ble_eq_true rfl) (by decide) rfl (r := (RX1, TX1, 10)) rfl rfl rfl (fun _ _ h => h) ?_
    refine j_goto C dX1_takeSign_16 (tgt := 24) (by decide) ?_
    exact j_vret C dX1_takeSign_24 rfl (Nat.zero_le _) (Nat.zero_le _) (jretWV h)
-- X5_setAmount
def F_X5_setAmount (t0 : Nat) (v1 : Int32) (s : jS) : Option jS :=
  (if (F_X8_within (s.1 (2 + 4 * t0) 4) 1 24) = true then (if jin ((s.1 (2 + 4 * t0) 4) - 1) 24 = true then (jl (upI s (2 + 4 * t0 + 3) (Int32.toNatClampNeg ((s.1 (2 + 4 * t0) 4) - 1)) v1) fun s24_2 => some s24_2) else none) else some s)
def rm_X5_setAmount : Room := { frames := 1, cells := 0, slots := 0, locals := 22 }
set_option maxHeartbeats 4000000 in
set_option maxRecDepth 100000 in
theorem m_X5_setAmount {l : Launch} {D : va_G} {G : Nat → ClassId} {KV : jV} {ad : Nat → Nat} {nd : Nat} (t0 : Nat) (v1 : Int32) (s : jS) (ht0 : t0 < 4) {p : jS} (h : F_X5_setAmount t0 v1 s = some p) : jM l D G KV yX5_setAmount cX5_setAmount 2 none rm_X5_setAmount [.ref (ad (2 + 4 * t0)), .int v1] (jw 54 (cellC G nd) ad s) 0 0 (fun v u => v = none ∧ u = jw 54 (cellC G nd) ad p) := by
  refine jM.of (by decide) (Nat.le_of_ble_eq_true rfl) ?_
  intro K C
  unfold F_X5_setAmount at h
  show K 0 0 (jw 54 (cellC G nd) ad s) 0 [(0, .ref (ad (2 + 4 * t0))), (1, .int v1)] []
  refine j_aload_n C dX5_setAmount_0 0 rfl ?_
  refine j_getW C dX5_setAmount_1 inX5 rfl (cTq0 ht0) (cT0 ht0) 4 (by decide) w_47 rfl rfl ?_
  refine j_iconst C dX5_setAmount_4 (v := 1) (by decide) ?_
  refine j_bipush C dX5_setAmount_5 (v := 24) (by decide) ?_
  refine j_cSN1 C (host := "RoadOfDoors") dX5_setAmount_7 (m_X8_within (s.1 (2 + 4 * t0) 4) 1 24 rfl) kc_X8_within (by decide +kernel) w_378 w_1 jy_X8_within ⟨⟨Nat.le_of_ble_eq_true rfl, Nat.le_of_ble_eq_true rfl⟩, ⟨rfl, rfl⟩, ⟨Nat.zero_le _, Nat.zero_le _⟩⟩ (Nat.le_of_ble_eq_true rfl) rfl (fun _ _ h => h) ?_
  refine j_if_eq C dX5_setAmount_10 (tgt := 25) (by decide) (fun cq => ?_) (fun cq => ?_)
  · have h := jite_f h (jb_f cq)
    exact j_vret C dX5_setAmount_25 rfl (Nat.zero_le _) (Nat.zero_le _) (jretWV h)
  · have h := jite_t h (jb_t cq)
    refine j_aload_n C dX5_setAmount_13 0 rfl ?_
    refine j_getW C dX5_setAmount_14 inX5 rfl (cTq0 ht0) (cT0 ht0) 2 (by decide) w_43 rfl rfl ?_
    refine j_aload_n C dX5_setAmount_17 0 rfl ?_
    refine j_getW C dX5_setAmount_18 inX5 rfl (cTq0 ht0) (cT0 ht0) 4 (by decide) w_47 rfl rfl ?_
    refine j_iconst C dX5_setAmount_21 (v := 1) (by decide) ?_
    refine j_isub C dX5_setAmount_22 ?_
    refine j_iload_n C dX5_setAmount_23 1 rfl ?_
    obtain ⟨c24_1, h⟩ := jchk h
    refine j_iastW C dX5_setAmount_24 (cTq3 ht0) (fun _ => (cT3 ht0)) (jin_vp c24_1) (fun s24_2 hs24_2 => ?_)
    have h := jlet h hs24_2
    exact j_vret C dX5_setAmount_25 rfl (Nat.zero_le _) (Nat.zero_le _) (jretWV h)
-- X1_put
def F_X1_put (v1 : Int32) (s : jS) : Option jS :=
  (if (s.1 49 6) < 0 then some s else (if 64 ≤ (s.1 49 6) then some s else (if jin (s.1 49 6) 64 = true then (jl (upI s 50 (Int32.toNatClampNeg (s.1 49 6)) v1) fun s25_2 => (jl (upI s25_2 49 6 ((s25_2.1 49 6) + 1)) fun s33_3 => some s33_3)) else none)))
def rm_X1_put : Room := { frames := 0, cells := 0, slots := 0, locals := 0 }
set_option maxHeartbeats 4000000 in
set_option maxRecDepth 100000 in
theorem m_X1_put {l : Launch} {D : va_G} {G : Nat → ClassId} {KV : jV} {ad : Nat → Nat} {nd : Nat} (v1 : Int32) (s : jS) {p : jS} (h : F_X1_put v1 s = some p) : jM l D G KV yX1_put cX1_put 2 none rm_X1_put [.ref (ad 49), .int v1] (jw 54 (cellC G nd) ad s) 0 0 (fun v u => v = none ∧ u = jw 54 (cellC G nd) ad p) := by
  refine jM.of (by decide) (Nat.le_of_ble_eq_true rfl) ?_
  intro K C
  unfold F_X1_put at h
  show K 0 0 (jw 54 (cellC G nd) ad s) 0 [(0, .ref (ad 49)), (1, .int v1)] []
  refine j_aload_n C dX1_put_0 0 rfl ?_
  refine j_getW C dX1_put_1 inX1 rfl (by decide) rfl 6 (by decide) w_285 rfl rfl ?_
  refine j_if_lt C dX1_put_4 (tgt := 36) (by decide) (fun cq => ?_) (fun cq => ?_)
  · have h := jite_t h cq
    exact j_vret C dX1_put_36 rfl (Nat.zero_le _) (Nat.zero_le _) (jretWV h)
  · have h := jite_f h cq
    refine j_aload_n C dX1_put_7 0 rfl ?_
    refine j_getW C dX1_put_8 inX1 rfl (by decide) rfl 6 (by decide) w_285 rfl rfl ?_
    refine j_bipush C dX1_put_11 (v := 64) (by decide) ?_
    refine j_icmp_ge C dX1_put_13 (tgt := 36) (by decide) (fun cq => ?_) (fun cq => ?_)
    · have h := jite_t h cq
      exact j_vret C dX1_put_36 rfl (Nat.zero_le _) (Nat.zero_le _) (jretWV h)
    · have h := jite_f h cq
      refine j_aload_n C dX1_put_16 0 rfl ?_
      refine j_getW C dX1_put_17 inX1 rfl (by decide) rfl 3 (by decide) w_282 rfl rfl ?_
      refine j_aload_n C dX1_put_20 0 rfl ?_
      refine j_getW C dX1_put_21 inX1 rfl (by decide) rfl 6 (by decide) w_285 rfl rfl ?_
      refine j_iload_n C dX1_put_24 1 rfl ?_
      obtain ⟨c25_1, h⟩ := jchk h
      refine j_iastW C dX1_put_25 (by decide) (fun _ => rfl) (jin_vp c25_1) (fun s25_2 hs25_2 => ?_)
      have h := jlet h hs25_2
      refine j_aload_n C dX1_put_26 0 rfl ?_
      refine j_dup C dX1_put_27 rfl ?_
      refine j_getW C dX1_put_28 inX1 rfl (by decide) rfl 6 (by decide) w_285 rfl rfl ?_
      refine j_iconst C dX1_put_31 (v := 1) (by decide) ?_
      refine j_iadd C dX1_put_32 ?_
      refine j_putI C dX1_put_33 inX1 tyX1 tyX1_ok nmX1 rfl (by decide) 6 rfl rfl (by decide) w_285 rfl rfl rfl rfl (Nat.le_of_ble_eq_true rfl) (fun s33_3 hs33_3 => ?_)
      have h := jlet h hs33_3
      exact j_vret C dX1_put_36 rfl (Nat.zero_le _) (Nat.zero_le _) (jretWV h)
-- X1_nest
def F_X1_nest (v1 : Int32) (s : jS) : Option jS :=
  (if (s.1 49 7) < 8 then (jl (upI s 49 7 ((s.1 49 7) + 1)) fun s22_1 => (if v1 = 9 then (jl (upI s22_1 49 8 ((s22_1.1 49 8) + 1)) fun s42_3 => ((F_X1_put v1 s42_3).bind fun p47 => some p47)) else (jl (upI s22_1 49 8 ((s22_1.1 49 8) + 0)) fun s42_2 => ((F_X1_put v1 s42_2).bind fun p47 => some p47)))) else ((F_X1_refuse 3 s).bind fun p11 => some p11))
def rm_X1_nest : Room := { frames := 1, cells := 0, slots := 0, locals := 21 }
set_option maxHeartbeats 4000000 in
set_option maxRecDepth 100000 in
theorem m_X1_nest {l : Launch} {D : va_G} {G : Nat → ClassId} {KV : jV} {ad : Nat → Nat} {nd : Nat} (v1 : Int32) (s : jS) {p : jS} (h : F_X1_nest v1 s = some p) : jM l D G KV yX1_nest cX1_nest 2 none rm_X1_nest [.ref (ad 49), .int v1] (jw 54 (cellC G nd) ad s) 0 0 (fun v u => v = none ∧ u = jw 54 (cellC G nd) ad p) := by
  refine jM.of (by decide) (Nat.le_of_ble_eq_true rfl) ?_
  intro K C
  unfold F_X1_nest at h
  show K 0 0 (jw 54 (cellC G nd) ad s) 0 [(0, .ref (ad 49)), (1, .int v1)] []
  refine j_aload_n C dX1_nest_0 0 rfl ?_
  refine j_getW C dX1_nest_1 inX1 rfl (by decide) rfl 7 (by decide) w_286 rfl rfl ?_
  refine j_bipush C dX1_nest_4 (v := 8) (by decide) ?_
  refine j_icmp_lt C dX1_nest_6 (tgt := 15) (by decide) (fun cq => ?_) (fun cq => ?_)
  · have h := jite_t h cq
    refine j_aload_n C dX1_nest_15 0 rfl ?_
    refine j_dup C dX1_nest_16 rfl ?_
    refine j_getW C dX1_nest_17 inX1 rfl (by decide) rfl 7 (by decide) w_286 rfl rfl ?_
    refine j_iconst C dX1_nest_20 (v := 1) (by decide) ?_
    refine j_iadd C dX1_nest_21 ?_
    refine j_putI C dX1_nest_22 inX1 tyX1 tyX1_ok nmX1 rfl (by decide) 7 rfl rfl (by decide) w_286 rfl rfl rfl rfl (Nat.le_of_ble_eq_true rfl) (fun s22_1 hs22_1 => ?_)
    have h := jlet h hs22_1
    refine j_aload_n C dX1_nest_25 0 rfl ?_
    refine j_dup C dX1_nest_26 rfl ?_
    refine j_getW C dX1_nest_27 inX1 rfl (by decide) rfl 8 (by decide) w_287 rfl rfl ?_
    refine j_iload_n C dX1_nest_30 1 rfl ?_
    refine j_bipush C dX1_nest_31 (v := 9) (by decide) ?_
    refine j_icmp_ne C dX1_nest_33 (tgt := 40) (by decide) (fun cq => ?_) (fun cq => ?_)
    · have h := jite_f h cq
      refine j_iconst C dX1_nest_40 (v := 0) (by decide) ?_
      refine j_iadd C dX1_nest_41 ?_
      refine j_putI C dX1_nest_42 inX1 tyX1 tyX1_ok nmX1 rfl (by decide) 8 rfl rfl (by decide) w_287 rfl rfl rfl rfl (Nat.le_of_ble_eq_true rfl) (fun s42_2 hs42_2 => ?_)
      have h := jlet h hs42_2
      refine j_aload_n C dX1_nest_45 0 rfl ?_
      refine j_iload_n C dX1_nest_46 1 rfl ?_
      obtain ⟨p47, he47, h⟩ := jbind h
      refine j_cV0 C dX1_nest_47 (m_X1_put v1 s42_2 he47) kc_X1_put w_586 w_588 wp_15 w_9 jy_X1_put ⟨⟨Nat.le_of_ble_eq_true rfl, Nat.le_of_ble_eq_true rfl⟩, ⟨rfl, rfl⟩, ⟨Nat.zero_le _, Nat.zero_le _⟩⟩ (Nat.le_of_ble_eq_true rfl) (by decide) rfl (r := (RX1, TX1, 10)) rfl rfl rfl (fun _ _ h => h) ?_
      exact j_vret C dX1_nest_50 rfl (Nat.zero_le _) (Nat.zero_le _) (jretWV h)
    · have h := jite_t h cq
      refine j_iconst C dX1_nest_36 (v := 1) (by decide) ?_
      refine j_goto C dX1_nest_37 (tgt := 41) (by decide) ?_
      refine j_iadd C dX1_nest_41 ?_
      refine j_putI C dX1_nest_42 inX1 tyX1 tyX1_ok nmX1 rfl (by decide) 8 rfl rfl (by decide) w_287 rfl rfl rfl rfl (Nat.le_of_ble_eq_true rfl) (fun s42_3 hs42_3 => ?_)
      have h := jlet h hs42_3
      refine j_aload_n C dX1_nest_45 0 rfl ?_
      refine j_iload_n C dX1_nest_46 1 rfl ?_
      obtain ⟨p47, he47, h⟩ := jbind h
      refine j_cV0 C dX1_nest_47 (m_X1_put v1 s42_3 he47) kc_X1_put w_586 w_588 wp_15 w_9 jy_X1_put ⟨⟨Nat.le_of_ble_eq_true rfl, Nat.le_of_ble_eq_true rfl⟩, ⟨rfl, rfl⟩, ⟨Nat.zero_le _, Nat.zero_le _⟩⟩ (Nat.le_of_ble_eq_true rfl) (by decide) rfl (r := (RX1, TX1, 10)) rfl rfl rfl (fun _ _ h => h) ?_
      exact j_vret C dX1_nest_50 rfl (Nat.zero_le _) (Nat.zero_le _) (jretWV h)
  · have h := jite_f h cq
    refine j_aload_n C dX1_nest_9 0 rfl ?_
    refine j_iconst C dX1_nest_10 (v := 3) (by decide) ?_
    obtain ⟨p11, he11, h⟩ := jbind h
    refine j_cV0 C dX1_nest_11 (m_X1_refuse 3 s he11) kc_X1_refuse w_552 w_554 wp_10 w_9 jy_X1_refuse ⟨⟨Nat.le_of_ble_eq_true rfl, Nat.le_of_ble_eq_true rfl⟩, ⟨rfl, rfl⟩, ⟨Nat.zero_le _, Nat.zero_le _⟩⟩ (Nat.le_of_ble_eq_true rfl) (by decide) rfl (r := (RX1, TX1, 10)) rfl rfl rfl (fun _ _ h => h) ?_
    exact j_vret C dX1_nest_14 rfl (Nat.zero_le _) (Nat.zero_le _) (jretWV h)
-- X1_pileAt
def F_X1_pileAt (v1 : Int32) (s : jS) : Option Int32 :=
  (if v1 < 0 then some 9 else (if 64 ≤ v1 then some 9 else (if jin v1 64 = true then some (s.1 50 (Int32.toNatClampNeg v1)) else none)))
def rm_X1_pileAt : Room := { frames := 0, cells := 0, slots := 0, locals := 0 }
set_option maxHeartbeats 4000000 in
set_option maxRecDepth 100000 in
theorem m_X1_pileAt {l : Launch} {D : va_G} {G : Nat → ClassId} {KV : jV} {ad : Nat → Nat} {nd : Nat} (v1 : Int32) (s : jS) {p : Int32} (h : F_X1_pileAt v1 s = some p) : jM l D G KV yX1_pileAt cX1_pileAt 2 (some .int) rm_X1_pileAt [.ref (ad 49), .int v1] (jw 54 (cellC G nd) ad s) 0 0 (fun v u => v = some (.int p) ∧ u = jw 54 (cellC G nd) ad s) := by
  refine jM.of (by decide) (Nat.le_of_ble_eq_true rfl) ?_
  intro K C
  unfold F_X1_pileAt at h
  show K 0 0 (jw 54 (cellC G nd) ad s) 0 [(0, .ref (ad 49)), (1, .int v1)] []
  refine j_iload_n C dX1_pileAt_0 1 rfl ?_
  refine j_if_lt C dX1_pileAt_1 (tgt := 19) (by decide) (fun cq => ?_) (fun cq => ?_)
  · have h := jite_t h cq
    refine j_bipush C dX1_pileAt_19 (v := 9) (by decide) ?_
    exact j_iret C dX1_pileAt_21 rfl rfl (Nat.zero_le _) (Nat.zero_le _) (jretPI h)
  · have h := jite_f h cq
    refine j_iload_n C dX1_pileAt_4 1 rfl ?_
    refine j_bipush C dX1_pileAt_5 (v := 64) (by decide) ?_
    refine j_icmp_ge C dX1_pileAt_7 (tgt := 19) (by decide) (fun cq => ?_) (fun cq => ?_)
    · have h := jite_t h cq
      refine j_bipush C dX1_pileAt_19 (v := 9) (by decide) ?_
      exact j_iret C dX1_pileAt_21 rfl rfl (Nat.zero_le _) (Nat.zero_le _) (jretPI h)
    · have h := jite_f h cq
      refine j_aload_n C dX1_pileAt_10 0 rfl ?_
      refine j_getW C dX1_pileAt_11 inX1 rfl (by decide) rfl 3 (by decide) w_282 rfl rfl ?_
      refine j_iload_n C dX1_pileAt_14 1 rfl ?_
      obtain ⟨c15_1, h⟩ := jchk h
      refine j_ialdW C dX1_pileAt_15 (by decide) rfl (jin_vp c15_1) ?_
      refine j_goto C dX1_pileAt_16 (tgt := 21) (by decide) ?_
      exact j_iret C dX1_pileAt_21 rfl rfl (Nat.zero_le _) (Nat.zero_le _) (jretPI h)
-- X1_atAsk
def J_X1_atAsk_22 (k0 : Int32) (s : jS) : Option Bool :=
  (if k0 = 11 then some true else (if k0 = 12 then some true else (if k0 = 13 then some true else some false)))
def F_X1_atAsk (s : jS) : Option Bool :=
  (if (s.1 49 6) ≤ 0 then J_X1_atAsk_22 11 s else ((F_X1_pileAt ((s.1 49 6) - 1) s).bind fun p14 => J_X1_atAsk_22 p14 s))
def rm_X1_atAsk : Room := { frames := 1, cells := 0, slots := 0, locals := 21 }
set_option maxHeartbeats 4000000 in
set_option maxRecDepth 100000 in
theorem m_X1_atAsk {l : Launch} {D : va_G} {G : Nat → ClassId} {KV : jV} {ad : Nat → Nat} {nd : Nat} (s : jS) {p : Bool} (h : F_X1_atAsk s = some p) : jM l D G KV yX1_atAsk cX1_atAsk 2 (some .boolean) rm_X1_atAsk [.ref (ad 49)] (jw 54 (cellC G nd) ad s) 0 0 (fun v u => v = some (.int (jb p)) ∧ u = jw 54 (cellC G nd) ad s) := by
  refine jM.of (by decide) (Nat.le_of_ble_eq_true rfl) ?_
  intro K C
  unfold F_X1_atAsk at h
  have jn22 : ∀ (k0 : Int32) (_ : J_X1_atAsk_22 k0 s = some p), K 0 0 (jw 54 (cellC G nd) ad s) 22 [] [.int k0] := by
    intro k0 h
    unfold J_X1_atAsk_22 at h
    refine j_istore_n C dX1_atAsk_22 (by decide) rfl ?_
    refine j_iload_n C dX1_atAsk_23 0 rfl ?_
    refine j_bipush C dX1_atAsk_24 (v := 11) (by decide) ?_
    refine j_icmp_eq C dX1_atAsk_26 (tgt := 41) (by decide) (fun cq => ?_) (fun cq => ?_)
    · have h := jite_t h cq
      refine j_iconst C dX1_atAsk_41 (v := 1) (by decide) ?_
      refine j_goto C dX1_atAsk_42 (tgt := 46) (by decide) ?_
      exact j_iret C dX1_atAsk_46 rfl (jb_nar true) (Nat.zero_le _) (Nat.zero_le _) (jretPB h)
    · have h := jite_f h cq
      refine j_iload_n C dX1_atAsk_29 0 rfl ?_
      refine j_bipush C dX1_atAsk_30 (v := 12) (by decide) ?_
      refine j_icmp_eq C dX1_atAsk_32 (tgt := 41) (by decide) (fun cq => ?_) (fun cq => ?_)
      · have h := jite_t h cq
        refine j_iconst C dX1_atAsk_41 (v := 1) (by decide) ?_
        refine j_goto C dX1_atAsk_42 (tgt := 46) (by decide) ?_
        exact j_iret C dX1_atAsk_46 rfl (jb_nar true) (Nat.zero_le _) (Nat.zero_le _) (jretPB h)
      · have h := jite_f h cq
        refine j_iload_n C dX1_atAsk_35 0 rfl ?_
        refine j_bipush C dX1_atAsk_36 (v := 13) (by decide) ?_
        refine j_icmp_ne C dX1_atAsk_38 (tgt := 45) (by decide) (fun cq => ?_) (fun cq => ?_)
        · have h := jite_f h cq
          refine j_iconst C dX1_atAsk_45 (v := 0) (by decide) ?_
          exact j_iret C dX1_atAsk_46 rfl (jb_nar false) (Nat.zero_le _) (Nat.zero_le _) (jretPB h)
        · have h := jite_t h cq
          refine j_iconst C dX1_atAsk_41 (v := 1) (by decide) ?_
          refine j_goto C dX1_atAsk_42 (tgt := 46) (by decide) ?_
          exact j_iret C dX1_atAsk_46 rfl (jb_nar true) (Nat.zero_le _) (Nat.zero_le _) (jretPB h)
  show K 0 0 (jw 54 (cellC G nd) ad s) 0 [(0, .ref (ad 49))] []
  refine j_aload_n C dX1_atAsk_0 0 rfl ?_
  refine j_getW C dX1_atAsk_1 inX1 rfl (by decide) rfl 6 (by decide) w_285 rfl rfl ?_
  refine j_if_le C dX1_atAsk_4 (tgt := 20) (by decide) (fun cq => ?_) (fun cq => ?_)
  · have h := jite_t h cq
    refine j_bipush C dX1_atAsk_20 (v := 11) (by decide) ?_
    refine j_loc C [] rfl ?_
    exact jn22 11   h
  · have h := jite_f h cq
    refine j_aload_n C dX1_atAsk_7 0 rfl ?_
    refine j_aload_n C dX1_atAsk_8 0 rfl ?_
    refine j_getW C dX1_atAsk_9 inX1 rfl (by decide) rfl 6 (by decide) w_285 rfl rfl ?_
    refine j_iconst C dX1_atAsk_12 (v := 1) (by decide) ?_
    refine j_isub C dX1_atAsk_13 ?_
    obtain ⟨p14, he14, h⟩ := jbind h
    refine j_cV1 C dX1_atAsk_14 (m_X1_pileAt ((s.1 49 6) - 1) s he14) kc_X1_pileAt w_594 w_596 wp_17 w_9 jy_X1_pileAt ⟨⟨Nat.le_of_ble_eq_true rfl, Nat.le_of_ble_eq_true rfl⟩, ⟨rfl, rfl⟩, ⟨Nat.zero_le _, Nat.zero_le _⟩⟩ (Nat.le_of_ble_eq_true rfl) (by decide) rfl (r := (RX1, TX1, 10)) rfl rfl rfl (fun _ _ h => h) ?_
    refine j_goto C dX1_atAsk_17 (tgt := 22) (by decide) ?_
    refine j_loc C [] rfl ?_
    exact jn22 p14   h
-- X5_addWord
def F_X5_addWord (t0 : Nat) (v1 : Int32) (s : jS) : Option jS :=
  (if (s.1 (2 + 4 * t0) 3) < 0 then some s else (if 300 ≤ (s.1 (2 + 4 * t0) 3) then some s else (if jin (s.1 (2 + 4 * t0) 3) 300 = true then (jl (upI s (2 + 4 * t0 + 1) (Int32.toNatClampNeg (s.1 (2 + 4 * t0) 3)) v1) fun s26_2 => (jl (upI s26_2 (2 + 4 * t0) 3 ((s26_2.1 (2 + 4 * t0) 3) + 1)) fun s34_3 => some s34_3)) else none)))
def rm_X5_addWord : Room := { frames := 0, cells := 0, slots := 0, locals := 0 }
set_option maxHeartbeats 4000000 in
set_option maxRecDepth 100000 in
theorem m_X5_addWord {l : Launch} {D : va_G} {G : Nat → ClassId} {KV : jV} {ad : Nat → Nat} {nd : Nat} (t0 : Nat) (v1 : Int32) (s : jS) (ht0 : t0 < 4) {p : jS} (h : F_X5_addWord t0 v1 s = some p) : jM l D G KV yX5_addWord cX5_addWord 2 none rm_X5_addWord [.ref (ad (2 + 4 * t0)), .int v1] (jw 54 (cellC G nd) ad s) 0 0 (fun v u => v = none ∧ u = jw 54 (cellC G nd) ad p) := by
  refine jM.of (by decide) (Nat.le_of_ble_eq_true rfl) ?_
  intro K C
  unfold F_X5_addWord at h
  show K 0 0 (jw 54 (cellC G nd) ad s) 0 [(0, .ref (ad (2 + 4 * t0))), (1, .int v1)] []
  refine j_aload_n C dX5_addWord_0 0 rfl ?_
  refine j_getW C dX5_addWord_1 inX5 rfl (cTq0 ht0) (cT0 ht0) 3 (by decide) w_45 rfl rfl ?_
  refine j_if_lt C dX5_addWord_4 (tgt := 37) (by decide) (fun cq => ?_) (fun cq => ?_)
  · have h := jite_t h cq
    exact j_vret C dX5_addWord_37 rfl (Nat.zero_le _) (Nat.zero_le _) (jretWV h)
  · have h := jite_f h cq
    refine j_aload_n C dX5_addWord_7 0 rfl ?_
    refine j_getW C dX5_addWord_8 inX5 rfl (cTq0 ht0) (cT0 ht0) 3 (by decide) w_45 rfl rfl ?_
    refine j_sipush C dX5_addWord_11 (v := 300) (by decide) ?_
    refine j_icmp_ge C dX5_addWord_14 (tgt := 37) (by decide) (fun cq => ?_) (fun cq => ?_)
    · have h := jite_t h cq
      exact j_vret C dX5_addWord_37 rfl (Nat.zero_le _) (Nat.zero_le _) (jretWV h)
    · have h := jite_f h cq
      refine j_aload_n C dX5_addWord_17 0 rfl ?_
      refine j_getW C dX5_addWord_18 inX5 rfl (cTq0 ht0) (cT0 ht0) 0 (by decide) w_39 rfl rfl ?_
      refine j_aload_n C dX5_addWord_21 0 rfl ?_
      refine j_getW C dX5_addWord_22 inX5 rfl (cTq0 ht0) (cT0 ht0) 3 (by decide) w_45 rfl rfl ?_
      refine j_iload_n C dX5_addWord_25 1 rfl ?_
      obtain ⟨c26_1, h⟩ := jchk h
      refine j_iastW C dX5_addWord_26 (cTq1 ht0) (fun _ => (cT1 ht0)) (jin_vp c26_1) (fun s26_2 hs26_2 => ?_)
      have h := jlet h hs26_2
      refine j_aload_n C dX5_addWord_27 0 rfl ?_
      refine j_dup C dX5_addWord_28 rfl ?_
      refine j_getW C dX5_addWord_29 inX5 rfl (cTq0 ht0) (cT0 ht0) 3 (by decide) w_45 rfl rfl ?_
      refine j_iconst C dX5_addWord_32 (v := 1) (by decide) ?_
      refine j_iadd C dX5_addWord_33 ?_
      refine j_putI C dX5_addWord_34 inX5 tyX5 tyX5_ok nmX5 rfl (cTq0 ht0) 3 (cT0 ht0) (cT0 ht0) (by decide) w_45 rfl rfl rfl rfl (Nat.le_of_ble_eq_true rfl) (fun s34_3 hs34_3 => ?_)
      have h := jlet h hs34_3
      exact j_vret C dX5_addWord_37 rfl (Nat.zero_le _) (Nat.zero_le _) (jretWV h)
-- X5_addName
def F_X5_addName (t0 : Nat) (v1 : Int32) (s : jS) : Option jS :=
  ((F_X5_addWord t0 (10000 + v1) s).bind fun p6 => (jl (upI p6 (2 + 4 * t0) 5 ((p6.1 (2 + 4 * t0) 5) ||| ((1 : Int32) <<< (v1 &&& 31)))) fun s18_1 => some s18_1))
def rm_X5_addName : Room := { frames := 1, cells := 0, slots := 0, locals := 21 }
set_option maxHeartbeats 4000000 in
set_option maxRecDepth 100000 in
theorem m_X5_addName {l : Launch} {D : va_G} {G : Nat → ClassId} {KV : jV} {ad : Nat → Nat} {nd : Nat} (t0 : Nat) (v1 : Int32) (s : jS) (ht0 : t0 < 4) {p : jS} (h : F_X5_addName t0 v1 s = some p) : jM l D G KV yX5_addName cX5_addName 2 none rm_X5_addName [.ref (ad (2 + 4 * t0)), .int v1] (jw 54 (cellC G nd) ad s) 0 0 (fun v u => v = none ∧ u = jw 54 (cellC G nd) ad p) := by
  refine jM.of (by decide) (Nat.le_of_ble_eq_true rfl) ?_
  intro K C
  unfold F_X5_addName at h
  show K 0 0 (jw 54 (cellC G nd) ad s) 0 [(0, .ref (ad (2 + 4 * t0))), (1, .int v1)] []
  refine j_aload_n C dX5_addName_0 0 rfl ?_
  refine j_sipush C dX5_addName_1 (v := 10000) (by decide) ?_
  refine j_iload_n C dX5_addName_4 1 rfl ?_
  refine j_iadd C dX5_addName_5 ?_
  obtain ⟨p6, he6, h⟩ := jbind h
  refine j_cV0 C dX5_addName_6 (m_X5_addWord t0 (10000 + v1) s ht0 he6) kc_X5_addWord w_602 w_603 w_604 w_3 jy_X5_addWord ⟨⟨Nat.le_of_ble_eq_true rfl, Nat.le_of_ble_eq_true rfl⟩, ⟨rfl, rfl⟩, ⟨Nat.zero_le _, Nat.zero_le _⟩⟩ (Nat.le_of_ble_eq_true rfl) (cTq0 ht0) (cT0 ht0) (r := (RX5, TX5, 7)) rfl rfl rfl (fun _ _ h => h) ?_
  refine j_aload_n C dX5_addName_9 0 rfl ?_
  refine j_dup C dX5_addName_10 rfl ?_
  refine j_getW C dX5_addName_11 inX5 rfl (cTq0 ht0) (cT0 ht0) 5 (by decide) w_50 rfl rfl ?_
  refine j_iconst C dX5_addName_14 (v := 1) (by decide) ?_
  refine j_iload_n C dX5_addName_15 1 rfl ?_
  refine j_ishl C dX5_addName_16 ?_
  refine j_ior C dX5_addName_17 ?_
  refine j_putI C dX5_addName_18 inX5 tyX5 tyX5_ok nmX5 rfl (cTq0 ht0) 5 (cT0 ht0) (cT0 ht0) (by decide) w_50 rfl rfl rfl rfl (Nat.le_of_ble_eq_true rfl) (fun s18_1 hs18_1 => ?_)
  have h := jlet h hs18_1
  exact j_vret C dX5_addName_21 rfl (Nat.zero_le _) (Nat.zero_le _) (jretWV h)
-- X1_levelOf
def F_X1_levelOf (v0 : Int32) : Int32 :=
  (if v0 = 11 then 1 else (if v0 = 12 then 2 else (if v0 = 13 then 3 else (if v0 = 14 then 4 else (if v0 = 15 then 4 else (if v0 = 16 then 4 else (if v0 = 17 then 4 else (if v0 = 18 then 4 else (if v0 = 19 then 4 else (if v0 = 20 then 5 else (if v0 = 21 then 5 else (if v0 = 22 then 6 else (if v0 = 23 then 6 else (if v0 = 24 then 7 else 0))))))))))))))
def rm_X1_levelOf : Room := { frames := 0, cells := 0, slots := 0, locals := 0 }
set_option maxHeartbeats 4000000 in
set_option maxRecDepth 100000 in
theorem m_X1_levelOf {l : Launch} {D : va_G} {G : Nat → ClassId} {KV : jV} {ad : Nat → Nat} {nd : Nat} {s : jS} (v0 : Int32) {p : Int32} (h : F_X1_levelOf v0 = p) : jM l D G KV yX1_levelOf cX1_levelOf 1 (some .int) rm_X1_levelOf [.int v0] (jw 54 (cellC G nd) ad s) 0 0 (fun v u => v = some (.int p) ∧ u = jw 54 (cellC G nd) ad s) := by
  refine jM.of (by decide) (Nat.le_of_ble_eq_true rfl) ?_
  intro K C
  unfold F_X1_levelOf at h
  show K 0 0 (jw 54 (cellC G nd) ad s) 0 [(0, .int v0)] []
  refine j_iload_n C dX1_levelOf_0 0 rfl ?_
  by_cases cs11 : v0 = 11
  · have h := jite_t h cs11
    refine j_tinE C dX1_levelOf_1 cs11 (by decide) (by decide) (off := 71) (by decide) (tgt := 72) (by decide) ?_
    refine j_iconst C dX1_levelOf_72 (v := 1) (by decide) ?_
    exact j_iret C dX1_levelOf_73 rfl rfl (Nat.zero_le _) (Nat.zero_le _) (jretTI h)
  have h := jite_f h cs11
  by_cases cs12 : v0 = 12
  · have h := jite_t h cs12
    refine j_tinE C dX1_levelOf_1 cs12 (by decide) (by decide) (off := 73) (by decide) (tgt := 74) (by decide) ?_
    refine j_iconst C dX1_levelOf_74 (v := 2) (by decide) ?_
    exact j_iret C dX1_levelOf_75 rfl rfl (Nat.zero_le _) (Nat.zero_le _) (jretTI h)
  have h := jite_f h cs12
  by_cases cs13 : v0 = 13
  · have h := jite_t h cs13
    refine j_tinE C dX1_levelOf_1 cs13 (by decide) (by decide) (off := 75) (by decide) (tgt := 76) (by decide) ?_
    refine j_iconst C dX1_levelOf_76 (v := 3) (by decide) ?_
    exact j_iret C dX1_levelOf_77 rfl rfl (Nat.zero_le _) (Nat.zero_le _) (jretTI h)
  have h := jite_f h cs13
  by_cases cs14 : v0 = 14
  · have h := jite_t h cs14
    refine j_tinE C dX1_levelOf_1 cs14 (by decide) (by decide) (off := 77) (by decide) (tgt := 78) (by decide) ?_
    refine j_iconst C dX1_levelOf_78 (v := 4) (by decide) ?_
    exact j_iret C dX1_levelOf_79 rfl rfl (Nat.zero_le _) (Nat.zero_le _) (jretTI h)
  have h := jite_f h cs14
  by_cases cs15 : v0 = 15
  · have h := jite_t h cs15
    refine j_tinE C dX1_levelOf_1 cs15 (by decide) (by decide) (off := 77) (by decide) (tgt := 78) (by decide) ?_
    refine j_iconst C dX1_levelOf_78 (v := 4) (by decide) ?_
    exact j_iret C dX1_levelOf_79 rfl rfl (Nat.zero_le _) (Nat.zero_le _) (jretTI h)
  have h := jite_f h cs15
  by_cases cs16 : v0 = 16
  · have h := jite_t h cs16
    refine j_tinE C dX1_levelOf_1 cs16 (by decide) (by decide) (off := 77) (by decide) (tgt := 78) (by decide) ?_
    refine j_iconst C dX1_levelOf_78 (v := 4) (by decide) ?_
    exact j_iret C dX1_levelOf_79 rfl rfl (Nat.zero_le _) (Nat.zero_le _) (jretTI h)
  have h := jite_f h cs16
  by_cases cs17 : v0 = 17
  · have h := jite_t h cs17
    refine j_tinE C dX1_levelOf_1 cs17 (by decide) (by decide) (off := 77) (by decide) (tgt := 78) (by decide) ?_
    refine j_iconst C dX1_levelOf_78 (v := 4) (by decide) ?_
    exact j_iret C dX1_levelOf_79 rfl rfl (Nat.zero_le _) (Nat.zero_le _) (jretTI h)
  have h := jite_f h cs17
  by_cases cs18 : v0 = 18
  · have h := jite_t h cs18
    refine j_tinE C dX1_levelOf_1 cs18 (by decide) (by decide) (off := 77) (by decide) (tgt := 78) (by decide) ?_
    refine j_iconst C dX1_levelOf_78 (v := 4) (by decide) ?_
    exact j_iret C dX1_levelOf_79 rfl rfl (Nat.zero_le _) (Nat.zero_le _) (jretTI h)
  have h := jite_f h cs18
  by_cases cs19 : v0 = 19
  · have h := jite_t h cs19
    refine j_tinE C dX1_levelOf_1 cs19 (by decide) (by decide) (off := 77) (by decide) (tgt := 78) (by decide) ?_
    refine j_iconst C dX1_levelOf_78 (v := 4) (by decide) ?_
    exact j_iret C dX1_levelOf_79 rfl rfl (Nat.zero_le _) (Nat.zero_le _) (jretTI h)
  have h := jite_f h cs19
  by_cases cs20 : v0 = 20
  · have h := jite_t h cs20
    refine j_tinE C dX1_levelOf_1 cs20 (by decide) (by decide) (off := 79) (by decide) (tgt := 80) (by decide) ?_
    refine j_iconst C dX1_levelOf_80 (v := 5) (by decide) ?_
    exact j_iret C dX1_levelOf_81 rfl rfl (Nat.zero_le _) (Nat.zero_le _) (jretTI h)
  have h := jite_f h cs20
  by_cases cs21 : v0 = 21
  · have h := jite_t h cs21
    refine j_tinE C dX1_levelOf_1 cs21 (by decide) (by decide) (off := 79) (by decide) (tgt := 80) (by decide) ?_
    refine j_iconst C dX1_levelOf_80 (v := 5) (by decide) ?_
    exact j_iret C dX1_levelOf_81 rfl rfl (Nat.zero_le _) (Nat.zero_le _) (jretTI h)
  have h := jite_f h cs21
  by_cases cs22 : v0 = 22
  · have h := jite_t h cs22
    refine j_tinE C dX1_levelOf_1 cs22 (by decide) (by decide) (off := 81) (by decide) (tgt := 82) (by decide) ?_
    refine j_bipush C dX1_levelOf_82 (v := 6) (by decide) ?_
    exact j_iret C dX1_levelOf_84 rfl rfl (Nat.zero_le _) (Nat.zero_le _) (jretTI h)
  have h := jite_f h cs22
  by_cases cs23 : v0 = 23
  · have h := jite_t h cs23
    refine j_tinE C dX1_levelOf_1 cs23 (by decide) (by decide) (off := 81) (by decide) (tgt := 82) (by decide) ?_
    refine j_bipush C dX1_levelOf_82 (v := 6) (by decide) ?_
    exact j_iret C dX1_levelOf_84 rfl rfl (Nat.zero_le _) (Nat.zero_le _) (jretTI h)
  have h := jite_f h cs23
  by_cases cs24 : v0 = 24
  · have h := jite_t h cs24
    refine j_tinE C dX1_levelOf_1 cs24 (by decide) (by decide) (off := 84) (by decide) (tgt := 85) (by decide) ?_
    refine j_bipush C dX1_levelOf_85 (v := 7) (by decide) ?_
    exact j_iret C dX1_levelOf_87 rfl rfl (Nat.zero_le _) (Nat.zero_le _) (jretTI h)
  have h := jite_f h cs24
  refine j_tout C dX1_levelOf_1 (jtsw (by decide) (by decide) (fun z h1 h2 => ?_)) (tgt := 88) (by decide) ?_
  · have hz : z = 11 ∨ z = 12 ∨ z = 13 ∨ z = 14 ∨ z = 15 ∨ z = 16 ∨ z = 17 ∨ z = 18 ∨ z = 19 ∨ z = 20 ∨ z = 21 ∨ z = 22 ∨ z = 23 ∨ z = 24 := by omega
    rcases hz with rfl | rfl | rfl | rfl | rfl | rfl | rfl | rfl | rfl | rfl | rfl | rfl | rfl | rfl
    all_goals first | exact cs11 | exact cs12 | exact cs13 | exact cs14 | exact cs15 | exact cs16 | exact cs17 | exact cs18 | exact cs19 | exact cs20 | exact cs21 | exact cs22 | exact cs23 | exact cs24
  refine j_iconst C dX1_levelOf_88 (v := 0) (by decide) ?_
  exact j_iret C dX1_levelOf_89 rfl rfl (Nat.zero_le _) (Nat.zero_le _) (jretTI h)
