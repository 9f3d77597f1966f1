theorem dX8_knocked_0 : decode cX8_knocked 0 = .ok (.aload_n 0, 1) := by decide +kernel
theorem dX8_knocked_1 : decode cX8_knocked 1 = .ok (.getfield 41, 3) := by decide +kernel
theorem dX8_knocked_4 : decode cX8_knocked 4 = .ok (.getfield 145, 3) := by decide +kernel
theorem dX8_knocked_7 : decode cX8_knocked 7 = .ok (.astore_n 3, 1) := by decide +kernel
theorem dX8_knocked_8 : decode cX8_knocked 8 = .ok (.aload_n 0, 1) := by decide +kernel
theorem dX8_knocked_9 : decode cX8_knocked 9 = .ok (.getfield 41, 3) := by decide +kernel
theorem dX8_knocked_12 : decode cX8_knocked 12 = .ok (.getfield 130, 3) := by decide +kernel
theorem dX8_knocked_15 : decode cX8_knocked 15 = .ok (.aload_n 3, 1) := by decide +kernel
theorem dX8_knocked_16 : decode cX8_knocked 16 = .ok (.getfield 190, 3) := by decide +kernel
theorem dX8_knocked_19 : decode cX8_knocked 19 = .ok (.iaload, 1) := by decide +kernel
theorem dX8_knocked_20 : decode cX8_knocked 20 = .ok (.istore 4, 2) := by decide +kernel
theorem dX8_knocked_22 : decode cX8_knocked 22 = .ok (.aload_n 0, 1) := by decide +kernel
theorem dX8_knocked_23 : decode cX8_knocked 23 = .ok (.getfield 41, 3) := by decide +kernel
theorem dX8_knocked_26 : decode cX8_knocked 26 = .ok (.getfield 103, 3) := by decide +kernel
theorem dX8_knocked_29 : decode cX8_knocked 29 = .ok (.aload_n 3, 1) := by decide +kernel
theorem dX8_knocked_30 : decode cX8_knocked 30 = .ok (.getfield 190, 3) := by decide +kernel
theorem dX8_knocked_33 : decode cX8_knocked 33 = .ok (.baload, 1) := by decide +kernel
theorem dX8_knocked_34 : decode cX8_knocked 34 = .ok (.ifCond .ne 47, 3) := by decide +kernel
theorem dX8_knocked_37 : decode cX8_knocked 37 = .ok (.aload_n 3, 1) := by decide +kernel
theorem dX8_knocked_38 : decode cX8_knocked 38 = .ok (.getfield 201, 3) := by decide +kernel
theorem dX8_knocked_41 : decode cX8_knocked 41 = .ok (.aload_n 3, 1) := by decide +kernel
theorem dX8_knocked_42 : decode cX8_knocked 42 = .ok (.getfield 190, 3) := by decide +kernel
theorem dX8_knocked_45 : decode cX8_knocked 45 = .ok (.invokestatic 204, 3) := by decide +kernel
theorem dX8_knocked_48 : decode cX8_knocked 48 = .ok (.ifCond .ne 33, 3) := by decide +kernel
theorem dX8_knocked_51 : decode cX8_knocked 51 = .ok (.aload_n 0, 1) := by decide +kernel
theorem dX8_knocked_52 : decode cX8_knocked 52 = .ok (.getfield 65, 3) := by decide +kernel
theorem dX8_knocked_55 : decode cX8_knocked 55 = .ok (.iload 4, 2) := by decide +kernel
theorem dX8_knocked_57 : decode cX8_knocked 57 = .ok (.aload_n 3, 1) := by decide +kernel
theorem dX8_knocked_58 : decode cX8_knocked 58 = .ok (.getfield 190, 3) := by decide +kernel
theorem dX8_knocked_61 : decode cX8_knocked 61 = .ok (.aload_n 3, 1) := by decide +kernel
theorem dX8_knocked_62 : decode cX8_knocked 62 = .ok (.getfield 168, 3) := by decide +kernel
theorem dX8_knocked_65 : decode cX8_knocked 65 = .ok (.iload_n 1, 1) := by decide +kernel
theorem dX8_knocked_66 : decode cX8_knocked 66 = .ok (.iload_n 2, 1) := by decide +kernel
theorem dX8_knocked_67 : decode cX8_knocked 67 = .ok (.aload_n 3, 1) := by decide +kernel
theorem dX8_knocked_68 : decode cX8_knocked 68 = .ok (.getfield 193, 3) := by decide +kernel
theorem dX8_knocked_71 : decode cX8_knocked 71 = .ok (.aload_n 3, 1) := by decide +kernel
theorem dX8_knocked_72 : decode cX8_knocked 72 = .ok (.getfield 198, 3) := by decide +kernel
theorem dX8_knocked_75 : decode cX8_knocked 75 = .ok (.invokevirtual 137, 3) := by decide +kernel
theorem dX8_knocked_78 : decode cX8_knocked 78 = .ok (.ifCond .eq 7, 3) := by decide +kernel
theorem dX8_knocked_81 : decode cX8_knocked 81 = .ok (.iconst 1, 1) := by decide +kernel
theorem dX8_knocked_82 : decode cX8_knocked 82 = .ok (.goto 4, 3) := by decide +kernel
theorem dX8_knocked_85 : decode cX8_knocked 85 = .ok (.iconst 0, 1) := by decide +kernel
theorem dX8_knocked_86 : decode cX8_knocked 86 = .ok (.istore 5, 2) := by decide +kernel
theorem dX8_knocked_88 : decode cX8_knocked 88 = .ok (.aload_n 3, 1) := by decide +kernel
theorem dX8_knocked_89 : decode cX8_knocked 89 = .ok (.invokevirtual 264, 3) := by decide +kernel
theorem dX8_knocked_92 : decode cX8_knocked 92 = .ok (.aload_n 3, 1) := by decide +kernel
theorem dX8_knocked_93 : decode cX8_knocked 93 = .ok (.invokevirtual 267, 3) := by decide +kernel
theorem dX8_knocked_96 : decode cX8_knocked 96 = .ok (.iload 5, 2) := by decide +kernel
theorem dX8_knocked_98 : decode cX8_knocked 98 = .ok (.ifCond .eq 31, 3) := by decide +kernel
theorem dX8_knocked_101 : decode cX8_knocked 101 = .ok (.aload_n 3, 1) := by decide +kernel
theorem dX8_knocked_102 : decode cX8_knocked 102 = .ok (.dup, 1) := by decide +kernel
theorem dX8_knocked_103 : decode cX8_knocked 103 = .ok (.getfield 195, 3) := by decide +kernel
theorem dX8_knocked_106 : decode cX8_knocked 106 = .ok (.iload_n 2, 1) := by decide +kernel
theorem dX8_knocked_107 : decode cX8_knocked 107 = .ok (.isub, 1) := by decide +kernel
theorem dX8_knocked_108 : decode cX8_knocked 108 = .ok (.putfield 195, 3) := by decide +kernel
theorem dX8_knocked_111 : decode cX8_knocked 111 = .ok (.aload_n 3, 1) := by decide +kernel
theorem dX8_knocked_112 : decode cX8_knocked 112 = .ok (.dup, 1) := by decide +kernel
theorem dX8_knocked_113 : decode cX8_knocked 113 = .ok (.getfield 190, 3) := by decide +kernel
theorem dX8_knocked_116 : decode cX8_knocked 116 = .ok (.iconst 1, 1) := by decide +kernel
theorem dX8_knocked_117 : decode cX8_knocked 117 = .ok (.iadd, 1) := by decide +kernel
theorem dX8_knocked_118 : decode cX8_knocked 118 = .ok (.putfield 190, 3) := by decide +kernel
theorem dX8_knocked_121 : decode cX8_knocked 121 = .ok (.aload_n 3, 1) := by decide +kernel
theorem dX8_knocked_122 : decode cX8_knocked 122 = .ok (.iconst 0, 1) := by decide +kernel
theorem dX8_knocked_123 : decode cX8_knocked 123 = .ok (.putfield 193, 3) := by decide +kernel
theorem dX8_knocked_126 : decode cX8_knocked 126 = .ok (.goto 7, 3) := by decide +kernel
theorem dX8_knocked_129 : decode cX8_knocked 129 = .ok (.aload_n 3, 1) := by decide +kernel
theorem dX8_knocked_130 : decode cX8_knocked 130 = .ok (.invokevirtual 270, 3) := by decide +kernel
theorem dX8_knocked_133 : decode cX8_knocked 133 = .ok (.iload 5, 2) := by decide +kernel
theorem dX8_knocked_135 : decode cX8_knocked 135 = .ok (.ireturn, 1) := by decide +kernel
theorem dX8_knock_0 : decode cX8_knock 0 = .ok (.aload_n 0, 1) := by decide +kernel
theorem dX8_knock_1 : decode cX8_knock 1 = .ok (.iload_n 1, 1) := by decide +kernel
theorem dX8_knock_2 : decode cX8_knock 2 = .ok (.iload_n 2, 1) := by decide +kernel
theorem dX8_knock_3 : decode cX8_knock 3 = .ok (.invokevirtual 155, 3) := by decide +kernel
theorem dX8_knock_6 : decode cX8_knock 6 = .ok (.ifCond .ne 5, 3) := by decide +kernel
theorem dX8_knock_9 : decode cX8_knock 9 = .ok (.iconst (-1), 1) := by decide +kernel
theorem dX8_knock_10 : decode cX8_knock 10 = .ok (.ireturn, 1) := by decide +kernel
theorem dX8_knock_11 : decode cX8_knock 11 = .ok (.aload_n 0, 1) := by decide +kernel
theorem dX8_knock_12 : decode cX8_knock 12 = .ok (.iload_n 1, 1) := by decide +kernel
theorem dX8_knock_13 : decode cX8_knock 13 = .ok (.iload_n 2, 1) := by decide +kernel
theorem dX8_knock_14 : decode cX8_knock 14 = .ok (.invokevirtual 159, 3) := by decide +kernel
theorem dX8_knock_17 : decode cX8_knock 17 = .ok (.ifCond .eq 7, 3) := by decide +kernel
theorem dX8_knock_20 : decode cX8_knock 20 = .ok (.iconst 1, 1) := by decide +kernel
theorem dX8_knock_21 : decode cX8_knock 21 = .ok (.goto 4, 3) := by decide +kernel
theorem dX8_knock_24 : decode cX8_knock 24 = .ok (.iconst 0, 1) := by decide +kernel
theorem dX8_knock_25 : decode cX8_knock 25 = .ok (.ireturn, 1) := by decide +kernel
theorem dX8_canWait_0 : decode cX8_canWait 0 = .ok (.aload_n 0, 1) := by decide +kernel
theorem dX8_canWait_1 : decode cX8_canWait 1 = .ok (.aload_n 0, 1) := by decide +kernel
theorem dX8_canWait_2 : decode cX8_canWait 2 = .ok (.getfield 41, 3) := by decide +kernel
theorem dX8_canWait_5 : decode cX8_canWait 5 = .ok (.getfield 145, 3) := by decide +kernel
theorem dX8_canWait_8 : decode cX8_canWait 8 = .ok (.getfield 190, 3) := by decide +kernel
theorem dX8_canWait_11 : decode cX8_canWait 11 = .ok (.invokevirtual 97, 3) := by decide +kernel
theorem dX8_canWait_14 : decode cX8_canWait 14 = .ok (.ifCond .eq 17, 3) := by decide +kernel
theorem dX8_canWait_17 : decode cX8_canWait 17 = .ok (.iload_n 1, 1) := by decide +kernel
theorem dX8_canWait_18 : decode cX8_canWait 18 = .ok (.iconst 0, 1) := by decide +kernel
theorem dX8_canWait_19 : decode cX8_canWait 19 = .ok (.bipush 24, 2) := by decide +kernel
theorem dX8_canWait_21 : decode cX8_canWait 21 = .ok (.invokestatic 86, 3) := by decide +kernel
theorem dX8_canWait_24 : decode cX8_canWait 24 = .ok (.ifCond .eq 7, 3) := by decide +kernel
theorem dX8_canWait_27 : decode cX8_canWait 27 = .ok (.iconst 1, 1) := by decide +kernel
theorem dX8_canWait_28 : decode cX8_canWait 28 = .ok (.goto 4, 3) := by decide +kernel
theorem dX8_canWait_31 : decode cX8_canWait 31 = .ok (.iconst 0, 1) := by decide +kernel
theorem dX8_canWait_32 : decode cX8_canWait 32 = .ok (.ireturn, 1) := by decide +kernel
theorem dX8_waited_0 : decode cX8_waited 0 = .ok (.iconst 0, 1) := by decide +kernel
theorem dX8_waited_1 : decode cX8_waited 1 = .ok (.istore_n 2, 1) := by decide +kernel
theorem dX8_waited_2 : decode cX8_waited 2 = .ok (.iload_n 2, 1) := by decide +kernel
theorem dX8_waited_3 : decode cX8_waited 3 = .ok (.iload_n 1, 1) := by decide +kernel
theorem dX8_waited_4 : decode cX8_waited 4 = .ok (.if_icmp .ge 39, 3) := by decide +kernel
theorem dX8_waited_7 : decode cX8_waited 7 = .ok (.aload_n 0, 1) := by decide +kernel
theorem dX8_waited_8 : decode cX8_waited 8 = .ok (.getfield 41, 3) := by decide +kernel
theorem dX8_waited_11 : decode cX8_waited 11 = .ok (.getfield 145, 3) := by decide +kernel
theorem dX8_waited_14 : decode cX8_waited 14 = .ok (.invokevirtual 264, 3) := by decide +kernel
theorem dX8_waited_17 : decode cX8_waited 17 = .ok (.aload_n 0, 1) := by decide +kernel
theorem dX8_waited_18 : decode cX8_waited 18 = .ok (.getfield 41, 3) := by decide +kernel
theorem dX8_waited_21 : decode cX8_waited 21 = .ok (.getfield 145, 3) := by decide +kernel
theorem dX8_waited_24 : decode cX8_waited 24 = .ok (.invokevirtual 267, 3) := by decide +kernel
theorem dX8_waited_27 : decode cX8_waited 27 = .ok (.aload_n 0, 1) := by decide +kernel
theorem dX8_waited_28 : decode cX8_waited 28 = .ok (.getfield 41, 3) := by decide +kernel
theorem dX8_waited_31 : decode cX8_waited 31 = .ok (.getfield 145, 3) := by decide +kernel
theorem dX8_waited_34 : decode cX8_waited 34 = .ok (.invokevirtual 270, 3) := by decide +kernel
theorem dX8_waited_37 : decode cX8_waited 37 = .ok (.iinc 2 1, 3) := by decide +kernel
theorem dX8_waited_40 : decode cX8_waited 40 = .ok (.goto (-38), 3) := by decide +kernel
theorem dX8_waited_43 : decode cX8_waited 43 = .ok (.return_, 1) := by decide +kernel
theorem dX8_later_0 : decode cX8_later 0 = .ok (.aload_n 0, 1) := by decide +kernel
theorem dX8_later_1 : decode cX8_later 1 = .ok (.iload_n 1, 1) := by decide +kernel
theorem dX8_later_2 : decode cX8_later 2 = .ok (.invokevirtual 162, 3) := by decide +kernel
theorem dX8_later_5 : decode cX8_later 5 = .ok (.ifCond .ne 5, 3) := by decide +kernel
theorem dX8_later_8 : decode cX8_later 8 = .ok (.iconst (-1), 1) := by decide +kernel
theorem dX8_later_9 : decode cX8_later 9 = .ok (.ireturn, 1) := by decide +kernel
theorem dX8_later_10 : decode cX8_later 10 = .ok (.aload_n 0, 1) := by decide +kernel
theorem dX8_later_11 : decode cX8_later 11 = .ok (.iload_n 1, 1) := by decide +kernel
theorem dX8_later_12 : decode cX8_later 12 = .ok (.invokevirtual 165, 3) := by decide +kernel
theorem dX8_later_15 : decode cX8_later 15 = .ok (.aload_n 0, 1) := by decide +kernel
theorem dX8_later_16 : decode cX8_later 16 = .ok (.getfield 41, 3) := by decide +kernel
theorem dX8_later_19 : decode cX8_later 19 = .ok (.getfield 145, 3) := by decide +kernel
theorem dX8_later_22 : decode cX8_later 22 = .ok (.getfield 168, 3) := by decide +kernel
theorem dX8_later_25 : decode cX8_later 25 = .ok (.ireturn, 1) := by decide +kernel
theorem dX8_clauseDone_0 : decode cX8_clauseDone 0 = .ok (.iload_n 1, 1) := by decide +kernel
theorem dX8_clauseDone_1 : decode cX8_clauseDone 1 = .ok (.iconst (-1), 1) := by decide +kernel
theorem dX8_clauseDone_2 : decode cX8_clauseDone 2 = .ok (.if_icmp .ne 5, 3) := by decide +kernel
theorem dX8_clauseDone_5 : decode cX8_clauseDone 5 = .ok (.iconst 1, 1) := by decide +kernel
theorem dX8_clauseDone_6 : decode cX8_clauseDone 6 = .ok (.ireturn, 1) := by decide +kernel
theorem dX8_clauseDone_7 : decode cX8_clauseDone 7 = .ok (.iload_n 1, 1) := by decide +kernel
theorem dX8_clauseDone_8 : decode cX8_clauseDone 8 = .ok (.ifCond .ne 24, 3) := by decide +kernel
theorem dX8_clauseDone_11 : decode cX8_clauseDone 11 = .ok (.aload_n 0, 1) := by decide +kernel
theorem dX8_clauseDone_12 : decode cX8_clauseDone 12 = .ok (.iload_n 2, 1) := by decide +kernel
theorem dX8_clauseDone_13 : decode cX8_clauseDone 13 = .ok (.invokevirtual 162, 3) := by decide +kernel
theorem dX8_clauseDone_16 : decode cX8_clauseDone 16 = .ok (.istore_n 3, 1) := by decide +kernel
theorem dX8_clauseDone_17 : decode cX8_clauseDone 17 = .ok (.aload_n 0, 1) := by decide +kernel
theorem dX8_clauseDone_18 : decode cX8_clauseDone 18 = .ok (.iload_n 3, 1) := by decide +kernel
theorem dX8_clauseDone_19 : decode cX8_clauseDone 19 = .ok (.ifCond .eq 7, 3) := by decide +kernel
theorem dX8_clauseDone_22 : decode cX8_clauseDone 22 = .ok (.iload_n 2, 1) := by decide +kernel
theorem dX8_clauseDone_23 : decode cX8_clauseDone 23 = .ok (.goto 4, 3) := by decide +kernel
theorem dX8_clauseDone_26 : decode cX8_clauseDone 26 = .ok (.iconst 0, 1) := by decide +kernel
theorem dX8_clauseDone_27 : decode cX8_clauseDone 27 = .ok (.invokevirtual 165, 3) := by decide +kernel
theorem dX8_clauseDone_30 : decode cX8_clauseDone 30 = .ok (.iload_n 3, 1) := by decide +kernel
theorem dX8_clauseDone_31 : decode cX8_clauseDone 31 = .ok (.ireturn, 1) := by decide +kernel
theorem dX8_clauseDone_32 : decode cX8_clauseDone 32 = .ok (.aload_n 0, 1) := by decide +kernel
theorem dX8_clauseDone_33 : decode cX8_clauseDone 33 = .ok (.iload_n 1, 1) := by decide +kernel
theorem dX8_clauseDone_34 : decode cX8_clauseDone 34 = .ok (.iload_n 2, 1) := by decide +kernel
theorem dX8_clauseDone_35 : decode cX8_clauseDone 35 = .ok (.invokevirtual 155, 3) := by decide +kernel
theorem dX8_clauseDone_38 : decode cX8_clauseDone 38 = .ok (.ifCond .ne 5, 3) := by decide +kernel
theorem dX8_clauseDone_41 : decode cX8_clauseDone 41 = .ok (.iconst 0, 1) := by decide +kernel
theorem dX8_clauseDone_42 : decode cX8_clauseDone 42 = .ok (.ireturn, 1) := by decide +kernel
theorem dX8_clauseDone_43 : decode cX8_clauseDone 43 = .ok (.aload_n 0, 1) := by decide +kernel
theorem dX8_clauseDone_44 : decode cX8_clauseDone 44 = .ok (.iload_n 1, 1) := by decide +kernel
theorem dX8_clauseDone_45 : decode cX8_clauseDone 45 = .ok (.iload_n 2, 1) := by decide +kernel
theorem dX8_clauseDone_46 : decode cX8_clauseDone 46 = .ok (.invokevirtual 159, 3) := by decide +kernel
theorem dX8_clauseDone_49 : decode cX8_clauseDone 49 = .ok (.pop, 1) := by decide +kernel
theorem dX8_clauseDone_50 : decode cX8_clauseDone 50 = .ok (.iconst 1, 1) := by decide +kernel
theorem dX8_clauseDone_51 : decode cX8_clauseDone 51 = .ok (.ireturn, 1) := by decide +kernel
theorem dX8_played_0 : decode cX8_played 0 = .ok (.iload_n 1, 1) := by decide +kernel
theorem dX8_played_1 : decode cX8_played 1 = .ok (.iconst 0, 1) := by decide +kernel
theorem dX8_played_2 : decode cX8_played 2 = .ok (.aload_n 0, 1) := by decide +kernel
theorem dX8_played_3 : decode cX8_played 3 = .ok (.getfield 41, 3) := by decide +kernel
theorem dX8_played_6 : decode cX8_played 6 = .ok (.getfield 117, 3) := by decide +kernel
theorem dX8_played_9 : decode cX8_played 9 = .ok (.iconst 1, 1) := by decide +kernel
theorem dX8_played_10 : decode cX8_played 10 = .ok (.isub, 1) := by decide +kernel
theorem dX8_played_11 : decode cX8_played 11 = .ok (.invokestatic 86, 3) := by decide +kernel
theorem dX8_played_14 : decode cX8_played 14 = .ok (.ifCond .eq 8, 3) := by decide +kernel
theorem dX8_played_17 : decode cX8_played 17 = .ok (.iload_n 1, 1) := by decide +kernel
theorem dX8_played_18 : decode cX8_played 18 = .ok (.iconst 4, 1) := by decide +kernel
theorem dX8_played_19 : decode cX8_played 19 = .ok (.if_icmp .lt 6, 3) := by decide +kernel
theorem dX8_played_22 : decode cX8_played 22 = .ok (.bipush (-2), 2) := by decide +kernel
theorem dX8_played_24 : decode cX8_played 24 = .ok (.ireturn, 1) := by decide +kernel
theorem dX8_played_25 : decode cX8_played 25 = .ok (.aload_n 0, 1) := by decide +kernel
theorem dX8_played_26 : decode cX8_played 26 = .ok (.getfield 48, 3) := by decide +kernel
theorem dX8_played_29 : decode cX8_played 29 = .ok (.iload_n 1, 1) := by decide +kernel
theorem dX8_played_30 : decode cX8_played 30 = .ok (.aaload, 1) := by decide +kernel
theorem dX8_played_31 : decode cX8_played 31 = .ok (.astore_n 2, 1) := by decide +kernel
theorem dX8_played_32 : decode cX8_played 32 = .ok (.iconst 0, 1) := by decide +kernel
theorem dX8_played_33 : decode cX8_played 33 = .ok (.istore_n 3, 1) := by decide +kernel
theorem dX8_played_34 : decode cX8_played 34 = .ok (.iload_n 3, 1) := by decide +kernel
theorem dX8_played_35 : decode cX8_played 35 = .ok (.aload_n 2, 1) := by decide +kernel
theorem dX8_played_36 : decode cX8_played 36 = .ok (.getfield 171, 3) := by decide +kernel
theorem dX8_played_39 : decode cX8_played 39 = .ok (.if_icmp .ge 36, 3) := by decide +kernel
theorem dX8_played_42 : decode cX8_played 42 = .ok (.iload_n 3, 1) := by decide +kernel
theorem dX8_played_43 : decode cX8_played 43 = .ok (.bipush 24, 2) := by decide +kernel
theorem dX8_played_45 : decode cX8_played 45 = .ok (.if_icmp .ge 30, 3) := by decide +kernel
theorem dX8_played_48 : decode cX8_played 48 = .ok (.aload_n 0, 1) := by decide +kernel
theorem dX8_played_49 : decode cX8_played 49 = .ok (.aload_n 2, 1) := by decide +kernel
theorem dX8_played_50 : decode cX8_played 50 = .ok (.getfield 174, 3) := by decide +kernel
theorem dX8_played_53 : decode cX8_played 53 = .ok (.iload_n 3, 1) := by decide +kernel
theorem dX8_played_54 : decode cX8_played 54 = .ok (.iaload, 1) := by decide +kernel
theorem dX8_played_55 : decode cX8_played 55 = .ok (.aload_n 2, 1) := by decide +kernel
theorem dX8_played_56 : decode cX8_played 56 = .ok (.getfield 177, 3) := by decide +kernel
theorem dX8_played_59 : decode cX8_played 59 = .ok (.iload_n 3, 1) := by decide +kernel
theorem dX8_played_60 : decode cX8_played 60 = .ok (.iaload, 1) := by decide +kernel
theorem dX8_played_61 : decode cX8_played 61 = .ok (.invokevirtual 180, 3) := by decide +kernel
theorem dX8_played_64 : decode cX8_played 64 = .ok (.ifCond .ne 5, 3) := by decide +kernel
theorem dX8_played_67 : decode cX8_played 67 = .ok (.iload_n 3, 1) := by decide +kernel
theorem dX8_played_68 : decode cX8_played 68 = .ok (.ireturn, 1) := by decide +kernel
theorem dX8_played_69 : decode cX8_played 69 = .ok (.iinc 3 1, 3) := by decide +kernel
theorem dX8_played_72 : decode cX8_played 72 = .ok (.goto (-38), 3) := by decide +kernel
theorem dX8_played_75 : decode cX8_played 75 = .ok (.iconst (-1), 1) := by decide +kernel
theorem dX8_played_76 : decode cX8_played 76 = .ok (.ireturn, 1) := by decide +kernel
theorem dX6_stepsBack_0 : decode cX6_stepsBack 0 = .ok (.aload_n 0, 1) := by decide +kernel
theorem dX6_stepsBack_1 : decode cX6_stepsBack 1 = .ok (.getfield 34, 3) := by decide +kernel
theorem dX6_stepsBack_4 : decode cX6_stepsBack 4 = .ok (.iconst 1, 1) := by decide +kernel
theorem dX6_stepsBack_5 : decode cX6_stepsBack 5 = .ok (.bipush 30, 2) := by decide +kernel
theorem dX6_stepsBack_7 : decode cX6_stepsBack 7 = .ok (.invokestatic 49, 3) := by decide +kernel
theorem dX6_stepsBack_10 : decode cX6_stepsBack 10 = .ok (.ifCond .ne 5, 3) := by decide +kernel
theorem dX6_stepsBack_13 : decode cX6_stepsBack 13 = .ok (.iconst 0, 1) := by decide +kernel
theorem dX6_stepsBack_14 : decode cX6_stepsBack 14 = .ok (.ireturn, 1) := by decide +kernel
theorem dX6_stepsBack_15 : decode cX6_stepsBack 15 = .ok (.aload_n 0, 1) := by decide +kernel
theorem dX6_stepsBack_16 : decode cX6_stepsBack 16 = .ok (.dup, 1) := by decide +kernel
theorem dX6_stepsBack_17 : decode cX6_stepsBack 17 = .ok (.getfield 34, 3) := by decide +kernel
theorem dX6_stepsBack_20 : decode cX6_stepsBack 20 = .ok (.iconst 1, 1) := by decide +kernel
theorem dX6_stepsBack_21 : decode cX6_stepsBack 21 = .ok (.isub, 1) := by decide +kernel
theorem dX6_stepsBack_22 : decode cX6_stepsBack 22 = .ok (.putfield 34, 3) := by decide +kernel
theorem dX6_stepsBack_25 : decode cX6_stepsBack 25 = .ok (.aload_n 0, 1) := by decide +kernel
theorem dX6_stepsBack_26 : decode cX6_stepsBack 26 = .ok (.getfield 9, 3) := by decide +kernel
theorem dX6_stepsBack_29 : decode cX6_stepsBack 29 = .ok (.aload_n 0, 1) := by decide +kernel
theorem dX6_stepsBack_30 : decode cX6_stepsBack 30 = .ok (.getfield 34, 3) := by decide +kernel
theorem dX6_stepsBack_33 : decode cX6_stepsBack 33 = .ok (.iaload, 1) := by decide +kernel
theorem dX6_stepsBack_34 : decode cX6_stepsBack 34 = .ok (.istore_n 1, 1) := by decide +kernel
theorem dX6_stepsBack_35 : decode cX6_stepsBack 35 = .ok (.aload_n 0, 1) := by decide +kernel
theorem dX6_stepsBack_36 : decode cX6_stepsBack 36 = .ok (.iload_n 1, 1) := by decide +kernel
theorem dX6_stepsBack_37 : decode cX6_stepsBack 37 = .ok (.bipush 100, 2) := by decide +kernel
theorem dX6_stepsBack_39 : decode cX6_stepsBack 39 = .ok (.irem, 1) := by decide +kernel
theorem dX6_stepsBack_40 : decode cX6_stepsBack 40 = .ok (.putfield 25, 3) := by decide +kernel
theorem dX6_stepsBack_43 : decode cX6_stepsBack 43 = .ok (.iload_n 1, 1) := by decide +kernel
theorem dX6_stepsBack_44 : decode cX6_stepsBack 44 = .ok (.bipush 100, 2) := by decide +kernel
theorem dX6_stepsBack_46 : decode cX6_stepsBack 46 = .ok (.idiv, 1) := by decide +kernel
theorem dX6_stepsBack_47 : decode cX6_stepsBack 47 = .ok (.istore_n 1, 1) := by decide +kernel
theorem dX6_stepsBack_48 : decode cX6_stepsBack 48 = .ok (.aload_n 0, 1) := by decide +kernel
theorem dX6_stepsBack_49 : decode cX6_stepsBack 49 = .ok (.iload_n 1, 1) := by decide +kernel
theorem dX6_stepsBack_50 : decode cX6_stepsBack 50 = .ok (.bipush 10, 2) := by decide +kernel
theorem dX6_stepsBack_52 : decode cX6_stepsBack 52 = .ok (.irem, 1) := by decide +kernel
theorem dX6_stepsBack_53 : decode cX6_stepsBack 53 = .ok (.putfield 28, 3) := by decide +kernel
theorem dX6_stepsBack_56 : decode cX6_stepsBack 56 = .ok (.iload_n 1, 1) := by decide +kernel
theorem dX6_stepsBack_57 : decode cX6_stepsBack 57 = .ok (.bipush 10, 2) := by decide +kernel
theorem dX6_stepsBack_59 : decode cX6_stepsBack 59 = .ok (.idiv, 1) := by decide +kernel
theorem dX6_stepsBack_60 : decode cX6_stepsBack 60 = .ok (.istore_n 1, 1) := by decide +kernel
theorem dX6_stepsBack_61 : decode cX6_stepsBack 61 = .ok (.aload_n 0, 1) := by decide +kernel
theorem dX6_stepsBack_62 : decode cX6_stepsBack 62 = .ok (.iload_n 1, 1) := by decide +kernel
theorem dX6_stepsBack_63 : decode cX6_stepsBack 63 = .ok (.bipush 24, 2) := by decide +kernel
theorem dX6_stepsBack_65 : decode cX6_stepsBack 65 = .ok (.irem, 1) := by decide +kernel
theorem dX6_stepsBack_66 : decode cX6_stepsBack 66 = .ok (.putfield 22, 3) := by decide +kernel
theorem dX6_stepsBack_69 : decode cX6_stepsBack 69 = .ok (.aload_n 0, 1) := by decide +kernel
theorem dX6_stepsBack_70 : decode cX6_stepsBack 70 = .ok (.iload_n 1, 1) := by decide +kernel
theorem dX6_stepsBack_71 : decode cX6_stepsBack 71 = .ok (.bipush 24, 2) := by decide +kernel
theorem dX6_stepsBack_73 : decode cX6_stepsBack 73 = .ok (.idiv, 1) := by decide +kernel
theorem dX6_stepsBack_74 : decode cX6_stepsBack 74 = .ok (.putfield 31, 3) := by decide +kernel
theorem dX6_stepsBack_77 : decode cX6_stepsBack 77 = .ok (.iconst 1, 1) := by decide +kernel
theorem dX6_stepsBack_78 : decode cX6_stepsBack 78 = .ok (.ireturn, 1) := by decide +kernel
theorem dX8_undo_0 : decode cX8_undo 0 = .ok (.aload_n 0, 1) := by decide +kernel
theorem dX8_undo_1 : decode cX8_undo 1 = .ok (.getfield 41, 3) := by decide +kernel
theorem dX8_undo_4 : decode cX8_undo 4 = .ok (.getfield 145, 3) := by decide +kernel
theorem dX8_undo_7 : decode cX8_undo 7 = .ok (.invokevirtual 183, 3) := by decide +kernel
theorem dX8_undo_10 : decode cX8_undo 10 = .ok (.ifCond .eq 16, 3) := by decide +kernel
theorem dX8_undo_13 : decode cX8_undo 13 = .ok (.aload_n 0, 1) := by decide +kernel
theorem dX8_undo_14 : decode cX8_undo 14 = .ok (.getfield 41, 3) := by decide +kernel
theorem dX8_undo_17 : decode cX8_undo 17 = .ok (.getfield 145, 3) := by decide +kernel
theorem dX8_undo_20 : decode cX8_undo 20 = .ok (.getfield 187, 3) := by decide +kernel
theorem dX8_undo_23 : decode cX8_undo 23 = .ok (.goto 4, 3) := by decide +kernel
theorem dX8_undo_26 : decode cX8_undo 26 = .ok (.iconst (-1), 1) := by decide +kernel
theorem dX8_undo_27 : decode cX8_undo 27 = .ok (.ireturn, 1) := by decide +kernel
theorem dX8_traveller_0 : decode cX8_traveller 0 = .ok (.aload_n 0, 1) := by decide +kernel
theorem dX8_traveller_1 : decode cX8_traveller 1 = .ok (.getfield 41, 3) := by decide +kernel
theorem dX8_traveller_4 : decode cX8_traveller 4 = .ok (.getfield 145, 3) := by decide +kernel
theorem dX8_traveller_7 : decode cX8_traveller 7 = .ok (.astore_n 2, 1) := by decide +kernel
theorem dX8_traveller_8 : decode cX8_traveller 8 = .ok (.iload_n 1, 1) := by decide +kernel
theorem dX8_traveller_9 : decode cX8_traveller 9 = .ok (.tableswitch 69 0 5 #[39, 44, 49, 54, 59, 64], 39) := by decide +kernel
theorem dX8_traveller_48 : decode cX8_traveller 48 = .ok (.aload_n 2, 1) := by decide +kernel
theorem dX8_traveller_49 : decode cX8_traveller 49 = .ok (.getfield 190, 3) := by decide +kernel
theorem dX8_traveller_52 : decode cX8_traveller 52 = .ok (.ireturn, 1) := by decide +kernel
theorem dX8_traveller_53 : decode cX8_traveller 53 = .ok (.aload_n 2, 1) := by decide +kernel
theorem dX8_traveller_54 : decode cX8_traveller 54 = .ok (.getfield 168, 3) := by decide +kernel
theorem dX8_traveller_57 : decode cX8_traveller 57 = .ok (.ireturn, 1) := by decide +kernel
theorem dX8_traveller_58 : decode cX8_traveller 58 = .ok (.aload_n 2, 1) := by decide +kernel
theorem dX8_traveller_59 : decode cX8_traveller 59 = .ok (.getfield 193, 3) := by decide +kernel
theorem dX8_traveller_62 : decode cX8_traveller 62 = .ok (.ireturn, 1) := by decide +kernel
theorem dX8_traveller_63 : decode cX8_traveller 63 = .ok (.aload_n 2, 1) := by decide +kernel
theorem dX8_traveller_64 : decode cX8_traveller 64 = .ok (.getfield 195, 3) := by decide +kernel
theorem dX8_traveller_67 : decode cX8_traveller 67 = .ok (.ireturn, 1) := by decide +kernel
theorem dX8_traveller_68 : decode cX8_traveller 68 = .ok (.aload_n 2, 1) := by decide +kernel
theorem dX8_traveller_69 : decode cX8_traveller 69 = .ok (.getfield 198, 3) := by decide +kernel
theorem dX8_traveller_72 : decode cX8_traveller 72 = .ok (.ireturn, 1) := by decide +kernel
theorem dX8_traveller_73 : decode cX8_traveller 73 = .ok (.aload_n 2, 1) := by decide +kernel
theorem dX8_traveller_74 : decode cX8_traveller 74 = .ok (.getfield 201, 3) := by decide +kernel
theorem dX8_traveller_77 : decode cX8_traveller 77 = .ok (.ireturn, 1) := by decide +kernel
theorem dX8_traveller_78 : decode cX8_traveller 78 = .ok (.iconst (-1), 1) := by decide +kernel
theorem dX8_traveller_79 : decode cX8_traveller 79 = .ok (.ireturn, 1) := by decide +kernel
theorem dJ7_fill_d0a16_0 : decode cJ7_fill_d0a16 0 = .ok (.iconst 0, 1) := by decide +kernel
theorem dJ7_fill_d0a16_1 : decode cJ7_fill_d0a16 1 = .ok (.istore_n 3, 1) := by decide +kernel
theorem dJ7_fill_d0a16_2 : decode cJ7_fill_d0a16 2 = .ok (.aload_n 0, 1) := by decide +kernel
theorem dJ7_fill_d0a16_3 : decode cJ7_fill_d0a16 3 = .ok (.arraylength, 1) := by decide +kernel
theorem dJ7_fill_d0a16_4 : decode cJ7_fill_d0a16 4 = .ok (.istore 4, 2) := by decide +kernel
theorem dJ7_fill_d0a16_6 : decode cJ7_fill_d0a16 6 = .ok (.iload_n 3, 1) := by decide +kernel
theorem dJ7_fill_d0a16_7 : decode cJ7_fill_d0a16 7 = .ok (.iload 4, 2) := by decide +kernel
theorem dJ7_fill_d0a16_9 : decode cJ7_fill_d0a16 9 = .ok (.if_icmp .ge 13, 3) := by decide +kernel
theorem dJ7_fill_d0a16_12 : decode cJ7_fill_d0a16 12 = .ok (.aload_n 0, 1) := by decide +kernel
theorem dJ7_fill_d0a16_13 : decode cJ7_fill_d0a16 13 = .ok (.iload_n 3, 1) := by decide +kernel
theorem dJ7_fill_d0a16_14 : decode cJ7_fill_d0a16 14 = .ok (.lload_n 1, 1) := by decide +kernel
theorem dJ7_fill_d0a16_15 : decode cJ7_fill_d0a16 15 = .ok (.lastore, 1) := by decide +kernel
theorem dJ7_fill_d0a16_16 : decode cJ7_fill_d0a16 16 = .ok (.iinc 3 1, 3) := by decide +kernel
theorem dJ7_fill_d0a16_19 : decode cJ7_fill_d0a16 19 = .ok (.goto (-13), 3) := by decide +kernel
theorem dJ7_fill_d0a16_22 : decode cJ7_fill_d0a16 22 = .ok (.return_, 1) := by decide +kernel
theorem dX3_placeOf_0 : decode cX3_placeOf 0 = .ok (.iload_n 1, 1) := by decide +kernel
theorem dX3_placeOf_1 : decode cX3_placeOf 1 = .ok (.ifCond .lt 8, 3) := by decide +kernel
theorem dX3_placeOf_4 : decode cX3_placeOf 4 = .ok (.iload_n 1, 1) := by decide +kernel
theorem dX3_placeOf_5 : decode cX3_placeOf 5 = .ok (.iconst 4, 1) := by decide +kernel
theorem dX3_placeOf_6 : decode cX3_placeOf 6 = .ok (.if_icmp .lt 5, 3) := by decide +kernel
theorem dX3_placeOf_9 : decode cX3_placeOf 9 = .ok (.iconst (-1), 1) := by decide +kernel
theorem dX3_placeOf_10 : decode cX3_placeOf 10 = .ok (.ireturn, 1) := by decide +kernel
theorem dX3_placeOf_11 : decode cX3_placeOf 11 = .ok (.aload_n 0, 1) := by decide +kernel
theorem dX3_placeOf_12 : decode cX3_placeOf 12 = .ok (.getfield 26, 3) := by decide +kernel
theorem dX3_placeOf_15 : decode cX3_placeOf 15 = .ok (.iload_n 1, 1) := by decide +kernel
theorem dX3_placeOf_16 : decode cX3_placeOf 16 = .ok (.aaload, 1) := by decide +kernel
theorem dX3_placeOf_17 : decode cX3_placeOf 17 = .ok (.getfield 48, 3) := by decide +kernel
theorem dX3_placeOf_20 : decode cX3_placeOf 20 = .ok (.istore 4, 2) := by decide +kernel
theorem dX3_placeOf_22 : decode cX3_placeOf 22 = .ok (.iload 4, 2) := by decide +kernel
theorem dX3_placeOf_24 : decode cX3_placeOf 24 = .ok (.bipush 9, 2) := by decide +kernel
theorem dX3_placeOf_26 : decode cX3_placeOf 26 = .ok (.iand, 1) := by decide +kernel
theorem dX3_placeOf_27 : decode cX3_placeOf 27 = .ok (.ifCond .eq 7, 3) := by decide +kernel
theorem dX3_placeOf_30 : decode cX3_placeOf 30 = .ok (.iload_n 2, 1) := by decide +kernel
theorem dX3_placeOf_31 : decode cX3_placeOf 31 = .ok (.goto 4, 3) := by decide +kernel
theorem dX3_placeOf_34 : decode cX3_placeOf 34 = .ok (.iconst 0, 1) := by decide +kernel
theorem dX3_placeOf_35 : decode cX3_placeOf 35 = .ok (.istore 5, 2) := by decide +kernel
theorem dX3_placeOf_37 : decode cX3_placeOf 37 = .ok (.iload 4, 2) := by decide +kernel
theorem dX3_placeOf_39 : decode cX3_placeOf 39 = .ok (.sipush 128, 3) := by decide +kernel
theorem dX3_placeOf_42 : decode cX3_placeOf 42 = .ok (.iand, 1) := by decide +kernel
theorem dX3_placeOf_43 : decode cX3_placeOf 43 = .ok (.ifCond .eq 7, 3) := by decide +kernel
theorem dX3_placeOf_46 : decode cX3_placeOf 46 = .ok (.iload_n 3, 1) := by decide +kernel
theorem dX3_placeOf_47 : decode cX3_placeOf 47 = .ok (.goto 4, 3) := by decide +kernel
theorem dX3_placeOf_50 : decode cX3_placeOf 50 = .ok (.iconst 0, 1) := by decide +kernel
theorem dX3_placeOf_51 : decode cX3_placeOf 51 = .ok (.istore 6, 2) := by decide +kernel
theorem dX3_placeOf_53 : decode cX3_placeOf 53 = .ok (.iload_n 1, 1) := by decide +kernel
theorem dX3_placeOf_54 : decode cX3_placeOf 54 = .ok (.aload_n 0, 1) := by decide +kernel
theorem dX3_placeOf_55 : decode cX3_placeOf 55 = .ok (.getfield 18, 3) := by decide +kernel
theorem dX3_placeOf_58 : decode cX3_placeOf 58 = .ok (.imul, 1) := by decide +kernel
theorem dX3_placeOf_59 : decode cX3_placeOf 59 = .ok (.iload 5, 2) := by decide +kernel
theorem dX3_placeOf_61 : decode cX3_placeOf 61 = .ok (.iadd, 1) := by decide +kernel
theorem dX3_placeOf_62 : decode cX3_placeOf 62 = .ok (.bipush 10, 2) := by decide +kernel
theorem dX3_placeOf_64 : decode cX3_placeOf 64 = .ok (.imul, 1) := by decide +kernel
theorem dX3_placeOf_65 : decode cX3_placeOf 65 = .ok (.iload 6, 2) := by decide +kernel
theorem dX3_placeOf_67 : decode cX3_placeOf 67 = .ok (.iadd, 1) := by decide +kernel
theorem dX3_placeOf_68 : decode cX3_placeOf 68 = .ok (.bipush 24, 2) := by decide +kernel
theorem dX3_placeOf_70 : decode cX3_placeOf 70 = .ok (.imul, 1) := by decide +kernel
theorem dX3_placeOf_71 : decode cX3_placeOf 71 = .ok (.ireturn, 1) := by decide +kernel
-- X8_knocked
def J_X8_knocked_86 (n : Nat) (v2 : Int32) (k0 : Bool) (s : jS) : Option (Bool × jS) :=
  ((F_X6_keepsStep_25 s).bind fun p89 => ((F_X6_hourGoes_25 p89).bind fun p93 => (if k0 = true then (jl (upI p93 25 2 ((p93.1 25 2) - v2)) fun s108_2 => (jl (upI s108_2 25 5 ((s108_2.1 25 5) + 1)) fun s118_3 => (jl (upI s118_3 25 4 0) fun s123_4 => some (k0, s123_4)))) else ((F_X6_stays_25 p93).bind fun p130 => some (k0, p130)))))
def J_X8_knocked_81 (n : Nat) (v2 : Int32) (s : jS) : Option (Bool × jS) :=
  J_X8_knocked_86 n v2 true s
def F_X8_knocked (n : Nat) (v1 : Int32) (v2 : Int32) (s : jS) : Option (Bool × jS) :=
  (if jin (s.1 25 5) 8 = true then (if (jz (s.1 22 (Int32.toNatClampNeg (s.1 25 5)))) = true then J_X8_knocked_81 n v2 s else (if (F_X8_hasKey (s.1 25 1) (s.1 25 5)) = true then J_X8_knocked_81 n v2 s else ((F_X3_opensBy n (s.1 21 (Int32.toNatClampNeg (s.1 25 5))) (s.1 25 5) (s.1 25 3) v1 v2 (s.1 25 4) (s.1 25 0) s).bind fun p75 => (if p75.1 = true then J_X8_knocked_81 n v2 p75.2 else J_X8_knocked_86 n v2 false p75.2)))) else none)
def rm_X8_knocked : Room := { frames := 3, cells := 0, slots := 0, locals := 76 }
set_option maxHeartbeats 4000000 in
set_option maxRecDepth 100000 in
theorem m_X8_knocked {l : Launch} {D : va_G} {G : Nat → ClassId} {KV : jV} {ad : Nat → Nat} {nd : Nat} (n : Nat) (v1 : Int32) (v2 : Int32) (s : jS) {p : Bool × jS} (h : F_X8_knocked n v1 v2 s = some p) : jM l D G KV yX8_knocked cX8_knocked 6 (some .boolean) rm_X8_knocked [.ref (ad 0), .int v1, .int v2] (jw 54 (cellC G nd) ad s) 0 0 (fun v u => v = some (.int (jb p.1)) ∧ u = jw 54 (cellC G nd) ad p.2) := by
  refine jM.of (by decide) (Nat.le_of_ble_eq_true rfl) ?_
  intro K C
  unfold F_X8_knocked at h
  have jn86 : ∀ (v2 : Int32) (k0 : Bool) (s : jS) (_ : J_X8_knocked_86 n v2 k0 s = some p), K 0 0 (jw 54 (cellC G nd) ad s) 86 [(2, .int v2), (3, .ref (ad 25))] [.int (jb k0)] := by
    intro v2 k0 s h
    unfold J_X8_knocked_86 at h
    refine j_istore C dX8_knocked_86 (by decide) rfl ?_
    refine j_aload_n C dX8_knocked_88 2 rfl ?_
    obtain ⟨p89, he89, h⟩ := jbind h
    refine j_cV0 C dX8_knocked_89 (m_X6_keepsStep_25 s he89) kc_X6_keepsStep w_696 w_697 w_698 w_5 jy_X6_keepsStep ⟨⟨Nat.le_of_ble_eq_true rfl, Nat.le_of_ble_eq_true rfl⟩, ⟨rfl, rfl⟩, ⟨Nat.zero_le _, Nat.zero_le _⟩⟩ (Nat.le_of_ble_eq_true rfl) (by decide) rfl (r := (RX6, TX6, 8)) rfl rfl rfl (fun _ _ h => h) ?_
    refine j_aload_n C dX8_knocked_92 2 rfl ?_
    obtain ⟨p93, he93, h⟩ := jbind h
    refine j_cV0 C dX8_knocked_93 (m_X6_hourGoes_25 p89 he93) kc_X6_hourGoes w_703 w_704 w_705 w_5 jy_X6_hourGoes ⟨⟨Nat.le_of_ble_eq_true rfl, Nat.le_of_ble_eq_true rfl⟩, ⟨rfl, rfl⟩, ⟨Nat.zero_le _, Nat.zero_le _⟩⟩ (Nat.le_of_ble_eq_true rfl) (by decide) rfl (r := (RX6, TX6, 8)) rfl rfl rfl (fun _ _ h => h) ?_
    refine j_iload C dX8_knocked_96 0 rfl ?_
    refine j_if_eq C dX8_knocked_98 (tgt := 129) (by decide) (fun cq => ?_) (fun cq => ?_)
    · have h := jite_f h (jb_f cq)
      refine j_aload_n C dX8_knocked_129 2 rfl ?_
      obtain ⟨p130, he130, h⟩ := jbind h
      refine j_cV0 C dX8_knocked_130 (m_X6_stays_25 p93 he130) kc_X6_stays w_707 w_708 w_709 w_5 jy_X6_stays ⟨⟨Nat.le_of_ble_eq_true rfl, Nat.le_of_ble_eq_true rfl⟩, ⟨rfl, rfl⟩, ⟨Nat.zero_le _, Nat.zero_le _⟩⟩ (Nat.le_of_ble_eq_true rfl) (by decide) rfl (r := (RX6, TX6, 8)) rfl rfl rfl (fun _ _ h => h) ?_
      refine j_iload C dX8_knocked_133 0 rfl ?_
      exact j_iret C dX8_knocked_135 rfl (jb_nar k0) (Nat.zero_le _) (Nat.zero_le _) (jretWB h)
    · have h := jite_t h (jb_t cq)
      refine j_aload_n C dX8_knocked_101 2 rfl ?_
      refine j_dup C dX8_knocked_102 rfl ?_
      refine j_getW C dX8_knocked_103 inX6 rfl (by decide) rfl 2 (by decide) w_88 rfl rfl ?_
      refine j_iload_n C dX8_knocked_106 1 rfl ?_
      refine j_isub C dX8_knocked_107 ?_
      refine j_putI C dX8_knocked_108 inX6 tyX6 tyX6_ok nmX6 rfl (by decide) 2 rfl rfl (by decide) w_88 rfl rfl rfl rfl (Nat.le_of_ble_eq_true rfl) (fun s108_2 hs108_2 => ?_)
      have h := jlet h hs108_2
      refine j_aload_n C dX8_knocked_111 2 rfl ?_
      refine j_dup C dX8_knocked_112 rfl ?_
      refine j_getW C dX8_knocked_113 inX6 rfl (by decide) rfl 5 (by decide) w_94 rfl rfl ?_
      refine j_iconst C dX8_knocked_116 (v := 1) (by decide) ?_
      refine j_iadd C dX8_knocked_117 ?_
      refine j_putI C dX8_knocked_118 inX6 tyX6 tyX6_ok nmX6 rfl (by decide) 5 rfl rfl (by decide) w_94 rfl rfl rfl rfl (Nat.le_of_ble_eq_true rfl) (fun s118_3 hs118_3 => ?_)
      have h := jlet h hs118_3
      refine j_aload_n C dX8_knocked_121 2 rfl ?_
      refine j_iconst C dX8_knocked_122 (v := 0) (by decide) ?_
      refine j_putI C dX8_knocked_123 inX6 tyX6 tyX6_ok nmX6 rfl (by decide) 4 rfl rfl (by decide) w_92 rfl rfl rfl rfl (Nat.le_of_ble_eq_true rfl) (fun s123_4 hs123_4 => ?_)
      have h := jlet h hs123_4
      refine j_goto C dX8_knocked_126 (tgt := 133) (by decide) ?_
      refine j_iload C dX8_knocked_133 0 rfl ?_
      exact j_iret C dX8_knocked_135 rfl (jb_nar k0) (Nat.zero_le _) (Nat.zero_le _) (jretWB h)
  have jn81 : ∀ (v2 : Int32) (s : jS) (_ : J_X8_knocked_81 n v2 s = some p), K 0 0 (jw 54 (cellC G nd) ad s) 81 [(2, .int v2), (3, .ref (ad 25))] [] := by
    intro v2 s h
    unfold J_X8_knocked_81 at h
    refine j_iconst C dX8_knocked_81 (v := 1) (by decide) ?_
    refine j_goto C dX8_knocked_82 (tgt := 86) (by decide) ?_
    refine j_loc C [0, 1] rfl ?_
    exact jn86 v2 true s  h
  show K 0 0 (jw 54 (cellC G nd) ad s) 0 [(0, .ref (ad 0)), (1, .int v1), (2, .int v2)] []
  refine j_aload_n C dX8_knocked_0 0 rfl ?_
  refine j_getW C dX8_knocked_1 inX8 rfl (by decide) rfl 1 (by decide) w_343 rfl rfl ?_
  refine j_getW C dX8_knocked_4 inX2 rfl (by decide) rfl 6 (by decide) w_134 rfl rfl ?_
  refine j_astore_n C dX8_knocked_7 (by decide) rfl ?_
  refine j_aload_n C dX8_knocked_8 1 rfl ?_
  refine j_getW C dX8_knocked_9 inX8 rfl (by decide) rfl 1 (by decide) w_343 rfl rfl ?_
  refine j_getW C dX8_knocked_12 inX2 rfl (by decide) rfl 2 (by decide) w_124 rfl rfl ?_
  refine j_aload_n C dX8_knocked_15 0 rfl ?_
  refine j_getW C dX8_knocked_16 inX6 rfl (by decide) rfl 5 (by decide) w_94 rfl rfl ?_
  obtain ⟨c19_1, h⟩ := jchk h
  refine j_ialdW C dX8_knocked_19 (by decide) rfl (jin_vp c19_1) ?_
  refine j_istore C dX8_knocked_20 (by decide) rfl ?_
  refine j_aload_n C dX8_knocked_22 2 rfl ?_
  refine j_getW C dX8_knocked_23 inX8 rfl (by decide) rfl 1 (by decide) w_343 rfl rfl ?_
  refine j_getW C dX8_knocked_26 inX2 rfl (by decide) rfl 3 (by decide) w_127 rfl rfl ?_
  refine j_aload_n C dX8_knocked_29 1 rfl ?_
  refine j_getW C dX8_knocked_30 inX6 rfl (by decide) rfl 5 (by decide) w_94 rfl rfl ?_
  refine j_zaldW C dX8_knocked_33 (by decide) rfl (jin_vp c19_1) ?_
  refine j_if_ne C dX8_knocked_34 (tgt := 81) (by decide) (fun cq => ?_) (fun cq => ?_)
  · have h := jite_t h (jb_t cq)
    refine j_loc C [4, 1] rfl ?_
    exact jn81 v2 s  h
  · have h := jite_f h (jb_f cq)
    refine j_aload_n C dX8_knocked_37 1 rfl ?_
    refine j_getW C dX8_knocked_38 inX6 rfl (by decide) rfl 1 (by decide) w_86 rfl rfl ?_
    refine j_aload_n C dX8_knocked_41 1 rfl ?_
    refine j_getW C dX8_knocked_42 inX6 rfl (by decide) rfl 5 (by decide) w_94 rfl rfl ?_
    refine j_cS1 C dX8_knocked_45 (m_X8_hasKey (s.1 25 1) (s.1 25 5) rfl) kc_X8_hasKey w_693 w_694 w_1 jy_X8_hasKey ⟨⟨Nat.le_of_ble_eq_true rfl, Nat.le_of_ble_eq_true rfl⟩, ⟨rfl, rfl⟩, ⟨Nat.zero_le _, Nat.zero_le _⟩⟩ (Nat.le_of_ble_eq_true rfl) rfl (fun _ _ h => h) ?_
    refine j_if_ne C dX8_knocked_48 (tgt := 81) (by decide) (fun cq => ?_) (fun cq => ?_)
    · have h := jite_t h (jb_t cq)
      refine j_loc C [4, 1] rfl ?_
      exact jn81 v2 s  h
    · have h := jite_f h (jb_f cq)
      refine j_aload_n C dX8_knocked_51 2 rfl ?_
      refine j_getW C dX8_knocked_52 inX8 rfl (by decide) rfl 6 (by decide) w_348 rfl rfl ?_
      refine j_iload C dX8_knocked_55 0 rfl ?_
      refine j_aload_n C dX8_knocked_57 1 rfl ?_
      refine j_getW C dX8_knocked_58 inX6 rfl (by decide) rfl 5 (by decide) w_94 rfl rfl ?_
      refine j_aload_n C dX8_knocked_61 1 rfl ?_
      refine j_getW C dX8_knocked_62 inX6 rfl (by decide) rfl 3 (by decide) w_90 rfl rfl ?_
      refine j_iload_n C dX8_knocked_65 3 rfl ?_
      refine j_iload_n C dX8_knocked_66 4 rfl ?_
      refine j_aload_n C dX8_knocked_67 1 rfl ?_
      refine j_getW C dX8_knocked_68 inX6 rfl (by decide) rfl 4 (by decide) w_92 rfl rfl ?_
      refine j_aload_n C dX8_knocked_71 1 rfl ?_
      refine j_getW C dX8_knocked_72 inX6 rfl (by decide) rfl 0 (by decide) w_84 rfl rfl ?_
      obtain ⟨p75, he75, h⟩ := jbind h
      refine j_cV1 C dX8_knocked_75 (m_X3_opensBy n (s.1 21 (Int32.toNatClampNeg (s.1 25 5))) (s.1 25 5) (s.1 25 3) v1 v2 (s.1 25 4) (s.1 25 0) s he75) kc_X3_opensBy w_646 w_647 w_648 w_7 jy_X3_opensBy ⟨⟨Nat.le_of_ble_eq_true rfl, Nat.le_of_ble_eq_true rfl⟩, ⟨rfl, rfl⟩, ⟨Nat.zero_le _, Nat.zero_le _⟩⟩ (Nat.le_of_ble_eq_true rfl) (by decide) rfl (r := (RX3, TX3, 7)) rfl rfl rfl (fun _ _ h => h) ?_
      refine j_if_eq C dX8_knocked_78 (tgt := 85) (by decide) (fun cq => ?_) (fun cq => ?_)
      · have h := jite_f h (jb_f cq)
        refine j_iconst C dX8_knocked_85 (v := 0) (by decide) ?_
        refine j_loc C [4, 1] rfl ?_
        exact jn86 v2 false p75.2  h
      · have h := jite_t h (jb_t cq)
        refine j_loc C [4, 1] rfl ?_
        exact jn81 v2 p75.2  h
-- X8_knock
def F_X8_knock (n : Nat) (v1 : Int32) (v2 : Int32) (s : jS) : Option (Int32 × jS) :=
  (if (F_X8_canKnock v1 v2 s) = true then ((F_X8_knocked n v1 v2 s).bind fun p14 => (if p14.1 = true then some (1, p14.2) else some (0, p14.2))) else some ((-1), s))
def rm_X8_knock : Room := { frames := 4, cells := 0, slots := 0, locals := 101 }
set_option maxHeartbeats 4000000 in
set_option maxRecDepth 100000 in
theorem m_X8_knock {l : Launch} {D : va_G} {G : Nat → ClassId} {KV : jV} {ad : Nat → Nat} {nd : Nat} (n : Nat) (v1 : Int32) (v2 : Int32) (s : jS) {p : Int32 × jS} (h : F_X8_knock n v1 v2 s = some p) : jM l D G KV yX8_knock cX8_knock 3 (some .int) rm_X8_knock [.ref (ad 0), .int v1, .int v2] (jw 54 (cellC G nd) ad s) 0 0 (fun v u => v = some (.int p.1) ∧ u = jw 54 (cellC G nd) ad p.2) := by
  refine jM.of (by decide) (Nat.le_of_ble_eq_true rfl) ?_
  intro K C
  unfold F_X8_knock at h
  show K 0 0 (jw 54 (cellC G nd) ad s) 0 [(0, .ref (ad 0)), (1, .int v1), (2, .int v2)] []
  refine j_aload_n C dX8_knock_0 0 rfl ?_
  refine j_iload_n C dX8_knock_1 1 rfl ?_
  refine j_iload_n C dX8_knock_2 2 rfl ?_
  refine j_cV1 C dX8_knock_3 (m_X8_canKnock v1 v2 s rfl) kc_X8_canKnock w_685 w_687 wp_27 w_1 jy_X8_canKnock ⟨⟨Nat.le_of_ble_eq_true rfl, Nat.le_of_ble_eq_true rfl⟩, ⟨rfl, rfl⟩, ⟨Nat.zero_le _, Nat.zero_le _⟩⟩ (Nat.le_of_ble_eq_true rfl) (by decide) rfl (r := (RX8, TX8, 9)) rfl rfl rfl (fun _ _ h => h) ?_
  refine j_if_ne C dX8_knock_6 (tgt := 11) (by decide) (fun cq => ?_) (fun cq => ?_)
  · have h := jite_t h (jb_t cq)
    refine j_aload_n C dX8_knock_11 0 rfl ?_
    refine j_iload_n C dX8_knock_12 1 rfl ?_
    refine j_iload_n C dX8_knock_13 2 rfl ?_
    obtain ⟨p14, he14, h⟩ := jbind h
    refine j_cV1 C dX8_knock_14 (m_X8_knocked n v1 v2 s he14) kc_X8_knocked w_689 w_691 wp_28 w_1 jy_X8_knocked ⟨⟨Nat.le_of_ble_eq_true rfl, Nat.le_of_ble_eq_true rfl⟩, ⟨rfl, rfl⟩, ⟨Nat.zero_le _, Nat.zero_le _⟩⟩ (Nat.le_of_ble_eq_true rfl) (by decide) rfl (r := (RX8, TX8, 9)) rfl rfl rfl (fun _ _ h => h) ?_
    refine j_if_eq C dX8_knock_17 (tgt := 24) (by decide) (fun cq => ?_) (fun cq => ?_)
    · have h := jite_f h (jb_f cq)
      refine j_iconst C dX8_knock_24 (v := 0) (by decide) ?_
      exact j_iret C dX8_knock_25 rfl rfl (Nat.zero_le _) (Nat.zero_le _) (jretWI h)
    · have h := jite_t h (jb_t cq)
      refine j_iconst C dX8_knock_20 (v := 1) (by decide) ?_
      refine j_goto C dX8_knock_21 (tgt := 25) (by decide) ?_
      exact j_iret C dX8_knock_25 rfl rfl (Nat.zero_le _) (Nat.zero_le _) (jretWI h)
  · have h := jite_f h (jb_f cq)
    refine j_iconst C dX8_knock_9 (v := (-1)) (by decide) ?_
    exact j_iret C dX8_knock_10 rfl rfl (Nat.zero_le _) (Nat.zero_le _) (jretWI h)
-- X8_canWait
def F_X8_canWait (v1 : Int32) (s : jS) : Bool :=
  (if (F_X8_isDoor (s.1 25 5) s) = true then (if (F_X8_within v1 0 24) = true then true else false) else false)
def rm_X8_canWait : Room := { frames := 2, cells := 0, slots := 0, locals := 43 }
set_option maxHeartbeats 4000000 in
set_option maxRecDepth 100000 in
theorem m_X8_canWait {l : Launch} {D : va_G} {G : Nat → ClassId} {KV : jV} {ad : Nat → Nat} {nd : Nat} (v1 : Int32) (s : jS) {p : Bool} (h : F_X8_canWait v1 s = p) : jM l D G KV yX8_canWait cX8_canWait 2 (some .boolean) rm_X8_canWait [.ref (ad 0), .int v1] (jw 54 (cellC G nd) ad s) 0 0 (fun v u => v = some (.int (jb p)) ∧ u = jw 54 (cellC G nd) ad s) := by
  refine jM.of (by decide) (Nat.le_of_ble_eq_true rfl) ?_
  intro K C
  unfold F_X8_canWait at h
  show K 0 0 (jw 54 (cellC G nd) ad s) 0 [(0, .ref (ad 0)), (1, .int v1)] []
  refine j_aload_n C dX8_canWait_0 0 rfl ?_
  refine j_aload_n C dX8_canWait_1 0 rfl ?_
  refine j_getW C dX8_canWait_2 inX8 rfl (by decide) rfl 1 (by decide) w_343 rfl rfl ?_
  refine j_getW C dX8_canWait_5 inX2 rfl (by decide) rfl 6 (by decide) w_134 rfl rfl ?_
  refine j_getW C dX8_canWait_8 inX6 rfl (by decide) rfl 5 (by decide) w_94 rfl rfl ?_
  refine j_cV1 C dX8_canWait_11 (m_X8_isDoor (s.1 25 5) s rfl) kc_X8_isDoor w_396 w_398 wp_1 w_1 jy_X8_isDoor ⟨⟨Nat.le_of_ble_eq_true rfl, Nat.le_of_ble_eq_true rfl⟩, ⟨rfl, rfl⟩, ⟨Nat.zero_le _, Nat.zero_le _⟩⟩ (Nat.le_of_ble_eq_true rfl) (by decide) rfl (r := (RX8, TX8, 9)) rfl rfl rfl (fun _ _ h => h) ?_
  refine j_if_eq C dX8_canWait_14 (tgt := 31) (by decide) (fun cq => ?_) (fun cq => ?_)
  · have h := jite_f h (jb_f cq)
    refine j_iconst C dX8_canWait_31 (v := 0) (by decide) ?_
    exact j_iret C dX8_canWait_32 rfl (jb_nar false) (Nat.zero_le _) (Nat.zero_le _) (jretTB h)
  · have h := jite_t h (jb_t cq)
    refine j_iload_n C dX8_canWait_17 1 rfl ?_
    refine j_iconst C dX8_canWait_18 (v := 0) (by decide) ?_
    refine j_bipush C dX8_canWait_19 (v := 24) (by decide) ?_
    refine j_cS1 C dX8_canWait_21 (m_X8_within v1 0 24 rfl) kc_X8_within w_377 w_378 w_1 jy_X8_within ⟨⟨Nat.le_of_ble_eq_true rfl, Nat.le_of_ble_eq_true rfl⟩, ⟨rfl, rfl⟩, ⟨Nat.zero_le _, Nat.zero_le _⟩⟩ (Nat.le_of_ble_eq_true rfl) rfl (fun _ _ h => h) ?_
    refine j_if_eq C dX8_canWait_24 (tgt := 31) (by decide) (fun cq => ?_) (fun cq => ?_)
    · have h := jite_f h (jb_f cq)
      refine j_iconst C dX8_canWait_31 (v := 0) (by decide) ?_
      exact j_iret C dX8_canWait_32 rfl (jb_nar false) (Nat.zero_le _) (Nat.zero_le _) (jretTB h)
    · have h := jite_t h (jb_t cq)
      refine j_iconst C dX8_canWait_27 (v := 1) (by decide) ?_
      refine j_goto C dX8_canWait_28 (tgt := 32) (by decide) ?_
      exact j_iret C dX8_canWait_32 rfl (jb_nar true) (Nat.zero_le _) (Nat.zero_le _) (jretTB h)
-- X8_waited
def B_X8_waited_2 (n : Nat) (v1 : Int32) (q : Int32 × jS) : Option ((Int32 × jS) ⊕ (Int32 × jS)) :=
  (if v1 ≤ q.1 then some (.inr (q.1, q.2)) else ((F_X6_keepsStep_25 q.2).bind fun p14 => ((F_X6_hourGoes_25 p14).bind fun p24 => ((F_X6_stays_25 p24).bind fun p34 => some (.inl ((q.1 + 1), p34))))))
def F_X8_waited (n : Nat) (v1 : Int32) (s : jS) : Option jS :=
  ((lp (B_X8_waited_2 n v1) n (0, s)).bind fun e2 => some e2.2)
def rm_X8_waited : Room := { frames := 2, cells := 0, slots := 0, locals := 46 }
set_option maxHeartbeats 4000000 in
set_option maxRecDepth 100000 in
theorem m_X8_waited {l : Launch} {D : va_G} {G : Nat → ClassId} {KV : jV} {ad : Nat → Nat} {nd : Nat} (n : Nat) (v1 : Int32) (s : jS) {p : jS} (h : F_X8_waited n v1 s = some p) : jM l D G KV yX8_waited cX8_waited 3 none rm_X8_waited [.ref (ad 0), .int v1] (jw 54 (cellC G nd) ad s) 0 0 (fun v u => v = none ∧ u = jw 54 (cellC G nd) ad p) := by
  refine jM.of (by decide) (Nat.le_of_ble_eq_true rfl) ?_
  intro K C
  unfold F_X8_waited at h
  have lo2 : ∀ (v1 : Int32) (s : jS) (k : Nat) (q : Int32 × jS) (e : Int32 × jS), lp (B_X8_waited_2 n v1) k q = some e → K 0 0 (jw 54 (cellC G nd) ad e.2) 43 [] [] → K 0 0 (jw 54 (cellC G nd) ad q.2) 2 [(0, .ref (ad 0)), (1, .int v1), (2, .int q.1)] [] := by
    intro v1 s k q e he hE
    refine jlp (KH := fun q => K 0 0 (jw 54 (cellC G nd) ad q.2) 2 [(0, .ref (ad 0)), (1, .int v1), (2, .int q.1)] []) (KE := fun e => K 0 0 (jw 54 (cellC G nd) ad e.2) 43 [] []) ?_ k q e he hE
    intro q o hb hin hout
    unfold B_X8_waited_2 at hb
    show K 0 0 (jw 54 (cellC G nd) ad q.2) 2 [(0, .ref (ad 0)), (1, .int v1), (2, .int q.1)] []
    refine j_iload_n C dX8_waited_2 2 rfl ?_
    refine j_iload_n C dX8_waited_3 1 rfl ?_
    refine j_icmp_ge C dX8_waited_4 (tgt := 43) (by decide) (fun cq => ?_) (fun cq => ?_)
    · have hb := jite_t hb cq
      refine j_loc C [] rfl ?_
      have hx := hout _ (jinr hb)
      exact hx
    · have hb := jite_f hb cq
      refine j_aload_n C dX8_waited_7 0 rfl ?_
      refine j_getW C dX8_waited_8 inX8 rfl (by decide) rfl 1 (by decide) w_343 rfl rfl ?_
      refine j_getW C dX8_waited_11 inX2 rfl (by decide) rfl 6 (by decide) w_134 rfl rfl ?_
      obtain ⟨p14, he14, hb⟩ := jbind hb
      refine j_cV0 C dX8_waited_14 (m_X6_keepsStep_25 q.2 he14) kc_X6_keepsStep w_696 w_697 w_698 w_5 jy_X6_keepsStep ⟨⟨Nat.le_of_ble_eq_true rfl, Nat.le_of_ble_eq_true rfl⟩, ⟨rfl, rfl⟩, ⟨Nat.zero_le _, Nat.zero_le _⟩⟩ (Nat.le_of_ble_eq_true rfl) (by decide) rfl (r := (RX6, TX6, 8)) rfl rfl rfl (fun _ _ h => h) ?_
      refine j_aload_n C dX8_waited_17 0 rfl ?_
      refine j_getW C dX8_waited_18 inX8 rfl (by decide) rfl 1 (by decide) w_343 rfl rfl ?_
      refine j_getW C dX8_waited_21 inX2 rfl (by decide) rfl 6 (by decide) w_134 rfl rfl ?_
      obtain ⟨p24, he24, hb⟩ := jbind hb
      refine j_cV0 C dX8_waited_24 (m_X6_hourGoes_25 p14 he24) kc_X6_hourGoes w_703 w_704 w_705 w_5 jy_X6_hourGoes ⟨⟨Nat.le_of_ble_eq_true rfl, Nat.le_of_ble_eq_true rfl⟩, ⟨rfl, rfl⟩, ⟨Nat.zero_le _, Nat.zero_le _⟩⟩ (Nat.le_of_ble_eq_true rfl) (by decide) rfl (r := (RX6, TX6, 8)) rfl rfl rfl (fun _ _ h => h) ?_
      refine j_aload_n C dX8_waited_27 0 rfl ?_
      refine j_getW C dX8_waited_28 inX8 rfl (by decide) rfl 1 (by decide) w_343 rfl rfl ?_
      refine j_getW C dX8_waited_31 inX2 rfl (by decide) rfl 6 (by decide) w_134 rfl rfl ?_
      obtain ⟨p34, he34, hb⟩ := jbind hb
      refine j_cV0 C dX8_waited_34 (m_X6_stays_25 p24 he34) kc_X6_stays w_707 w_708 w_709 w_5 jy_X6_stays ⟨⟨Nat.le_of_ble_eq_true rfl, Nat.le_of_ble_eq_true rfl⟩, ⟨rfl, rfl⟩, ⟨Nat.zero_le _, Nat.zero_le _⟩⟩ (Nat.le_of_ble_eq_true rfl) (by decide) rfl (r := (RX6, TX6, 8)) rfl rfl rfl (fun _ _ h => h) ?_
      refine j_iinc C dX8_waited_37 2 rfl (v := (q.1 + 1)) rfl (by decide) rfl ?_
      refine j_goto C dX8_waited_40 (tgt := 2) (by decide) ?_
      refine j_loc C [1, 2, 0] rfl ?_
      have hx := hin _ (jinl hb)
      exact hx
  show K 0 0 (jw 54 (cellC G nd) ad s) 0 [(0, .ref (ad 0)), (1, .int v1)] []
  refine j_iconst C dX8_waited_0 (v := 0) (by decide) ?_
  refine j_istore_n C dX8_waited_1 (by decide) rfl ?_
  refine j_loc C [1, 2, 0] rfl ?_
  obtain ⟨e2, he2, h⟩ := jbind h
  refine lo2 v1 s  n (0, s) e2 he2 ?_
  exact j_vret C dX8_waited_43 rfl (Nat.zero_le _) (Nat.zero_le _) (jretWV h)
-- X8_later
def F_X8_later (n : Nat) (v1 : Int32) (s : jS) : Option (Int32 × jS) :=
  (if (F_X8_canWait v1 s) = true then ((F_X8_waited n v1 s).bind fun p12 => some ((p12.1 25 3), p12)) else some ((-1), s))
def rm_X8_later : Room := { frames := 3, cells := 0, slots := 0, locals := 68 }
set_option maxHeartbeats 4000000 in
set_option maxRecDepth 100000 in
theorem m_X8_later {l : Launch} {D : va_G} {G : Nat → ClassId} {KV : jV} {ad : Nat → Nat} {nd : Nat} (n : Nat) (v1 : Int32) (s : jS) {p : Int32 × jS} (h : F_X8_later n v1 s = some p) : jM l D G KV yX8_later cX8_later 2 (some .int) rm_X8_later [.ref (ad 0), .int v1] (jw 54 (cellC G nd) ad s) 0 0 (fun v u => v = some (.int p.1) ∧ u = jw 54 (cellC G nd) ad p.2) := by
  refine jM.of (by decide) (Nat.le_of_ble_eq_true rfl) ?_
  intro K C
  unfold F_X8_later at h
  show K 0 0 (jw 54 (cellC G nd) ad s) 0 [(0, .ref (ad 0)), (1, .int v1)] []
  refine j_aload_n C dX8_later_0 0 rfl ?_
  refine j_iload_n C dX8_later_1 1 rfl ?_
  refine j_cV1 C dX8_later_2 (m_X8_canWait v1 s rfl) kc_X8_canWait w_716 w_718 wp_29 w_1 jy_X8_canWait ⟨⟨Nat.le_of_ble_eq_true rfl, Nat.le_of_ble_eq_true rfl⟩, ⟨rfl, rfl⟩, ⟨Nat.zero_le _, Nat.zero_le _⟩⟩ (Nat.le_of_ble_eq_true rfl) (by decide) rfl (r := (RX8, TX8, 9)) rfl rfl rfl (fun _ _ h => h) ?_
  refine j_if_ne C dX8_later_5 (tgt := 10) (by decide) (fun cq => ?_) (fun cq => ?_)
  · have h := jite_t h (jb_t cq)
    refine j_aload_n C dX8_later_10 0 rfl ?_
    refine j_iload_n C dX8_later_11 1 rfl ?_
    obtain ⟨p12, he12, h⟩ := jbind h
    refine j_cV0 C dX8_later_12 (m_X8_waited n v1 s he12) kc_X8_waited w_720 w_722 wp_30 w_1 jy_X8_waited ⟨⟨Nat.le_of_ble_eq_true rfl, Nat.le_of_ble_eq_true rfl⟩, ⟨rfl, rfl⟩, ⟨Nat.zero_le _, Nat.zero_le _⟩⟩ (Nat.le_of_ble_eq_true rfl) (by decide) rfl (r := (RX8, TX8, 9)) rfl rfl rfl (fun _ _ h => h) ?_
    refine j_aload_n C dX8_later_15 0 rfl ?_
    refine j_getW C dX8_later_16 inX8 rfl (by decide) rfl 1 (by decide) w_343 rfl rfl ?_
    refine j_getW C dX8_later_19 inX2 rfl (by decide) rfl 6 (by decide) w_134 rfl rfl ?_
    refine j_getW C dX8_later_22 inX6 rfl (by decide) rfl 3 (by decide) w_90 rfl rfl ?_
    exact j_iret C dX8_later_25 rfl rfl (Nat.zero_le _) (Nat.zero_le _) (jretWI h)
  · have h := jite_f h (jb_f cq)
    refine j_iconst C dX8_later_8 (v := (-1)) (by decide) ?_
    exact j_iret C dX8_later_9 rfl rfl (Nat.zero_le _) (Nat.zero_le _) (jretWI h)
-- X8_clauseDone
def F_X8_clauseDone (n : Nat) (v1 : Int32) (v2 : Int32) (s : jS) : Option (Bool × jS) :=
  (if v1 = (-1) then some (true, s) else (if v1 = 0 then (if (F_X8_canWait v2 s) = true then ((F_X8_waited n v2 s).bind fun p27 => some ((F_X8_canWait v2 s), p27)) else ((F_X8_waited n 0 s).bind fun p27 => some ((F_X8_canWait v2 s), p27))) else (if (F_X8_canKnock v1 v2 s) = true then ((F_X8_knocked n v1 v2 s).bind fun p46 => some (true, p46.2)) else some (false, s))))
def rm_X8_clauseDone : Room := { frames := 4, cells := 0, slots := 0, locals := 101 }
set_option maxHeartbeats 4000000 in
set_option maxRecDepth 100000 in
theorem m_X8_clauseDone {l : Launch} {D : va_G} {G : Nat → ClassId} {KV : jV} {ad : Nat → Nat} {nd : Nat} (n : Nat) (v1 : Int32) (v2 : Int32) (s : jS) {p : Bool × jS} (h : F_X8_clauseDone n v1 v2 s = some p) : jM l D G KV yX8_clauseDone cX8_clauseDone 4 (some .boolean) rm_X8_clauseDone [.ref (ad 0), .int v1, .int v2] (jw 54 (cellC G nd) ad s) 0 0 (fun v u => v = some (.int (jb p.1)) ∧ u = jw 54 (cellC G nd) ad p.2) := by
  refine jM.of (by decide) (Nat.le_of_ble_eq_true rfl) ?_
  intro K C
  unfold F_X8_clauseDone at h
  show K 0 0 (jw 54 (cellC G nd) ad s) 0 [(0, .ref (ad 0)), (1, .int v1), (2, .int v2)] []
  refine j_iload_n C dX8_clauseDone_0 1 rfl ?_
  refine j_iconst C dX8_clauseDone_1 (v := (-1)) (by decide) ?_
  refine j_icmp_ne C dX8_clauseDone_2 (tgt := 7) (by decide) (fun cq => ?_) (fun cq => ?_)
  · have h := jite_f h cq
    refine j_iload_n C dX8_clauseDone_7 1 rfl ?_
    refine j_if_ne C dX8_clauseDone_8 (tgt := 32) (by decide) (fun cq => ?_) (fun cq => ?_)
    · have h := jite_f h cq
      refine j_aload_n C dX8_clauseDone_32 0 rfl ?_
      refine j_iload_n C dX8_clauseDone_33 1 rfl ?_
      refine j_iload_n C dX8_clauseDone_34 2 rfl ?_
      refine j_cV1 C dX8_clauseDone_35 (m_X8_canKnock v1 v2 s rfl) kc_X8_canKnock w_685 w_687 wp_27 w_1 jy_X8_canKnock ⟨⟨Nat.le_of_ble_eq_true rfl, Nat.le_of_ble_eq_true rfl⟩, ⟨rfl, rfl⟩, ⟨Nat.zero_le _, Nat.zero_le _⟩⟩ (Nat.le_of_ble_eq_true rfl) (by decide) rfl (r := (RX8, TX8, 9)) rfl rfl rfl (fun _ _ h => h) ?_
      refine j_if_ne C dX8_clauseDone_38 (tgt := 43) (by decide) (fun cq => ?_) (fun cq => ?_)
      · have h := jite_t h (jb_t cq)
        refine j_aload_n C dX8_clauseDone_43 0 rfl ?_
        refine j_iload_n C dX8_clauseDone_44 1 rfl ?_
        refine j_iload_n C dX8_clauseDone_45 2 rfl ?_
        obtain ⟨p46, he46, h⟩ := jbind h
        refine j_cV1 C dX8_clauseDone_46 (m_X8_knocked n v1 v2 s he46) kc_X8_knocked w_689 w_691 wp_28 w_1 jy_X8_knocked ⟨⟨Nat.le_of_ble_eq_true rfl, Nat.le_of_ble_eq_true rfl⟩, ⟨rfl, rfl⟩, ⟨Nat.zero_le _, Nat.zero_le _⟩⟩ (Nat.le_of_ble_eq_true rfl) (by decide) rfl (r := (RX8, TX8, 9)) rfl rfl rfl (fun _ _ h => h) ?_
        refine j_pop C dX8_clauseDone_49 rfl ?_
        refine j_iconst C dX8_clauseDone_50 (v := 1) (by decide) ?_
        exact j_iret C dX8_clauseDone_51 rfl (jb_nar true) (Nat.zero_le _) (Nat.zero_le _) (jretWB h)
      · have h := jite_f h (jb_f cq)
        refine j_iconst C dX8_clauseDone_41 (v := 0) (by decide) ?_
        exact j_iret C dX8_clauseDone_42 rfl (jb_nar false) (Nat.zero_le _) (Nat.zero_le _) (jretWB h)
    · have h := jite_t h cq
      refine j_aload_n C dX8_clauseDone_11 0 rfl ?_
      refine j_iload_n C dX8_clauseDone_12 2 rfl ?_
      refine j_cV1 C dX8_clauseDone_13 (m_X8_canWait v2 s rfl) kc_X8_canWait w_716 w_718 wp_29 w_1 jy_X8_canWait ⟨⟨Nat.le_of_ble_eq_true rfl, Nat.le_of_ble_eq_true rfl⟩, ⟨rfl, rfl⟩, ⟨Nat.zero_le _, Nat.zero_le _⟩⟩ (Nat.le_of_ble_eq_true rfl) (by decide) rfl (r := (RX8, TX8, 9)) rfl rfl rfl (fun _ _ h => h) ?_
      refine j_istore_n C dX8_clauseDone_16 (by decide) rfl ?_
      refine j_aload_n C dX8_clauseDone_17 1 rfl ?_
      refine j_iload_n C dX8_clauseDone_18 0 rfl ?_
      refine j_if_eq C dX8_clauseDone_19 (tgt := 26) (by decide) (fun cq => ?_) (fun cq => ?_)
      · have h := jite_f h (jb_f cq)
        refine j_iconst C dX8_clauseDone_26 (v := 0) (by decide) ?_
        obtain ⟨p27, he27, h⟩ := jbind h
        refine j_cV0 C dX8_clauseDone_27 (m_X8_waited n 0 s he27) kc_X8_waited w_720 w_722 wp_30 w_1 jy_X8_waited ⟨⟨Nat.le_of_ble_eq_true rfl, Nat.le_of_ble_eq_true rfl⟩, ⟨rfl, rfl⟩, ⟨Nat.zero_le _, Nat.zero_le _⟩⟩ (Nat.le_of_ble_eq_true rfl) (by decide) rfl (r := (RX8, TX8, 9)) rfl rfl rfl (fun _ _ h => h) ?_
        refine j_iload_n C dX8_clauseDone_30 0 rfl ?_
        exact j_iret C dX8_clauseDone_31 rfl (jb_nar (F_X8_canWait v2 s)) (Nat.zero_le _) (Nat.zero_le _) (jretWB h)
      · have h := jite_t h (jb_t cq)
        refine j_iload_n C dX8_clauseDone_22 3 rfl ?_
        refine j_goto C dX8_clauseDone_23 (tgt := 27) (by decide) ?_
        obtain ⟨p27, he27, h⟩ := jbind h
        refine j_cV0 C dX8_clauseDone_27 (m_X8_waited n v2 s he27) kc_X8_waited w_720 w_722 wp_30 w_1 jy_X8_waited ⟨⟨Nat.le_of_ble_eq_true rfl, Nat.le_of_ble_eq_true rfl⟩, ⟨rfl, rfl⟩, ⟨Nat.zero_le _, Nat.zero_le _⟩⟩ (Nat.le_of_ble_eq_true rfl) (by decide) rfl (r := (RX8, TX8, 9)) rfl rfl rfl (fun _ _ h => h) ?_
        refine j_iload_n C dX8_clauseDone_30 0 rfl ?_
        exact j_iret C dX8_clauseDone_31 rfl (jb_nar (F_X8_canWait v2 s)) (Nat.zero_le _) (Nat.zero_le _) (jretWB h)
  · have h := jite_t h cq
    refine j_iconst C dX8_clauseDone_5 (v := 1) (by decide) ?_
    exact j_iret C dX8_clauseDone_6 rfl (jb_nar true) (Nat.zero_le _) (Nat.zero_le _) (jretWB h)
-- X8_played
def B_X8_played_34 (n : Nat) (t2 : Nat) (q : Int32 × jS) : Option ((Int32 × jS) ⊕ ((Int32 × jS) ⊕ ((Int32 × jS)))) :=
  (if (q.2.1 (2 + 4 * t2) 4) ≤ q.1 then some (.inr (.inl (q.1, q.2))) else (if 24 ≤ q.1 then some (.inr (.inl (q.1, q.2))) else (if jin q.1 24 = true then ((F_X8_clauseDone n (q.2.1 (2 + 4 * t2 + 2) (Int32.toNatClampNeg q.1)) (q.2.1 (2 + 4 * t2 + 3) (Int32.toNatClampNeg q.1)) q.2).bind fun p61 => (if p61.1 = true then some (.inl ((q.1 + 1), p61.2)) else some (.inr (.inr (q.1, p61.2))))) else none)))
def F_X8_played (n : Nat) (v1 : Int32) (s : jS) : Option (Int32 × jS) :=
  (if (F_X8_within v1 0 ((s.1 18 7) - 1)) = true then (if v1 < 4 then (if jin v1 4 = true then ((lp (B_X8_played_34 n (Int32.toNatClampNeg v1)) n (0, s)).bind fun e => Sum.elim (fun e34 => some ((-1), e34.2)) (fun r34 => some r34) e) else none) else some ((-2), s)) else some ((-2), s))
def rm_X8_played : Room := { frames := 5, cells := 0, slots := 0, locals := 124 }
set_option maxHeartbeats 4000000 in
set_option maxRecDepth 100000 in
theorem m_X8_played {l : Launch} {D : va_G} {G : Nat → ClassId} {KV : jV} {ad : Nat → Nat} {nd : Nat} (n : Nat) (v1 : Int32) (s : jS) {p : Int32 × jS} (h : F_X8_played n v1 s = some p) : jM l D G KV yX8_played cX8_played 4 (some .int) rm_X8_played [.ref (ad 0), .int v1] (jw 54 (cellC G nd) ad s) 0 0 (fun v u => v = some (.int p.1) ∧ u = jw 54 (cellC G nd) ad p.2) := by
  refine jM.of (by decide) (Nat.le_of_ble_eq_true rfl) ?_
  intro K C
  unfold F_X8_played at h
  have lo34 : ∀ (t2 : Nat) (s : jS) (ht2 : t2 < 4) (k : Nat) (q : Int32 × jS) (e : (Int32 × jS) ⊕ ((Int32 × jS))), lp (B_X8_played_34 n t2) k q = some e → Sum.elim (fun e => K 0 0 (jw 54 (cellC G nd) ad e.2) 75 [] []) (fun r => some r = some p) e → K 0 0 (jw 54 (cellC G nd) ad q.2) 34 [(0, .ref (ad 0)), (2, .ref (ad (2 + 4 * t2))), (3, .int q.1)] [] := by
    intro t2 s ht2 k q e he hE
    refine jlp (KH := fun q => K 0 0 (jw 54 (cellC G nd) ad q.2) 34 [(0, .ref (ad 0)), (2, .ref (ad (2 + 4 * t2))), (3, .int q.1)] []) (KE := fun e => Sum.elim (fun e => K 0 0 (jw 54 (cellC G nd) ad e.2) 75 [] []) (fun r => some r = some p) e) ?_ k q e he hE
    intro q o hb hin hout
    unfold B_X8_played_34 at hb
    show K 0 0 (jw 54 (cellC G nd) ad q.2) 34 [(0, .ref (ad 0)), (2, .ref (ad (2 + 4 * t2))), (3, .int q.1)] []
    refine j_iload_n C dX8_played_34 2 rfl ?_
    refine j_aload_n C dX8_played_35 1 rfl ?_
    refine j_getW C dX8_played_36 inX5 rfl (cTq0 ht2) (cT0 ht2) 4 (by decide) w_49 rfl rfl ?_
    refine j_icmp_ge C dX8_played_39 (tgt := 75) (by decide) (fun cq => ?_) (fun cq => ?_)
    · have hb := jite_t hb cq
      refine j_loc C [] rfl ?_
      have hx := hout _ (jinr hb)
      exact hx
    · have hb := jite_f hb cq
      refine j_iload_n C dX8_played_42 2 rfl ?_
      refine j_bipush C dX8_played_43 (v := 24) (by decide) ?_
      refine j_icmp_ge C dX8_played_45 (tgt := 75) (by decide) (fun cq => ?_) (fun cq => ?_)
      · have hb := jite_t hb cq
        refine j_loc C [] rfl ?_
        have hx := hout _ (jinr hb)
        exact hx
      · have hb := jite_f hb cq
        refine j_aload_n C dX8_played_48 0 rfl ?_
        refine j_aload_n C dX8_played_49 1 rfl ?_
        refine j_getW C dX8_played_50 inX5 rfl (cTq0 ht2) (cT0 ht2) 1 (by decide) w_42 rfl rfl ?_
        refine j_iload_n C dX8_played_53 2 rfl ?_
        obtain ⟨c54_2, hb⟩ := jchk hb
        refine j_ialdW C dX8_played_54 (cTq2 ht2) (cT2 ht2) (jin_vp c54_2) ?_
        refine j_aload_n C dX8_played_55 1 rfl ?_
        refine j_getW C dX8_played_56 inX5 rfl (cTq0 ht2) (cT0 ht2) 2 (by decide) w_44 rfl rfl ?_
        refine j_iload_n C dX8_played_59 2 rfl ?_
        refine j_ialdW C dX8_played_60 (cTq3 ht2) (cT3 ht2) (jin_vp c54_2) ?_
        obtain ⟨p61, he61, hb⟩ := jbind hb
        refine j_cV1 C dX8_played_61 (m_X8_clauseDone n (q.2.1 (2 + 4 * t2 + 2) (Int32.toNatClampNeg q.1)) (q.2.1 (2 + 4 * t2 + 3) (Int32.toNatClampNeg q.1)) q.2 he61) kc_X8_clauseDone w_728 w_730 wp_31 w_1 jy_X8_clauseDone ⟨⟨Nat.le_of_ble_eq_true rfl, Nat.le_of_ble_eq_true rfl⟩, ⟨rfl, rfl⟩, ⟨Nat.zero_le _, Nat.zero_le _⟩⟩ (Nat.le_of_ble_eq_true rfl) (by decide) rfl (r := (RX8, TX8, 9)) rfl rfl rfl (fun _ _ h => h) ?_
        refine j_if_ne C dX8_played_64 (tgt := 69) (by decide) (fun cq => ?_) (fun cq => ?_)
        · have hb := jite_t hb (jb_t cq)
          refine j_iinc C dX8_played_69 2 rfl (v := (q.1 + 1)) rfl (by decide) rfl ?_
          refine j_goto C dX8_played_72 (tgt := 34) (by decide) ?_
          refine j_loc C [1, 2, 0] rfl ?_
          have hx := hin _ (jinl hb)
          exact hx
        · have hb := jite_f hb (jb_f cq)
          refine j_iload_n C dX8_played_67 2 rfl ?_
          exact j_iret C dX8_played_68 rfl rfl (Nat.zero_le _) (Nat.zero_le _) (jretWI (jretL hb hout))
  show K 0 0 (jw 54 (cellC G nd) ad s) 0 [(0, .ref (ad 0)), (1, .int v1)] []
  refine j_iload_n C dX8_played_0 1 rfl ?_
  refine j_iconst C dX8_played_1 (v := 0) (by decide) ?_
  refine j_aload_n C dX8_played_2 0 rfl ?_
  refine j_getW C dX8_played_3 inX8 rfl (by decide) rfl 1 (by decide) w_343 rfl rfl ?_
  refine j_getW C dX8_played_6 inX2 rfl (by decide) rfl 7 (by decide) w_138 rfl rfl ?_
  refine j_iconst C dX8_played_9 (v := 1) (by decide) ?_
  refine j_isub C dX8_played_10 ?_
  refine j_cS1 C dX8_played_11 (m_X8_within v1 0 ((s.1 18 7) - 1) rfl) kc_X8_within w_377 w_378 w_1 jy_X8_within ⟨⟨Nat.le_of_ble_eq_true rfl, Nat.le_of_ble_eq_true rfl⟩, ⟨rfl, rfl⟩, ⟨Nat.zero_le _, Nat.zero_le _⟩⟩ (Nat.le_of_ble_eq_true rfl) rfl (fun _ _ h => h) ?_
  refine j_if_eq C dX8_played_14 (tgt := 22) (by decide) (fun cq => ?_) (fun cq => ?_)
  · have h := jite_f h (jb_f cq)
    refine j_bipush C dX8_played_22 (v := (-2)) (by decide) ?_
    exact j_iret C dX8_played_24 rfl rfl (Nat.zero_le _) (Nat.zero_le _) (jretWI h)
  · have h := jite_t h (jb_t cq)
    refine j_iload_n C dX8_played_17 1 rfl ?_
    refine j_iconst C dX8_played_18 (v := 4) (by decide) ?_
    refine j_icmp_lt C dX8_played_19 (tgt := 25) (by decide) (fun cq => ?_) (fun cq => ?_)
    · have h := jite_t h cq
      refine j_aload_n C dX8_played_25 0 rfl ?_
      refine j_getW C dX8_played_26 inX8 rfl (by decide) rfl 3 (by decide) w_345 rfl rfl ?_
      refine j_iload_n C dX8_played_29 1 rfl ?_
      obtain ⟨c30_1, h⟩ := jchk h
      refine j_aaldT C dX8_played_30 (by decide) rfl c30_1 ?_
      refine j_astore_n C dX8_played_31 (by decide) rfl ?_
      refine j_iconst C dX8_played_32 (v := 0) (by decide) ?_
      refine j_istore_n C dX8_played_33 (by decide) rfl ?_
      refine j_loc C [2, 1, 0] rfl ?_
      obtain ⟨e34, he34, h⟩ := jbind h
      refine lo34 (Int32.toNatClampNeg v1) s (jin_lt (i := v1) (n := 4) c30_1) n (0, s) e34 he34 ?_
      rcases e34 with e34 | r34
      · show K _ _ _ _ _ _
        refine j_iconst C dX8_played_75 (v := (-1)) (by decide) ?_
        exact j_iret C dX8_played_76 rfl rfl (Nat.zero_le _) (Nat.zero_le _) (jretWI h)
      · exact h
    · have h := jite_f h cq
      refine j_bipush C dX8_played_22 (v := (-2)) (by decide) ?_
      exact j_iret C dX8_played_24 rfl rfl (Nat.zero_le _) (Nat.zero_le _) (jretWI h)
-- X6_stepsBack_25
def F_X6_stepsBack_25 (s : jS) : Option (Bool × jS) :=
  (if (F_X8_within (s.1 25 6) 1 30) = true then (jl (upI s 25 6 ((s.1 25 6) - 1)) fun s22_1 => (if jin (s22_1.1 25 6) 30 = true then (jl (upI s22_1 25 2 ((s22_1.1 26 (Int32.toNatClampNeg (s22_1.1 25 6))) - (s22_1.1 26 (Int32.toNatClampNeg (s22_1.1 25 6))) / 100 * 100)) fun s40_3 => (jl (upI s40_3 25 4 (((s22_1.1 26 (Int32.toNatClampNeg (s22_1.1 25 6))) / 100) - ((s22_1.1 26 (Int32.toNatClampNeg (s22_1.1 25 6))) / 100) / 10 * 10)) fun s53_4 => (jl (upI s53_4 25 3 ((((s22_1.1 26 (Int32.toNatClampNeg (s22_1.1 25 6))) / 100) / 10) - (((s22_1.1 26 (Int32.toNatClampNeg (s22_1.1 25 6))) / 100) / 10) / 24 * 24)) fun s66_5 => (jl (upI s66_5 25 5 ((((s22_1.1 26 (Int32.toNatClampNeg (s22_1.1 25 6))) / 100) / 10) / 24)) fun s74_6 => some (true, s74_6))))) else none)) else some (false, s))
def rm_X6_stepsBack_25 : Room := { frames := 1, cells := 0, slots := 0, locals := 22 }
set_option maxHeartbeats 4000000 in
set_option maxRecDepth 100000 in
theorem m_X6_stepsBack_25 {l : Launch} {D : va_G} {G : Nat → ClassId} {KV : jV} {ad : Nat → Nat} {nd : Nat} (s : jS) {p : Bool × jS} (h : F_X6_stepsBack_25 s = some p) : jM l D G KV yX6_stepsBack cX6_stepsBack 2 (some .boolean) rm_X6_stepsBack_25 [.ref (ad 25)] (jw 54 (cellC G nd) ad s) 0 0 (fun v u => v = some (.int (jb p.1)) ∧ u = jw 54 (cellC G nd) ad p.2) := by
  refine jM.of (by decide) (Nat.le_of_ble_eq_true rfl) ?_
  intro K C
  unfold F_X6_stepsBack_25 at h
  show K 0 0 (jw 54 (cellC G nd) ad s) 0 [(0, .ref (ad 25))] []
  refine j_aload_n C dX6_stepsBack_0 0 rfl ?_
  refine j_getW C dX6_stepsBack_1 inX6 rfl (by decide) rfl 6 (by decide) w_95 rfl rfl ?_
  refine j_iconst C dX6_stepsBack_4 (v := 1) (by decide) ?_
  refine j_bipush C dX6_stepsBack_5 (v := 30) (by decide) ?_
  refine j_cSN1 C (host := "RoadOfDoors") dX6_stepsBack_7 (m_X8_within (s.1 25 6) 1 30 rfl) kc_X8_within (by decide +kernel) w_378 w_1 jy_X8_within ⟨⟨Nat.le_of_ble_eq_true rfl, Nat.le_of_ble_eq_true rfl⟩, ⟨rfl, rfl⟩, ⟨Nat.zero_le _, Nat.zero_le _⟩⟩ (Nat.le_of_ble_eq_true rfl) rfl (fun _ _ h => h) ?_
  refine j_if_ne C dX6_stepsBack_10 (tgt := 15) (by decide) (fun cq => ?_) (fun cq => ?_)
  · have h := jite_t h (jb_t cq)
    refine j_aload_n C dX6_stepsBack_15 0 rfl ?_
    refine j_dup C dX6_stepsBack_16 rfl ?_
    refine j_getW C dX6_stepsBack_17 inX6 rfl (by decide) rfl 6 (by decide) w_95 rfl rfl ?_
    refine j_iconst C dX6_stepsBack_20 (v := 1) (by decide) ?_
    refine j_isub C dX6_stepsBack_21 ?_
    refine j_putI C dX6_stepsBack_22 inX6 tyX6 tyX6_ok nmX6 rfl (by decide) 6 rfl rfl (by decide) w_95 rfl rfl rfl rfl (Nat.le_of_ble_eq_true rfl) (fun s22_1 hs22_1 => ?_)
    have h := jlet h hs22_1
    refine j_aload_n C dX6_stepsBack_25 0 rfl ?_
    refine j_getW C dX6_stepsBack_26 inX6 rfl (by decide) rfl 7 (by decide) w_97 rfl rfl ?_
    refine j_aload_n C dX6_stepsBack_29 0 rfl ?_
    refine j_getW C dX6_stepsBack_30 inX6 rfl (by decide) rfl 6 (by decide) w_95 rfl rfl ?_
    obtain ⟨c33_2, h⟩ := jchk h
    refine j_ialdW C dX6_stepsBack_33 (by decide) rfl (jin_vp c33_2) ?_
    refine j_istore_n C dX6_stepsBack_34 (by decide) rfl ?_
    refine j_aload_n C dX6_stepsBack_35 1 rfl ?_
    refine j_iload_n C dX6_stepsBack_36 0 rfl ?_
    refine j_bipush C dX6_stepsBack_37 (v := 100) (by decide) ?_
    refine j_irem C dX6_stepsBack_39 (by decide) ?_
    refine j_putI C dX6_stepsBack_40 inX6 tyX6 tyX6_ok nmX6 rfl (by decide) 2 rfl rfl (by decide) w_87 rfl rfl rfl rfl (Nat.le_of_ble_eq_true rfl) (fun s40_3 hs40_3 => ?_)
    have h := jlet h hs40_3
    refine j_iload_n C dX6_stepsBack_43 0 rfl ?_
    refine j_bipush C dX6_stepsBack_44 (v := 100) (by decide) ?_
    refine j_idiv C dX6_stepsBack_46 (by decide) ?_
    refine j_istore_n C dX6_stepsBack_47 (by decide) rfl ?_
    refine j_aload_n C dX6_stepsBack_48 1 rfl ?_
    refine j_iload_n C dX6_stepsBack_49 0 rfl ?_
    refine j_bipush C dX6_stepsBack_50 (v := 10) (by decide) ?_
    refine j_irem C dX6_stepsBack_52 (by decide) ?_
    refine j_putI C dX6_stepsBack_53 inX6 tyX6 tyX6_ok nmX6 rfl (by decide) 4 rfl rfl (by decide) w_91 rfl rfl rfl rfl (Nat.le_of_ble_eq_true rfl) (fun s53_4 hs53_4 => ?_)
    have h := jlet h hs53_4
    refine j_iload_n C dX6_stepsBack_56 0 rfl ?_
    refine j_bipush C dX6_stepsBack_57 (v := 10) (by decide) ?_
    refine j_idiv C dX6_stepsBack_59 (by decide) ?_
    refine j_istore_n C dX6_stepsBack_60 (by decide) rfl ?_
    refine j_aload_n C dX6_stepsBack_61 1 rfl ?_
    refine j_iload_n C dX6_stepsBack_62 0 rfl ?_
    refine j_bipush C dX6_stepsBack_63 (v := 24) (by decide) ?_
    refine j_irem C dX6_stepsBack_65 (by decide) ?_
    refine j_putI C dX6_stepsBack_66 inX6 tyX6 tyX6_ok nmX6 rfl (by decide) 3 rfl rfl (by decide) w_89 rfl rfl rfl rfl (Nat.le_of_ble_eq_true rfl) (fun s66_5 hs66_5 => ?_)
    have h := jlet h hs66_5
    refine j_aload_n C dX6_stepsBack_69 1 rfl ?_
    refine j_iload_n C dX6_stepsBack_70 0 rfl ?_
    refine j_bipush C dX6_stepsBack_71 (v := 24) (by decide) ?_
    refine j_idiv C dX6_stepsBack_73 (by decide) ?_
    refine j_putI C dX6_stepsBack_74 inX6 tyX6 tyX6_ok nmX6 rfl (by decide) 5 rfl rfl (by decide) w_93 rfl rfl rfl rfl (Nat.le_of_ble_eq_true rfl) (fun s74_6 hs74_6 => ?_)
    have h := jlet h hs74_6
    refine j_iconst C dX6_stepsBack_77 (v := 1) (by decide) ?_
    exact j_iret C dX6_stepsBack_78 rfl (jb_nar true) (Nat.zero_le _) (Nat.zero_le _) (jretWB h)
  · have h := jite_f h (jb_f cq)
    refine j_iconst C dX6_stepsBack_13 (v := 0) (by decide) ?_
    exact j_iret C dX6_stepsBack_14 rfl (jb_nar false) (Nat.zero_le _) (Nat.zero_le _) (jretWB h)
-- X8_undo
def F_X8_undo (s : jS) : Option (Int32 × jS) :=
  ((F_X6_stepsBack_25 s).bind fun p7 => (if p7.1 = true then some ((p7.2.1 25 6), p7.2) else some ((-1), p7.2)))
def rm_X8_undo : Room := { frames := 2, cells := 0, slots := 0, locals := 43 }
set_option maxHeartbeats 4000000 in
set_option maxRecDepth 100000 in
theorem m_X8_undo {l : Launch} {D : va_G} {G : Nat → ClassId} {KV : jV} {ad : Nat → Nat} {nd : Nat} (s : jS) {p : Int32 × jS} (h : F_X8_undo s = some p) : jM l D G KV yX8_undo cX8_undo 1 (some .int) rm_X8_undo [.ref (ad 0)] (jw 54 (cellC G nd) ad s) 0 0 (fun v u => v = some (.int p.1) ∧ u = jw 54 (cellC G nd) ad p.2) := by
  refine jM.of (by decide) (Nat.le_of_ble_eq_true rfl) ?_
  intro K C
  unfold F_X8_undo at h
  show K 0 0 (jw 54 (cellC G nd) ad s) 0 [(0, .ref (ad 0))] []
  refine j_aload_n C dX8_undo_0 0 rfl ?_
  refine j_getW C dX8_undo_1 inX8 rfl (by decide) rfl 1 (by decide) w_343 rfl rfl ?_
  refine j_getW C dX8_undo_4 inX2 rfl (by decide) rfl 6 (by decide) w_134 rfl rfl ?_
  obtain ⟨p7, he7, h⟩ := jbind h
  refine j_cV1 C dX8_undo_7 (m_X6_stepsBack_25 s he7) kc_X6_stepsBack w_736 w_737 w_738 w_5 jy_X6_stepsBack ⟨⟨Nat.le_of_ble_eq_true rfl, Nat.le_of_ble_eq_true rfl⟩, ⟨rfl, rfl⟩, ⟨Nat.zero_le _, Nat.zero_le _⟩⟩ (Nat.le_of_ble_eq_true rfl) (by decide) rfl (r := (RX6, TX6, 8)) rfl rfl rfl (fun _ _ h => h) ?_
  refine j_if_eq C dX8_undo_10 (tgt := 26) (by decide) (fun cq => ?_) (fun cq => ?_)
  · have h := jite_f h (jb_f cq)
    refine j_iconst C dX8_undo_26 (v := (-1)) (by decide) ?_
    exact j_iret C dX8_undo_27 rfl rfl (Nat.zero_le _) (Nat.zero_le _) (jretWI h)
  · have h := jite_t h (jb_t cq)
    refine j_aload_n C dX8_undo_13 0 rfl ?_
    refine j_getW C dX8_undo_14 inX8 rfl (by decide) rfl 1 (by decide) w_343 rfl rfl ?_
    refine j_getW C dX8_undo_17 inX2 rfl (by decide) rfl 6 (by decide) w_134 rfl rfl ?_
    refine j_getW C dX8_undo_20 inX6 rfl (by decide) rfl 6 (by decide) w_96 rfl rfl ?_
    refine j_goto C dX8_undo_23 (tgt := 27) (by decide) ?_
    exact j_iret C dX8_undo_27 rfl rfl (Nat.zero_le _) (Nat.zero_le _) (jretWI h)
-- X8_traveller
def F_X8_traveller (v1 : Int32) (s : jS) : Int32 :=
  (if v1 = 0 then (s.1 25 5) else (if v1 = 1 then (s.1 25 3) else (if v1 = 2 then (s.1 25 4) else (if v1 = 3 then (s.1 25 2) else (if v1 = 4 then (s.1 25 0) else (if v1 = 5 then (s.1 25 1) else (-1)))))))
def rm_X8_traveller : Room := { frames := 0, cells := 0, slots := 0, locals := 0 }
set_option maxHeartbeats 4000000 in
set_option maxRecDepth 100000 in
theorem m_X8_traveller {l : Launch} {D : va_G} {G : Nat → ClassId} {KV : jV} {ad : Nat → Nat} {nd : Nat} (v1 : Int32) (s : jS) {p : Int32} (h : F_X8_traveller v1 s = p) : jM l D G KV yX8_traveller cX8_traveller 3 (some .int) rm_X8_traveller [.ref (ad 0), .int v1] (jw 54 (cellC G nd) ad s) 0 0 (fun v u => v = some (.int p) ∧ u = jw 54 (cellC G nd) ad s) := by
  refine jM.of (by decide) (Nat.le_of_ble_eq_true rfl) ?_
  intro K C
  unfold F_X8_traveller at h
  show K 0 0 (jw 54 (cellC G nd) ad s) 0 [(0, .ref (ad 0)), (1, .int v1)] []
  refine j_aload_n C dX8_traveller_0 0 rfl ?_
  refine j_getW C dX8_traveller_1 inX8 rfl (by decide) rfl 1 (by decide) w_343 rfl rfl ?_
  refine j_getW C dX8_traveller_4 inX2 rfl (by decide) rfl 6 (by decide) w_134 rfl rfl ?_
  refine j_astore_n C dX8_traveller_7 (by decide) rfl ?_
  refine j_iload_n C dX8_traveller_8 2 rfl ?_
  by_cases cs0 : v1 = 0
  · have h := jite_t h cs0
    refine j_tinE C dX8_traveller_9 cs0 (by decide) (by decide) (off := 39) (by decide) (tgt := 48) (by decide) ?_
    refine j_aload_n C dX8_traveller_48 0 rfl ?_
    refine j_getW C dX8_traveller_49 inX6 rfl (by decide) rfl 5 (by decide) w_94 rfl rfl ?_
    exact j_iret C dX8_traveller_52 rfl rfl (Nat.zero_le _) (Nat.zero_le _) (jretTI h)
  have h := jite_f h cs0
  by_cases cs1 : v1 = 1
  · have h := jite_t h cs1
    refine j_tinE C dX8_traveller_9 cs1 (by decide) (by decide) (off := 44) (by decide) (tgt := 53) (by decide) ?_
    refine j_aload_n C dX8_traveller_53 0 rfl ?_
    refine j_getW C dX8_traveller_54 inX6 rfl (by decide) rfl 3 (by decide) w_90 rfl rfl ?_
    exact j_iret C dX8_traveller_57 rfl rfl (Nat.zero_le _) (Nat.zero_le _) (jretTI h)
  have h := jite_f h cs1
  by_cases cs2 : v1 = 2
  · have h := jite_t h cs2
    refine j_tinE C dX8_traveller_9 cs2 (by decide) (by decide) (off := 49) (by decide) (tgt := 58) (by decide) ?_
    refine j_aload_n C dX8_traveller_58 0 rfl ?_
    refine j_getW C dX8_traveller_59 inX6 rfl (by decide) rfl 4 (by decide) w_92 rfl rfl ?_
    exact j_iret C dX8_traveller_62 rfl rfl (Nat.zero_le _) (Nat.zero_le _) (jretTI h)
  have h := jite_f h cs2
  by_cases cs3 : v1 = 3
  · have h := jite_t h cs3
    refine j_tinE C dX8_traveller_9 cs3 (by decide) (by decide) (off := 54) (by decide) (tgt := 63) (by decide) ?_
    refine j_aload_n C dX8_traveller_63 0 rfl ?_
    refine j_getW C dX8_traveller_64 inX6 rfl (by decide) rfl 2 (by decide) w_88 rfl rfl ?_
    exact j_iret C dX8_traveller_67 rfl rfl (Nat.zero_le _) (Nat.zero_le _) (jretTI h)
  have h := jite_f h cs3
  by_cases cs4 : v1 = 4
  · have h := jite_t h cs4
    refine j_tinE C dX8_traveller_9 cs4 (by decide) (by decide) (off := 59) (by decide) (tgt := 68) (by decide) ?_
    refine j_aload_n C dX8_traveller_68 0 rfl ?_
    refine j_getW C dX8_traveller_69 inX6 rfl (by decide) rfl 0 (by decide) w_84 rfl rfl ?_
    exact j_iret C dX8_traveller_72 rfl rfl (Nat.zero_le _) (Nat.zero_le _) (jretTI h)
  have h := jite_f h cs4
  by_cases cs5 : v1 = 5
  · have h := jite_t h cs5
    refine j_tinE C dX8_traveller_9 cs5 (by decide) (by decide) (off := 64) (by decide) (tgt := 73) (by decide) ?_
    refine j_aload_n C dX8_traveller_73 0 rfl ?_
    refine j_getW C dX8_traveller_74 inX6 rfl (by decide) rfl 1 (by decide) w_86 rfl rfl ?_
    exact j_iret C dX8_traveller_77 rfl rfl (Nat.zero_le _) (Nat.zero_le _) (jretTI h)
  have h := jite_f h cs5
  refine j_tout C dX8_traveller_9 (jtsw (by decide) (by decide) (fun z h1 h2 => ?_)) (tgt := 78) (by decide) ?_
  · have hz : z = 0 ∨ z = 1 ∨ z = 2 ∨ z = 3 ∨ z = 4 ∨ z = 5 := by omega
    rcases hz with rfl | rfl | rfl | rfl | rfl | rfl
    all_goals first | exact cs0 | exact cs1 | exact cs2 | exact cs3 | exact cs4 | exact cs5
  refine j_iconst C dX8_traveller_78 (v := (-1)) (by decide) ?_
  exact j_iret C dX8_traveller_79 rfl rfl (Nat.zero_le _) (Nat.zero_le _) (jretTI h)
-- J7_fill_d0a16_32
def B_J7_fill_d0a16_32_6 (nd : Nat) (n : Nat) (v1 : Int64) (v4 : Int32) (q : Int32 × jS) : Option ((Int32 × jS) ⊕ (Int32 × jS)) :=
  (if v4 ≤ q.1 then some (.inr (q.1, q.2)) else (if jin q.1 (960 * nd) = true then (jl (upL q.2 32 (Int32.toNatClampNeg q.1) v1) fun s15_2 => some (.inl ((q.1 + 1), s15_2))) else none))
def F_J7_fill_d0a16_32 (nd : Nat) (n : Nat) (v1 : Int64) (s : jS) : Option jS :=
  ((lp (B_J7_fill_d0a16_32_6 nd n v1 (Int32.ofNat (960 * nd))) n (0, s)).bind fun e6 => some e6.2)
def rm_J7_fill_d0a16_32 : Room := { frames := 0, cells := 0, slots := 0, locals := 0 }
set_option maxHeartbeats 4000000 in
set_option maxRecDepth 100000 in
theorem m_J7_fill_d0a16_32 {l : Launch} {D : va_G} {G : Nat → ClassId} {KV : jV} {ad : Nat → Nat} (nd : Nat) (n : Nat) (v1 : Int64) (s : jS) {p : jS} (h : F_J7_fill_d0a16_32 nd n v1 s = some p) : jM l D G KV yJ7_fill_d0a16 cJ7_fill_d0a16 5 none rm_J7_fill_d0a16_32 [.ref (ad 32), .long v1] (jw 54 (cellC G nd) ad s) 0 0 (fun v u => v = none ∧ u = jw 54 (cellC G nd) ad p) := by
  refine jM.of (by decide) (Nat.le_of_ble_eq_true rfl) ?_
  intro K C
  unfold F_J7_fill_d0a16_32 at h
  have lo6 : ∀ (v1 : Int64) (v4 : Int32) (s : jS) (k : Nat) (q : Int32 × jS) (e : Int32 × jS), lp (B_J7_fill_d0a16_32_6 nd n v1 v4) k q = some e → K 0 0 (jw 54 (cellC G nd) ad e.2) 22 [] [] → K 0 0 (jw 54 (cellC G nd) ad q.2) 6 [(0, .ref (ad 32)), (1, .long v1), (3, .int q.1), (4, .int v4)] [] := by
    intro v1 v4 s k q e he hE
    refine jlp (KH := fun q => K 0 0 (jw 54 (cellC G nd) ad q.2) 6 [(0, .ref (ad 32)), (1, .long v1), (3, .int q.1), (4, .int v4)] []) (KE := fun e => K 0 0 (jw 54 (cellC G nd) ad e.2) 22 [] []) ?_ k q e he hE
    intro q o hb hin hout
    unfold B_J7_fill_d0a16_32_6 at hb
    show K 0 0 (jw 54 (cellC G nd) ad q.2) 6 [(0, .ref (ad 32)), (1, .long v1), (3, .int q.1), (4, .int v4)] []
    refine j_iload_n C dJ7_fill_d0a16_6 2 rfl ?_
    refine j_iload C dJ7_fill_d0a16_7 3 rfl ?_
    refine j_icmp_ge C dJ7_fill_d0a16_9 (tgt := 22) (by decide) (fun cq => ?_) (fun cq => ?_)
    · have hb := jite_t hb cq
      refine j_loc C [] rfl ?_
      have hx := hout _ (jinr hb)
      exact hx
    · have hb := jite_f hb cq
      refine j_aload_n C dJ7_fill_d0a16_12 0 rfl ?_
      refine j_iload_n C dJ7_fill_d0a16_13 2 rfl ?_
      refine j_lload_n C dJ7_fill_d0a16_14 1 rfl ?_
      obtain ⟨c15_1, hb⟩ := jchk hb
      refine j_lastW C dJ7_fill_d0a16_15 (by decide) (fun _ => rfl) (jin_vp c15_1) (fun s15_2 hs15_2 => ?_)
      have hb := jlet hb hs15_2
      refine j_iinc C dJ7_fill_d0a16_16 2 rfl (v := (q.1 + 1)) rfl (by decide) rfl ?_
      refine j_goto C dJ7_fill_d0a16_19 (tgt := 6) (by decide) ?_
      refine j_loc C [1, 2, 0, 3] rfl ?_
      have hx := hin _ (jinl hb)
      exact hx
  show K 0 0 (jw 54 (cellC G nd) ad s) 0 [(0, .ref (ad 32)), (1, .long v1)] []
  refine j_iconst C dJ7_fill_d0a16_0 (v := 0) (by decide) ?_
  refine j_istore_n C dJ7_fill_d0a16_1 (by decide) rfl ?_
  refine j_aload_n C dJ7_fill_d0a16_2 1 rfl ?_
  refine j_alenW C dJ7_fill_d0a16_3 (by decide) rfl (by decide) (v := (Int32.ofNat (960 * nd))) rfl ?_
  refine j_istore C dJ7_fill_d0a16_4 (by decide) rfl ?_
  refine j_loc C [2, 3, 1, 0] rfl ?_
  obtain ⟨e6, he6, h⟩ := jbind h
  refine lo6 v1 (Int32.ofNat (960 * nd)) s  n (0, s) e6 he6 ?_
  exact j_vret C dJ7_fill_d0a16_22 rfl (Nat.zero_le _) (Nat.zero_le _) (jretWV h)
-- X3_placeOf
def J_X3_placeOf_51 (v1 : Int32) (v5 : Int32) (k0 : Int32) (s : jS) : Option Int32 :=
  some (((((v1 * (s.1 29 0)) + v5) * 10) + k0) * 24)
def J_X3_placeOf_35 (v1 : Int32) (v3 : Int32) (v4 : Int32) (k0 : Int32) (s : jS) : Option Int32 :=
  (if (v4 &&& (128 : Int32)) = 0 then J_X3_placeOf_51 v1 k0 0 s else J_X3_placeOf_51 v1 k0 v3 s)
def F_X3_placeOf (v1 : Int32) (v2 : Int32) (v3 : Int32) (s : jS) : Option Int32 :=
  (if v1 < 0 then some (-1) else (if v1 < 4 then (if jin v1 4 = true then (if ((s.1 (2 + 4 * (Int32.toNatClampNeg v1)) 5) &&& (9 : Int32)) = 0 then J_X3_placeOf_35 v1 v3 (s.1 (2 + 4 * (Int32.toNatClampNeg v1)) 5) 0 s else J_X3_placeOf_35 v1 v3 (s.1 (2 + 4 * (Int32.toNatClampNeg v1)) 5) v2 s) else none) else some (-1)))
def rm_X3_placeOf : Room := { frames := 0, cells := 0, slots := 0, locals := 0 }
set_option maxHeartbeats 4000000 in
set_option maxRecDepth 100000 in
theorem m_X3_placeOf {l : Launch} {D : va_G} {G : Nat → ClassId} {KV : jV} {ad : Nat → Nat} {nd : Nat} (v1 : Int32) (v2 : Int32) (v3 : Int32) (s : jS) {p : Int32} (h : F_X3_placeOf v1 v2 v3 s = some p) : jM l D G KV yX3_placeOf cX3_placeOf 7 (some .int) rm_X3_placeOf [.ref (ad 29), .int v1, .int v2, .int v3] (jw 54 (cellC G nd) ad s) 0 0 (fun v u => v = some (.int p) ∧ u = jw 54 (cellC G nd) ad s) := by
  refine jM.of (by decide) (Nat.le_of_ble_eq_true rfl) ?_
  intro K C
  unfold F_X3_placeOf at h
  have jn51 : ∀ (v1 : Int32) (v5 : Int32) (k0 : Int32) (_ : J_X3_placeOf_51 v1 v5 k0 s = some p), K 0 0 (jw 54 (cellC G nd) ad s) 51 [(0, .ref (ad 29)), (1, .int v1), (5, .int v5)] [.int k0] := by
    intro v1 v5 k0 h
    unfold J_X3_placeOf_51 at h
    refine j_istore C dX3_placeOf_51 (by decide) rfl ?_
    refine j_iload_n C dX3_placeOf_53 2 rfl ?_
    refine j_aload_n C dX3_placeOf_54 1 rfl ?_
    refine j_getW C dX3_placeOf_55 inX3 rfl (by decide) rfl 0 (by decide) w_201 rfl rfl ?_
    refine j_imul C dX3_placeOf_58 ?_
    refine j_iload C dX3_placeOf_59 3 rfl ?_
    refine j_iadd C dX3_placeOf_61 ?_
    refine j_bipush C dX3_placeOf_62 (v := 10) (by decide) ?_
    refine j_imul C dX3_placeOf_64 ?_
    refine j_iload C dX3_placeOf_65 0 rfl ?_
    refine j_iadd C dX3_placeOf_67 ?_
    refine j_bipush C dX3_placeOf_68 (v := 24) (by decide) ?_
    refine j_imul C dX3_placeOf_70 ?_
    exact j_iret C dX3_placeOf_71 rfl rfl (Nat.zero_le _) (Nat.zero_le _) (jretPI h)
  have jn35 : ∀ (v1 : Int32) (v3 : Int32) (v4 : Int32) (k0 : Int32) (_ : J_X3_placeOf_35 v1 v3 v4 k0 s = some p), K 0 0 (jw 54 (cellC G nd) ad s) 35 [(0, .ref (ad 29)), (1, .int v1), (3, .int v3), (4, .int v4)] [.int k0] := by
    intro v1 v3 v4 k0 h
    unfold J_X3_placeOf_35 at h
    refine j_istore C dX3_placeOf_35 (by decide) rfl ?_
    refine j_iload C dX3_placeOf_37 4 rfl ?_
    refine j_sipush C dX3_placeOf_39 (v := 128) (by decide) ?_
    refine j_iand C dX3_placeOf_42 ?_
    refine j_if_eq C dX3_placeOf_43 (tgt := 50) (by decide) (fun cq => ?_) (fun cq => ?_)
    · have h := jite_t h cq
      refine j_iconst C dX3_placeOf_50 (v := 0) (by decide) ?_
      refine j_loc C [1, 2, 0] rfl ?_
      exact jn51 v1 k0 0   h
    · have h := jite_f h cq
      refine j_iload_n C dX3_placeOf_46 3 rfl ?_
      refine j_goto C dX3_placeOf_47 (tgt := 51) (by decide) ?_
      refine j_loc C [1, 2, 0] rfl ?_
      exact jn51 v1 k0 v3   h
  show K 0 0 (jw 54 (cellC G nd) ad s) 0 [(0, .ref (ad 29)), (1, .int v1), (2, .int v2), (3, .int v3)] []
  refine j_iload_n C dX3_placeOf_0 1 rfl ?_
  refine j_if_lt C dX3_placeOf_1 (tgt := 9) (by decide) (fun cq => ?_) (fun cq => ?_)
  · have h := jite_t h cq
    refine j_iconst C dX3_placeOf_9 (v := (-1)) (by decide) ?_
    exact j_iret C dX3_placeOf_10 rfl rfl (Nat.zero_le _) (Nat.zero_le _) (jretPI h)
  · have h := jite_f h cq
    refine j_iload_n C dX3_placeOf_4 1 rfl ?_
    refine j_iconst C dX3_placeOf_5 (v := 4) (by decide) ?_
    refine j_icmp_lt C dX3_placeOf_6 (tgt := 11) (by decide) (fun cq => ?_) (fun cq => ?_)
    · have h := jite_t h cq
      refine j_aload_n C dX3_placeOf_11 0 rfl ?_
      refine j_getW C dX3_placeOf_12 inX3 rfl (by decide) rfl 2 (by decide) w_203 rfl rfl ?_
      refine j_iload_n C dX3_placeOf_15 1 rfl ?_
      obtain ⟨c16_1, h⟩ := jchk h
      refine j_aaldT C dX3_placeOf_16 (by decide) rfl c16_1 ?_
      refine j_getW C dX3_placeOf_17 inX5 rfl (cTq0 (jin_lt (i := v1) (n := 4) c16_1)) (cT0 (jin_lt (i := v1) (n := 4) c16_1)) 5 (by decide) w_51 rfl rfl ?_
      refine j_istore C dX3_placeOf_20 (by decide) rfl ?_
      refine j_iload C dX3_placeOf_22 0 rfl ?_
      refine j_bipush C dX3_placeOf_24 (v := 9) (by decide) ?_
      refine j_iand C dX3_placeOf_26 ?_
      refine j_if_eq C dX3_placeOf_27 (tgt := 34) (by decide) (fun cq => ?_) (fun cq => ?_)
      · have h := jite_t h cq
        refine j_iconst C dX3_placeOf_34 (v := 0) (by decide) ?_
        refine j_loc C [1, 2, 4, 0] rfl ?_
        exact jn35 v1 v3 (s.1 (2 + 4 * (Int32.toNatClampNeg v1)) 5) 0   h
      · have h := jite_f h cq
        refine j_iload_n C dX3_placeOf_30 3 rfl ?_
        refine j_goto C dX3_placeOf_31 (tgt := 35) (by decide) ?_
        refine j_loc C [1, 2, 4, 0] rfl ?_
        exact jn35 v1 v3 (s.1 (2 + 4 * (Int32.toNatClampNeg v1)) 5) v2   h
    · have h := jite_f h cq
      refine j_iconst C dX3_placeOf_9 (v := (-1)) (by decide) ?_
      exact j_iret C dX3_placeOf_10 rfl rfl (Nat.zero_le _) (Nat.zero_le _) (jretPI h)
