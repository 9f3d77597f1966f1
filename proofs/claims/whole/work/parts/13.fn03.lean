theorem dX1_joinDownTo_0 : decode cX1_joinDownTo 0 = .ok (.aload_n 0, 1) := by decide +kernel
theorem dX1_joinDownTo_1 : decode cX1_joinDownTo 1 = .ok (.getfield 95, 3) := by decide +kernel
theorem dX1_joinDownTo_4 : decode cX1_joinDownTo 4 = .ok (.iconst 1, 1) := by decide +kernel
theorem dX1_joinDownTo_5 : decode cX1_joinDownTo 5 = .ok (.isub, 1) := by decide +kernel
theorem dX1_joinDownTo_6 : decode cX1_joinDownTo 6 = .ok (.istore_n 2, 1) := by decide +kernel
theorem dX1_joinDownTo_7 : decode cX1_joinDownTo 7 = .ok (.iload_n 2, 1) := by decide +kernel
theorem dX1_joinDownTo_8 : decode cX1_joinDownTo 8 = .ok (.ifCond .lt 67, 3) := by decide +kernel
theorem dX1_joinDownTo_11 : decode cX1_joinDownTo 11 = .ok (.aload_n 0, 1) := by decide +kernel
theorem dX1_joinDownTo_12 : decode cX1_joinDownTo 12 = .ok (.iload_n 2, 1) := by decide +kernel
theorem dX1_joinDownTo_13 : decode cX1_joinDownTo 13 = .ok (.invokevirtual 127, 3) := by decide +kernel
theorem dX1_joinDownTo_16 : decode cX1_joinDownTo 16 = .ok (.invokestatic 137, 3) := by decide +kernel
theorem dX1_joinDownTo_19 : decode cX1_joinDownTo 19 = .ok (.iload_n 1, 1) := by decide +kernel
theorem dX1_joinDownTo_20 : decode cX1_joinDownTo 20 = .ok (.if_icmp .lt 55, 3) := by decide +kernel
theorem dX1_joinDownTo_23 : decode cX1_joinDownTo 23 = .ok (.aload_n 0, 1) := by decide +kernel
theorem dX1_joinDownTo_24 : decode cX1_joinDownTo 24 = .ok (.iload_n 2, 1) := by decide +kernel
theorem dX1_joinDownTo_25 : decode cX1_joinDownTo 25 = .ok (.invokevirtual 127, 3) := by decide +kernel
theorem dX1_joinDownTo_28 : decode cX1_joinDownTo 28 = .ok (.istore_n 3, 1) := by decide +kernel
theorem dX1_joinDownTo_29 : decode cX1_joinDownTo 29 = .ok (.aload_n 0, 1) := by decide +kernel
theorem dX1_joinDownTo_30 : decode cX1_joinDownTo 30 = .ok (.getfield 26, 3) := by decide +kernel
theorem dX1_joinDownTo_33 : decode cX1_joinDownTo 33 = .ok (.iload_n 3, 1) := by decide +kernel
theorem dX1_joinDownTo_34 : decode cX1_joinDownTo 34 = .ok (.ineg, 1) := by decide +kernel
theorem dX1_joinDownTo_35 : decode cX1_joinDownTo 35 = .ok (.invokevirtual 124, 3) := by decide +kernel
theorem dX1_joinDownTo_38 : decode cX1_joinDownTo 38 = .ok (.aload_n 0, 1) := by decide +kernel
theorem dX1_joinDownTo_39 : decode cX1_joinDownTo 39 = .ok (.dup, 1) := by decide +kernel
theorem dX1_joinDownTo_40 : decode cX1_joinDownTo 40 = .ok (.getfield 98, 3) := by decide +kernel
theorem dX1_joinDownTo_43 : decode cX1_joinDownTo 43 = .ok (.iload_n 3, 1) := by decide +kernel
theorem dX1_joinDownTo_44 : decode cX1_joinDownTo 44 = .ok (.bipush 13, 2) := by decide +kernel
theorem dX1_joinDownTo_46 : decode cX1_joinDownTo 46 = .ok (.if_icmp .eq 9, 3) := by decide +kernel
theorem dX1_joinDownTo_49 : decode cX1_joinDownTo 49 = .ok (.iload_n 3, 1) := by decide +kernel
theorem dX1_joinDownTo_50 : decode cX1_joinDownTo 50 = .ok (.bipush 24, 2) := by decide +kernel
theorem dX1_joinDownTo_52 : decode cX1_joinDownTo 52 = .ok (.if_icmp .ne 7, 3) := by decide +kernel
theorem dX1_joinDownTo_55 : decode cX1_joinDownTo 55 = .ok (.iconst 1, 1) := by decide +kernel
theorem dX1_joinDownTo_56 : decode cX1_joinDownTo 56 = .ok (.goto 4, 3) := by decide +kernel
theorem dX1_joinDownTo_59 : decode cX1_joinDownTo 59 = .ok (.iconst 0, 1) := by decide +kernel
theorem dX1_joinDownTo_60 : decode cX1_joinDownTo 60 = .ok (.isub, 1) := by decide +kernel
theorem dX1_joinDownTo_61 : decode cX1_joinDownTo 61 = .ok (.putfield 98, 3) := by decide +kernel
theorem dX1_joinDownTo_64 : decode cX1_joinDownTo 64 = .ok (.aload_n 0, 1) := by decide +kernel
theorem dX1_joinDownTo_65 : decode cX1_joinDownTo 65 = .ok (.iload_n 2, 1) := by decide +kernel
theorem dX1_joinDownTo_66 : decode cX1_joinDownTo 66 = .ok (.putfield 95, 3) := by decide +kernel
theorem dX1_joinDownTo_69 : decode cX1_joinDownTo 69 = .ok (.iinc 2 (-1), 3) := by decide +kernel
theorem dX1_joinDownTo_72 : decode cX1_joinDownTo 72 = .ok (.goto (-65), 3) := by decide +kernel
theorem dX1_joinDownTo_75 : decode cX1_joinDownTo 75 = .ok (.return_, 1) := by decide +kernel
theorem dX1_endOne_0 : decode cX1_endOne 0 = .ok (.aload_n 0, 1) := by decide +kernel
theorem dX1_endOne_1 : decode cX1_endOne 1 = .ok (.bipush 7, 2) := by decide +kernel
theorem dX1_endOne_3 : decode cX1_endOne 3 = .ok (.invokevirtual 134, 3) := by decide +kernel
theorem dX1_endOne_6 : decode cX1_endOne 6 = .ok (.aload_n 0, 1) := by decide +kernel
theorem dX1_endOne_7 : decode cX1_endOne 7 = .ok (.bipush 7, 2) := by decide +kernel
theorem dX1_endOne_9 : decode cX1_endOne 9 = .ok (.putfield 30, 3) := by decide +kernel
theorem dX1_endOne_12 : decode cX1_endOne 12 = .ok (.return_, 1) := by decide +kernel
theorem dX1_takeOne_0 : decode cX1_takeOne 0 = .ok (.iload_n 1, 1) := by decide +kernel
theorem dX1_takeOne_1 : decode cX1_takeOne 1 = .ok (.bipush 9, 2) := by decide +kernel
theorem dX1_takeOne_3 : decode cX1_takeOne 3 = .ok (.if_icmp .ne 12, 3) := by decide +kernel
theorem dX1_takeOne_6 : decode cX1_takeOne 6 = .ok (.aload_n 0, 1) := by decide +kernel
theorem dX1_takeOne_7 : decode cX1_takeOne 7 = .ok (.bipush 9, 2) := by decide +kernel
theorem dX1_takeOne_9 : decode cX1_takeOne 9 = .ok (.invokevirtual 111, 3) := by decide +kernel
theorem dX1_takeOne_12 : decode cX1_takeOne 12 = .ok (.goto 118, 3) := by decide +kernel
theorem dX1_takeOne_15 : decode cX1_takeOne 15 = .ok (.iload_n 1, 1) := by decide +kernel
theorem dX1_takeOne_16 : decode cX1_takeOne 16 = .ok (.bipush 21, 2) := by decide +kernel
theorem dX1_takeOne_18 : decode cX1_takeOne 18 = .ok (.if_icmp .ne 12, 3) := by decide +kernel
theorem dX1_takeOne_21 : decode cX1_takeOne 21 = .ok (.aload_n 0, 1) := by decide +kernel
theorem dX1_takeOne_22 : decode cX1_takeOne 22 = .ok (.bipush 24, 2) := by decide +kernel
theorem dX1_takeOne_24 : decode cX1_takeOne 24 = .ok (.invokevirtual 111, 3) := by decide +kernel
theorem dX1_takeOne_27 : decode cX1_takeOne 27 = .ok (.goto 103, 3) := by decide +kernel
theorem dX1_takeOne_30 : decode cX1_takeOne 30 = .ok (.iload_n 1, 1) := by decide +kernel
theorem dX1_takeOne_31 : decode cX1_takeOne 31 = .ok (.bipush 13, 2) := by decide +kernel
theorem dX1_takeOne_33 : decode cX1_takeOne 33 = .ok (.if_icmp .ne 19, 3) := by decide +kernel
theorem dX1_takeOne_36 : decode cX1_takeOne 36 = .ok (.aload_n 0, 1) := by decide +kernel
theorem dX1_takeOne_37 : decode cX1_takeOne 37 = .ok (.invokevirtual 114, 3) := by decide +kernel
theorem dX1_takeOne_40 : decode cX1_takeOne 40 = .ok (.ifCond .eq 12, 3) := by decide +kernel
theorem dX1_takeOne_43 : decode cX1_takeOne 43 = .ok (.aload_n 0, 1) := by decide +kernel
theorem dX1_takeOne_44 : decode cX1_takeOne 44 = .ok (.bipush 13, 2) := by decide +kernel
theorem dX1_takeOne_46 : decode cX1_takeOne 46 = .ok (.invokevirtual 111, 3) := by decide +kernel
theorem dX1_takeOne_49 : decode cX1_takeOne 49 = .ok (.goto 81, 3) := by decide +kernel
theorem dX1_takeOne_52 : decode cX1_takeOne 52 = .ok (.iload_n 1, 1) := by decide +kernel
theorem dX1_takeOne_53 : decode cX1_takeOne 53 = .ok (.iconst 3, 1) := by decide +kernel
theorem dX1_takeOne_54 : decode cX1_takeOne 54 = .ok (.if_icmp .ne 24, 3) := by decide +kernel
theorem dX1_takeOne_57 : decode cX1_takeOne 57 = .ok (.aload_n 0, 1) := by decide +kernel
theorem dX1_takeOne_58 : decode cX1_takeOne 58 = .ok (.getfield 26, 3) := by decide +kernel
theorem dX1_takeOne_61 : decode cX1_takeOne 61 = .ok (.aload_n 0, 1) := by decide +kernel
theorem dX1_takeOne_62 : decode cX1_takeOne 62 = .ok (.getfield 22, 3) := by decide +kernel
theorem dX1_takeOne_65 : decode cX1_takeOne 65 = .ok (.getfield 63, 3) := by decide +kernel
theorem dX1_takeOne_68 : decode cX1_takeOne 68 = .ok (.invokevirtual 118, 3) := by decide +kernel
theorem dX1_takeOne_71 : decode cX1_takeOne 71 = .ok (.aload_n 0, 1) := by decide +kernel
theorem dX1_takeOne_72 : decode cX1_takeOne 72 = .ok (.invokevirtual 121, 3) := by decide +kernel
theorem dX1_takeOne_75 : decode cX1_takeOne 75 = .ok (.goto 55, 3) := by decide +kernel
theorem dX1_takeOne_78 : decode cX1_takeOne 78 = .ok (.iload_n 1, 1) := by decide +kernel
theorem dX1_takeOne_79 : decode cX1_takeOne 79 = .ok (.iconst 2, 1) := by decide +kernel
theorem dX1_takeOne_80 : decode cX1_takeOne 80 = .ok (.if_icmp .eq 11, 3) := by decide +kernel
theorem dX1_takeOne_83 : decode cX1_takeOne 83 = .ok (.aload_n 0, 1) := by decide +kernel
theorem dX1_takeOne_84 : decode cX1_takeOne 84 = .ok (.iconst 1, 1) := by decide +kernel
theorem dX1_takeOne_85 : decode cX1_takeOne 85 = .ok (.invokevirtual 82, 3) := by decide +kernel
theorem dX1_takeOne_88 : decode cX1_takeOne 88 = .ok (.goto 42, 3) := by decide +kernel
theorem dX1_takeOne_91 : decode cX1_takeOne 91 = .ok (.aload_n 0, 1) := by decide +kernel
theorem dX1_takeOne_92 : decode cX1_takeOne 92 = .ok (.getfield 22, 3) := by decide +kernel
theorem dX1_takeOne_95 : decode cX1_takeOne 95 = .ok (.getfield 63, 3) := by decide +kernel
theorem dX1_takeOne_98 : decode cX1_takeOne 98 = .ok (.sipush 9999, 3) := by decide +kernel
theorem dX1_takeOne_101 : decode cX1_takeOne 101 = .ok (.if_icmp .le 11, 3) := by decide +kernel
theorem dX1_takeOne_104 : decode cX1_takeOne 104 = .ok (.aload_n 0, 1) := by decide +kernel
theorem dX1_takeOne_105 : decode cX1_takeOne 105 = .ok (.iconst 2, 1) := by decide +kernel
theorem dX1_takeOne_106 : decode cX1_takeOne 106 = .ok (.invokevirtual 82, 3) := by decide +kernel
theorem dX1_takeOne_109 : decode cX1_takeOne 109 = .ok (.goto 21, 3) := by decide +kernel
theorem dX1_takeOne_112 : decode cX1_takeOne 112 = .ok (.aload_n 0, 1) := by decide +kernel
theorem dX1_takeOne_113 : decode cX1_takeOne 113 = .ok (.getfield 26, 3) := by decide +kernel
theorem dX1_takeOne_116 : decode cX1_takeOne 116 = .ok (.aload_n 0, 1) := by decide +kernel
theorem dX1_takeOne_117 : decode cX1_takeOne 117 = .ok (.getfield 22, 3) := by decide +kernel
theorem dX1_takeOne_120 : decode cX1_takeOne 120 = .ok (.getfield 63, 3) := by decide +kernel
theorem dX1_takeOne_123 : decode cX1_takeOne 123 = .ok (.invokevirtual 124, 3) := by decide +kernel
theorem dX1_takeOne_126 : decode cX1_takeOne 126 = .ok (.aload_n 0, 1) := by decide +kernel
theorem dX1_takeOne_127 : decode cX1_takeOne 127 = .ok (.invokevirtual 121, 3) := by decide +kernel
theorem dX1_takeOne_130 : decode cX1_takeOne 130 = .ok (.return_, 1) := by decide +kernel
theorem dX1_join_0 : decode cX1_join 0 = .ok (.aload_n 0, 1) := by decide +kernel
theorem dX1_join_1 : decode cX1_join 1 = .ok (.iload_n 2, 1) := by decide +kernel
theorem dX1_join_2 : decode cX1_join 2 = .ok (.invokevirtual 134, 3) := by decide +kernel
theorem dX1_join_5 : decode cX1_join 5 = .ok (.aload_n 0, 1) := by decide +kernel
theorem dX1_join_6 : decode cX1_join 6 = .ok (.iload_n 1, 1) := by decide +kernel
theorem dX1_join_7 : decode cX1_join 7 = .ok (.invokevirtual 131, 3) := by decide +kernel
theorem dX1_join_10 : decode cX1_join 10 = .ok (.aload_n 0, 1) := by decide +kernel
theorem dX1_join_11 : decode cX1_join 11 = .ok (.bipush 6, 2) := by decide +kernel
theorem dX1_join_13 : decode cX1_join 13 = .ok (.putfield 30, 3) := by decide +kernel
theorem dX1_join_16 : decode cX1_join 16 = .ok (.return_, 1) := by decide +kernel
theorem dX1_close_0 : decode cX1_close 0 = .ok (.aload_n 0, 1) := by decide +kernel
theorem dX1_close_1 : decode cX1_close 1 = .ok (.iconst 5, 1) := by decide +kernel
theorem dX1_close_2 : decode cX1_close 2 = .ok (.invokevirtual 134, 3) := by decide +kernel
theorem dX1_close_5 : decode cX1_close 5 = .ok (.aload_n 0, 1) := by decide +kernel
theorem dX1_close_6 : decode cX1_close 6 = .ok (.dup, 1) := by decide +kernel
theorem dX1_close_7 : decode cX1_close 7 = .ok (.getfield 95, 3) := by decide +kernel
theorem dX1_close_10 : decode cX1_close 10 = .ok (.iconst 1, 1) := by decide +kernel
theorem dX1_close_11 : decode cX1_close 11 = .ok (.isub, 1) := by decide +kernel
theorem dX1_close_12 : decode cX1_close 12 = .ok (.putfield 95, 3) := by decide +kernel
theorem dX1_close_15 : decode cX1_close 15 = .ok (.aload_n 0, 1) := by decide +kernel
theorem dX1_close_16 : decode cX1_close 16 = .ok (.dup, 1) := by decide +kernel
theorem dX1_close_17 : decode cX1_close 17 = .ok (.getfield 98, 3) := by decide +kernel
theorem dX1_close_20 : decode cX1_close 20 = .ok (.iconst 1, 1) := by decide +kernel
theorem dX1_close_21 : decode cX1_close 21 = .ok (.isub, 1) := by decide +kernel
theorem dX1_close_22 : decode cX1_close 22 = .ok (.putfield 98, 3) := by decide +kernel
theorem dX1_close_25 : decode cX1_close 25 = .ok (.aload_n 0, 1) := by decide +kernel
theorem dX1_close_26 : decode cX1_close 26 = .ok (.dup, 1) := by decide +kernel
theorem dX1_close_27 : decode cX1_close 27 = .ok (.getfield 101, 3) := by decide +kernel
theorem dX1_close_30 : decode cX1_close 30 = .ok (.iconst 1, 1) := by decide +kernel
theorem dX1_close_31 : decode cX1_close 31 = .ok (.isub, 1) := by decide +kernel
theorem dX1_close_32 : decode cX1_close 32 = .ok (.putfield 101, 3) := by decide +kernel
theorem dX1_close_35 : decode cX1_close 35 = .ok (.aload_n 0, 1) := by decide +kernel
theorem dX1_close_36 : decode cX1_close 36 = .ok (.bipush 7, 2) := by decide +kernel
theorem dX1_close_38 : decode cX1_close 38 = .ok (.invokevirtual 134, 3) := by decide +kernel
theorem dX1_close_41 : decode cX1_close 41 = .ok (.return_, 1) := by decide +kernel
theorem dX1_takeBehindOne_0 : decode cX1_takeBehindOne 0 = .ok (.iload_n 1, 1) := by decide +kernel
theorem dX1_takeBehindOne_1 : decode cX1_takeBehindOne 1 = .ok (.invokestatic 137, 3) := by decide +kernel
theorem dX1_takeBehindOne_4 : decode cX1_takeBehindOne 4 = .ok (.istore_n 2, 1) := by decide +kernel
theorem dX1_takeBehindOne_5 : decode cX1_takeBehindOne 5 = .ok (.aload_n 0, 1) := by decide +kernel
theorem dX1_takeBehindOne_6 : decode cX1_takeBehindOne 6 = .ok (.getfield 104, 3) := by decide +kernel
theorem dX1_takeBehindOne_9 : decode cX1_takeBehindOne 9 = .ok (.ifCond .eq 14, 3) := by decide +kernel
theorem dX1_takeBehindOne_12 : decode cX1_takeBehindOne 12 = .ok (.aload_n 0, 1) := by decide +kernel
theorem dX1_takeBehindOne_13 : decode cX1_takeBehindOne 13 = .ok (.getfield 101, 3) := by decide +kernel
theorem dX1_takeBehindOne_16 : decode cX1_takeBehindOne 16 = .ok (.ifCond .ne 7, 3) := by decide +kernel
theorem dX1_takeBehindOne_19 : decode cX1_takeBehindOne 19 = .ok (.iconst 1, 1) := by decide +kernel
theorem dX1_takeBehindOne_20 : decode cX1_takeBehindOne 20 = .ok (.goto 4, 3) := by decide +kernel
theorem dX1_takeBehindOne_23 : decode cX1_takeBehindOne 23 = .ok (.iconst 0, 1) := by decide +kernel
theorem dX1_takeBehindOne_24 : decode cX1_takeBehindOne 24 = .ok (.istore_n 3, 1) := by decide +kernel
theorem dX1_takeBehindOne_25 : decode cX1_takeBehindOne 25 = .ok (.iload_n 2, 1) := by decide +kernel
theorem dX1_takeBehindOne_26 : decode cX1_takeBehindOne 26 = .ok (.iconst 5, 1) := by decide +kernel
theorem dX1_takeBehindOne_27 : decode cX1_takeBehindOne 27 = .ok (.if_icmp .eq 9, 3) := by decide +kernel
theorem dX1_takeBehindOne_30 : decode cX1_takeBehindOne 30 = .ok (.iload_n 2, 1) := by decide +kernel
theorem dX1_takeBehindOne_31 : decode cX1_takeBehindOne 31 = .ok (.bipush 6, 2) := by decide +kernel
theorem dX1_takeBehindOne_33 : decode cX1_takeBehindOne 33 = .ok (.if_icmp .ne 12, 3) := by decide +kernel
theorem dX1_takeBehindOne_36 : decode cX1_takeBehindOne 36 = .ok (.aload_n 0, 1) := by decide +kernel
theorem dX1_takeBehindOne_37 : decode cX1_takeBehindOne 37 = .ok (.iload_n 1, 1) := by decide +kernel
theorem dX1_takeBehindOne_38 : decode cX1_takeBehindOne 38 = .ok (.iload_n 2, 1) := by decide +kernel
theorem dX1_takeBehindOne_39 : decode cX1_takeBehindOne 39 = .ok (.invokevirtual 140, 3) := by decide +kernel
theorem dX1_takeBehindOne_42 : decode cX1_takeBehindOne 42 = .ok (.goto 112, 3) := by decide +kernel
theorem dX1_takeBehindOne_45 : decode cX1_takeBehindOne 45 = .ok (.iload_n 1, 1) := by decide +kernel
theorem dX1_takeBehindOne_46 : decode cX1_takeBehindOne 46 = .ok (.bipush 10, 2) := by decide +kernel
theorem dX1_takeBehindOne_48 : decode cX1_takeBehindOne 48 = .ok (.if_icmp .ne 17, 3) := by decide +kernel
theorem dX1_takeBehindOne_51 : decode cX1_takeBehindOne 51 = .ok (.aload_n 0, 1) := by decide +kernel
theorem dX1_takeBehindOne_52 : decode cX1_takeBehindOne 52 = .ok (.getfield 101, 3) := by decide +kernel
theorem dX1_takeBehindOne_55 : decode cX1_takeBehindOne 55 = .ok (.ifCond .le 10, 3) := by decide +kernel
theorem dX1_takeBehindOne_58 : decode cX1_takeBehindOne 58 = .ok (.aload_n 0, 1) := by decide +kernel
theorem dX1_takeBehindOne_59 : decode cX1_takeBehindOne 59 = .ok (.invokevirtual 143, 3) := by decide +kernel
theorem dX1_takeBehindOne_62 : decode cX1_takeBehindOne 62 = .ok (.goto 92, 3) := by decide +kernel
theorem dX1_takeBehindOne_65 : decode cX1_takeBehindOne 65 = .ok (.iload_n 2, 1) := by decide +kernel
theorem dX1_takeBehindOne_66 : decode cX1_takeBehindOne 66 = .ok (.iconst 4, 1) := by decide +kernel
theorem dX1_takeBehindOne_67 : decode cX1_takeBehindOne 67 = .ok (.if_icmp .ne 31, 3) := by decide +kernel
theorem dX1_takeBehindOne_70 : decode cX1_takeBehindOne 70 = .ok (.aload_n 0, 1) := by decide +kernel
theorem dX1_takeBehindOne_71 : decode cX1_takeBehindOne 71 = .ok (.getfield 104, 3) := by decide +kernel
theorem dX1_takeBehindOne_74 : decode cX1_takeBehindOne 74 = .ok (.ifCond .ne 24, 3) := by decide +kernel
theorem dX1_takeBehindOne_77 : decode cX1_takeBehindOne 77 = .ok (.aload_n 0, 1) := by decide +kernel
theorem dX1_takeBehindOne_78 : decode cX1_takeBehindOne 78 = .ok (.getfield 101, 3) := by decide +kernel
theorem dX1_takeBehindOne_81 : decode cX1_takeBehindOne 81 = .ok (.ifCond .ne 17, 3) := by decide +kernel
theorem dX1_takeBehindOne_84 : decode cX1_takeBehindOne 84 = .ok (.aload_n 0, 1) := by decide +kernel
theorem dX1_takeBehindOne_85 : decode cX1_takeBehindOne 85 = .ok (.iload_n 1, 1) := by decide +kernel
theorem dX1_takeBehindOne_86 : decode cX1_takeBehindOne 86 = .ok (.iload_n 2, 1) := by decide +kernel
theorem dX1_takeBehindOne_87 : decode cX1_takeBehindOne 87 = .ok (.invokevirtual 140, 3) := by decide +kernel
theorem dX1_takeBehindOne_90 : decode cX1_takeBehindOne 90 = .ok (.aload_n 0, 1) := by decide +kernel
theorem dX1_takeBehindOne_91 : decode cX1_takeBehindOne 91 = .ok (.iconst 1, 1) := by decide +kernel
theorem dX1_takeBehindOne_92 : decode cX1_takeBehindOne 92 = .ok (.putfield 104, 3) := by decide +kernel
theorem dX1_takeBehindOne_95 : decode cX1_takeBehindOne 95 = .ok (.goto 59, 3) := by decide +kernel
theorem dX1_takeBehindOne_98 : decode cX1_takeBehindOne 98 = .ok (.iload_n 2, 1) := by decide +kernel
theorem dX1_takeBehindOne_99 : decode cX1_takeBehindOne 99 = .ok (.iconst 1, 1) := by decide +kernel
theorem dX1_takeBehindOne_100 : decode cX1_takeBehindOne 100 = .ok (.if_icmp .eq 8, 3) := by decide +kernel
theorem dX1_takeBehindOne_103 : decode cX1_takeBehindOne 103 = .ok (.iload_n 2, 1) := by decide +kernel
theorem dX1_takeBehindOne_104 : decode cX1_takeBehindOne 104 = .ok (.iconst 2, 1) := by decide +kernel
theorem dX1_takeBehindOne_105 : decode cX1_takeBehindOne 105 = .ok (.if_icmp .ne 21, 3) := by decide +kernel
theorem dX1_takeBehindOne_108 : decode cX1_takeBehindOne 108 = .ok (.iload_n 3, 1) := by decide +kernel
theorem dX1_takeBehindOne_109 : decode cX1_takeBehindOne 109 = .ok (.ifCond .eq 17, 3) := by decide +kernel
theorem dX1_takeBehindOne_112 : decode cX1_takeBehindOne 112 = .ok (.aload_n 0, 1) := by decide +kernel
theorem dX1_takeBehindOne_113 : decode cX1_takeBehindOne 113 = .ok (.iload_n 1, 1) := by decide +kernel
theorem dX1_takeBehindOne_114 : decode cX1_takeBehindOne 114 = .ok (.iload_n 2, 1) := by decide +kernel
theorem dX1_takeBehindOne_115 : decode cX1_takeBehindOne 115 = .ok (.invokevirtual 140, 3) := by decide +kernel
theorem dX1_takeBehindOne_118 : decode cX1_takeBehindOne 118 = .ok (.aload_n 0, 1) := by decide +kernel
theorem dX1_takeBehindOne_119 : decode cX1_takeBehindOne 119 = .ok (.iconst 0, 1) := by decide +kernel
theorem dX1_takeBehindOne_120 : decode cX1_takeBehindOne 120 = .ok (.putfield 104, 3) := by decide +kernel
theorem dX1_takeBehindOne_123 : decode cX1_takeBehindOne 123 = .ok (.goto 31, 3) := by decide +kernel
theorem dX1_takeBehindOne_126 : decode cX1_takeBehindOne 126 = .ok (.iload_n 1, 1) := by decide +kernel
theorem dX1_takeBehindOne_127 : decode cX1_takeBehindOne 127 = .ok (.bipush 8, 2) := by decide +kernel
theorem dX1_takeBehindOne_129 : decode cX1_takeBehindOne 129 = .ok (.if_icmp .ne 20, 3) := by decide +kernel
theorem dX1_takeBehindOne_132 : decode cX1_takeBehindOne 132 = .ok (.iload_n 3, 1) := by decide +kernel
theorem dX1_takeBehindOne_133 : decode cX1_takeBehindOne 133 = .ok (.ifCond .eq 16, 3) := by decide +kernel
theorem dX1_takeBehindOne_136 : decode cX1_takeBehindOne 136 = .ok (.aload_n 0, 1) := by decide +kernel
theorem dX1_takeBehindOne_137 : decode cX1_takeBehindOne 137 = .ok (.iconst 1, 1) := by decide +kernel
theorem dX1_takeBehindOne_138 : decode cX1_takeBehindOne 138 = .ok (.invokevirtual 134, 3) := by decide +kernel
theorem dX1_takeBehindOne_141 : decode cX1_takeBehindOne 141 = .ok (.aload_n 0, 1) := by decide +kernel
theorem dX1_takeBehindOne_142 : decode cX1_takeBehindOne 142 = .ok (.iconst 0, 1) := by decide +kernel
theorem dX1_takeBehindOne_143 : decode cX1_takeBehindOne 143 = .ok (.putfield 30, 3) := by decide +kernel
theorem dX1_takeBehindOne_146 : decode cX1_takeBehindOne 146 = .ok (.goto 8, 3) := by decide +kernel
theorem dX1_takeBehindOne_149 : decode cX1_takeBehindOne 149 = .ok (.aload_n 0, 1) := by decide +kernel
theorem dX1_takeBehindOne_150 : decode cX1_takeBehindOne 150 = .ok (.iconst 1, 1) := by decide +kernel
theorem dX1_takeBehindOne_151 : decode cX1_takeBehindOne 151 = .ok (.invokevirtual 82, 3) := by decide +kernel
theorem dX1_takeBehindOne_154 : decode cX1_takeBehindOne 154 = .ok (.return_, 1) := by decide +kernel
theorem dX1_take_0 : decode cX1_take 0 = .ok (.aload_n 0, 1) := by decide +kernel
theorem dX1_take_1 : decode cX1_take 1 = .ok (.getfield 30, 3) := by decide +kernel
theorem dX1_take_4 : decode cX1_take 4 = .ok (.tableswitch 154 0 6 #[44, 52, 77, 87, 111, 136, 146], 44) := by decide +kernel
theorem dX1_take_48 : decode cX1_take 48 = .ok (.aload_n 0, 1) := by decide +kernel
theorem dX1_take_49 : decode cX1_take 49 = .ok (.iload_n 1, 1) := by decide +kernel
theorem dX1_take_50 : decode cX1_take 50 = .ok (.invokevirtual 56, 3) := by decide +kernel
theorem dX1_take_53 : decode cX1_take 53 = .ok (.goto 110, 3) := by decide +kernel
theorem dX1_take_56 : decode cX1_take 56 = .ok (.aload_n 0, 1) := by decide +kernel
theorem dX1_take_57 : decode cX1_take 57 = .ok (.iconst 1, 1) := by decide +kernel
theorem dX1_take_58 : decode cX1_take 58 = .ok (.bipush 7, 2) := by decide +kernel
theorem dX1_take_60 : decode cX1_take 60 = .ok (.iconst 2, 1) := by decide +kernel
theorem dX1_take_61 : decode cX1_take 61 = .ok (.invokevirtual 59, 3) := by decide +kernel
theorem dX1_take_64 : decode cX1_take 64 = .ok (.aload_n 0, 1) := by decide +kernel
theorem dX1_take_65 : decode cX1_take 65 = .ok (.getfield 26, 3) := by decide +kernel
theorem dX1_take_68 : decode cX1_take 68 = .ok (.aload_n 0, 1) := by decide +kernel
theorem dX1_take_69 : decode cX1_take 69 = .ok (.getfield 22, 3) := by decide +kernel
theorem dX1_take_72 : decode cX1_take 72 = .ok (.getfield 63, 3) := by decide +kernel
theorem dX1_take_75 : decode cX1_take 75 = .ok (.invokevirtual 66, 3) := by decide +kernel
theorem dX1_take_78 : decode cX1_take 78 = .ok (.goto 85, 3) := by decide +kernel
theorem dX1_take_81 : decode cX1_take 81 = .ok (.aload_n 0, 1) := by decide +kernel
theorem dX1_take_82 : decode cX1_take 82 = .ok (.bipush 6, 2) := by decide +kernel
theorem dX1_take_84 : decode cX1_take 84 = .ok (.iconst 3, 1) := by decide +kernel
theorem dX1_take_85 : decode cX1_take 85 = .ok (.invokevirtual 69, 3) := by decide +kernel
theorem dX1_take_88 : decode cX1_take 88 = .ok (.goto 75, 3) := by decide +kernel
theorem dX1_take_91 : decode cX1_take 91 = .ok (.aload_n 0, 1) := by decide +kernel
theorem dX1_take_92 : decode cX1_take 92 = .ok (.iconst 0, 1) := by decide +kernel
theorem dX1_take_93 : decode cX1_take 93 = .ok (.iconst 5, 1) := by decide +kernel
theorem dX1_take_94 : decode cX1_take 94 = .ok (.iconst 5, 1) := by decide +kernel
theorem dX1_take_95 : decode cX1_take 95 = .ok (.invokevirtual 59, 3) := by decide +kernel
theorem dX1_take_98 : decode cX1_take 98 = .ok (.aload_n 0, 1) := by decide +kernel
theorem dX1_take_99 : decode cX1_take 99 = .ok (.getfield 26, 3) := by decide +kernel
theorem dX1_take_102 : decode cX1_take 102 = .ok (.aload_n 0, 1) := by decide +kernel
theorem dX1_take_103 : decode cX1_take 103 = .ok (.getfield 22, 3) := by decide +kernel
theorem dX1_take_106 : decode cX1_take 106 = .ok (.getfield 63, 3) := by decide +kernel
theorem dX1_take_109 : decode cX1_take 109 = .ok (.invokevirtual 73, 3) := by decide +kernel
theorem dX1_take_112 : decode cX1_take 112 = .ok (.goto 51, 3) := by decide +kernel
theorem dX1_take_115 : decode cX1_take 115 = .ok (.aload_n 0, 1) := by decide +kernel
theorem dX1_take_116 : decode cX1_take 116 = .ok (.iconst 0, 1) := by decide +kernel
theorem dX1_take_117 : decode cX1_take 117 = .ok (.bipush 24, 2) := by decide +kernel
theorem dX1_take_119 : decode cX1_take 119 = .ok (.iconst 5, 1) := by decide +kernel
theorem dX1_take_120 : decode cX1_take 120 = .ok (.invokevirtual 59, 3) := by decide +kernel
theorem dX1_take_123 : decode cX1_take 123 = .ok (.aload_n 0, 1) := by decide +kernel
theorem dX1_take_124 : decode cX1_take 124 = .ok (.getfield 26, 3) := by decide +kernel
theorem dX1_take_127 : decode cX1_take 127 = .ok (.aload_n 0, 1) := by decide +kernel
theorem dX1_take_128 : decode cX1_take 128 = .ok (.getfield 22, 3) := by decide +kernel
theorem dX1_take_131 : decode cX1_take 131 = .ok (.getfield 63, 3) := by decide +kernel
theorem dX1_take_134 : decode cX1_take 134 = .ok (.invokevirtual 73, 3) := by decide +kernel
theorem dX1_take_137 : decode cX1_take 137 = .ok (.goto 26, 3) := by decide +kernel
theorem dX1_take_140 : decode cX1_take 140 = .ok (.aload_n 0, 1) := by decide +kernel
theorem dX1_take_141 : decode cX1_take 141 = .ok (.bipush 8, 2) := by decide +kernel
theorem dX1_take_143 : decode cX1_take 143 = .ok (.iconst 0, 1) := by decide +kernel
theorem dX1_take_144 : decode cX1_take 144 = .ok (.invokevirtual 69, 3) := by decide +kernel
theorem dX1_take_147 : decode cX1_take 147 = .ok (.goto 16, 3) := by decide +kernel
theorem dX1_take_150 : decode cX1_take 150 = .ok (.aload_n 0, 1) := by decide +kernel
theorem dX1_take_151 : decode cX1_take 151 = .ok (.iload_n 1, 1) := by decide +kernel
theorem dX1_take_152 : decode cX1_take 152 = .ok (.invokevirtual 76, 3) := by decide +kernel
theorem dX1_take_155 : decode cX1_take 155 = .ok (.goto 8, 3) := by decide +kernel
theorem dX1_take_158 : decode cX1_take 158 = .ok (.aload_n 0, 1) := by decide +kernel
theorem dX1_take_159 : decode cX1_take 159 = .ok (.iload_n 1, 1) := by decide +kernel
theorem dX1_take_160 : decode cX1_take 160 = .ok (.invokevirtual 79, 3) := by decide +kernel
theorem dX1_take_163 : decode cX1_take 163 = .ok (.return_, 1) := by decide +kernel
-- X1_joinDownTo
def J_X1_joinDownTo_55 (n : Nat) (v1 : Int32) (v2 : Int32) (k1 : Int32) (s : jS) : Option ((Int32 × jS) ⊕ (Int32 × jS)) :=
  (jl (upI s 49 7 (k1 - 1)) fun s61_2 => (jl (upI s61_2 49 6 v2) fun s66_3 => some (.inl ((v2 + (-1)), s66_3))))
def B_X1_joinDownTo_7 (n : Nat) (v1 : Int32) (q : Int32 × jS) : Option ((Int32 × jS) ⊕ (Int32 × jS)) :=
  (if q.1 < 0 then some (.inr (q.1, q.2)) else ((F_X1_pileAt q.1 q.2).bind fun p13 => (if (F_X1_levelOf p13) < v1 then some (.inr (q.1, q.2)) else ((F_X1_pileAt q.1 q.2).bind fun p25 => (if jin (q.2.1 49 4) 4 = true then ((F_X5_addWord ((q.2.1 49 4).toNatClampNeg) (-p25) q.2).bind fun p35 => (if p25 = 13 then J_X1_joinDownTo_55 n v1 q.1 (p35.1 49 7) p35 else (if p25 = 24 then J_X1_joinDownTo_55 n v1 q.1 (p35.1 49 7) p35 else (jl (upI p35 49 7 ((p35.1 49 7) - 0)) fun s61_4 => (jl (upI s61_4 49 6 q.1) fun s66_5 => some (.inl ((q.1 + (-1)), s66_5))))))) else none)))))
def F_X1_joinDownTo (n : Nat) (v1 : Int32) (s : jS) : Option jS :=
  ((lp (B_X1_joinDownTo_7 n v1) n (((s.1 49 6) - 1), s)).bind fun e7 => some e7.2)
def rm_X1_joinDownTo : Room := { frames := 1, cells := 0, slots := 0, locals := 21 }
set_option maxHeartbeats 4000000 in
set_option maxRecDepth 100000 in
theorem m_X1_joinDownTo {l : Launch} {D : va_G} {G : Nat → ClassId} {KV : jV} {ad : Nat → Nat} {nd : Nat} (n : Nat) (v1 : Int32) (s : jS) {p : jS} (h : F_X1_joinDownTo n v1 s = some p) : jM l D G KV yX1_joinDownTo cX1_joinDownTo 4 none rm_X1_joinDownTo [.ref (ad 49), .int v1] (jw 54 (cellC G nd) ad s) 0 0 (fun v u => v = none ∧ u = jw 54 (cellC G nd) ad p) := by
  refine jM.of (by decide) (Nat.le_of_ble_eq_true rfl) ?_
  intro K C
  unfold F_X1_joinDownTo at h
  have jn55_7 : ∀ (v1 : Int32) (v2 : Int32) (k1 : Int32) (s : jS) (o : (Int32 × jS) ⊕ (Int32 × jS)), J_X1_joinDownTo_55 n v1 v2 k1 s = some o → (∀ q, o = .inl q → K 0 0 (jw 54 (cellC G nd) ad q.2) 7 [(0, .ref (ad 49)), (1, .int v1), (2, .int q.1)] []) → (∀ e, o = .inr e → K 0 0 (jw 54 (cellC G nd) ad e.2) 75 [] []) → K 0 0 (jw 54 (cellC G nd) ad s) 55 [(0, .ref (ad 49)), (1, .int v1), (2, .int v2)] [.int k1, .ref (ad 49)] := by
    intro v1 v2 k1 s o hb hin hout
    unfold J_X1_joinDownTo_55 at hb
    refine j_iconst C dX1_joinDownTo_55 (v := 1) (by decide) ?_
    refine j_goto C dX1_joinDownTo_56 (tgt := 60) (by decide) ?_
    refine j_isub C dX1_joinDownTo_60 ?_
    refine j_putI C dX1_joinDownTo_61 inX1 tyX1 tyX1_ok nmX1 rfl (by decide) 7 rfl rfl (by decide) w_286 rfl rfl rfl rfl (Nat.le_of_ble_eq_true rfl) (fun s61_2 hs61_2 => ?_)
    have hb := jlet hb hs61_2
    refine j_aload_n C dX1_joinDownTo_64 0 rfl ?_
    refine j_iload_n C dX1_joinDownTo_65 2 rfl ?_
    refine j_putI C dX1_joinDownTo_66 inX1 tyX1 tyX1_ok nmX1 rfl (by decide) 6 rfl rfl (by decide) w_285 rfl rfl rfl rfl (Nat.le_of_ble_eq_true rfl) (fun s66_3 hs66_3 => ?_)
    have hb := jlet hb hs66_3
    refine j_iinc C dX1_joinDownTo_69 2 rfl (v := (v2 + (-1))) rfl (by decide) rfl ?_
    refine j_goto C dX1_joinDownTo_72 (tgt := 7) (by decide) ?_
    refine j_loc C [1, 2, 0] rfl ?_
    have hx := hin _ (jinl hb)
    exact hx
  have lo7 : ∀ (v1 : Int32) (s : jS) (k : Nat) (q : Int32 × jS) (e : Int32 × jS), lp (B_X1_joinDownTo_7 n v1) k q = some e → K 0 0 (jw 54 (cellC G nd) ad e.2) 75 [] [] → K 0 0 (jw 54 (cellC G nd) ad q.2) 7 [(0, .ref (ad 49)), (1, .int v1), (2, .int q.1)] [] := by
    intro v1 s k q e he hE
    refine jlp (KH := fun q => K 0 0 (jw 54 (cellC G nd) ad q.2) 7 [(0, .ref (ad 49)), (1, .int v1), (2, .int q.1)] []) (KE := fun e => K 0 0 (jw 54 (cellC G nd) ad e.2) 75 [] []) ?_ k q e he hE
    intro q o hb hin hout
    unfold B_X1_joinDownTo_7 at hb
    show K 0 0 (jw 54 (cellC G nd) ad q.2) 7 [(0, .ref (ad 49)), (1, .int v1), (2, .int q.1)] []
    refine j_iload_n C dX1_joinDownTo_7 2 rfl ?_
    refine j_if_lt C dX1_joinDownTo_8 (tgt := 75) (by decide) (fun cq => ?_) (fun cq => ?_)
    · have hb := jite_t hb cq
      refine j_loc C [] rfl ?_
      have hx := hout _ (jinr hb)
      exact hx
    · have hb := jite_f hb cq
      refine j_aload_n C dX1_joinDownTo_11 0 rfl ?_
      refine j_iload_n C dX1_joinDownTo_12 2 rfl ?_
      obtain ⟨p13, he13, hb⟩ := jbind hb
      refine j_cV1 C dX1_joinDownTo_13 (m_X1_pileAt q.1 q.2 he13) kc_X1_pileAt w_594 w_596 wp_17 w_9 jy_X1_pileAt ⟨⟨Nat.le_of_ble_eq_true rfl, Nat.le_of_ble_eq_true rfl⟩, ⟨rfl, rfl⟩, ⟨Nat.zero_le _, Nat.zero_le _⟩⟩ (Nat.le_of_ble_eq_true rfl) (by decide) rfl (r := (RX1, TX1, 10)) rfl rfl rfl (fun _ _ h => h) ?_
      refine j_cS1 C dX1_joinDownTo_16 (m_X1_levelOf p13 rfl) kc_X1_levelOf w_614 w_615 w_9 jy_X1_levelOf ⟨⟨Nat.le_of_ble_eq_true rfl, Nat.le_of_ble_eq_true rfl⟩, ⟨rfl, rfl⟩, ⟨Nat.zero_le _, Nat.zero_le _⟩⟩ (Nat.le_of_ble_eq_true rfl) rfl (fun _ _ h => h) ?_
      refine j_iload_n C dX1_joinDownTo_19 1 rfl ?_
      refine j_icmp_lt C dX1_joinDownTo_20 (tgt := 75) (by decide) (fun cq => ?_) (fun cq => ?_)
      · have hb := jite_t hb cq
        refine j_loc C [] rfl ?_
        have hx := hout _ (jinr hb)
        exact hx
      · have hb := jite_f hb cq
        refine j_aload_n C dX1_joinDownTo_23 0 rfl ?_
        refine j_iload_n C dX1_joinDownTo_24 2 rfl ?_
        obtain ⟨p25, he25, hb⟩ := jbind hb
        refine j_cV1 C dX1_joinDownTo_25 (m_X1_pileAt q.1 q.2 he25) kc_X1_pileAt w_594 w_596 wp_17 w_9 jy_X1_pileAt ⟨⟨Nat.le_of_ble_eq_true rfl, Nat.le_of_ble_eq_true rfl⟩, ⟨rfl, rfl⟩, ⟨Nat.zero_le _, Nat.zero_le _⟩⟩ (Nat.le_of_ble_eq_true rfl) (by decide) rfl (r := (RX1, TX1, 10)) rfl rfl rfl (fun _ _ h => h) ?_
        refine j_istore_n C dX1_joinDownTo_28 (by decide) rfl ?_
        refine j_aload_n C dX1_joinDownTo_29 1 rfl ?_
        refine j_getW C dX1_joinDownTo_30 inX1 rfl (by decide) rfl 4 (by decide) w_283 rfl rfl ?_
        obtain ⟨c30_1, hb⟩ := jchk hb
        refine j_iload_n C dX1_joinDownTo_33 0 rfl ?_
        refine j_ineg C dX1_joinDownTo_34 ?_
        obtain ⟨p35, he35, hb⟩ := jbind hb
        refine j_cV0 C dX1_joinDownTo_35 (m_X5_addWord ((q.2.1 49 4).toNatClampNeg) (-p25) q.2 (jin_lt c30_1) he35) kc_X5_addWord w_617 w_603 w_604 w_3 jy_X5_addWord ⟨⟨Nat.le_of_ble_eq_true rfl, Nat.le_of_ble_eq_true rfl⟩, ⟨rfl, rfl⟩, ⟨Nat.zero_le _, Nat.zero_le _⟩⟩ (Nat.le_of_ble_eq_true rfl) (cTq0 (jin_lt c30_1)) (cT0 (jin_lt c30_1)) (r := (RX5, TX5, 7)) rfl rfl rfl (fun _ _ h => h) ?_
        refine j_aload_n C dX1_joinDownTo_38 1 rfl ?_
        refine j_dup C dX1_joinDownTo_39 rfl ?_
        refine j_getW C dX1_joinDownTo_40 inX1 rfl (by decide) rfl 7 (by decide) w_286 rfl rfl ?_
        refine j_iload_n C dX1_joinDownTo_43 0 rfl ?_
        refine j_bipush C dX1_joinDownTo_44 (v := 13) (by decide) ?_
        refine j_icmp_eq C dX1_joinDownTo_46 (tgt := 55) (by decide) (fun cq => ?_) (fun cq => ?_)
        · have hb := jite_t hb cq
          refine j_loc C [1, 2, 3] rfl ?_
          exact jn55_7 v1 q.1 (p35.1 49 7) p35   _ hb hin hout
        · have hb := jite_f hb cq
          refine j_iload_n C dX1_joinDownTo_49 0 rfl ?_
          refine j_bipush C dX1_joinDownTo_50 (v := 24) (by decide) ?_
          refine j_icmp_ne C dX1_joinDownTo_52 (tgt := 59) (by decide) (fun cq => ?_) (fun cq => ?_)
          · have hb := jite_f hb cq
            refine j_iconst C dX1_joinDownTo_59 (v := 0) (by decide) ?_
            refine j_isub C dX1_joinDownTo_60 ?_
            refine j_putI C dX1_joinDownTo_61 inX1 tyX1 tyX1_ok nmX1 rfl (by decide) 7 rfl rfl (by decide) w_286 rfl rfl rfl rfl (Nat.le_of_ble_eq_true rfl) (fun s61_4 hs61_4 => ?_)
            have hb := jlet hb hs61_4
            refine j_aload_n C dX1_joinDownTo_64 1 rfl ?_
            refine j_iload_n C dX1_joinDownTo_65 3 rfl ?_
            refine j_putI C dX1_joinDownTo_66 inX1 tyX1 tyX1_ok nmX1 rfl (by decide) 6 rfl rfl (by decide) w_285 rfl rfl rfl rfl (Nat.le_of_ble_eq_true rfl) (fun s66_5 hs66_5 => ?_)
            have hb := jlet hb hs66_5
            refine j_iinc C dX1_joinDownTo_69 3 rfl (v := (q.1 + (-1))) rfl (by decide) rfl ?_
            refine j_goto C dX1_joinDownTo_72 (tgt := 7) (by decide) ?_
            refine j_loc C [2, 3, 0] rfl ?_
            have hx := hin _ (jinl hb)
            exact hx
          · have hb := jite_t hb cq
            refine j_loc C [1, 2, 3] rfl ?_
            exact jn55_7 v1 q.1 (p35.1 49 7) p35   _ hb hin hout
  show K 0 0 (jw 54 (cellC G nd) ad s) 0 [(0, .ref (ad 49)), (1, .int v1)] []
  refine j_aload_n C dX1_joinDownTo_0 0 rfl ?_
  refine j_getW C dX1_joinDownTo_1 inX1 rfl (by decide) rfl 6 (by decide) w_285 rfl rfl ?_
  refine j_iconst C dX1_joinDownTo_4 (v := 1) (by decide) ?_
  refine j_isub C dX1_joinDownTo_5 ?_
  refine j_istore_n C dX1_joinDownTo_6 (by decide) rfl ?_
  refine j_loc C [1, 2, 0] rfl ?_
  obtain ⟨e7, he7, h⟩ := jbind h
  refine lo7 v1 s  n (((s.1 49 6) - 1), s) e7 he7 ?_
  exact j_vret C dX1_joinDownTo_75 rfl (Nat.zero_le _) (Nat.zero_le _) (jretWV h)
-- X1_endOne
def F_X1_endOne (n : Nat) (s : jS) : Option jS :=
  ((F_X1_joinDownTo n 7 s).bind fun p3 => (jl (upI p3 49 5 7) fun s9_1 => some s9_1))
def rm_X1_endOne : Room := { frames := 2, cells := 0, slots := 0, locals := 44 }
set_option maxHeartbeats 4000000 in
set_option maxRecDepth 100000 in
theorem m_X1_endOne {l : Launch} {D : va_G} {G : Nat → ClassId} {KV : jV} {ad : Nat → Nat} {nd : Nat} (n : Nat) (s : jS) {p : jS} (h : F_X1_endOne n s = some p) : jM l D G KV yX1_endOne cX1_endOne 1 none rm_X1_endOne [.ref (ad 49)] (jw 54 (cellC G nd) ad s) 0 0 (fun v u => v = none ∧ u = jw 54 (cellC G nd) ad p) := by
  refine jM.of (by decide) (Nat.le_of_ble_eq_true rfl) ?_
  intro K C
  unfold F_X1_endOne at h
  show K 0 0 (jw 54 (cellC G nd) ad s) 0 [(0, .ref (ad 49))] []
  refine j_aload_n C dX1_endOne_0 0 rfl ?_
  refine j_bipush C dX1_endOne_1 (v := 7) (by decide) ?_
  obtain ⟨p3, he3, h⟩ := jbind h
  refine j_cV0 C dX1_endOne_3 (m_X1_joinDownTo n 7 s he3) kc_X1_joinDownTo w_610 w_612 wp_19 w_9 jy_X1_joinDownTo ⟨⟨Nat.le_of_ble_eq_true rfl, Nat.le_of_ble_eq_true rfl⟩, ⟨rfl, rfl⟩, ⟨Nat.zero_le _, Nat.zero_le _⟩⟩ (Nat.le_of_ble_eq_true rfl) (by decide) rfl (r := (RX1, TX1, 10)) rfl rfl rfl (fun _ _ h => h) ?_
  refine j_aload_n C dX1_endOne_6 0 rfl ?_
  refine j_bipush C dX1_endOne_7 (v := 7) (by decide) ?_
  refine j_putI C dX1_endOne_9 inX1 tyX1 tyX1_ok nmX1 rfl (by decide) 5 rfl rfl (by decide) w_284 rfl rfl rfl rfl (Nat.le_of_ble_eq_true rfl) (fun s9_1 hs9_1 => ?_)
  have h := jlet h hs9_1
  exact j_vret C dX1_endOne_12 rfl (Nat.zero_le _) (Nat.zero_le _) (jretWV h)
-- X1_takeOne
def J_X1_takeOne_52 (n : Nat) (v1 : Int32) (s : jS) : Option jS :=
  (if v1 = 3 then (if jin (s.1 49 4) 4 = true then ((F_X5_addName ((s.1 49 4).toNatClampNeg) (s.1 27 3) s).bind fun p68 => ((F_X1_endOne n p68).bind fun p72 => some p72)) else none) else (if v1 = 2 then (if (s.1 27 3) ≤ 9999 then (if jin (s.1 49 4) 4 = true then ((F_X5_addWord ((s.1 49 4).toNatClampNeg) (s.1 27 3) s).bind fun p123 => ((F_X1_endOne n p123).bind fun p127 => some p127)) else none) else ((F_X1_refuse 2 s).bind fun p106 => some p106)) else ((F_X1_refuse 1 s).bind fun p85 => some p85)))
def F_X1_takeOne (n : Nat) (v1 : Int32) (s : jS) : Option jS :=
  (if v1 = 9 then ((F_X1_nest 9 s).bind fun p9 => some p9) else (if v1 = 21 then ((F_X1_nest 24 s).bind fun p24 => some p24) else (if v1 = 13 then ((F_X1_atAsk s).bind fun p37 => (if p37 = true then ((F_X1_nest 13 s).bind fun p46 => some p46) else J_X1_takeOne_52 n v1 s)) else J_X1_takeOne_52 n v1 s)))
def rm_X1_takeOne : Room := { frames := 3, cells := 0, slots := 0, locals := 64 }
set_option maxHeartbeats 4000000 in
set_option maxRecDepth 100000 in
theorem m_X1_takeOne {l : Launch} {D : va_G} {G : Nat → ClassId} {KV : jV} {ad : Nat → Nat} {nd : Nat} (n : Nat) (v1 : Int32) (s : jS) {p : jS} (h : F_X1_takeOne n v1 s = some p) : jM l D G KV yX1_takeOne cX1_takeOne 2 none rm_X1_takeOne [.ref (ad 49), .int v1] (jw 54 (cellC G nd) ad s) 0 0 (fun v u => v = none ∧ u = jw 54 (cellC G nd) ad p) := by
  refine jM.of (by decide) (Nat.le_of_ble_eq_true rfl) ?_
  intro K C
  unfold F_X1_takeOne at h
  have jn52 : ∀ (v1 : Int32) (s : jS) (_ : J_X1_takeOne_52 n v1 s = some p), K 0 0 (jw 54 (cellC G nd) ad s) 52 [(0, .ref (ad 49)), (1, .int v1)] [] := by
    intro v1 s h
    unfold J_X1_takeOne_52 at h
    refine j_iload_n C dX1_takeOne_52 1 rfl ?_
    refine j_iconst C dX1_takeOne_53 (v := 3) (by decide) ?_
    refine j_icmp_ne C dX1_takeOne_54 (tgt := 78) (by decide) (fun cq => ?_) (fun cq => ?_)
    · have h := jite_f h cq
      refine j_iload_n C dX1_takeOne_78 1 rfl ?_
      refine j_iconst C dX1_takeOne_79 (v := 2) (by decide) ?_
      refine j_icmp_eq C dX1_takeOne_80 (tgt := 91) (by decide) (fun cq => ?_) (fun cq => ?_)
      · have h := jite_t h cq
        refine j_aload_n C dX1_takeOne_91 0 rfl ?_
        refine j_getW C dX1_takeOne_92 inX1 rfl (by decide) rfl 2 (by decide) w_281 rfl rfl ?_
        refine j_getW C dX1_takeOne_95 inX4 rfl (by decide) rfl 3 (by decide) w_176 rfl rfl ?_
        refine j_sipush C dX1_takeOne_98 (v := 9999) (by decide) ?_
        refine j_icmp_le C dX1_takeOne_101 (tgt := 112) (by decide) (fun cq => ?_) (fun cq => ?_)
        · have h := jite_t h cq
          refine j_aload_n C dX1_takeOne_112 0 rfl ?_
          refine j_getW C dX1_takeOne_113 inX1 rfl (by decide) rfl 4 (by decide) w_283 rfl rfl ?_
          obtain ⟨c113_1, h⟩ := jchk h
          refine j_aload_n C dX1_takeOne_116 0 rfl ?_
          refine j_getW C dX1_takeOne_117 inX1 rfl (by decide) rfl 2 (by decide) w_281 rfl rfl ?_
          refine j_getW C dX1_takeOne_120 inX4 rfl (by decide) rfl 3 (by decide) w_176 rfl rfl ?_
          obtain ⟨p123, he123, h⟩ := jbind h
          refine j_cV0 C dX1_takeOne_123 (m_X5_addWord ((s.1 49 4).toNatClampNeg) (s.1 27 3) s (jin_lt c113_1) he123) kc_X5_addWord w_617 w_603 w_604 w_3 jy_X5_addWord ⟨⟨Nat.le_of_ble_eq_true rfl, Nat.le_of_ble_eq_true rfl⟩, ⟨rfl, rfl⟩, ⟨Nat.zero_le _, Nat.zero_le _⟩⟩ (Nat.le_of_ble_eq_true rfl) (cTq0 (jin_lt c113_1)) (cT0 (jin_lt c113_1)) (r := (RX5, TX5, 7)) rfl rfl rfl (fun _ _ h => h) ?_
          refine j_aload_n C dX1_takeOne_126 0 rfl ?_
          obtain ⟨p127, he127, h⟩ := jbind h
          refine j_cV0 C dX1_takeOne_127 (m_X1_endOne n p123 he127) kc_X1_endOne w_606 w_608 wp_18 w_9 jy_X1_endOne ⟨⟨Nat.le_of_ble_eq_true rfl, Nat.le_of_ble_eq_true rfl⟩, ⟨rfl, rfl⟩, ⟨Nat.zero_le _, Nat.zero_le _⟩⟩ (Nat.le_of_ble_eq_true rfl) (by decide) rfl (r := (RX1, TX1, 10)) rfl rfl rfl (fun _ _ h => h) ?_
          exact j_vret C dX1_takeOne_130 rfl (Nat.zero_le _) (Nat.zero_le _) (jretWV h)
        · have h := jite_f h cq
          refine j_aload_n C dX1_takeOne_104 0 rfl ?_
          refine j_iconst C dX1_takeOne_105 (v := 2) (by decide) ?_
          obtain ⟨p106, he106, h⟩ := jbind h
          refine j_cV0 C dX1_takeOne_106 (m_X1_refuse 2 s he106) kc_X1_refuse w_552 w_554 wp_10 w_9 jy_X1_refuse ⟨⟨Nat.le_of_ble_eq_true rfl, Nat.le_of_ble_eq_true rfl⟩, ⟨rfl, rfl⟩, ⟨Nat.zero_le _, Nat.zero_le _⟩⟩ (Nat.le_of_ble_eq_true rfl) (by decide) rfl (r := (RX1, TX1, 10)) rfl rfl rfl (fun _ _ h => h) ?_
          refine j_goto C dX1_takeOne_109 (tgt := 130) (by decide) ?_
          exact j_vret C dX1_takeOne_130 rfl (Nat.zero_le _) (Nat.zero_le _) (jretWV h)
      · have h := jite_f h cq
        refine j_aload_n C dX1_takeOne_83 0 rfl ?_
        refine j_iconst C dX1_takeOne_84 (v := 1) (by decide) ?_
        obtain ⟨p85, he85, h⟩ := jbind h
        refine j_cV0 C dX1_takeOne_85 (m_X1_refuse 1 s he85) kc_X1_refuse w_552 w_554 wp_10 w_9 jy_X1_refuse ⟨⟨Nat.le_of_ble_eq_true rfl, Nat.le_of_ble_eq_true rfl⟩, ⟨rfl, rfl⟩, ⟨Nat.zero_le _, Nat.zero_le _⟩⟩ (Nat.le_of_ble_eq_true rfl) (by decide) rfl (r := (RX1, TX1, 10)) rfl rfl rfl (fun _ _ h => h) ?_
        refine j_goto C dX1_takeOne_88 (tgt := 130) (by decide) ?_
        exact j_vret C dX1_takeOne_130 rfl (Nat.zero_le _) (Nat.zero_le _) (jretWV h)
    · have h := jite_t h cq
      refine j_aload_n C dX1_takeOne_57 0 rfl ?_
      refine j_getW C dX1_takeOne_58 inX1 rfl (by decide) rfl 4 (by decide) w_283 rfl rfl ?_
      obtain ⟨c58_2, h⟩ := jchk h
      refine j_aload_n C dX1_takeOne_61 0 rfl ?_
      refine j_getW C dX1_takeOne_62 inX1 rfl (by decide) rfl 2 (by decide) w_281 rfl rfl ?_
      refine j_getW C dX1_takeOne_65 inX4 rfl (by decide) rfl 3 (by decide) w_176 rfl rfl ?_
      obtain ⟨p68, he68, h⟩ := jbind h
      refine j_cV0 C dX1_takeOne_68 (m_X5_addName ((s.1 49 4).toNatClampNeg) (s.1 27 3) s (jin_lt c58_2) he68) kc_X5_addName w_598 w_599 w_600 w_3 jy_X5_addName ⟨⟨Nat.le_of_ble_eq_true rfl, Nat.le_of_ble_eq_true rfl⟩, ⟨rfl, rfl⟩, ⟨Nat.zero_le _, Nat.zero_le _⟩⟩ (Nat.le_of_ble_eq_true rfl) (cTq0 (jin_lt c58_2)) (cT0 (jin_lt c58_2)) (r := (RX5, TX5, 7)) rfl rfl rfl (fun _ _ h => h) ?_
      refine j_aload_n C dX1_takeOne_71 0 rfl ?_
      obtain ⟨p72, he72, h⟩ := jbind h
      refine j_cV0 C dX1_takeOne_72 (m_X1_endOne n p68 he72) kc_X1_endOne w_606 w_608 wp_18 w_9 jy_X1_endOne ⟨⟨Nat.le_of_ble_eq_true rfl, Nat.le_of_ble_eq_true rfl⟩, ⟨rfl, rfl⟩, ⟨Nat.zero_le _, Nat.zero_le _⟩⟩ (Nat.le_of_ble_eq_true rfl) (by decide) rfl (r := (RX1, TX1, 10)) rfl rfl rfl (fun _ _ h => h) ?_
      refine j_goto C dX1_takeOne_75 (tgt := 130) (by decide) ?_
      exact j_vret C dX1_takeOne_130 rfl (Nat.zero_le _) (Nat.zero_le _) (jretWV h)
  show K 0 0 (jw 54 (cellC G nd) ad s) 0 [(0, .ref (ad 49)), (1, .int v1)] []
  refine j_iload_n C dX1_takeOne_0 1 rfl ?_
  refine j_bipush C dX1_takeOne_1 (v := 9) (by decide) ?_
  refine j_icmp_ne C dX1_takeOne_3 (tgt := 15) (by decide) (fun cq => ?_) (fun cq => ?_)
  · have h := jite_f h cq
    refine j_iload_n C dX1_takeOne_15 1 rfl ?_
    refine j_bipush C dX1_takeOne_16 (v := 21) (by decide) ?_
    refine j_icmp_ne C dX1_takeOne_18 (tgt := 30) (by decide) (fun cq => ?_) (fun cq => ?_)
    · have h := jite_f h cq
      refine j_iload_n C dX1_takeOne_30 1 rfl ?_
      refine j_bipush C dX1_takeOne_31 (v := 13) (by decide) ?_
      refine j_icmp_ne C dX1_takeOne_33 (tgt := 52) (by decide) (fun cq => ?_) (fun cq => ?_)
      · have h := jite_f h cq
        refine j_loc C [0, 1] rfl ?_
        exact jn52 v1 s  h
      · have h := jite_t h cq
        refine j_aload_n C dX1_takeOne_36 0 rfl ?_
        obtain ⟨p37, he37, h⟩ := jbind h
        refine j_cV1 C dX1_takeOne_37 (m_X1_atAsk s he37) kc_X1_atAsk w_590 w_592 wp_16 w_9 jy_X1_atAsk ⟨⟨Nat.le_of_ble_eq_true rfl, Nat.le_of_ble_eq_true rfl⟩, ⟨rfl, rfl⟩, ⟨Nat.zero_le _, Nat.zero_le _⟩⟩ (Nat.le_of_ble_eq_true rfl) (by decide) rfl (r := (RX1, TX1, 10)) rfl rfl rfl (fun _ _ h => h) ?_
        refine j_if_eq C dX1_takeOne_40 (tgt := 52) (by decide) (fun cq => ?_) (fun cq => ?_)
        · have h := jite_f h (jb_f cq)
          refine j_loc C [0, 1] rfl ?_
          exact jn52 v1 s  h
        · have h := jite_t h (jb_t cq)
          refine j_aload_n C dX1_takeOne_43 0 rfl ?_
          refine j_bipush C dX1_takeOne_44 (v := 13) (by decide) ?_
          obtain ⟨p46, he46, h⟩ := jbind h
          refine j_cV0 C dX1_takeOne_46 (m_X1_nest 13 s he46) kc_X1_nest w_582 w_584 wp_14 w_9 jy_X1_nest ⟨⟨Nat.le_of_ble_eq_true rfl, Nat.le_of_ble_eq_true rfl⟩, ⟨rfl, rfl⟩, ⟨Nat.zero_le _, Nat.zero_le _⟩⟩ (Nat.le_of_ble_eq_true rfl) (by decide) rfl (r := (RX1, TX1, 10)) rfl rfl rfl (fun _ _ h => h) ?_
          refine j_goto C dX1_takeOne_49 (tgt := 130) (by decide) ?_
          exact j_vret C dX1_takeOne_130 rfl (Nat.zero_le _) (Nat.zero_le _) (jretWV h)
    · have h := jite_t h cq
      refine j_aload_n C dX1_takeOne_21 0 rfl ?_
      refine j_bipush C dX1_takeOne_22 (v := 24) (by decide) ?_
      obtain ⟨p24, he24, h⟩ := jbind h
      refine j_cV0 C dX1_takeOne_24 (m_X1_nest 24 s he24) kc_X1_nest w_582 w_584 wp_14 w_9 jy_X1_nest ⟨⟨Nat.le_of_ble_eq_true rfl, Nat.le_of_ble_eq_true rfl⟩, ⟨rfl, rfl⟩, ⟨Nat.zero_le _, Nat.zero_le _⟩⟩ (Nat.le_of_ble_eq_true rfl) (by decide) rfl (r := (RX1, TX1, 10)) rfl rfl rfl (fun _ _ h => h) ?_
      refine j_goto C dX1_takeOne_27 (tgt := 130) (by decide) ?_
      exact j_vret C dX1_takeOne_130 rfl (Nat.zero_le _) (Nat.zero_le _) (jretWV h)
  · have h := jite_t h cq
    refine j_aload_n C dX1_takeOne_6 0 rfl ?_
    refine j_bipush C dX1_takeOne_7 (v := 9) (by decide) ?_
    obtain ⟨p9, he9, h⟩ := jbind h
    refine j_cV0 C dX1_takeOne_9 (m_X1_nest 9 s he9) kc_X1_nest w_582 w_584 wp_14 w_9 jy_X1_nest ⟨⟨Nat.le_of_ble_eq_true rfl, Nat.le_of_ble_eq_true rfl⟩, ⟨rfl, rfl⟩, ⟨Nat.zero_le _, Nat.zero_le _⟩⟩ (Nat.le_of_ble_eq_true rfl) (by decide) rfl (r := (RX1, TX1, 10)) rfl rfl rfl (fun _ _ h => h) ?_
    refine j_goto C dX1_takeOne_12 (tgt := 130) (by decide) ?_
    exact j_vret C dX1_takeOne_130 rfl (Nat.zero_le _) (Nat.zero_le _) (jretWV h)
-- X1_join
def F_X1_join (n : Nat) (v1 : Int32) (v2 : Int32) (s : jS) : Option jS :=
  ((F_X1_joinDownTo n v2 s).bind fun p2 => ((F_X1_put v1 p2).bind fun p7 => (jl (upI p7 49 5 6) fun s13_1 => some s13_1)))
def rm_X1_join : Room := { frames := 2, cells := 0, slots := 0, locals := 44 }
set_option maxHeartbeats 4000000 in
set_option maxRecDepth 100000 in
theorem m_X1_join {l : Launch} {D : va_G} {G : Nat → ClassId} {KV : jV} {ad : Nat → Nat} {nd : Nat} (n : Nat) (v1 : Int32) (v2 : Int32) (s : jS) {p : jS} (h : F_X1_join n v1 v2 s = some p) : jM l D G KV yX1_join cX1_join 3 none rm_X1_join [.ref (ad 49), .int v1, .int v2] (jw 54 (cellC G nd) ad s) 0 0 (fun v u => v = none ∧ u = jw 54 (cellC G nd) ad p) := by
  refine jM.of (by decide) (Nat.le_of_ble_eq_true rfl) ?_
  intro K C
  unfold F_X1_join at h
  show K 0 0 (jw 54 (cellC G nd) ad s) 0 [(0, .ref (ad 49)), (1, .int v1), (2, .int v2)] []
  refine j_aload_n C dX1_join_0 0 rfl ?_
  refine j_iload_n C dX1_join_1 2 rfl ?_
  obtain ⟨p2, he2, h⟩ := jbind h
  refine j_cV0 C dX1_join_2 (m_X1_joinDownTo n v2 s he2) kc_X1_joinDownTo w_610 w_612 wp_19 w_9 jy_X1_joinDownTo ⟨⟨Nat.le_of_ble_eq_true rfl, Nat.le_of_ble_eq_true rfl⟩, ⟨rfl, rfl⟩, ⟨Nat.zero_le _, Nat.zero_le _⟩⟩ (Nat.le_of_ble_eq_true rfl) (by decide) rfl (r := (RX1, TX1, 10)) rfl rfl rfl (fun _ _ h => h) ?_
  refine j_aload_n C dX1_join_5 0 rfl ?_
  refine j_iload_n C dX1_join_6 1 rfl ?_
  obtain ⟨p7, he7, h⟩ := jbind h
  refine j_cV0 C dX1_join_7 (m_X1_put v1 p2 he7) kc_X1_put w_586 w_588 wp_15 w_9 jy_X1_put ⟨⟨Nat.le_of_ble_eq_true rfl, Nat.le_of_ble_eq_true rfl⟩, ⟨rfl, rfl⟩, ⟨Nat.zero_le _, Nat.zero_le _⟩⟩ (Nat.le_of_ble_eq_true rfl) (by decide) rfl (r := (RX1, TX1, 10)) rfl rfl rfl (fun _ _ h => h) ?_
  refine j_aload_n C dX1_join_10 0 rfl ?_
  refine j_bipush C dX1_join_11 (v := 6) (by decide) ?_
  refine j_putI C dX1_join_13 inX1 tyX1 tyX1_ok nmX1 rfl (by decide) 5 rfl rfl (by decide) w_284 rfl rfl rfl rfl (Nat.le_of_ble_eq_true rfl) (fun s13_1 hs13_1 => ?_)
  have h := jlet h hs13_1
  exact j_vret C dX1_join_16 rfl (Nat.zero_le _) (Nat.zero_le _) (jretWV h)
-- X1_close
def F_X1_close (n : Nat) (s : jS) : Option jS :=
  ((F_X1_joinDownTo n 5 s).bind fun p2 => (jl (upI p2 49 6 ((p2.1 49 6) - 1)) fun s12_1 => (jl (upI s12_1 49 7 ((s12_1.1 49 7) - 1)) fun s22_2 => (jl (upI s22_2 49 8 ((s22_2.1 49 8) - 1)) fun s32_3 => ((F_X1_joinDownTo n 7 s32_3).bind fun p38 => some p38)))))
def rm_X1_close : Room := { frames := 2, cells := 0, slots := 0, locals := 44 }
set_option maxHeartbeats 4000000 in
set_option maxRecDepth 100000 in
theorem m_X1_close {l : Launch} {D : va_G} {G : Nat → ClassId} {KV : jV} {ad : Nat → Nat} {nd : Nat} (n : Nat) (s : jS) {p : jS} (h : F_X1_close n s = some p) : jM l D G KV yX1_close cX1_close 1 none rm_X1_close [.ref (ad 49)] (jw 54 (cellC G nd) ad s) 0 0 (fun v u => v = none ∧ u = jw 54 (cellC G nd) ad p) := by
  refine jM.of (by decide) (Nat.le_of_ble_eq_true rfl) ?_
  intro K C
  unfold F_X1_close at h
  show K 0 0 (jw 54 (cellC G nd) ad s) 0 [(0, .ref (ad 49))] []
  refine j_aload_n C dX1_close_0 0 rfl ?_
  refine j_iconst C dX1_close_1 (v := 5) (by decide) ?_
  obtain ⟨p2, he2, h⟩ := jbind h
  refine j_cV0 C dX1_close_2 (m_X1_joinDownTo n 5 s he2) kc_X1_joinDownTo w_610 w_612 wp_19 w_9 jy_X1_joinDownTo ⟨⟨Nat.le_of_ble_eq_true rfl, Nat.le_of_ble_eq_true rfl⟩, ⟨rfl, rfl⟩, ⟨Nat.zero_le _, Nat.zero_le _⟩⟩ (Nat.le_of_ble_eq_true rfl) (by decide) rfl (r := (RX1, TX1, 10)) rfl rfl rfl (fun _ _ h => h) ?_
  refine j_aload_n C dX1_close_5 0 rfl ?_
  refine j_dup C dX1_close_6 rfl ?_
  refine j_getW C dX1_close_7 inX1 rfl (by decide) rfl 6 (by decide) w_285 rfl rfl ?_
  refine j_iconst C dX1_close_10 (v := 1) (by decide) ?_
  refine j_isub C dX1_close_11 ?_
  refine j_putI C dX1_close_12 inX1 tyX1 tyX1_ok nmX1 rfl (by decide) 6 rfl rfl (by decide) w_285 rfl rfl rfl rfl (Nat.le_of_ble_eq_true rfl) (fun s12_1 hs12_1 => ?_)
  have h := jlet h hs12_1
  refine j_aload_n C dX1_close_15 0 rfl ?_
  refine j_dup C dX1_close_16 rfl ?_
  refine j_getW C dX1_close_17 inX1 rfl (by decide) rfl 7 (by decide) w_286 rfl rfl ?_
  refine j_iconst C dX1_close_20 (v := 1) (by decide) ?_
  refine j_isub C dX1_close_21 ?_
  refine j_putI C dX1_close_22 inX1 tyX1 tyX1_ok nmX1 rfl (by decide) 7 rfl rfl (by decide) w_286 rfl rfl rfl rfl (Nat.le_of_ble_eq_true rfl) (fun s22_2 hs22_2 => ?_)
  have h := jlet h hs22_2
  refine j_aload_n C dX1_close_25 0 rfl ?_
  refine j_dup C dX1_close_26 rfl ?_
  refine j_getW C dX1_close_27 inX1 rfl (by decide) rfl 8 (by decide) w_287 rfl rfl ?_
  refine j_iconst C dX1_close_30 (v := 1) (by decide) ?_
  refine j_isub C dX1_close_31 ?_
  refine j_putI C dX1_close_32 inX1 tyX1 tyX1_ok nmX1 rfl (by decide) 8 rfl rfl (by decide) w_287 rfl rfl rfl rfl (Nat.le_of_ble_eq_true rfl) (fun s32_3 hs32_3 => ?_)
  have h := jlet h hs32_3
  refine j_aload_n C dX1_close_35 0 rfl ?_
  refine j_bipush C dX1_close_36 (v := 7) (by decide) ?_
  obtain ⟨p38, he38, h⟩ := jbind h
  refine j_cV0 C dX1_close_38 (m_X1_joinDownTo n 7 s32_3 he38) kc_X1_joinDownTo w_610 w_612 wp_19 w_9 jy_X1_joinDownTo ⟨⟨Nat.le_of_ble_eq_true rfl, Nat.le_of_ble_eq_true rfl⟩, ⟨rfl, rfl⟩, ⟨Nat.zero_le _, Nat.zero_le _⟩⟩ (Nat.le_of_ble_eq_true rfl) (by decide) rfl (r := (RX1, TX1, 10)) rfl rfl rfl (fun _ _ h => h) ?_
  exact j_vret C dX1_close_41 rfl (Nat.zero_le _) (Nat.zero_le _) (jretWV h)
-- X1_takeBehindOne
def J_X1_takeBehindOne_126 (n : Nat) (v1 : Int32) (v3 : Bool) (s : jS) : Option jS :=
  (if v1 = 8 then (if v3 = true then ((F_X1_joinDownTo n 1 s).bind fun p138 => (jl (upI p138 49 5 0) fun s143_1 => some s143_1)) else ((F_X1_refuse 1 s).bind fun p151 => some p151)) else ((F_X1_refuse 1 s).bind fun p151 => some p151))
def J_X1_takeBehindOne_108 (n : Nat) (v1 : Int32) (v2 : Int32) (v3 : Bool) (s : jS) : Option jS :=
  (if v3 = true then ((F_X1_join n v1 v2 s).bind fun p115 => (jl (upI p115 49 9 (jb false)) fun s120_2 => some s120_2)) else J_X1_takeBehindOne_126 n v1 v3 s)
def J_X1_takeBehindOne_98 (n : Nat) (v1 : Int32) (v2 : Int32) (v3 : Bool) (s : jS) : Option jS :=
  (if v2 = 1 then J_X1_takeBehindOne_108 n v1 v2 v3 s else (if v2 = 2 then J_X1_takeBehindOne_108 n v1 v2 v3 s else J_X1_takeBehindOne_126 n v1 v3 s))
def J_X1_takeBehindOne_65 (n : Nat) (v1 : Int32) (v2 : Int32) (v3 : Bool) (s : jS) : Option jS :=
  (if v2 = 4 then (if (jz (s.1 49 9)) = true then J_X1_takeBehindOne_98 n v1 v2 v3 s else (if (s.1 49 8) = 0 then ((F_X1_join n v1 v2 s).bind fun p87 => (jl (upI p87 49 9 (jb true)) fun s92_3 => some s92_3)) else J_X1_takeBehindOne_98 n v1 v2 v3 s)) else J_X1_takeBehindOne_98 n v1 v2 v3 s)
def J_X1_takeBehindOne_24 (n : Nat) (v1 : Int32) (v2 : Int32) (k0 : Bool) (s : jS) : Option jS :=
  (if v2 = 5 then ((F_X1_join n v1 v2 s).bind fun p39 => some p39) else (if v2 = 6 then ((F_X1_join n v1 v2 s).bind fun p39 => some p39) else (if v1 = 10 then (if (s.1 49 8) ≤ 0 then J_X1_takeBehindOne_65 n v1 v2 k0 s else ((F_X1_close n s).bind fun p59 => some p59)) else J_X1_takeBehindOne_65 n v1 v2 k0 s)))
def J_X1_takeBehindOne_23 (n : Nat) (v1 : Int32) (v2 : Int32) (s : jS) : Option jS :=
  J_X1_takeBehindOne_24 n v1 v2 false s
def F_X1_takeBehindOne (n : Nat) (v1 : Int32) (s : jS) : Option jS :=
  (if (jz (s.1 49 9)) = true then (if (s.1 49 8) = 0 then J_X1_takeBehindOne_24 n v1 (F_X1_levelOf v1) true s else J_X1_takeBehindOne_23 n v1 (F_X1_levelOf v1) s) else J_X1_takeBehindOne_23 n v1 (F_X1_levelOf v1) s)
def rm_X1_takeBehindOne : Room := { frames := 3, cells := 0, slots := 0, locals := 66 }
set_option maxHeartbeats 4000000 in
set_option maxRecDepth 100000 in
theorem m_X1_takeBehindOne {l : Launch} {D : va_G} {G : Nat → ClassId} {KV : jV} {ad : Nat → Nat} {nd : Nat} (n : Nat) (v1 : Int32) (s : jS) {p : jS} (h : F_X1_takeBehindOne n v1 s = some p) : jM l D G KV yX1_takeBehindOne cX1_takeBehindOne 4 none rm_X1_takeBehindOne [.ref (ad 49), .int v1] (jw 54 (cellC G nd) ad s) 0 0 (fun v u => v = none ∧ u = jw 54 (cellC G nd) ad p) := by
  refine jM.of (by decide) (Nat.le_of_ble_eq_true rfl) ?_
  intro K C
  unfold F_X1_takeBehindOne at h
  have jn126 : ∀ (v1 : Int32) (v3 : Bool) (s : jS) (_ : J_X1_takeBehindOne_126 n v1 v3 s = some p), K 0 0 (jw 54 (cellC G nd) ad s) 126 [(0, .ref (ad 49)), (1, .int v1), (3, .int (jb v3))] [] := by
    intro v1 v3 s h
    unfold J_X1_takeBehindOne_126 at h
    refine j_iload_n C dX1_takeBehindOne_126 1 rfl ?_
    refine j_bipush C dX1_takeBehindOne_127 (v := 8) (by decide) ?_
    refine j_icmp_ne C dX1_takeBehindOne_129 (tgt := 149) (by decide) (fun cq => ?_) (fun cq => ?_)
    · have h := jite_f h cq
      refine j_aload_n C dX1_takeBehindOne_149 0 rfl ?_
      refine j_iconst C dX1_takeBehindOne_150 (v := 1) (by decide) ?_
      obtain ⟨p151, he151, h⟩ := jbind h
      refine j_cV0 C dX1_takeBehindOne_151 (m_X1_refuse 1 s he151) kc_X1_refuse w_552 w_554 wp_10 w_9 jy_X1_refuse ⟨⟨Nat.le_of_ble_eq_true rfl, Nat.le_of_ble_eq_true rfl⟩, ⟨rfl, rfl⟩, ⟨Nat.zero_le _, Nat.zero_le _⟩⟩ (Nat.le_of_ble_eq_true rfl) (by decide) rfl (r := (RX1, TX1, 10)) rfl rfl rfl (fun _ _ h => h) ?_
      exact j_vret C dX1_takeBehindOne_154 rfl (Nat.zero_le _) (Nat.zero_le _) (jretWV h)
    · have h := jite_t h cq
      refine j_iload_n C dX1_takeBehindOne_132 2 rfl ?_
      refine j_if_eq C dX1_takeBehindOne_133 (tgt := 149) (by decide) (fun cq => ?_) (fun cq => ?_)
      · have h := jite_f h (jb_f cq)
        refine j_aload_n C dX1_takeBehindOne_149 0 rfl ?_
        refine j_iconst C dX1_takeBehindOne_150 (v := 1) (by decide) ?_
        obtain ⟨p151, he151, h⟩ := jbind h
        refine j_cV0 C dX1_takeBehindOne_151 (m_X1_refuse 1 s he151) kc_X1_refuse w_552 w_554 wp_10 w_9 jy_X1_refuse ⟨⟨Nat.le_of_ble_eq_true rfl, Nat.le_of_ble_eq_true rfl⟩, ⟨rfl, rfl⟩, ⟨Nat.zero_le _, Nat.zero_le _⟩⟩ (Nat.le_of_ble_eq_true rfl) (by decide) rfl (r := (RX1, TX1, 10)) rfl rfl rfl (fun _ _ h => h) ?_
        exact j_vret C dX1_takeBehindOne_154 rfl (Nat.zero_le _) (Nat.zero_le _) (jretWV h)
      · have h := jite_t h (jb_t cq)
        refine j_aload_n C dX1_takeBehindOne_136 0 rfl ?_
        refine j_iconst C dX1_takeBehindOne_137 (v := 1) (by decide) ?_
        obtain ⟨p138, he138, h⟩ := jbind h
        refine j_cV0 C dX1_takeBehindOne_138 (m_X1_joinDownTo n 1 s he138) kc_X1_joinDownTo w_610 w_612 wp_19 w_9 jy_X1_joinDownTo ⟨⟨Nat.le_of_ble_eq_true rfl, Nat.le_of_ble_eq_true rfl⟩, ⟨rfl, rfl⟩, ⟨Nat.zero_le _, Nat.zero_le _⟩⟩ (Nat.le_of_ble_eq_true rfl) (by decide) rfl (r := (RX1, TX1, 10)) rfl rfl rfl (fun _ _ h => h) ?_
        refine j_aload_n C dX1_takeBehindOne_141 0 rfl ?_
        refine j_iconst C dX1_takeBehindOne_142 (v := 0) (by decide) ?_
        refine j_putI C dX1_takeBehindOne_143 inX1 tyX1 tyX1_ok nmX1 rfl (by decide) 5 rfl rfl (by decide) w_284 rfl rfl rfl rfl (Nat.le_of_ble_eq_true rfl) (fun s143_1 hs143_1 => ?_)
        have h := jlet h hs143_1
        refine j_goto C dX1_takeBehindOne_146 (tgt := 154) (by decide) ?_
        exact j_vret C dX1_takeBehindOne_154 rfl (Nat.zero_le _) (Nat.zero_le _) (jretWV h)
  have jn108 : ∀ (v1 : Int32) (v2 : Int32) (v3 : Bool) (s : jS) (_ : J_X1_takeBehindOne_108 n v1 v2 v3 s = some p), K 0 0 (jw 54 (cellC G nd) ad s) 108 [(0, .ref (ad 49)), (1, .int v1), (2, .int v2), (3, .int (jb v3))] [] := by
    intro v1 v2 v3 s h
    unfold J_X1_takeBehindOne_108 at h
    refine j_iload_n C dX1_takeBehindOne_108 3 rfl ?_
    refine j_if_eq C dX1_takeBehindOne_109 (tgt := 126) (by decide) (fun cq => ?_) (fun cq => ?_)
    · have h := jite_f h (jb_f cq)
      refine j_loc C [0, 1, 3] rfl ?_
      exact jn126 v1 v3 s  h
    · have h := jite_t h (jb_t cq)
      refine j_aload_n C dX1_takeBehindOne_112 0 rfl ?_
      refine j_iload_n C dX1_takeBehindOne_113 1 rfl ?_
      refine j_iload_n C dX1_takeBehindOne_114 2 rfl ?_
      obtain ⟨p115, he115, h⟩ := jbind h
      refine j_cV0 C dX1_takeBehindOne_115 (m_X1_join n v1 v2 s he115) kc_X1_join w_622 w_624 wp_21 w_9 jy_X1_join ⟨⟨Nat.le_of_ble_eq_true rfl, Nat.le_of_ble_eq_true rfl⟩, ⟨rfl, rfl⟩, ⟨Nat.zero_le _, Nat.zero_le _⟩⟩ (Nat.le_of_ble_eq_true rfl) (by decide) rfl (r := (RX1, TX1, 10)) rfl rfl rfl (fun _ _ h => h) ?_
      refine j_aload_n C dX1_takeBehindOne_118 0 rfl ?_
      refine j_iconst C dX1_takeBehindOne_119 (v := 0) (by decide) ?_
      refine j_putI C dX1_takeBehindOne_120 inX1 tyX1 tyX1_ok nmX1 rfl (by decide) 9 (x := jb false) rfl rfl (by decide) w_288 rfl rfl (jb_nar false) (jb_fit false) (Nat.le_of_ble_eq_true rfl) (fun s120_2 hs120_2 => ?_)
      have h := jlet h hs120_2
      refine j_goto C dX1_takeBehindOne_123 (tgt := 154) (by decide) ?_
      exact j_vret C dX1_takeBehindOne_154 rfl (Nat.zero_le _) (Nat.zero_le _) (jretWV h)
  have jn98 : ∀ (v1 : Int32) (v2 : Int32) (v3 : Bool) (s : jS) (_ : J_X1_takeBehindOne_98 n v1 v2 v3 s = some p), K 0 0 (jw 54 (cellC G nd) ad s) 98 [(0, .ref (ad 49)), (1, .int v1), (2, .int v2), (3, .int (jb v3))] [] := by
    intro v1 v2 v3 s h
    unfold J_X1_takeBehindOne_98 at h
    refine j_iload_n C dX1_takeBehindOne_98 2 rfl ?_
    refine j_iconst C dX1_takeBehindOne_99 (v := 1) (by decide) ?_
    refine j_icmp_eq C dX1_takeBehindOne_100 (tgt := 108) (by decide) (fun cq => ?_) (fun cq => ?_)
    · have h := jite_t h cq
      refine j_loc C [0, 1, 2, 3] rfl ?_
      exact jn108 v1 v2 v3 s  h
    · have h := jite_f h cq
      refine j_iload_n C dX1_takeBehindOne_103 2 rfl ?_
      refine j_iconst C dX1_takeBehindOne_104 (v := 2) (by decide) ?_
      refine j_icmp_ne C dX1_takeBehindOne_105 (tgt := 126) (by decide) (fun cq => ?_) (fun cq => ?_)
      · have h := jite_f h cq
        refine j_loc C [0, 1, 3] rfl ?_
        exact jn126 v1 v3 s  h
      · have h := jite_t h cq
        refine j_loc C [0, 1, 2, 3] rfl ?_
        exact jn108 v1 v2 v3 s  h
  have jn65 : ∀ (v1 : Int32) (v2 : Int32) (v3 : Bool) (s : jS) (_ : J_X1_takeBehindOne_65 n v1 v2 v3 s = some p), K 0 0 (jw 54 (cellC G nd) ad s) 65 [(0, .ref (ad 49)), (1, .int v1), (2, .int v2), (3, .int (jb v3))] [] := by
    intro v1 v2 v3 s h
    unfold J_X1_takeBehindOne_65 at h
    refine j_iload_n C dX1_takeBehindOne_65 2 rfl ?_
    refine j_iconst C dX1_takeBehindOne_66 (v := 4) (by decide) ?_
    refine j_icmp_ne C dX1_takeBehindOne_67 (tgt := 98) (by decide) (fun cq => ?_) (fun cq => ?_)
    · have h := jite_f h cq
      refine j_loc C [0, 1, 2, 3] rfl ?_
      exact jn98 v1 v2 v3 s  h
    · have h := jite_t h cq
      refine j_aload_n C dX1_takeBehindOne_70 0 rfl ?_
      refine j_getW C dX1_takeBehindOne_71 inX1 rfl (by decide) rfl 9 (by decide) w_288 rfl rfl ?_
      refine j_if_ne C dX1_takeBehindOne_74 (tgt := 98) (by decide) (fun cq => ?_) (fun cq => ?_)
      · have h := jite_t h (jb_t cq)
        refine j_loc C [0, 1, 2, 3] rfl ?_
        exact jn98 v1 v2 v3 s  h
      · have h := jite_f h (jb_f cq)
        refine j_aload_n C dX1_takeBehindOne_77 0 rfl ?_
        refine j_getW C dX1_takeBehindOne_78 inX1 rfl (by decide) rfl 8 (by decide) w_287 rfl rfl ?_
        refine j_if_ne C dX1_takeBehindOne_81 (tgt := 98) (by decide) (fun cq => ?_) (fun cq => ?_)
        · have h := jite_f h cq
          refine j_loc C [0, 1, 2, 3] rfl ?_
          exact jn98 v1 v2 v3 s  h
        · have h := jite_t h cq
          refine j_aload_n C dX1_takeBehindOne_84 0 rfl ?_
          refine j_iload_n C dX1_takeBehindOne_85 1 rfl ?_
          refine j_iload_n C dX1_takeBehindOne_86 2 rfl ?_
          obtain ⟨p87, he87, h⟩ := jbind h
          refine j_cV0 C dX1_takeBehindOne_87 (m_X1_join n v1 v2 s he87) kc_X1_join w_622 w_624 wp_21 w_9 jy_X1_join ⟨⟨Nat.le_of_ble_eq_true rfl, Nat.le_of_ble_eq_true rfl⟩, ⟨rfl, rfl⟩, ⟨Nat.zero_le _, Nat.zero_le _⟩⟩ (Nat.le_of_ble_eq_true rfl) (by decide) rfl (r := (RX1, TX1, 10)) rfl rfl rfl (fun _ _ h => h) ?_
          refine j_aload_n C dX1_takeBehindOne_90 0 rfl ?_
          refine j_iconst C dX1_takeBehindOne_91 (v := 1) (by decide) ?_
          refine j_putI C dX1_takeBehindOne_92 inX1 tyX1 tyX1_ok nmX1 rfl (by decide) 9 (x := jb true) rfl rfl (by decide) w_288 rfl rfl (jb_nar true) (jb_fit true) (Nat.le_of_ble_eq_true rfl) (fun s92_3 hs92_3 => ?_)
          have h := jlet h hs92_3
          refine j_goto C dX1_takeBehindOne_95 (tgt := 154) (by decide) ?_
          exact j_vret C dX1_takeBehindOne_154 rfl (Nat.zero_le _) (Nat.zero_le _) (jretWV h)
  have jn24 : ∀ (v1 : Int32) (v2 : Int32) (k0 : Bool) (s : jS) (_ : J_X1_takeBehindOne_24 n v1 v2 k0 s = some p), K 0 0 (jw 54 (cellC G nd) ad s) 24 [(0, .ref (ad 49)), (1, .int v1), (2, .int v2)] [.int (jb k0)] := by
    intro v1 v2 k0 s h
    unfold J_X1_takeBehindOne_24 at h
    refine j_istore_n C dX1_takeBehindOne_24 (by decide) rfl ?_
    refine j_iload_n C dX1_takeBehindOne_25 3 rfl ?_
    refine j_iconst C dX1_takeBehindOne_26 (v := 5) (by decide) ?_
    refine j_icmp_eq C dX1_takeBehindOne_27 (tgt := 36) (by decide) (fun cq => ?_) (fun cq => ?_)
    · have h := jite_t h cq
      refine j_aload_n C dX1_takeBehindOne_36 1 rfl ?_
      refine j_iload_n C dX1_takeBehindOne_37 2 rfl ?_
      refine j_iload_n C dX1_takeBehindOne_38 3 rfl ?_
      obtain ⟨p39, he39, h⟩ := jbind h
      refine j_cV0 C dX1_takeBehindOne_39 (m_X1_join n v1 v2 s he39) kc_X1_join w_622 w_624 wp_21 w_9 jy_X1_join ⟨⟨Nat.le_of_ble_eq_true rfl, Nat.le_of_ble_eq_true rfl⟩, ⟨rfl, rfl⟩, ⟨Nat.zero_le _, Nat.zero_le _⟩⟩ (Nat.le_of_ble_eq_true rfl) (by decide) rfl (r := (RX1, TX1, 10)) rfl rfl rfl (fun _ _ h => h) ?_
      refine j_goto C dX1_takeBehindOne_42 (tgt := 154) (by decide) ?_
      exact j_vret C dX1_takeBehindOne_154 rfl (Nat.zero_le _) (Nat.zero_le _) (jretWV h)
    · have h := jite_f h cq
      refine j_iload_n C dX1_takeBehindOne_30 3 rfl ?_
      refine j_bipush C dX1_takeBehindOne_31 (v := 6) (by decide) ?_
      refine j_icmp_ne C dX1_takeBehindOne_33 (tgt := 45) (by decide) (fun cq => ?_) (fun cq => ?_)
      · have h := jite_f h cq
        refine j_iload_n C dX1_takeBehindOne_45 2 rfl ?_
        refine j_bipush C dX1_takeBehindOne_46 (v := 10) (by decide) ?_
        refine j_icmp_ne C dX1_takeBehindOne_48 (tgt := 65) (by decide) (fun cq => ?_) (fun cq => ?_)
        · have h := jite_f h cq
          refine j_loc C [1, 2, 3, 0] rfl ?_
          exact jn65 v1 v2 k0 s  h
        · have h := jite_t h cq
          refine j_aload_n C dX1_takeBehindOne_51 1 rfl ?_
          refine j_getW C dX1_takeBehindOne_52 inX1 rfl (by decide) rfl 8 (by decide) w_287 rfl rfl ?_
          refine j_if_le C dX1_takeBehindOne_55 (tgt := 65) (by decide) (fun cq => ?_) (fun cq => ?_)
          · have h := jite_t h cq
            refine j_loc C [1, 2, 3, 0] rfl ?_
            exact jn65 v1 v2 k0 s  h
          · have h := jite_f h cq
            refine j_aload_n C dX1_takeBehindOne_58 1 rfl ?_
            obtain ⟨p59, he59, h⟩ := jbind h
            refine j_cV0 C dX1_takeBehindOne_59 (m_X1_close n s he59) kc_X1_close w_626 w_628 wp_22 w_9 jy_X1_close ⟨⟨Nat.le_of_ble_eq_true rfl, Nat.le_of_ble_eq_true rfl⟩, ⟨rfl, rfl⟩, ⟨Nat.zero_le _, Nat.zero_le _⟩⟩ (Nat.le_of_ble_eq_true rfl) (by decide) rfl (r := (RX1, TX1, 10)) rfl rfl rfl (fun _ _ h => h) ?_
            refine j_goto C dX1_takeBehindOne_62 (tgt := 154) (by decide) ?_
            exact j_vret C dX1_takeBehindOne_154 rfl (Nat.zero_le _) (Nat.zero_le _) (jretWV h)
      · have h := jite_t h cq
        refine j_aload_n C dX1_takeBehindOne_36 1 rfl ?_
        refine j_iload_n C dX1_takeBehindOne_37 2 rfl ?_
        refine j_iload_n C dX1_takeBehindOne_38 3 rfl ?_
        obtain ⟨p39, he39, h⟩ := jbind h
        refine j_cV0 C dX1_takeBehindOne_39 (m_X1_join n v1 v2 s he39) kc_X1_join w_622 w_624 wp_21 w_9 jy_X1_join ⟨⟨Nat.le_of_ble_eq_true rfl, Nat.le_of_ble_eq_true rfl⟩, ⟨rfl, rfl⟩, ⟨Nat.zero_le _, Nat.zero_le _⟩⟩ (Nat.le_of_ble_eq_true rfl) (by decide) rfl (r := (RX1, TX1, 10)) rfl rfl rfl (fun _ _ h => h) ?_
        refine j_goto C dX1_takeBehindOne_42 (tgt := 154) (by decide) ?_
        exact j_vret C dX1_takeBehindOne_154 rfl (Nat.zero_le _) (Nat.zero_le _) (jretWV h)
  have jn23 : ∀ (v1 : Int32) (v2 : Int32) (s : jS) (_ : J_X1_takeBehindOne_23 n v1 v2 s = some p), K 0 0 (jw 54 (cellC G nd) ad s) 23 [(0, .ref (ad 49)), (1, .int v1), (2, .int v2)] [] := by
    intro v1 v2 s h
    unfold J_X1_takeBehindOne_23 at h
    refine j_iconst C dX1_takeBehindOne_23 (v := 0) (by decide) ?_
    refine j_loc C [0, 1, 2] rfl ?_
    exact jn24 v1 v2 false s  h
  show K 0 0 (jw 54 (cellC G nd) ad s) 0 [(0, .ref (ad 49)), (1, .int v1)] []
  refine j_iload_n C dX1_takeBehindOne_0 1 rfl ?_
  refine j_cS1 C dX1_takeBehindOne_1 (m_X1_levelOf v1 rfl) kc_X1_levelOf w_614 w_615 w_9 jy_X1_levelOf ⟨⟨Nat.le_of_ble_eq_true rfl, Nat.le_of_ble_eq_true rfl⟩, ⟨rfl, rfl⟩, ⟨Nat.zero_le _, Nat.zero_le _⟩⟩ (Nat.le_of_ble_eq_true rfl) rfl (fun _ _ h => h) ?_
  refine j_istore_n C dX1_takeBehindOne_4 (by decide) rfl ?_
  refine j_aload_n C dX1_takeBehindOne_5 1 rfl ?_
  refine j_getW C dX1_takeBehindOne_6 inX1 rfl (by decide) rfl 9 (by decide) w_288 rfl rfl ?_
  refine j_if_eq C dX1_takeBehindOne_9 (tgt := 23) (by decide) (fun cq => ?_) (fun cq => ?_)
  · have h := jite_f h (jb_f cq)
    refine j_loc C [1, 2, 0] rfl ?_
    exact jn23 v1 (F_X1_levelOf v1) s  h
  · have h := jite_t h (jb_t cq)
    refine j_aload_n C dX1_takeBehindOne_12 1 rfl ?_
    refine j_getW C dX1_takeBehindOne_13 inX1 rfl (by decide) rfl 8 (by decide) w_287 rfl rfl ?_
    refine j_if_ne C dX1_takeBehindOne_16 (tgt := 23) (by decide) (fun cq => ?_) (fun cq => ?_)
    · have h := jite_f h cq
      refine j_loc C [1, 2, 0] rfl ?_
      exact jn23 v1 (F_X1_levelOf v1) s  h
    · have h := jite_t h cq
      refine j_iconst C dX1_takeBehindOne_19 (v := 1) (by decide) ?_
      refine j_goto C dX1_takeBehindOne_20 (tgt := 24) (by decide) ?_
      refine j_loc C [1, 2, 0] rfl ?_
      exact jn24 v1 (F_X1_levelOf v1) true s  h
-- X1_take
def F_X1_take (n : Nat) (v1 : Int32) (s : jS) : Option jS :=
  (if (s.1 49 5) = 0 then ((F_X1_takeClause v1 s).bind fun p50 => some p50) else (if (s.1 49 5) = 1 then ((F_X1_takeNumber 1 7 2 s).bind fun p61 => (if jin (p61.1 49 4) 4 = true then ((F_X5_setKnocks ((p61.1 49 4).toNatClampNeg) (p61.1 27 3) p61).bind fun p75 => some p75) else none)) else (if (s.1 49 5) = 2 then ((F_X1_takeSign 6 3 s).bind fun p85 => some p85) else (if (s.1 49 5) = 3 then ((F_X1_takeNumber 0 5 5 s).bind fun p95 => (if jin (p95.1 49 4) 4 = true then ((F_X5_setAmount ((p95.1 49 4).toNatClampNeg) (p95.1 27 3) p95).bind fun p109 => some p109) else none)) else (if (s.1 49 5) = 4 then ((F_X1_takeNumber 0 24 5 s).bind fun p120 => (if jin (p120.1 49 4) 4 = true then ((F_X5_setAmount ((p120.1 49 4).toNatClampNeg) (p120.1 27 3) p120).bind fun p134 => some p134) else none)) else (if (s.1 49 5) = 5 then ((F_X1_takeSign 8 0 s).bind fun p144 => some p144) else (if (s.1 49 5) = 6 then ((F_X1_takeOne n v1 s).bind fun p152 => some p152) else ((F_X1_takeBehindOne n v1 s).bind fun p160 => some p160))))))))
def rm_X1_take : Room := { frames := 4, cells := 0, slots := 0, locals := 89 }
set_option maxHeartbeats 4000000 in
set_option maxRecDepth 100000 in
theorem m_X1_take {l : Launch} {D : va_G} {G : Nat → ClassId} {KV : jV} {ad : Nat → Nat} {nd : Nat} (n : Nat) (v1 : Int32) (s : jS) {p : jS} (h : F_X1_take n v1 s = some p) : jM l D G KV yX1_take cX1_take 2 none rm_X1_take [.ref (ad 49), .int v1] (jw 54 (cellC G nd) ad s) 0 0 (fun v u => v = none ∧ u = jw 54 (cellC G nd) ad p) := by
  refine jM.of (by decide) (Nat.le_of_ble_eq_true rfl) ?_
  intro K C
  unfold F_X1_take at h
  show K 0 0 (jw 54 (cellC G nd) ad s) 0 [(0, .ref (ad 49)), (1, .int v1)] []
  refine j_aload_n C dX1_take_0 0 rfl ?_
  refine j_getW C dX1_take_1 inX1 rfl (by decide) rfl 5 (by decide) w_284 rfl rfl ?_
  by_cases cs0 : (s.1 49 5) = 0
  · have h := jite_t h cs0
    refine j_tinE C dX1_take_4 cs0 (by decide) (by decide) (off := 44) (by decide) (tgt := 48) (by decide) ?_
    refine j_aload_n C dX1_take_48 0 rfl ?_
    refine j_iload_n C dX1_take_49 1 rfl ?_
    obtain ⟨p50, he50, h⟩ := jbind h
    refine j_cV0 C dX1_take_50 (m_X1_takeClause v1 s he50) kc_X1_takeClause w_548 w_550 wp_9 w_9 jy_X1_takeClause ⟨⟨Nat.le_of_ble_eq_true rfl, Nat.le_of_ble_eq_true rfl⟩, ⟨rfl, rfl⟩, ⟨Nat.zero_le _, Nat.zero_le _⟩⟩ (Nat.le_of_ble_eq_true rfl) (by decide) rfl (r := (RX1, TX1, 10)) rfl rfl rfl (fun _ _ h => h) ?_
    refine j_goto C dX1_take_53 (tgt := 163) (by decide) ?_
    exact j_vret C dX1_take_163 rfl (Nat.zero_le _) (Nat.zero_le _) (jretWV h)
  have h := jite_f h cs0
  by_cases cs1 : (s.1 49 5) = 1
  · have h := jite_t h cs1
    refine j_tinE C dX1_take_4 cs1 (by decide) (by decide) (off := 52) (by decide) (tgt := 56) (by decide) ?_
    refine j_aload_n C dX1_take_56 0 rfl ?_
    refine j_iconst C dX1_take_57 (v := 1) (by decide) ?_
    refine j_bipush C dX1_take_58 (v := 7) (by decide) ?_
    refine j_iconst C dX1_take_60 (v := 2) (by decide) ?_
    obtain ⟨p61, he61, h⟩ := jbind h
    refine j_cV0 C dX1_take_61 (m_X1_takeNumber 1 7 2 s he61) kc_X1_takeNumber w_560 w_562 wp_11 w_9 jy_X1_takeNumber ⟨⟨Nat.le_of_ble_eq_true rfl, Nat.le_of_ble_eq_true rfl⟩, ⟨rfl, rfl⟩, ⟨Nat.zero_le _, Nat.zero_le _⟩⟩ (Nat.le_of_ble_eq_true rfl) (by decide) rfl (r := (RX1, TX1, 10)) rfl rfl rfl (fun _ _ h => h) ?_
    refine j_aload_n C dX1_take_64 0 rfl ?_
    refine j_getW C dX1_take_65 inX1 rfl (by decide) rfl 4 (by decide) w_283 rfl rfl ?_
    obtain ⟨c65_1, h⟩ := jchk h
    refine j_aload_n C dX1_take_68 0 rfl ?_
    refine j_getW C dX1_take_69 inX1 rfl (by decide) rfl 2 (by decide) w_281 rfl rfl ?_
    refine j_getW C dX1_take_72 inX4 rfl (by decide) rfl 3 (by decide) w_176 rfl rfl ?_
    obtain ⟨p75, he75, h⟩ := jbind h
    refine j_cV0 C dX1_take_75 (m_X5_setKnocks ((p61.1 49 4).toNatClampNeg) (p61.1 27 3) p61 (jin_lt c65_1) he75) kc_X5_setKnocks w_565 w_566 w_567 w_3 jy_X5_setKnocks ⟨⟨Nat.le_of_ble_eq_true rfl, Nat.le_of_ble_eq_true rfl⟩, ⟨rfl, rfl⟩, ⟨Nat.zero_le _, Nat.zero_le _⟩⟩ (Nat.le_of_ble_eq_true rfl) (cTq0 (jin_lt c65_1)) (cT0 (jin_lt c65_1)) (r := (RX5, TX5, 7)) rfl rfl rfl (fun _ _ h => h) ?_
    refine j_goto C dX1_take_78 (tgt := 163) (by decide) ?_
    exact j_vret C dX1_take_163 rfl (Nat.zero_le _) (Nat.zero_le _) (jretWV h)
  have h := jite_f h cs1
  by_cases cs2 : (s.1 49 5) = 2
  · have h := jite_t h cs2
    refine j_tinE C dX1_take_4 cs2 (by decide) (by decide) (off := 77) (by decide) (tgt := 81) (by decide) ?_
    refine j_aload_n C dX1_take_81 0 rfl ?_
    refine j_bipush C dX1_take_82 (v := 6) (by decide) ?_
    refine j_iconst C dX1_take_84 (v := 3) (by decide) ?_
    obtain ⟨p85, he85, h⟩ := jbind h
    refine j_cV0 C dX1_take_85 (m_X1_takeSign 6 3 s he85) kc_X1_takeSign w_570 w_572 wp_12 w_9 jy_X1_takeSign ⟨⟨Nat.le_of_ble_eq_true rfl, Nat.le_of_ble_eq_true rfl⟩, ⟨rfl, rfl⟩, ⟨Nat.zero_le _, Nat.zero_le _⟩⟩ (Nat.le_of_ble_eq_true rfl) (by decide) rfl (r := (RX1, TX1, 10)) rfl rfl rfl (fun _ _ h => h) ?_
    refine j_goto C dX1_take_88 (tgt := 163) (by decide) ?_
    exact j_vret C dX1_take_163 rfl (Nat.zero_le _) (Nat.zero_le _) (jretWV h)
  have h := jite_f h cs2
  by_cases cs3 : (s.1 49 5) = 3
  · have h := jite_t h cs3
    refine j_tinE C dX1_take_4 cs3 (by decide) (by decide) (off := 87) (by decide) (tgt := 91) (by decide) ?_
    refine j_aload_n C dX1_take_91 0 rfl ?_
    refine j_iconst C dX1_take_92 (v := 0) (by decide) ?_
    refine j_iconst C dX1_take_93 (v := 5) (by decide) ?_
    refine j_iconst C dX1_take_94 (v := 5) (by decide) ?_
    obtain ⟨p95, he95, h⟩ := jbind h
    refine j_cV0 C dX1_take_95 (m_X1_takeNumber 0 5 5 s he95) kc_X1_takeNumber w_560 w_562 wp_11 w_9 jy_X1_takeNumber ⟨⟨Nat.le_of_ble_eq_true rfl, Nat.le_of_ble_eq_true rfl⟩, ⟨rfl, rfl⟩, ⟨Nat.zero_le _, Nat.zero_le _⟩⟩ (Nat.le_of_ble_eq_true rfl) (by decide) rfl (r := (RX1, TX1, 10)) rfl rfl rfl (fun _ _ h => h) ?_
    refine j_aload_n C dX1_take_98 0 rfl ?_
    refine j_getW C dX1_take_99 inX1 rfl (by decide) rfl 4 (by decide) w_283 rfl rfl ?_
    obtain ⟨c99_2, h⟩ := jchk h
    refine j_aload_n C dX1_take_102 0 rfl ?_
    refine j_getW C dX1_take_103 inX1 rfl (by decide) rfl 2 (by decide) w_281 rfl rfl ?_
    refine j_getW C dX1_take_106 inX4 rfl (by decide) rfl 3 (by decide) w_176 rfl rfl ?_
    obtain ⟨p109, he109, h⟩ := jbind h
    refine j_cV0 C dX1_take_109 (m_X5_setAmount ((p95.1 49 4).toNatClampNeg) (p95.1 27 3) p95 (jin_lt c99_2) he109) kc_X5_setAmount w_574 w_575 w_576 w_3 jy_X5_setAmount ⟨⟨Nat.le_of_ble_eq_true rfl, Nat.le_of_ble_eq_true rfl⟩, ⟨rfl, rfl⟩, ⟨Nat.zero_le _, Nat.zero_le _⟩⟩ (Nat.le_of_ble_eq_true rfl) (cTq0 (jin_lt c99_2)) (cT0 (jin_lt c99_2)) (r := (RX5, TX5, 7)) rfl rfl rfl (fun _ _ h => h) ?_
    refine j_goto C dX1_take_112 (tgt := 163) (by decide) ?_
    exact j_vret C dX1_take_163 rfl (Nat.zero_le _) (Nat.zero_le _) (jretWV h)
  have h := jite_f h cs3
  by_cases cs4 : (s.1 49 5) = 4
  · have h := jite_t h cs4
    refine j_tinE C dX1_take_4 cs4 (by decide) (by decide) (off := 111) (by decide) (tgt := 115) (by decide) ?_
    refine j_aload_n C dX1_take_115 0 rfl ?_
    refine j_iconst C dX1_take_116 (v := 0) (by decide) ?_
    refine j_bipush C dX1_take_117 (v := 24) (by decide) ?_
    refine j_iconst C dX1_take_119 (v := 5) (by decide) ?_
    obtain ⟨p120, he120, h⟩ := jbind h
    refine j_cV0 C dX1_take_120 (m_X1_takeNumber 0 24 5 s he120) kc_X1_takeNumber w_560 w_562 wp_11 w_9 jy_X1_takeNumber ⟨⟨Nat.le_of_ble_eq_true rfl, Nat.le_of_ble_eq_true rfl⟩, ⟨rfl, rfl⟩, ⟨Nat.zero_le _, Nat.zero_le _⟩⟩ (Nat.le_of_ble_eq_true rfl) (by decide) rfl (r := (RX1, TX1, 10)) rfl rfl rfl (fun _ _ h => h) ?_
    refine j_aload_n C dX1_take_123 0 rfl ?_
    refine j_getW C dX1_take_124 inX1 rfl (by decide) rfl 4 (by decide) w_283 rfl rfl ?_
    obtain ⟨c124_3, h⟩ := jchk h
    refine j_aload_n C dX1_take_127 0 rfl ?_
    refine j_getW C dX1_take_128 inX1 rfl (by decide) rfl 2 (by decide) w_281 rfl rfl ?_
    refine j_getW C dX1_take_131 inX4 rfl (by decide) rfl 3 (by decide) w_176 rfl rfl ?_
    obtain ⟨p134, he134, h⟩ := jbind h
    refine j_cV0 C dX1_take_134 (m_X5_setAmount ((p120.1 49 4).toNatClampNeg) (p120.1 27 3) p120 (jin_lt c124_3) he134) kc_X5_setAmount w_574 w_575 w_576 w_3 jy_X5_setAmount ⟨⟨Nat.le_of_ble_eq_true rfl, Nat.le_of_ble_eq_true rfl⟩, ⟨rfl, rfl⟩, ⟨Nat.zero_le _, Nat.zero_le _⟩⟩ (Nat.le_of_ble_eq_true rfl) (cTq0 (jin_lt c124_3)) (cT0 (jin_lt c124_3)) (r := (RX5, TX5, 7)) rfl rfl rfl (fun _ _ h => h) ?_
    refine j_goto C dX1_take_137 (tgt := 163) (by decide) ?_
    exact j_vret C dX1_take_163 rfl (Nat.zero_le _) (Nat.zero_le _) (jretWV h)
  have h := jite_f h cs4
  by_cases cs5 : (s.1 49 5) = 5
  · have h := jite_t h cs5
    refine j_tinE C dX1_take_4 cs5 (by decide) (by decide) (off := 136) (by decide) (tgt := 140) (by decide) ?_
    refine j_aload_n C dX1_take_140 0 rfl ?_
    refine j_bipush C dX1_take_141 (v := 8) (by decide) ?_
    refine j_iconst C dX1_take_143 (v := 0) (by decide) ?_
    obtain ⟨p144, he144, h⟩ := jbind h
    refine j_cV0 C dX1_take_144 (m_X1_takeSign 8 0 s he144) kc_X1_takeSign w_570 w_572 wp_12 w_9 jy_X1_takeSign ⟨⟨Nat.le_of_ble_eq_true rfl, Nat.le_of_ble_eq_true rfl⟩, ⟨rfl, rfl⟩, ⟨Nat.zero_le _, Nat.zero_le _⟩⟩ (Nat.le_of_ble_eq_true rfl) (by decide) rfl (r := (RX1, TX1, 10)) rfl rfl rfl (fun _ _ h => h) ?_
    refine j_goto C dX1_take_147 (tgt := 163) (by decide) ?_
    exact j_vret C dX1_take_163 rfl (Nat.zero_le _) (Nat.zero_le _) (jretWV h)
  have h := jite_f h cs5
  by_cases cs6 : (s.1 49 5) = 6
  · have h := jite_t h cs6
    refine j_tinE C dX1_take_4 cs6 (by decide) (by decide) (off := 146) (by decide) (tgt := 150) (by decide) ?_
    refine j_aload_n C dX1_take_150 0 rfl ?_
    refine j_iload_n C dX1_take_151 1 rfl ?_
    obtain ⟨p152, he152, h⟩ := jbind h
    refine j_cV0 C dX1_take_152 (m_X1_takeOne n v1 s he152) kc_X1_takeOne w_578 w_580 wp_13 w_9 jy_X1_takeOne ⟨⟨Nat.le_of_ble_eq_true rfl, Nat.le_of_ble_eq_true rfl⟩, ⟨rfl, rfl⟩, ⟨Nat.zero_le _, Nat.zero_le _⟩⟩ (Nat.le_of_ble_eq_true rfl) (by decide) rfl (r := (RX1, TX1, 10)) rfl rfl rfl (fun _ _ h => h) ?_
    refine j_goto C dX1_take_155 (tgt := 163) (by decide) ?_
    exact j_vret C dX1_take_163 rfl (Nat.zero_le _) (Nat.zero_le _) (jretWV h)
  have h := jite_f h cs6
  refine j_tout C dX1_take_4 (jtsw (by decide) (by decide) (fun z h1 h2 => ?_)) (tgt := 158) (by decide) ?_
  · have hz : z = 0 ∨ z = 1 ∨ z = 2 ∨ z = 3 ∨ z = 4 ∨ z = 5 ∨ z = 6 := by omega
    rcases hz with rfl | rfl | rfl | rfl | rfl | rfl | rfl
    all_goals first | exact cs0 | exact cs1 | exact cs2 | exact cs3 | exact cs4 | exact cs5 | exact cs6
  refine j_aload_n C dX1_take_158 0 rfl ?_
  refine j_iload_n C dX1_take_159 1 rfl ?_
  obtain ⟨p160, he160, h⟩ := jbind h
  refine j_cV0 C dX1_take_160 (m_X1_takeBehindOne n v1 s he160) kc_X1_takeBehindOne w_618 w_620 wp_20 w_9 jy_X1_takeBehindOne ⟨⟨Nat.le_of_ble_eq_true rfl, Nat.le_of_ble_eq_true rfl⟩, ⟨rfl, rfl⟩, ⟨Nat.zero_le _, Nat.zero_le _⟩⟩ (Nat.le_of_ble_eq_true rfl) (by decide) rfl (r := (RX1, TX1, 10)) rfl rfl rfl (fun _ _ h => h) ?_
  exact j_vret C dX1_take_163 rfl (Nat.zero_le _) (Nat.zero_le _) (jretWV h)
