theorem dX2_becomes_0 : decode cX2_becomes 0 = .ok (.aload_n 1, 1) := by decide +kernel
theorem dX2_becomes_1 : decode cX2_becomes 1 = .ok (.getfield 9, 3) := by decide +kernel
theorem dX2_becomes_4 : decode cX2_becomes 4 = .ok (.iconst 0, 1) := by decide +kernel
theorem dX2_becomes_5 : decode cX2_becomes 5 = .ok (.aload_n 0, 1) := by decide +kernel
theorem dX2_becomes_6 : decode cX2_becomes 6 = .ok (.getfield 9, 3) := by decide +kernel
theorem dX2_becomes_9 : decode cX2_becomes 9 = .ok (.iconst 0, 1) := by decide +kernel
theorem dX2_becomes_10 : decode cX2_becomes 10 = .ok (.bipush 24, 2) := by decide +kernel
theorem dX2_becomes_12 : decode cX2_becomes 12 = .ok (.invokestatic 46, 3) := by decide +kernel
theorem dX2_becomes_15 : decode cX2_becomes 15 = .ok (.aload_n 1, 1) := by decide +kernel
theorem dX2_becomes_16 : decode cX2_becomes 16 = .ok (.getfield 15, 3) := by decide +kernel
theorem dX2_becomes_19 : decode cX2_becomes 19 = .ok (.iconst 0, 1) := by decide +kernel
theorem dX2_becomes_20 : decode cX2_becomes 20 = .ok (.aload_n 0, 1) := by decide +kernel
theorem dX2_becomes_21 : decode cX2_becomes 21 = .ok (.getfield 15, 3) := by decide +kernel
theorem dX2_becomes_24 : decode cX2_becomes 24 = .ok (.iconst 0, 1) := by decide +kernel
theorem dX2_becomes_25 : decode cX2_becomes 25 = .ok (.bipush 8, 2) := by decide +kernel
theorem dX2_becomes_27 : decode cX2_becomes 27 = .ok (.invokestatic 46, 3) := by decide +kernel
theorem dX2_becomes_30 : decode cX2_becomes 30 = .ok (.aload_n 1, 1) := by decide +kernel
theorem dX2_becomes_31 : decode cX2_becomes 31 = .ok (.getfield 18, 3) := by decide +kernel
theorem dX2_becomes_34 : decode cX2_becomes 34 = .ok (.iconst 0, 1) := by decide +kernel
theorem dX2_becomes_35 : decode cX2_becomes 35 = .ok (.aload_n 0, 1) := by decide +kernel
theorem dX2_becomes_36 : decode cX2_becomes 36 = .ok (.getfield 18, 3) := by decide +kernel
theorem dX2_becomes_39 : decode cX2_becomes 39 = .ok (.iconst 0, 1) := by decide +kernel
theorem dX2_becomes_40 : decode cX2_becomes 40 = .ok (.bipush 8, 2) := by decide +kernel
theorem dX2_becomes_42 : decode cX2_becomes 42 = .ok (.invokestatic 46, 3) := by decide +kernel
theorem dX2_becomes_45 : decode cX2_becomes 45 = .ok (.aload_n 1, 1) := by decide +kernel
theorem dX2_becomes_46 : decode cX2_becomes 46 = .ok (.getfield 25, 3) := by decide +kernel
theorem dX2_becomes_49 : decode cX2_becomes 49 = .ok (.iconst 0, 1) := by decide +kernel
theorem dX2_becomes_50 : decode cX2_becomes 50 = .ok (.aload_n 0, 1) := by decide +kernel
theorem dX2_becomes_51 : decode cX2_becomes 51 = .ok (.getfield 25, 3) := by decide +kernel
theorem dX2_becomes_54 : decode cX2_becomes 54 = .ok (.iconst 0, 1) := by decide +kernel
theorem dX2_becomes_55 : decode cX2_becomes 55 = .ok (.bipush 24, 2) := by decide +kernel
theorem dX2_becomes_57 : decode cX2_becomes 57 = .ok (.invokestatic 46, 3) := by decide +kernel
theorem dX2_becomes_60 : decode cX2_becomes 60 = .ok (.aload_n 1, 1) := by decide +kernel
theorem dX2_becomes_61 : decode cX2_becomes 61 = .ok (.getfield 28, 3) := by decide +kernel
theorem dX2_becomes_64 : decode cX2_becomes 64 = .ok (.iconst 0, 1) := by decide +kernel
theorem dX2_becomes_65 : decode cX2_becomes 65 = .ok (.aload_n 0, 1) := by decide +kernel
theorem dX2_becomes_66 : decode cX2_becomes 66 = .ok (.getfield 28, 3) := by decide +kernel
theorem dX2_becomes_69 : decode cX2_becomes 69 = .ok (.iconst 0, 1) := by decide +kernel
theorem dX2_becomes_70 : decode cX2_becomes 70 = .ok (.bipush 120, 2) := by decide +kernel
theorem dX2_becomes_72 : decode cX2_becomes 72 = .ok (.invokestatic 46, 3) := by decide +kernel
theorem dX2_becomes_75 : decode cX2_becomes 75 = .ok (.iconst 0, 1) := by decide +kernel
theorem dX2_becomes_76 : decode cX2_becomes 76 = .ok (.istore_n 2, 1) := by decide +kernel
theorem dX2_becomes_77 : decode cX2_becomes 77 = .ok (.iload_n 2, 1) := by decide +kernel
theorem dX2_becomes_78 : decode cX2_becomes 78 = .ok (.bipush 8, 2) := by decide +kernel
theorem dX2_becomes_80 : decode cX2_becomes 80 = .ok (.if_icmp .ge 21, 3) := by decide +kernel
theorem dX2_becomes_83 : decode cX2_becomes 83 = .ok (.aload_n 0, 1) := by decide +kernel
theorem dX2_becomes_84 : decode cX2_becomes 84 = .ok (.getfield 21, 3) := by decide +kernel
theorem dX2_becomes_87 : decode cX2_becomes 87 = .ok (.iload_n 2, 1) := by decide +kernel
theorem dX2_becomes_88 : decode cX2_becomes 88 = .ok (.aload_n 1, 1) := by decide +kernel
theorem dX2_becomes_89 : decode cX2_becomes 89 = .ok (.getfield 21, 3) := by decide +kernel
theorem dX2_becomes_92 : decode cX2_becomes 92 = .ok (.iload_n 2, 1) := by decide +kernel
theorem dX2_becomes_93 : decode cX2_becomes 93 = .ok (.baload, 1) := by decide +kernel
theorem dX2_becomes_94 : decode cX2_becomes 94 = .ok (.bastore, 1) := by decide +kernel
theorem dX2_becomes_95 : decode cX2_becomes 95 = .ok (.iinc 2 1, 3) := by decide +kernel
theorem dX2_becomes_98 : decode cX2_becomes 98 = .ok (.goto (-21), 3) := by decide +kernel
theorem dX2_becomes_101 : decode cX2_becomes 101 = .ok (.aload_n 0, 1) := by decide +kernel
theorem dX2_becomes_102 : decode cX2_becomes 102 = .ok (.getfield 34, 3) := by decide +kernel
theorem dX2_becomes_105 : decode cX2_becomes 105 = .ok (.aload_n 1, 1) := by decide +kernel
theorem dX2_becomes_106 : decode cX2_becomes 106 = .ok (.getfield 34, 3) := by decide +kernel
theorem dX2_becomes_109 : decode cX2_becomes 109 = .ok (.invokevirtual 52, 3) := by decide +kernel
theorem dX2_becomes_112 : decode cX2_becomes 112 = .ok (.aload_n 0, 1) := by decide +kernel
theorem dX2_becomes_113 : decode cX2_becomes 113 = .ok (.aload_n 1, 1) := by decide +kernel
theorem dX2_becomes_114 : decode cX2_becomes 114 = .ok (.getfield 56, 3) := by decide +kernel
theorem dX2_becomes_117 : decode cX2_becomes 117 = .ok (.putfield 56, 3) := by decide +kernel
theorem dX2_becomes_120 : decode cX2_becomes 120 = .ok (.aload_n 0, 1) := by decide +kernel
theorem dX2_becomes_121 : decode cX2_becomes 121 = .ok (.aload_n 1, 1) := by decide +kernel
theorem dX2_becomes_122 : decode cX2_becomes 122 = .ok (.getfield 38, 3) := by decide +kernel
theorem dX2_becomes_125 : decode cX2_becomes 125 = .ok (.putfield 38, 3) := by decide +kernel
theorem dX2_becomes_128 : decode cX2_becomes 128 = .ok (.aload_n 0, 1) := by decide +kernel
theorem dX2_becomes_129 : decode cX2_becomes 129 = .ok (.aload_n 1, 1) := by decide +kernel
theorem dX2_becomes_130 : decode cX2_becomes 130 = .ok (.getfield 59, 3) := by decide +kernel
theorem dX2_becomes_133 : decode cX2_becomes 133 = .ok (.putfield 59, 3) := by decide +kernel
theorem dX2_becomes_136 : decode cX2_becomes 136 = .ok (.return_, 1) := by decide +kernel
theorem dX8_image_0 : decode cX8_image 0 = .ok (.aload_n 0, 1) := by decide +kernel
theorem dX8_image_1 : decode cX8_image 1 = .ok (.getfield 45, 3) := by decide +kernel
theorem dX8_image_4 : decode cX8_image 4 = .ok (.aload_n 0, 1) := by decide +kernel
theorem dX8_image_5 : decode cX8_image 5 = .ok (.getfield 41, 3) := by decide +kernel
theorem dX8_image_8 : decode cX8_image 8 = .ok (.invokevirtual 256, 3) := by decide +kernel
theorem dX8_image_11 : decode cX8_image 11 = .ok (.aload_n 0, 1) := by decide +kernel
theorem dX8_image_12 : decode cX8_image 12 = .ok (.getfield 41, 3) := by decide +kernel
theorem dX8_image_15 : decode cX8_image 15 = .ok (.getfield 145, 3) := by decide +kernel
theorem dX8_image_18 : decode cX8_image 18 = .ok (.getfield 190, 3) := by decide +kernel
theorem dX8_image_21 : decode cX8_image 21 = .ok (.ireturn, 1) := by decide +kernel
theorem dX8_back_0 : decode cX8_back 0 = .ok (.aload_n 0, 1) := by decide +kernel
theorem dX8_back_1 : decode cX8_back 1 = .ok (.getfield 41, 3) := by decide +kernel
theorem dX8_back_4 : decode cX8_back 4 = .ok (.aload_n 0, 1) := by decide +kernel
theorem dX8_back_5 : decode cX8_back 5 = .ok (.getfield 45, 3) := by decide +kernel
theorem dX8_back_8 : decode cX8_back 8 = .ok (.invokevirtual 256, 3) := by decide +kernel
theorem dX8_back_11 : decode cX8_back 11 = .ok (.aload_n 0, 1) := by decide +kernel
theorem dX8_back_12 : decode cX8_back 12 = .ok (.invokevirtual 94, 3) := by decide +kernel
theorem dX8_back_15 : decode cX8_back 15 = .ok (.aload_n 0, 1) := by decide +kernel
theorem dX8_back_16 : decode cX8_back 16 = .ok (.getfield 41, 3) := by decide +kernel
theorem dX8_back_19 : decode cX8_back 19 = .ok (.getfield 145, 3) := by decide +kernel
theorem dX8_back_22 : decode cX8_back 22 = .ok (.getfield 190, 3) := by decide +kernel
theorem dX8_back_25 : decode cX8_back 25 = .ok (.ireturn, 1) := by decide +kernel
theorem dX8_aboutPart_0 : decode cX8_aboutPart 0 = .ok (.iload_n 1, 1) := by decide +kernel
theorem dX8_aboutPart_1 : decode cX8_aboutPart 1 = .ok (.bipush 10, 2) := by decide +kernel
theorem dX8_aboutPart_3 : decode cX8_aboutPart 3 = .ok (.bipush 10, 2) := by decide +kernel
theorem dX8_aboutPart_5 : decode cX8_aboutPart 5 = .ok (.aload_n 0, 1) := by decide +kernel
theorem dX8_aboutPart_6 : decode cX8_aboutPart 6 = .ok (.getfield 37, 3) := by decide +kernel
theorem dX8_aboutPart_9 : decode cX8_aboutPart 9 = .ok (.iadd, 1) := by decide +kernel
theorem dX8_aboutPart_10 : decode cX8_aboutPart 10 = .ok (.iconst 1, 1) := by decide +kernel
theorem dX8_aboutPart_11 : decode cX8_aboutPart 11 = .ok (.isub, 1) := by decide +kernel
theorem dX8_aboutPart_12 : decode cX8_aboutPart 12 = .ok (.invokestatic 86, 3) := by decide +kernel
theorem dX8_aboutPart_15 : decode cX8_aboutPart 15 = .ok (.ifCond .eq 16, 3) := by decide +kernel
theorem dX8_aboutPart_18 : decode cX8_aboutPart 18 = .ok (.aload_n 0, 1) := by decide +kernel
theorem dX8_aboutPart_19 : decode cX8_aboutPart 19 = .ok (.getfield 41, 3) := by decide +kernel
theorem dX8_aboutPart_22 : decode cX8_aboutPart 22 = .ok (.getfield 130, 3) := by decide +kernel
theorem dX8_aboutPart_25 : decode cX8_aboutPart 25 = .ok (.iload_n 1, 1) := by decide +kernel
theorem dX8_aboutPart_26 : decode cX8_aboutPart 26 = .ok (.bipush 10, 2) := by decide +kernel
theorem dX8_aboutPart_28 : decode cX8_aboutPart 28 = .ok (.isub, 1) := by decide +kernel
theorem dX8_aboutPart_29 : decode cX8_aboutPart 29 = .ok (.iaload, 1) := by decide +kernel
theorem dX8_aboutPart_30 : decode cX8_aboutPart 30 = .ok (.ireturn, 1) := by decide +kernel
theorem dX8_aboutPart_31 : decode cX8_aboutPart 31 = .ok (.iload_n 1, 1) := by decide +kernel
theorem dX8_aboutPart_32 : decode cX8_aboutPart 32 = .ok (.bipush 20, 2) := by decide +kernel
theorem dX8_aboutPart_34 : decode cX8_aboutPart 34 = .ok (.bipush 20, 2) := by decide +kernel
theorem dX8_aboutPart_36 : decode cX8_aboutPart 36 = .ok (.aload_n 0, 1) := by decide +kernel
theorem dX8_aboutPart_37 : decode cX8_aboutPart 37 = .ok (.getfield 37, 3) := by decide +kernel
theorem dX8_aboutPart_40 : decode cX8_aboutPart 40 = .ok (.iadd, 1) := by decide +kernel
theorem dX8_aboutPart_41 : decode cX8_aboutPart 41 = .ok (.iconst 1, 1) := by decide +kernel
theorem dX8_aboutPart_42 : decode cX8_aboutPart 42 = .ok (.isub, 1) := by decide +kernel
theorem dX8_aboutPart_43 : decode cX8_aboutPart 43 = .ok (.invokestatic 86, 3) := by decide +kernel
theorem dX8_aboutPart_46 : decode cX8_aboutPart 46 = .ok (.ifCond .eq 38, 3) := by decide +kernel
theorem dX8_aboutPart_49 : decode cX8_aboutPart 49 = .ok (.aload_n 0, 1) := by decide +kernel
theorem dX8_aboutPart_50 : decode cX8_aboutPart 50 = .ok (.getfield 41, 3) := by decide +kernel
theorem dX8_aboutPart_53 : decode cX8_aboutPart 53 = .ok (.getfield 100, 3) := by decide +kernel
theorem dX8_aboutPart_56 : decode cX8_aboutPart 56 = .ok (.iload_n 1, 1) := by decide +kernel
theorem dX8_aboutPart_57 : decode cX8_aboutPart 57 = .ok (.bipush 20, 2) := by decide +kernel
theorem dX8_aboutPart_59 : decode cX8_aboutPart 59 = .ok (.isub, 1) := by decide +kernel
theorem dX8_aboutPart_60 : decode cX8_aboutPart 60 = .ok (.iaload, 1) := by decide +kernel
theorem dX8_aboutPart_61 : decode cX8_aboutPart 61 = .ok (.aload_n 0, 1) := by decide +kernel
theorem dX8_aboutPart_62 : decode cX8_aboutPart 62 = .ok (.getfield 41, 3) := by decide +kernel
theorem dX8_aboutPart_65 : decode cX8_aboutPart 65 = .ok (.getfield 103, 3) := by decide +kernel
theorem dX8_aboutPart_68 : decode cX8_aboutPart 68 = .ok (.iload_n 1, 1) := by decide +kernel
theorem dX8_aboutPart_69 : decode cX8_aboutPart 69 = .ok (.bipush 20, 2) := by decide +kernel
theorem dX8_aboutPart_71 : decode cX8_aboutPart 71 = .ok (.isub, 1) := by decide +kernel
theorem dX8_aboutPart_72 : decode cX8_aboutPart 72 = .ok (.baload, 1) := by decide +kernel
theorem dX8_aboutPart_73 : decode cX8_aboutPart 73 = .ok (.ifCond .eq 8, 3) := by decide +kernel
theorem dX8_aboutPart_76 : decode cX8_aboutPart 76 = .ok (.bipush 10, 2) := by decide +kernel
theorem dX8_aboutPart_78 : decode cX8_aboutPart 78 = .ok (.goto 4, 3) := by decide +kernel
theorem dX8_aboutPart_81 : decode cX8_aboutPart 81 = .ok (.iconst 0, 1) := by decide +kernel
theorem dX8_aboutPart_82 : decode cX8_aboutPart 82 = .ok (.iadd, 1) := by decide +kernel
theorem dX8_aboutPart_83 : decode cX8_aboutPart 83 = .ok (.ireturn, 1) := by decide +kernel
theorem dX8_aboutPart_84 : decode cX8_aboutPart 84 = .ok (.iload_n 1, 1) := by decide +kernel
theorem dX8_aboutPart_85 : decode cX8_aboutPart 85 = .ok (.bipush 30, 2) := by decide +kernel
theorem dX8_aboutPart_87 : decode cX8_aboutPart 87 = .ok (.bipush 53, 2) := by decide +kernel
theorem dX8_aboutPart_89 : decode cX8_aboutPart 89 = .ok (.invokestatic 86, 3) := by decide +kernel
theorem dX8_aboutPart_92 : decode cX8_aboutPart 92 = .ok (.ifCond .eq 18, 3) := by decide +kernel
theorem dX8_aboutPart_95 : decode cX8_aboutPart 95 = .ok (.aload_n 0, 1) := by decide +kernel
theorem dX8_aboutPart_96 : decode cX8_aboutPart 96 = .ok (.getfield 41, 3) := by decide +kernel
theorem dX8_aboutPart_99 : decode cX8_aboutPart 99 = .ok (.getfield 90, 3) := by decide +kernel
theorem dX8_aboutPart_102 : decode cX8_aboutPart 102 = .ok (.iload_n 1, 1) := by decide +kernel
theorem dX8_aboutPart_103 : decode cX8_aboutPart 103 = .ok (.bipush 30, 2) := by decide +kernel
theorem dX8_aboutPart_105 : decode cX8_aboutPart 105 = .ok (.isub, 1) := by decide +kernel
theorem dX8_aboutPart_106 : decode cX8_aboutPart 106 = .ok (.iaload, 1) := by decide +kernel
theorem dX8_aboutPart_107 : decode cX8_aboutPart 107 = .ok (.goto 5, 3) := by decide +kernel
theorem dX8_aboutPart_110 : decode cX8_aboutPart 110 = .ok (.bipush (-2), 2) := by decide +kernel
theorem dX8_aboutPart_112 : decode cX8_aboutPart 112 = .ok (.ireturn, 1) := by decide +kernel
theorem dX8_about_0 : decode cX8_about 0 = .ok (.iload_n 1, 1) := by decide +kernel
theorem dX8_about_1 : decode cX8_about 1 = .ok (.tableswitch 87 0 5 #[39, 44, 52, 63, 71, 79], 39) := by decide +kernel
theorem dX8_about_40 : decode cX8_about 40 = .ok (.aload_n 0, 1) := by decide +kernel
theorem dX8_about_41 : decode cX8_about 41 = .ok (.getfield 37, 3) := by decide +kernel
theorem dX8_about_44 : decode cX8_about 44 = .ok (.ireturn, 1) := by decide +kernel
theorem dX8_about_45 : decode cX8_about 45 = .ok (.aload_n 0, 1) := by decide +kernel
theorem dX8_about_46 : decode cX8_about 46 = .ok (.getfield 41, 3) := by decide +kernel
theorem dX8_about_49 : decode cX8_about 49 = .ok (.getfield 117, 3) := by decide +kernel
theorem dX8_about_52 : decode cX8_about 52 = .ok (.ireturn, 1) := by decide +kernel
theorem dX8_about_53 : decode cX8_about 53 = .ok (.aload_n 0, 1) := by decide +kernel
theorem dX8_about_54 : decode cX8_about 54 = .ok (.getfield 41, 3) := by decide +kernel
theorem dX8_about_57 : decode cX8_about 57 = .ok (.getfield 145, 3) := by decide +kernel
theorem dX8_about_60 : decode cX8_about 60 = .ok (.getfield 187, 3) := by decide +kernel
theorem dX8_about_63 : decode cX8_about 63 = .ok (.ireturn, 1) := by decide +kernel
theorem dX8_about_64 : decode cX8_about 64 = .ok (.aload_n 0, 1) := by decide +kernel
theorem dX8_about_65 : decode cX8_about 65 = .ok (.getfield 41, 3) := by decide +kernel
theorem dX8_about_68 : decode cX8_about 68 = .ok (.getfield 227, 3) := by decide +kernel
theorem dX8_about_71 : decode cX8_about 71 = .ok (.ireturn, 1) := by decide +kernel
theorem dX8_about_72 : decode cX8_about 72 = .ok (.aload_n 0, 1) := by decide +kernel
theorem dX8_about_73 : decode cX8_about 73 = .ok (.getfield 41, 3) := by decide +kernel
theorem dX8_about_76 : decode cX8_about 76 = .ok (.getfield 247, 3) := by decide +kernel
theorem dX8_about_79 : decode cX8_about 79 = .ok (.ireturn, 1) := by decide +kernel
theorem dX8_about_80 : decode cX8_about 80 = .ok (.aload_n 0, 1) := by decide +kernel
theorem dX8_about_81 : decode cX8_about 81 = .ok (.getfield 52, 3) := by decide +kernel
theorem dX8_about_84 : decode cX8_about 84 = .ok (.getfield 110, 3) := by decide +kernel
theorem dX8_about_87 : decode cX8_about 87 = .ok (.ireturn, 1) := by decide +kernel
theorem dX8_about_88 : decode cX8_about 88 = .ok (.aload_n 0, 1) := by decide +kernel
theorem dX8_about_89 : decode cX8_about 89 = .ok (.iload_n 1, 1) := by decide +kernel
theorem dX8_about_90 : decode cX8_about 90 = .ok (.invokevirtual 260, 3) := by decide +kernel
theorem dX8_about_93 : decode cX8_about 93 = .ok (.ireturn, 1) := by decide +kernel
theorem dX9_isIn_0 : decode cX9_isIn 0 = .ok (.iload_n 0, 1) := by decide +kernel
theorem dX9_isIn_1 : decode cX9_isIn 1 = .ok (.iload_n 1, 1) := by decide +kernel
theorem dX9_isIn_2 : decode cX9_isIn 2 = .ok (.if_icmp .lt 12, 3) := by decide +kernel
theorem dX9_isIn_5 : decode cX9_isIn 5 = .ok (.iload_n 0, 1) := by decide +kernel
theorem dX9_isIn_6 : decode cX9_isIn 6 = .ok (.iload_n 2, 1) := by decide +kernel
theorem dX9_isIn_7 : decode cX9_isIn 7 = .ok (.if_icmp .gt 7, 3) := by decide +kernel
theorem dX9_isIn_10 : decode cX9_isIn 10 = .ok (.iconst 1, 1) := by decide +kernel
theorem dX9_isIn_11 : decode cX9_isIn 11 = .ok (.goto 4, 3) := by decide +kernel
theorem dX9_isIn_14 : decode cX9_isIn 14 = .ok (.iconst 0, 1) := by decide +kernel
theorem dX9_isIn_15 : decode cX9_isIn 15 = .ok (.ireturn, 1) := by decide +kernel
theorem dX9_isHour_0 : decode cX9_isHour 0 = .ok (.iload_n 0, 1) := by decide +kernel
theorem dX9_isHour_1 : decode cX9_isHour 1 = .ok (.iconst 0, 1) := by decide +kernel
theorem dX9_isHour_2 : decode cX9_isHour 2 = .ok (.bipush 23, 2) := by decide +kernel
theorem dX9_isHour_4 : decode cX9_isHour 4 = .ok (.invokestatic 69, 3) := by decide +kernel
theorem dX9_isHour_7 : decode cX9_isHour 7 = .ok (.ireturn, 1) := by decide +kernel
theorem dX9_rain_0 : decode cX9_rain 0 = .ok (.iload_n 1, 1) := by decide +kernel
theorem dX9_rain_1 : decode cX9_rain 1 = .ok (.invokestatic 73, 3) := by decide +kernel
theorem dX9_rain_4 : decode cX9_rain 4 = .ok (.ifCond .eq 13, 3) := by decide +kernel
theorem dX9_rain_7 : decode cX9_rain 7 = .ok (.iload_n 2, 1) := by decide +kernel
theorem dX9_rain_8 : decode cX9_rain 8 = .ok (.iconst 0, 1) := by decide +kernel
theorem dX9_rain_9 : decode cX9_rain 9 = .ok (.bipush 9, 2) := by decide +kernel
theorem dX9_rain_11 : decode cX9_rain 11 = .ok (.invokestatic 69, 3) := by decide +kernel
theorem dX9_rain_14 : decode cX9_rain 14 = .ok (.ifCond .ne 5, 3) := by decide +kernel
theorem dX9_rain_17 : decode cX9_rain 17 = .ok (.iconst 0, 1) := by decide +kernel
theorem dX9_rain_18 : decode cX9_rain 18 = .ok (.ireturn, 1) := by decide +kernel
theorem dX9_rain_19 : decode cX9_rain 19 = .ok (.aload_n 0, 1) := by decide +kernel
theorem dX9_rain_20 : decode cX9_rain 20 = .ok (.getfield 7, 3) := by decide +kernel
theorem dX9_rain_23 : decode cX9_rain 23 = .ok (.bipush 36, 2) := by decide +kernel
theorem dX9_rain_25 : decode cX9_rain 25 = .ok (.iload_n 1, 1) := by decide +kernel
theorem dX9_rain_26 : decode cX9_rain 26 = .ok (.iadd, 1) := by decide +kernel
theorem dX9_rain_27 : decode cX9_rain 27 = .ok (.iload_n 2, 1) := by decide +kernel
theorem dX9_rain_28 : decode cX9_rain 28 = .ok (.iastore, 1) := by decide +kernel
theorem dX9_rain_29 : decode cX9_rain 29 = .ok (.iconst 1, 1) := by decide +kernel
theorem dX9_rain_30 : decode cX9_rain 30 = .ok (.ireturn, 1) := by decide +kernel
theorem dX9_isDoor_0 : decode cX9_isDoor 0 = .ok (.iload_n 1, 1) := by decide +kernel
theorem dX9_isDoor_1 : decode cX9_isDoor 1 = .ok (.iconst 0, 1) := by decide +kernel
theorem dX9_isDoor_2 : decode cX9_isDoor 2 = .ok (.aload_n 0, 1) := by decide +kernel
theorem dX9_isDoor_3 : decode cX9_isDoor 3 = .ok (.getfield 62, 3) := by decide +kernel
theorem dX9_isDoor_6 : decode cX9_isDoor 6 = .ok (.iconst 1, 1) := by decide +kernel
theorem dX9_isDoor_7 : decode cX9_isDoor 7 = .ok (.isub, 1) := by decide +kernel
theorem dX9_isDoor_8 : decode cX9_isDoor 8 = .ok (.invokestatic 69, 3) := by decide +kernel
theorem dX9_isDoor_11 : decode cX9_isDoor 11 = .ok (.ireturn, 1) := by decide +kernel
theorem dX9_mood_0 : decode cX9_mood 0 = .ok (.aload_n 0, 1) := by decide +kernel
theorem dX9_mood_1 : decode cX9_mood 1 = .ok (.iload_n 1, 1) := by decide +kernel
theorem dX9_mood_2 : decode cX9_mood 2 = .ok (.invokevirtual 77, 3) := by decide +kernel
theorem dX9_mood_5 : decode cX9_mood 5 = .ok (.ifCond .eq 13, 3) := by decide +kernel
theorem dX9_mood_8 : decode cX9_mood 8 = .ok (.iload_n 2, 1) := by decide +kernel
theorem dX9_mood_9 : decode cX9_mood 9 = .ok (.iconst 0, 1) := by decide +kernel
theorem dX9_mood_10 : decode cX9_mood 10 = .ok (.bipush 9, 2) := by decide +kernel
theorem dX9_mood_12 : decode cX9_mood 12 = .ok (.invokestatic 69, 3) := by decide +kernel
theorem dX9_mood_15 : decode cX9_mood 15 = .ok (.ifCond .ne 5, 3) := by decide +kernel
theorem dX9_mood_18 : decode cX9_mood 18 = .ok (.iconst 0, 1) := by decide +kernel
theorem dX9_mood_19 : decode cX9_mood 19 = .ok (.ireturn, 1) := by decide +kernel
theorem dX9_mood_20 : decode cX9_mood 20 = .ok (.aload_n 0, 1) := by decide +kernel
theorem dX9_mood_21 : decode cX9_mood 21 = .ok (.getfield 7, 3) := by decide +kernel
theorem dX9_mood_24 : decode cX9_mood 24 = .ok (.bipush 12, 2) := by decide +kernel
theorem dX9_mood_26 : decode cX9_mood 26 = .ok (.iload_n 1, 1) := by decide +kernel
theorem dX9_mood_27 : decode cX9_mood 27 = .ok (.iadd, 1) := by decide +kernel
theorem dX9_mood_28 : decode cX9_mood 28 = .ok (.iload_n 2, 1) := by decide +kernel
theorem dX9_mood_29 : decode cX9_mood 29 = .ok (.iastore, 1) := by decide +kernel
theorem dX9_mood_30 : decode cX9_mood 30 = .ok (.iconst 1, 1) := by decide +kernel
theorem dX9_mood_31 : decode cX9_mood 31 = .ok (.ireturn, 1) := by decide +kernel
theorem dX9_moods_0 : decode cX9_moods 0 = .ok (.iload_n 1, 1) := by decide +kernel
theorem dX9_moods_1 : decode cX9_moods 1 = .ok (.iconst 0, 1) := by decide +kernel
theorem dX9_moods_2 : decode cX9_moods 2 = .ok (.sipush 9999, 3) := by decide +kernel
theorem dX9_moods_5 : decode cX9_moods 5 = .ok (.invokestatic 69, 3) := by decide +kernel
theorem dX9_moods_8 : decode cX9_moods 8 = .ok (.ifCond .ne 5, 3) := by decide +kernel
theorem dX9_moods_11 : decode cX9_moods 11 = .ok (.iconst (-1), 1) := by decide +kernel
theorem dX9_moods_12 : decode cX9_moods 12 = .ok (.ireturn, 1) := by decide +kernel
theorem dX9_moods_13 : decode cX9_moods 13 = .ok (.iload_n 1, 1) := by decide +kernel
theorem dX9_moods_14 : decode cX9_moods 14 = .ok (.iconst 5, 1) := by decide +kernel
theorem dX9_moods_15 : decode cX9_moods 15 = .ok (.imul, 1) := by decide +kernel
theorem dX9_moods_16 : decode cX9_moods 16 = .ok (.bipush 8, 2) := by decide +kernel
theorem dX9_moods_18 : decode cX9_moods 18 = .ok (.iadd, 1) := by decide +kernel
theorem dX9_moods_19 : decode cX9_moods 19 = .ok (.istore_n 2, 1) := by decide +kernel
theorem dX9_moods_20 : decode cX9_moods 20 = .ok (.iconst 0, 1) := by decide +kernel
theorem dX9_moods_21 : decode cX9_moods 21 = .ok (.istore_n 3, 1) := by decide +kernel
theorem dX9_moods_22 : decode cX9_moods 22 = .ok (.iload_n 3, 1) := by decide +kernel
theorem dX9_moods_23 : decode cX9_moods 23 = .ok (.aload_n 0, 1) := by decide +kernel
theorem dX9_moods_24 : decode cX9_moods 24 = .ok (.getfield 62, 3) := by decide +kernel
theorem dX9_moods_27 : decode cX9_moods 27 = .ok (.if_icmp .ge 35, 3) := by decide +kernel
theorem dX9_moods_30 : decode cX9_moods 30 = .ok (.aload_n 0, 1) := by decide +kernel
theorem dX9_moods_31 : decode cX9_moods 31 = .ok (.getfield 7, 3) := by decide +kernel
theorem dX9_moods_34 : decode cX9_moods 34 = .ok (.bipush 12, 2) := by decide +kernel
theorem dX9_moods_36 : decode cX9_moods 36 = .ok (.iload_n 3, 1) := by decide +kernel
theorem dX9_moods_37 : decode cX9_moods 37 = .ok (.iadd, 1) := by decide +kernel
theorem dX9_moods_38 : decode cX9_moods 38 = .ok (.iload_n 2, 1) := by decide +kernel
theorem dX9_moods_39 : decode cX9_moods 39 = .ok (.bipush 10, 2) := by decide +kernel
theorem dX9_moods_41 : decode cX9_moods 41 = .ok (.irem, 1) := by decide +kernel
theorem dX9_moods_42 : decode cX9_moods 42 = .ok (.iastore, 1) := by decide +kernel
theorem dX9_moods_43 : decode cX9_moods 43 = .ok (.iload_n 2, 1) := by decide +kernel
theorem dX9_moods_44 : decode cX9_moods 44 = .ok (.sipush 197, 3) := by decide +kernel
theorem dX9_moods_47 : decode cX9_moods 47 = .ok (.imul, 1) := by decide +kernel
theorem dX9_moods_48 : decode cX9_moods 48 = .ok (.bipush 59, 2) := by decide +kernel
theorem dX9_moods_50 : decode cX9_moods 50 = .ok (.iadd, 1) := by decide +kernel
theorem dX9_moods_51 : decode cX9_moods 51 = .ok (.sipush 30113, 3) := by decide +kernel
theorem dX9_moods_54 : decode cX9_moods 54 = .ok (.irem, 1) := by decide +kernel
theorem dX9_moods_55 : decode cX9_moods 55 = .ok (.istore_n 2, 1) := by decide +kernel
theorem dX9_moods_56 : decode cX9_moods 56 = .ok (.iinc 3 1, 3) := by decide +kernel
theorem dX9_moods_59 : decode cX9_moods 59 = .ok (.goto (-37), 3) := by decide +kernel
theorem dX9_moods_62 : decode cX9_moods 62 = .ok (.aload_n 0, 1) := by decide +kernel
theorem dX9_moods_63 : decode cX9_moods 63 = .ok (.getfield 7, 3) := by decide +kernel
theorem dX9_moods_66 : decode cX9_moods 66 = .ok (.bipush 12, 2) := by decide +kernel
theorem dX9_moods_68 : decode cX9_moods 68 = .ok (.iaload, 1) := by decide +kernel
theorem dX9_moods_69 : decode cX9_moods 69 = .ok (.ireturn, 1) := by decide +kernel
theorem dX9_hinge_0 : decode cX9_hinge 0 = .ok (.aload_n 0, 1) := by decide +kernel
theorem dX9_hinge_1 : decode cX9_hinge 1 = .ok (.iload_n 1, 1) := by decide +kernel
theorem dX9_hinge_2 : decode cX9_hinge 2 = .ok (.invokevirtual 77, 3) := by decide +kernel
theorem dX9_hinge_5 : decode cX9_hinge 5 = .ok (.ifCond .ne 5, 3) := by decide +kernel
theorem dX9_hinge_8 : decode cX9_hinge 8 = .ok (.iconst 0, 1) := by decide +kernel
theorem dX9_hinge_9 : decode cX9_hinge 9 = .ok (.ireturn, 1) := by decide +kernel
theorem dX9_hinge_10 : decode cX9_hinge 10 = .ok (.aload_n 0, 1) := by decide +kernel
theorem dX9_hinge_11 : decode cX9_hinge 11 = .ok (.getfield 7, 3) := by decide +kernel
theorem dX9_hinge_14 : decode cX9_hinge 14 = .ok (.bipush 20, 2) := by decide +kernel
theorem dX9_hinge_16 : decode cX9_hinge 16 = .ok (.iload_n 1, 1) := by decide +kernel
theorem dX9_hinge_17 : decode cX9_hinge 17 = .ok (.iadd, 1) := by decide +kernel
theorem dX9_hinge_18 : decode cX9_hinge 18 = .ok (.iload_n 2, 1) := by decide +kernel
theorem dX9_hinge_19 : decode cX9_hinge 19 = .ok (.ifCond .eq 7, 3) := by decide +kernel
theorem dX9_hinge_22 : decode cX9_hinge 22 = .ok (.iconst 1, 1) := by decide +kernel
theorem dX9_hinge_23 : decode cX9_hinge 23 = .ok (.goto 4, 3) := by decide +kernel
theorem dX9_hinge_26 : decode cX9_hinge 26 = .ok (.iconst 0, 1) := by decide +kernel
theorem dX9_hinge_27 : decode cX9_hinge 27 = .ok (.iastore, 1) := by decide +kernel
theorem dX9_hinge_28 : decode cX9_hinge 28 = .ok (.iconst 1, 1) := by decide +kernel
theorem dX9_hinge_29 : decode cX9_hinge 29 = .ok (.ireturn, 1) := by decide +kernel
-- X2_becomes_40_18
def B_X2_becomes_40_18_77 (n : Nat) (q : Int32 × jS) : Option ((Int32 × jS) ⊕ (Int32 × jS)) :=
  (if 8 ≤ q.1 then some (.inr (q.1, q.2)) else (if jin q.1 8 = true then (jl (upI q.2 44 (Int32.toNatClampNeg q.1) (jb (jz (q.2.1 22 (Int32.toNatClampNeg q.1))))) fun s94_7 => some (.inl ((q.1 + 1), s94_7))) else none))
def F_X2_becomes_40_18 (n : Nat) (s : jS) : Option jS :=
  (jl (upR s 41 (va_cpy (s.1 19) (s.1 41) (Int32.toNatClampNeg 0) (Int32.toNatClampNeg 0) (Int32.toNatClampNeg 24))) fun s12_1 => (jl (upR s12_1 42 (va_cpy (s12_1.1 20) (s12_1.1 42) (Int32.toNatClampNeg 0) (Int32.toNatClampNeg 0) (Int32.toNatClampNeg 8))) fun s27_2 => (jl (upR s27_2 43 (va_cpy (s27_2.1 21) (s27_2.1 43) (Int32.toNatClampNeg 0) (Int32.toNatClampNeg 0) (Int32.toNatClampNeg 8))) fun s42_3 => (jl (upR s42_3 45 (va_cpy (s42_3.1 23) (s42_3.1 45) (Int32.toNatClampNeg 0) (Int32.toNatClampNeg 0) (Int32.toNatClampNeg 24))) fun s57_4 => (jl (upR s57_4 46 (va_cpy (s57_4.1 24) (s57_4.1 46) (Int32.toNatClampNeg 0) (Int32.toNatClampNeg 0) (Int32.toNatClampNeg 120))) fun s72_5 => ((lp (B_X2_becomes_40_18_77 n) n (0, s72_5)).bind fun e77 => ((F_X6_becomes_47_25 e77.2).bind fun p109 => (jl (upI p109 40 7 (p109.1 18 7)) fun s117_8 => (jl (upI s117_8 40 8 (s117_8.1 18 8)) fun s125_9 => (jl (upI s125_9 40 9 (s125_9.1 18 9)) fun s133_10 => some s133_10))))))))))
def rm_X2_becomes_40_18 : Room := { frames := 2, cells := 0, slots := 0, locals := 47 }
set_option maxHeartbeats 4000000 in
set_option maxRecDepth 100000 in
theorem m_X2_becomes_40_18 {l : Launch} {D : va_G} {G : Nat → ClassId} {KV : jV} {ad : Nat → Nat} {nd : Nat} (n : Nat) (s : jS) {p : jS} (h : F_X2_becomes_40_18 n s = some p) : jM l D G KV yX2_becomes cX2_becomes 3 none rm_X2_becomes_40_18 [.ref (ad 40), .ref (ad 18)] (jw 54 (cellC G nd) ad s) 0 0 (fun v u => v = none ∧ u = jw 54 (cellC G nd) ad p) := by
  refine jM.of (by decide) (Nat.le_of_ble_eq_true rfl) ?_
  intro K C
  unfold F_X2_becomes_40_18 at h
  have lo77 : ∀ (s : jS) (k : Nat) (q : Int32 × jS) (e : Int32 × jS), lp (B_X2_becomes_40_18_77 n) k q = some e → K 0 0 (jw 54 (cellC G nd) ad e.2) 101 [(0, .ref (ad 40)), (1, .ref (ad 18))] [] → K 0 0 (jw 54 (cellC G nd) ad q.2) 77 [(0, .ref (ad 40)), (1, .ref (ad 18)), (2, .int q.1)] [] := by
    intro s k q e he hE
    refine jlp (KH := fun q => K 0 0 (jw 54 (cellC G nd) ad q.2) 77 [(0, .ref (ad 40)), (1, .ref (ad 18)), (2, .int q.1)] []) (KE := fun e => K 0 0 (jw 54 (cellC G nd) ad e.2) 101 [(0, .ref (ad 40)), (1, .ref (ad 18))] []) ?_ k q e he hE
    intro q o hb hin hout
    unfold B_X2_becomes_40_18_77 at hb
    show K 0 0 (jw 54 (cellC G nd) ad q.2) 77 [(0, .ref (ad 40)), (1, .ref (ad 18)), (2, .int q.1)] []
    refine j_iload_n C dX2_becomes_77 2 rfl ?_
    refine j_bipush C dX2_becomes_78 (v := 8) (by decide) ?_
    refine j_icmp_ge C dX2_becomes_80 (tgt := 101) (by decide) (fun cq => ?_) (fun cq => ?_)
    · have hb := jite_t hb cq
      refine j_loc C [0, 1] rfl ?_
      have hx := hout _ (jinr hb)
      exact hx
    · have hb := jite_f hb cq
      refine j_aload_n C dX2_becomes_83 0 rfl ?_
      refine j_getW C dX2_becomes_84 inX2 rfl (by decide) rfl 3 (by decide) w_125 rfl rfl ?_
      refine j_iload_n C dX2_becomes_87 2 rfl ?_
      refine j_aload_n C dX2_becomes_88 1 rfl ?_
      refine j_getW C dX2_becomes_89 inX2 rfl (by decide) rfl 3 (by decide) w_125 rfl rfl ?_
      refine j_iload_n C dX2_becomes_92 2 rfl ?_
      obtain ⟨c93_6, hb⟩ := jchk hb
      refine j_zaldW C dX2_becomes_93 (by decide) rfl (jin_vp c93_6) ?_
      refine j_zastB C (b := (jz (q.2.1 22 (Int32.toNatClampNeg q.1)))) dX2_becomes_94 (by decide) (fun _ => rfl) (jin_vp c93_6) (fun s94_7 hs94_7 => ?_)
      have hb := jlet hb hs94_7
      refine j_iinc C dX2_becomes_95 2 rfl (v := (q.1 + 1)) rfl (by decide) rfl ?_
      refine j_goto C dX2_becomes_98 (tgt := 77) (by decide) ?_
      refine j_loc C [1, 2, 0] rfl ?_
      have hx := hin _ (jinl hb)
      exact hx
  show K 0 0 (jw 54 (cellC G nd) ad s) 0 [(0, .ref (ad 40)), (1, .ref (ad 18))] []
  refine j_aload_n C dX2_becomes_0 1 rfl ?_
  refine j_getW C dX2_becomes_1 inX2 rfl (by decide) rfl 0 (by decide) w_116 rfl rfl ?_
  refine j_iconst C dX2_becomes_4 (v := 0) (by decide) ?_
  refine j_aload_n C dX2_becomes_5 0 rfl ?_
  refine j_getW C dX2_becomes_6 inX2 rfl (by decide) rfl 0 (by decide) w_116 rfl rfl ?_
  refine j_iconst C dX2_becomes_9 (v := 0) (by decide) ?_
  refine j_bipush C dX2_becomes_10 (v := 24) (by decide) ?_
  refine j_copyI C dX2_becomes_12 w_893 w_702 w_701 w_16 (by decide) (by decide) (fun _ => rfl) (fun _ => rfl) (by decide) (by decide) (by decide) (by decide) (by decide) (Nat.le_of_ble_eq_true rfl) (Nat.le_of_ble_eq_true rfl) (fun s12_1 hs12_1 => ?_)
  have h := jlet h hs12_1
  refine j_aload_n C dX2_becomes_15 1 rfl ?_
  refine j_getW C dX2_becomes_16 inX2 rfl (by decide) rfl 1 (by decide) w_119 rfl rfl ?_
  refine j_iconst C dX2_becomes_19 (v := 0) (by decide) ?_
  refine j_aload_n C dX2_becomes_20 0 rfl ?_
  refine j_getW C dX2_becomes_21 inX2 rfl (by decide) rfl 1 (by decide) w_119 rfl rfl ?_
  refine j_iconst C dX2_becomes_24 (v := 0) (by decide) ?_
  refine j_bipush C dX2_becomes_25 (v := 8) (by decide) ?_
  refine j_copyI C dX2_becomes_27 w_893 w_702 w_701 w_16 (by decide) (by decide) (fun _ => rfl) (fun _ => rfl) (by decide) (by decide) (by decide) (by decide) (by decide) (Nat.le_of_ble_eq_true rfl) (Nat.le_of_ble_eq_true rfl) (fun s27_2 hs27_2 => ?_)
  have h := jlet h hs27_2
  refine j_aload_n C dX2_becomes_30 1 rfl ?_
  refine j_getW C dX2_becomes_31 inX2 rfl (by decide) rfl 2 (by decide) w_122 rfl rfl ?_
  refine j_iconst C dX2_becomes_34 (v := 0) (by decide) ?_
  refine j_aload_n C dX2_becomes_35 0 rfl ?_
  refine j_getW C dX2_becomes_36 inX2 rfl (by decide) rfl 2 (by decide) w_122 rfl rfl ?_
  refine j_iconst C dX2_becomes_39 (v := 0) (by decide) ?_
  refine j_bipush C dX2_becomes_40 (v := 8) (by decide) ?_
  refine j_copyI C dX2_becomes_42 w_893 w_702 w_701 w_16 (by decide) (by decide) (fun _ => rfl) (fun _ => rfl) (by decide) (by decide) (by decide) (by decide) (by decide) (Nat.le_of_ble_eq_true rfl) (Nat.le_of_ble_eq_true rfl) (fun s42_3 hs42_3 => ?_)
  have h := jlet h hs42_3
  refine j_aload_n C dX2_becomes_45 1 rfl ?_
  refine j_getW C dX2_becomes_46 inX2 rfl (by decide) rfl 4 (by decide) w_129 rfl rfl ?_
  refine j_iconst C dX2_becomes_49 (v := 0) (by decide) ?_
  refine j_aload_n C dX2_becomes_50 0 rfl ?_
  refine j_getW C dX2_becomes_51 inX2 rfl (by decide) rfl 4 (by decide) w_129 rfl rfl ?_
  refine j_iconst C dX2_becomes_54 (v := 0) (by decide) ?_
  refine j_bipush C dX2_becomes_55 (v := 24) (by decide) ?_
  refine j_copyI C dX2_becomes_57 w_893 w_702 w_701 w_16 (by decide) (by decide) (fun _ => rfl) (fun _ => rfl) (by decide) (by decide) (by decide) (by decide) (by decide) (Nat.le_of_ble_eq_true rfl) (Nat.le_of_ble_eq_true rfl) (fun s57_4 hs57_4 => ?_)
  have h := jlet h hs57_4
  refine j_aload_n C dX2_becomes_60 1 rfl ?_
  refine j_getW C dX2_becomes_61 inX2 rfl (by decide) rfl 5 (by decide) w_131 rfl rfl ?_
  refine j_iconst C dX2_becomes_64 (v := 0) (by decide) ?_
  refine j_aload_n C dX2_becomes_65 0 rfl ?_
  refine j_getW C dX2_becomes_66 inX2 rfl (by decide) rfl 5 (by decide) w_131 rfl rfl ?_
  refine j_iconst C dX2_becomes_69 (v := 0) (by decide) ?_
  refine j_bipush C dX2_becomes_70 (v := 120) (by decide) ?_
  refine j_copyI C dX2_becomes_72 w_893 w_702 w_701 w_16 (by decide) (by decide) (fun _ => rfl) (fun _ => rfl) (by decide) (by decide) (by decide) (by decide) (by decide) (Nat.le_of_ble_eq_true rfl) (Nat.le_of_ble_eq_true rfl) (fun s72_5 hs72_5 => ?_)
  have h := jlet h hs72_5
  refine j_iconst C dX2_becomes_75 (v := 0) (by decide) ?_
  refine j_istore_n C dX2_becomes_76 (by decide) rfl ?_
  refine j_loc C [1, 2, 0] rfl ?_
  obtain ⟨e77, he77, h⟩ := jbind h
  refine lo77  s72_5  n (0, s72_5) e77 he77 ?_
  refine j_aload_n C dX2_becomes_101 0 rfl ?_
  refine j_getW C dX2_becomes_102 inX2 rfl (by decide) rfl 6 (by decide) w_133 rfl rfl ?_
  refine j_aload_n C dX2_becomes_105 1 rfl ?_
  refine j_getW C dX2_becomes_106 inX2 rfl (by decide) rfl 6 (by decide) w_133 rfl rfl ?_
  obtain ⟨p109, he109, h⟩ := jbind h
  refine j_cV0 C dX2_becomes_109 (m_X6_becomes_47_25 e77.2 he109) kc_X6_becomes w_894 w_895 w_896 w_5 jy_X6_becomes ⟨⟨Nat.le_of_ble_eq_true rfl, Nat.le_of_ble_eq_true rfl⟩, ⟨rfl, rfl⟩, ⟨Nat.zero_le _, Nat.zero_le _⟩⟩ (Nat.le_of_ble_eq_true rfl) (by decide) rfl (r := (RX6, TX6, 8)) rfl rfl rfl (fun _ _ h => h) ?_
  refine j_aload_n C dX2_becomes_112 0 rfl ?_
  refine j_aload_n C dX2_becomes_113 1 rfl ?_
  refine j_getW C dX2_becomes_114 inX2 rfl (by decide) rfl 7 (by decide) w_136 rfl rfl ?_
  refine j_putI C dX2_becomes_117 inX2 tyX2 tyX2_ok nmX2 rfl (by decide) 7 rfl rfl (by decide) w_136 rfl rfl rfl rfl (Nat.le_of_ble_eq_true rfl) (fun s117_8 hs117_8 => ?_)
  have h := jlet h hs117_8
  refine j_aload_n C dX2_becomes_120 0 rfl ?_
  refine j_aload_n C dX2_becomes_121 1 rfl ?_
  refine j_getW C dX2_becomes_122 inX2 rfl (by decide) rfl 8 (by decide) w_139 rfl rfl ?_
  refine j_putI C dX2_becomes_125 inX2 tyX2 tyX2_ok nmX2 rfl (by decide) 8 rfl rfl (by decide) w_139 rfl rfl rfl rfl (Nat.le_of_ble_eq_true rfl) (fun s125_9 hs125_9 => ?_)
  have h := jlet h hs125_9
  refine j_aload_n C dX2_becomes_128 0 rfl ?_
  refine j_aload_n C dX2_becomes_129 1 rfl ?_
  refine j_getW C dX2_becomes_130 inX2 rfl (by decide) rfl 9 (by decide) w_142 rfl rfl ?_
  refine j_putI C dX2_becomes_133 inX2 tyX2 tyX2_ok nmX2 rfl (by decide) 9 rfl rfl (by decide) w_142 rfl rfl rfl rfl (Nat.le_of_ble_eq_true rfl) (fun s133_10 hs133_10 => ?_)
  have h := jlet h hs133_10
  exact j_vret C dX2_becomes_136 rfl (Nat.zero_le _) (Nat.zero_le _) (jretWV h)
-- X8_image
def F_X8_image (n : Nat) (s : jS) : Option (Int32 × jS) :=
  ((F_X2_becomes_40_18 n s).bind fun p8 => some ((p8.1 25 5), p8))
def rm_X8_image : Room := { frames := 3, cells := 0, slots := 0, locals := 69 }
set_option maxHeartbeats 4000000 in
set_option maxRecDepth 100000 in
theorem m_X8_image {l : Launch} {D : va_G} {G : Nat → ClassId} {KV : jV} {ad : Nat → Nat} {nd : Nat} (n : Nat) (s : jS) {p : Int32 × jS} (h : F_X8_image n s = some p) : jM l D G KV yX8_image cX8_image 1 (some .int) rm_X8_image [.ref (ad 0)] (jw 54 (cellC G nd) ad s) 0 0 (fun v u => v = some (.int p.1) ∧ u = jw 54 (cellC G nd) ad p.2) := by
  refine jM.of (by decide) (Nat.le_of_ble_eq_true rfl) ?_
  intro K C
  unfold F_X8_image at h
  show K 0 0 (jw 54 (cellC G nd) ad s) 0 [(0, .ref (ad 0))] []
  refine j_aload_n C dX8_image_0 0 rfl ?_
  refine j_getW C dX8_image_1 inX8 rfl (by decide) rfl 2 (by decide) w_344 rfl rfl ?_
  refine j_aload_n C dX8_image_4 0 rfl ?_
  refine j_getW C dX8_image_5 inX8 rfl (by decide) rfl 1 (by decide) w_343 rfl rfl ?_
  obtain ⟨p8, he8, h⟩ := jbind h
  refine j_cV0 C dX8_image_8 (m_X2_becomes_40_18 n s he8) kc_X2_becomes w_889 w_890 w_891 w_4 jy_X2_becomes ⟨⟨Nat.le_of_ble_eq_true rfl, Nat.le_of_ble_eq_true rfl⟩, ⟨rfl, rfl⟩, ⟨Nat.zero_le _, Nat.zero_le _⟩⟩ (Nat.le_of_ble_eq_true rfl) (by decide) rfl (r := (RX2, TX2, 10)) rfl rfl rfl (fun _ _ h => h) ?_
  refine j_aload_n C dX8_image_11 0 rfl ?_
  refine j_getW C dX8_image_12 inX8 rfl (by decide) rfl 1 (by decide) w_343 rfl rfl ?_
  refine j_getW C dX8_image_15 inX2 rfl (by decide) rfl 6 (by decide) w_134 rfl rfl ?_
  refine j_getW C dX8_image_18 inX6 rfl (by decide) rfl 5 (by decide) w_94 rfl rfl ?_
  exact j_iret C dX8_image_21 rfl rfl (Nat.zero_le _) (Nat.zero_le _) (jretWI h)
-- X6_becomes_25_47
def F_X6_becomes_25_47 (s : jS) : Option jS :=
  (jl (upI s 25 0 (s.1 47 0)) fun s5_1 => (jl (upI s5_1 25 1 (s5_1.1 47 1)) fun s13_2 => (jl (upI s13_2 25 2 (s13_2.1 47 2)) fun s21_3 => (jl (upI s21_3 25 3 (s21_3.1 47 3)) fun s29_4 => (jl (upI s29_4 25 4 (s29_4.1 47 4)) fun s37_5 => (jl (upI s37_5 25 5 (s37_5.1 47 5)) fun s45_6 => (jl (upI s45_6 25 6 (s45_6.1 47 6)) fun s53_7 => (jl (upR s53_7 26 (va_cpy (s53_7.1 48) (s53_7.1 26) (Int32.toNatClampNeg 0) (Int32.toNatClampNeg 0) (Int32.toNatClampNeg 30))) fun s68_8 => some s68_8))))))))
def rm_X6_becomes_25_47 : Room := { frames := 1, cells := 0, slots := 0, locals := 26 }
set_option maxHeartbeats 4000000 in
set_option maxRecDepth 100000 in
theorem m_X6_becomes_25_47 {l : Launch} {D : va_G} {G : Nat → ClassId} {KV : jV} {ad : Nat → Nat} {nd : Nat} (s : jS) {p : jS} (h : F_X6_becomes_25_47 s = some p) : jM l D G KV yX6_becomes cX6_becomes 2 none rm_X6_becomes_25_47 [.ref (ad 25), .ref (ad 47)] (jw 54 (cellC G nd) ad s) 0 0 (fun v u => v = none ∧ u = jw 54 (cellC G nd) ad p) := by
  refine jM.of (by decide) (Nat.le_of_ble_eq_true rfl) ?_
  intro K C
  unfold F_X6_becomes_25_47 at h
  show K 0 0 (jw 54 (cellC G nd) ad s) 0 [(0, .ref (ad 25)), (1, .ref (ad 47))] []
  refine j_aload_n C dX6_becomes_0 0 rfl ?_
  refine j_aload_n C dX6_becomes_1 1 rfl ?_
  refine j_getW C dX6_becomes_2 inX6 rfl (by decide) rfl 0 (by decide) w_83 rfl rfl ?_
  refine j_putI C dX6_becomes_5 inX6 tyX6 tyX6_ok nmX6 rfl (by decide) 0 rfl rfl (by decide) w_83 rfl rfl rfl rfl (Nat.le_of_ble_eq_true rfl) (fun s5_1 hs5_1 => ?_)
  have h := jlet h hs5_1
  refine j_aload_n C dX6_becomes_8 0 rfl ?_
  refine j_aload_n C dX6_becomes_9 1 rfl ?_
  refine j_getW C dX6_becomes_10 inX6 rfl (by decide) rfl 1 (by decide) w_85 rfl rfl ?_
  refine j_putI C dX6_becomes_13 inX6 tyX6 tyX6_ok nmX6 rfl (by decide) 1 rfl rfl (by decide) w_85 rfl rfl rfl rfl (Nat.le_of_ble_eq_true rfl) (fun s13_2 hs13_2 => ?_)
  have h := jlet h hs13_2
  refine j_aload_n C dX6_becomes_16 0 rfl ?_
  refine j_aload_n C dX6_becomes_17 1 rfl ?_
  refine j_getW C dX6_becomes_18 inX6 rfl (by decide) rfl 2 (by decide) w_87 rfl rfl ?_
  refine j_putI C dX6_becomes_21 inX6 tyX6 tyX6_ok nmX6 rfl (by decide) 2 rfl rfl (by decide) w_87 rfl rfl rfl rfl (Nat.le_of_ble_eq_true rfl) (fun s21_3 hs21_3 => ?_)
  have h := jlet h hs21_3
  refine j_aload_n C dX6_becomes_24 0 rfl ?_
  refine j_aload_n C dX6_becomes_25 1 rfl ?_
  refine j_getW C dX6_becomes_26 inX6 rfl (by decide) rfl 3 (by decide) w_89 rfl rfl ?_
  refine j_putI C dX6_becomes_29 inX6 tyX6 tyX6_ok nmX6 rfl (by decide) 3 rfl rfl (by decide) w_89 rfl rfl rfl rfl (Nat.le_of_ble_eq_true rfl) (fun s29_4 hs29_4 => ?_)
  have h := jlet h hs29_4
  refine j_aload_n C dX6_becomes_32 0 rfl ?_
  refine j_aload_n C dX6_becomes_33 1 rfl ?_
  refine j_getW C dX6_becomes_34 inX6 rfl (by decide) rfl 4 (by decide) w_91 rfl rfl ?_
  refine j_putI C dX6_becomes_37 inX6 tyX6 tyX6_ok nmX6 rfl (by decide) 4 rfl rfl (by decide) w_91 rfl rfl rfl rfl (Nat.le_of_ble_eq_true rfl) (fun s37_5 hs37_5 => ?_)
  have h := jlet h hs37_5
  refine j_aload_n C dX6_becomes_40 0 rfl ?_
  refine j_aload_n C dX6_becomes_41 1 rfl ?_
  refine j_getW C dX6_becomes_42 inX6 rfl (by decide) rfl 5 (by decide) w_93 rfl rfl ?_
  refine j_putI C dX6_becomes_45 inX6 tyX6 tyX6_ok nmX6 rfl (by decide) 5 rfl rfl (by decide) w_93 rfl rfl rfl rfl (Nat.le_of_ble_eq_true rfl) (fun s45_6 hs45_6 => ?_)
  have h := jlet h hs45_6
  refine j_aload_n C dX6_becomes_48 0 rfl ?_
  refine j_aload_n C dX6_becomes_49 1 rfl ?_
  refine j_getW C dX6_becomes_50 inX6 rfl (by decide) rfl 6 (by decide) w_95 rfl rfl ?_
  refine j_putI C dX6_becomes_53 inX6 tyX6 tyX6_ok nmX6 rfl (by decide) 6 rfl rfl (by decide) w_95 rfl rfl rfl rfl (Nat.le_of_ble_eq_true rfl) (fun s53_7 hs53_7 => ?_)
  have h := jlet h hs53_7
  refine j_aload_n C dX6_becomes_56 1 rfl ?_
  refine j_getW C dX6_becomes_57 inX6 rfl (by decide) rfl 7 (by decide) w_97 rfl rfl ?_
  refine j_iconst C dX6_becomes_60 (v := 0) (by decide) ?_
  refine j_aload_n C dX6_becomes_61 0 rfl ?_
  refine j_getW C dX6_becomes_62 inX6 rfl (by decide) rfl 7 (by decide) w_97 rfl rfl ?_
  refine j_iconst C dX6_becomes_65 (v := 0) (by decide) ?_
  refine j_bipush C dX6_becomes_66 (v := 30) (by decide) ?_
  refine j_copyI C dX6_becomes_68 w_700 w_702 w_701 w_16 (by decide) (by decide) (fun _ => rfl) (fun _ => rfl) (by decide) (by decide) (by decide) (by decide) (by decide) (Nat.le_of_ble_eq_true rfl) (Nat.le_of_ble_eq_true rfl) (fun s68_8 hs68_8 => ?_)
  have h := jlet h hs68_8
  exact j_vret C dX6_becomes_71 rfl (Nat.zero_le _) (Nat.zero_le _) (jretWV h)
-- X2_becomes_18_40
def B_X2_becomes_18_40_77 (n : Nat) (q : Int32 × jS) : Option ((Int32 × jS) ⊕ (Int32 × jS)) :=
  (if 8 ≤ q.1 then some (.inr (q.1, q.2)) else (if jin q.1 8 = true then (jl (upI q.2 22 (Int32.toNatClampNeg q.1) (jb (jz (q.2.1 44 (Int32.toNatClampNeg q.1))))) fun s94_7 => some (.inl ((q.1 + 1), s94_7))) else none))
def F_X2_becomes_18_40 (n : Nat) (s : jS) : Option jS :=
  (jl (upR s 19 (va_cpy (s.1 41) (s.1 19) (Int32.toNatClampNeg 0) (Int32.toNatClampNeg 0) (Int32.toNatClampNeg 24))) fun s12_1 => (jl (upR s12_1 20 (va_cpy (s12_1.1 42) (s12_1.1 20) (Int32.toNatClampNeg 0) (Int32.toNatClampNeg 0) (Int32.toNatClampNeg 8))) fun s27_2 => (jl (upR s27_2 21 (va_cpy (s27_2.1 43) (s27_2.1 21) (Int32.toNatClampNeg 0) (Int32.toNatClampNeg 0) (Int32.toNatClampNeg 8))) fun s42_3 => (jl (upR s42_3 23 (va_cpy (s42_3.1 45) (s42_3.1 23) (Int32.toNatClampNeg 0) (Int32.toNatClampNeg 0) (Int32.toNatClampNeg 24))) fun s57_4 => (jl (upR s57_4 24 (va_cpy (s57_4.1 46) (s57_4.1 24) (Int32.toNatClampNeg 0) (Int32.toNatClampNeg 0) (Int32.toNatClampNeg 120))) fun s72_5 => ((lp (B_X2_becomes_18_40_77 n) n (0, s72_5)).bind fun e77 => ((F_X6_becomes_25_47 e77.2).bind fun p109 => (jl (upI p109 18 7 (p109.1 40 7)) fun s117_8 => (jl (upI s117_8 18 8 (s117_8.1 40 8)) fun s125_9 => (jl (upI s125_9 18 9 (s125_9.1 40 9)) fun s133_10 => some s133_10))))))))))
def rm_X2_becomes_18_40 : Room := { frames := 2, cells := 0, slots := 0, locals := 47 }
set_option maxHeartbeats 4000000 in
set_option maxRecDepth 100000 in
theorem m_X2_becomes_18_40 {l : Launch} {D : va_G} {G : Nat → ClassId} {KV : jV} {ad : Nat → Nat} {nd : Nat} (n : Nat) (s : jS) {p : jS} (h : F_X2_becomes_18_40 n s = some p) : jM l D G KV yX2_becomes cX2_becomes 3 none rm_X2_becomes_18_40 [.ref (ad 18), .ref (ad 40)] (jw 54 (cellC G nd) ad s) 0 0 (fun v u => v = none ∧ u = jw 54 (cellC G nd) ad p) := by
  refine jM.of (by decide) (Nat.le_of_ble_eq_true rfl) ?_
  intro K C
  unfold F_X2_becomes_18_40 at h
  have lo77 : ∀ (s : jS) (k : Nat) (q : Int32 × jS) (e : Int32 × jS), lp (B_X2_becomes_18_40_77 n) k q = some e → K 0 0 (jw 54 (cellC G nd) ad e.2) 101 [(0, .ref (ad 18)), (1, .ref (ad 40))] [] → K 0 0 (jw 54 (cellC G nd) ad q.2) 77 [(0, .ref (ad 18)), (1, .ref (ad 40)), (2, .int q.1)] [] := by
    intro s k q e he hE
    refine jlp (KH := fun q => K 0 0 (jw 54 (cellC G nd) ad q.2) 77 [(0, .ref (ad 18)), (1, .ref (ad 40)), (2, .int q.1)] []) (KE := fun e => K 0 0 (jw 54 (cellC G nd) ad e.2) 101 [(0, .ref (ad 18)), (1, .ref (ad 40))] []) ?_ k q e he hE
    intro q o hb hin hout
    unfold B_X2_becomes_18_40_77 at hb
    show K 0 0 (jw 54 (cellC G nd) ad q.2) 77 [(0, .ref (ad 18)), (1, .ref (ad 40)), (2, .int q.1)] []
    refine j_iload_n C dX2_becomes_77 2 rfl ?_
    refine j_bipush C dX2_becomes_78 (v := 8) (by decide) ?_
    refine j_icmp_ge C dX2_becomes_80 (tgt := 101) (by decide) (fun cq => ?_) (fun cq => ?_)
    · have hb := jite_t hb cq
      refine j_loc C [0, 1] rfl ?_
      have hx := hout _ (jinr hb)
      exact hx
    · have hb := jite_f hb cq
      refine j_aload_n C dX2_becomes_83 0 rfl ?_
      refine j_getW C dX2_becomes_84 inX2 rfl (by decide) rfl 3 (by decide) w_125 rfl rfl ?_
      refine j_iload_n C dX2_becomes_87 2 rfl ?_
      refine j_aload_n C dX2_becomes_88 1 rfl ?_
      refine j_getW C dX2_becomes_89 inX2 rfl (by decide) rfl 3 (by decide) w_125 rfl rfl ?_
      refine j_iload_n C dX2_becomes_92 2 rfl ?_
      obtain ⟨c93_6, hb⟩ := jchk hb
      refine j_zaldW C dX2_becomes_93 (by decide) rfl (jin_vp c93_6) ?_
      refine j_zastB C (b := (jz (q.2.1 44 (Int32.toNatClampNeg q.1)))) dX2_becomes_94 (by decide) (fun _ => rfl) (jin_vp c93_6) (fun s94_7 hs94_7 => ?_)
      have hb := jlet hb hs94_7
      refine j_iinc C dX2_becomes_95 2 rfl (v := (q.1 + 1)) rfl (by decide) rfl ?_
      refine j_goto C dX2_becomes_98 (tgt := 77) (by decide) ?_
      refine j_loc C [1, 2, 0] rfl ?_
      have hx := hin _ (jinl hb)
      exact hx
  show K 0 0 (jw 54 (cellC G nd) ad s) 0 [(0, .ref (ad 18)), (1, .ref (ad 40))] []
  refine j_aload_n C dX2_becomes_0 1 rfl ?_
  refine j_getW C dX2_becomes_1 inX2 rfl (by decide) rfl 0 (by decide) w_116 rfl rfl ?_
  refine j_iconst C dX2_becomes_4 (v := 0) (by decide) ?_
  refine j_aload_n C dX2_becomes_5 0 rfl ?_
  refine j_getW C dX2_becomes_6 inX2 rfl (by decide) rfl 0 (by decide) w_116 rfl rfl ?_
  refine j_iconst C dX2_becomes_9 (v := 0) (by decide) ?_
  refine j_bipush C dX2_becomes_10 (v := 24) (by decide) ?_
  refine j_copyI C dX2_becomes_12 w_893 w_702 w_701 w_16 (by decide) (by decide) (fun _ => rfl) (fun _ => rfl) (by decide) (by decide) (by decide) (by decide) (by decide) (Nat.le_of_ble_eq_true rfl) (Nat.le_of_ble_eq_true rfl) (fun s12_1 hs12_1 => ?_)
  have h := jlet h hs12_1
  refine j_aload_n C dX2_becomes_15 1 rfl ?_
  refine j_getW C dX2_becomes_16 inX2 rfl (by decide) rfl 1 (by decide) w_119 rfl rfl ?_
  refine j_iconst C dX2_becomes_19 (v := 0) (by decide) ?_
  refine j_aload_n C dX2_becomes_20 0 rfl ?_
  refine j_getW C dX2_becomes_21 inX2 rfl (by decide) rfl 1 (by decide) w_119 rfl rfl ?_
  refine j_iconst C dX2_becomes_24 (v := 0) (by decide) ?_
  refine j_bipush C dX2_becomes_25 (v := 8) (by decide) ?_
  refine j_copyI C dX2_becomes_27 w_893 w_702 w_701 w_16 (by decide) (by decide) (fun _ => rfl) (fun _ => rfl) (by decide) (by decide) (by decide) (by decide) (by decide) (Nat.le_of_ble_eq_true rfl) (Nat.le_of_ble_eq_true rfl) (fun s27_2 hs27_2 => ?_)
  have h := jlet h hs27_2
  refine j_aload_n C dX2_becomes_30 1 rfl ?_
  refine j_getW C dX2_becomes_31 inX2 rfl (by decide) rfl 2 (by decide) w_122 rfl rfl ?_
  refine j_iconst C dX2_becomes_34 (v := 0) (by decide) ?_
  refine j_aload_n C dX2_becomes_35 0 rfl ?_
  refine j_getW C dX2_becomes_36 inX2 rfl (by decide) rfl 2 (by decide) w_122 rfl rfl ?_
  refine j_iconst C dX2_becomes_39 (v := 0) (by decide) ?_
  refine j_bipush C dX2_becomes_40 (v := 8) (by decide) ?_
  refine j_copyI C dX2_becomes_42 w_893 w_702 w_701 w_16 (by decide) (by decide) (fun _ => rfl) (fun _ => rfl) (by decide) (by decide) (by decide) (by decide) (by decide) (Nat.le_of_ble_eq_true rfl) (Nat.le_of_ble_eq_true rfl) (fun s42_3 hs42_3 => ?_)
  have h := jlet h hs42_3
  refine j_aload_n C dX2_becomes_45 1 rfl ?_
  refine j_getW C dX2_becomes_46 inX2 rfl (by decide) rfl 4 (by decide) w_129 rfl rfl ?_
  refine j_iconst C dX2_becomes_49 (v := 0) (by decide) ?_
  refine j_aload_n C dX2_becomes_50 0 rfl ?_
  refine j_getW C dX2_becomes_51 inX2 rfl (by decide) rfl 4 (by decide) w_129 rfl rfl ?_
  refine j_iconst C dX2_becomes_54 (v := 0) (by decide) ?_
  refine j_bipush C dX2_becomes_55 (v := 24) (by decide) ?_
  refine j_copyI C dX2_becomes_57 w_893 w_702 w_701 w_16 (by decide) (by decide) (fun _ => rfl) (fun _ => rfl) (by decide) (by decide) (by decide) (by decide) (by decide) (Nat.le_of_ble_eq_true rfl) (Nat.le_of_ble_eq_true rfl) (fun s57_4 hs57_4 => ?_)
  have h := jlet h hs57_4
  refine j_aload_n C dX2_becomes_60 1 rfl ?_
  refine j_getW C dX2_becomes_61 inX2 rfl (by decide) rfl 5 (by decide) w_131 rfl rfl ?_
  refine j_iconst C dX2_becomes_64 (v := 0) (by decide) ?_
  refine j_aload_n C dX2_becomes_65 0 rfl ?_
  refine j_getW C dX2_becomes_66 inX2 rfl (by decide) rfl 5 (by decide) w_131 rfl rfl ?_
  refine j_iconst C dX2_becomes_69 (v := 0) (by decide) ?_
  refine j_bipush C dX2_becomes_70 (v := 120) (by decide) ?_
  refine j_copyI C dX2_becomes_72 w_893 w_702 w_701 w_16 (by decide) (by decide) (fun _ => rfl) (fun _ => rfl) (by decide) (by decide) (by decide) (by decide) (by decide) (Nat.le_of_ble_eq_true rfl) (Nat.le_of_ble_eq_true rfl) (fun s72_5 hs72_5 => ?_)
  have h := jlet h hs72_5
  refine j_iconst C dX2_becomes_75 (v := 0) (by decide) ?_
  refine j_istore_n C dX2_becomes_76 (by decide) rfl ?_
  refine j_loc C [1, 2, 0] rfl ?_
  obtain ⟨e77, he77, h⟩ := jbind h
  refine lo77  s72_5  n (0, s72_5) e77 he77 ?_
  refine j_aload_n C dX2_becomes_101 0 rfl ?_
  refine j_getW C dX2_becomes_102 inX2 rfl (by decide) rfl 6 (by decide) w_133 rfl rfl ?_
  refine j_aload_n C dX2_becomes_105 1 rfl ?_
  refine j_getW C dX2_becomes_106 inX2 rfl (by decide) rfl 6 (by decide) w_133 rfl rfl ?_
  obtain ⟨p109, he109, h⟩ := jbind h
  refine j_cV0 C dX2_becomes_109 (m_X6_becomes_25_47 e77.2 he109) kc_X6_becomes w_894 w_895 w_896 w_5 jy_X6_becomes ⟨⟨Nat.le_of_ble_eq_true rfl, Nat.le_of_ble_eq_true rfl⟩, ⟨rfl, rfl⟩, ⟨Nat.zero_le _, Nat.zero_le _⟩⟩ (Nat.le_of_ble_eq_true rfl) (by decide) rfl (r := (RX6, TX6, 8)) rfl rfl rfl (fun _ _ h => h) ?_
  refine j_aload_n C dX2_becomes_112 0 rfl ?_
  refine j_aload_n C dX2_becomes_113 1 rfl ?_
  refine j_getW C dX2_becomes_114 inX2 rfl (by decide) rfl 7 (by decide) w_136 rfl rfl ?_
  refine j_putI C dX2_becomes_117 inX2 tyX2 tyX2_ok nmX2 rfl (by decide) 7 rfl rfl (by decide) w_136 rfl rfl rfl rfl (Nat.le_of_ble_eq_true rfl) (fun s117_8 hs117_8 => ?_)
  have h := jlet h hs117_8
  refine j_aload_n C dX2_becomes_120 0 rfl ?_
  refine j_aload_n C dX2_becomes_121 1 rfl ?_
  refine j_getW C dX2_becomes_122 inX2 rfl (by decide) rfl 8 (by decide) w_139 rfl rfl ?_
  refine j_putI C dX2_becomes_125 inX2 tyX2 tyX2_ok nmX2 rfl (by decide) 8 rfl rfl (by decide) w_139 rfl rfl rfl rfl (Nat.le_of_ble_eq_true rfl) (fun s125_9 hs125_9 => ?_)
  have h := jlet h hs125_9
  refine j_aload_n C dX2_becomes_128 0 rfl ?_
  refine j_aload_n C dX2_becomes_129 1 rfl ?_
  refine j_getW C dX2_becomes_130 inX2 rfl (by decide) rfl 9 (by decide) w_142 rfl rfl ?_
  refine j_putI C dX2_becomes_133 inX2 tyX2 tyX2_ok nmX2 rfl (by decide) 9 rfl rfl (by decide) w_142 rfl rfl rfl rfl (Nat.le_of_ble_eq_true rfl) (fun s133_10 hs133_10 => ?_)
  have h := jlet h hs133_10
  exact j_vret C dX2_becomes_136 rfl (Nat.zero_le _) (Nat.zero_le _) (jretWV h)
-- X8_back
def F_X8_back (n : Nat) (s : jS) : Option (Int32 × jS) :=
  ((F_X2_becomes_18_40 n s).bind fun p8 => ((F_X8_outlookChanged p8).bind fun p12 => some ((p12.1 25 5), p12)))
def rm_X8_back : Room := { frames := 3, cells := 0, slots := 0, locals := 69 }
set_option maxHeartbeats 4000000 in
set_option maxRecDepth 100000 in
theorem m_X8_back {l : Launch} {D : va_G} {G : Nat → ClassId} {KV : jV} {ad : Nat → Nat} {nd : Nat} (n : Nat) (s : jS) {p : Int32 × jS} (h : F_X8_back n s = some p) : jM l D G KV yX8_back cX8_back 1 (some .int) rm_X8_back [.ref (ad 0)] (jw 54 (cellC G nd) ad s) 0 0 (fun v u => v = some (.int p.1) ∧ u = jw 54 (cellC G nd) ad p.2) := by
  refine jM.of (by decide) (Nat.le_of_ble_eq_true rfl) ?_
  intro K C
  unfold F_X8_back at h
  show K 0 0 (jw 54 (cellC G nd) ad s) 0 [(0, .ref (ad 0))] []
  refine j_aload_n C dX8_back_0 0 rfl ?_
  refine j_getW C dX8_back_1 inX8 rfl (by decide) rfl 1 (by decide) w_343 rfl rfl ?_
  refine j_aload_n C dX8_back_4 0 rfl ?_
  refine j_getW C dX8_back_5 inX8 rfl (by decide) rfl 2 (by decide) w_344 rfl rfl ?_
  obtain ⟨p8, he8, h⟩ := jbind h
  refine j_cV0 C dX8_back_8 (m_X2_becomes_18_40 n s he8) kc_X2_becomes w_889 w_890 w_891 w_4 jy_X2_becomes ⟨⟨Nat.le_of_ble_eq_true rfl, Nat.le_of_ble_eq_true rfl⟩, ⟨rfl, rfl⟩, ⟨Nat.zero_le _, Nat.zero_le _⟩⟩ (Nat.le_of_ble_eq_true rfl) (by decide) rfl (r := (RX2, TX2, 10)) rfl rfl rfl (fun _ _ h => h) ?_
  refine j_aload_n C dX8_back_11 0 rfl ?_
  obtain ⟨p12, he12, h⟩ := jbind h
  refine j_cV0 C dX8_back_12 (m_X8_outlookChanged p8 he12) kc_X8_outlookChanged w_380 w_382 wp_0 w_1 jy_X8_outlookChanged ⟨⟨Nat.le_of_ble_eq_true rfl, Nat.le_of_ble_eq_true rfl⟩, ⟨rfl, rfl⟩, ⟨Nat.zero_le _, Nat.zero_le _⟩⟩ (Nat.le_of_ble_eq_true rfl) (by decide) rfl (r := (RX8, TX8, 9)) rfl rfl rfl (fun _ _ h => h) ?_
  refine j_aload_n C dX8_back_15 0 rfl ?_
  refine j_getW C dX8_back_16 inX8 rfl (by decide) rfl 1 (by decide) w_343 rfl rfl ?_
  refine j_getW C dX8_back_19 inX2 rfl (by decide) rfl 6 (by decide) w_134 rfl rfl ?_
  refine j_getW C dX8_back_22 inX6 rfl (by decide) rfl 5 (by decide) w_94 rfl rfl ?_
  exact j_iret C dX8_back_25 rfl rfl (Nat.zero_le _) (Nat.zero_le _) (jretWI h)
-- X8_aboutPart
def F_X8_aboutPart (v1 : Int32) (s : jS) : Option Int32 :=
  (if (F_X8_within v1 10 ((10 + (s.1 0 0)) - 1)) = true then (if jin (v1 - 10) 8 = true then some (s.1 21 (Int32.toNatClampNeg (v1 - 10))) else none) else (if (F_X8_within v1 20 ((20 + (s.1 0 0)) - 1)) = true then (if jin (v1 - 20) 8 = true then (if (jz (s.1 22 (Int32.toNatClampNeg (v1 - 20)))) = true then some ((s.1 20 (Int32.toNatClampNeg (v1 - 20))) + 10) else some ((s.1 20 (Int32.toNatClampNeg (v1 - 20))) + 0)) else none) else (if (F_X8_within v1 30 53) = true then (if jin (v1 - 30) 24 = true then some (s.1 19 (Int32.toNatClampNeg (v1 - 30))) else none) else some (-2))))
def rm_X8_aboutPart : Room := { frames := 1, cells := 0, slots := 0, locals := 22 }
set_option maxHeartbeats 4000000 in
set_option maxRecDepth 100000 in
theorem m_X8_aboutPart {l : Launch} {D : va_G} {G : Nat → ClassId} {KV : jV} {ad : Nat → Nat} {nd : Nat} (v1 : Int32) (s : jS) {p : Int32} (h : F_X8_aboutPart v1 s = some p) : jM l D G KV yX8_aboutPart cX8_aboutPart 2 (some .int) rm_X8_aboutPart [.ref (ad 0), .int v1] (jw 54 (cellC G nd) ad s) 0 0 (fun v u => v = some (.int p) ∧ u = jw 54 (cellC G nd) ad s) := by
  refine jM.of (by decide) (Nat.le_of_ble_eq_true rfl) ?_
  intro K C
  unfold F_X8_aboutPart at h
  show K 0 0 (jw 54 (cellC G nd) ad s) 0 [(0, .ref (ad 0)), (1, .int v1)] []
  refine j_iload_n C dX8_aboutPart_0 1 rfl ?_
  refine j_bipush C dX8_aboutPart_1 (v := 10) (by decide) ?_
  refine j_bipush C dX8_aboutPart_3 (v := 10) (by decide) ?_
  refine j_aload_n C dX8_aboutPart_5 0 rfl ?_
  refine j_getW C dX8_aboutPart_6 inX8 rfl (by decide) rfl 0 (by decide) w_342 rfl rfl ?_
  refine j_iadd C dX8_aboutPart_9 ?_
  refine j_iconst C dX8_aboutPart_10 (v := 1) (by decide) ?_
  refine j_isub C dX8_aboutPart_11 ?_
  refine j_cS1 C dX8_aboutPart_12 (m_X8_within v1 10 ((10 + (s.1 0 0)) - 1) rfl) kc_X8_within w_377 w_378 w_1 jy_X8_within ⟨⟨Nat.le_of_ble_eq_true rfl, Nat.le_of_ble_eq_true rfl⟩, ⟨rfl, rfl⟩, ⟨Nat.zero_le _, Nat.zero_le _⟩⟩ (Nat.le_of_ble_eq_true rfl) rfl (fun _ _ h => h) ?_
  refine j_if_eq C dX8_aboutPart_15 (tgt := 31) (by decide) (fun cq => ?_) (fun cq => ?_)
  · have h := jite_f h (jb_f cq)
    refine j_iload_n C dX8_aboutPart_31 1 rfl ?_
    refine j_bipush C dX8_aboutPart_32 (v := 20) (by decide) ?_
    refine j_bipush C dX8_aboutPart_34 (v := 20) (by decide) ?_
    refine j_aload_n C dX8_aboutPart_36 0 rfl ?_
    refine j_getW C dX8_aboutPart_37 inX8 rfl (by decide) rfl 0 (by decide) w_342 rfl rfl ?_
    refine j_iadd C dX8_aboutPart_40 ?_
    refine j_iconst C dX8_aboutPart_41 (v := 1) (by decide) ?_
    refine j_isub C dX8_aboutPart_42 ?_
    refine j_cS1 C dX8_aboutPart_43 (m_X8_within v1 20 ((20 + (s.1 0 0)) - 1) rfl) kc_X8_within w_377 w_378 w_1 jy_X8_within ⟨⟨Nat.le_of_ble_eq_true rfl, Nat.le_of_ble_eq_true rfl⟩, ⟨rfl, rfl⟩, ⟨Nat.zero_le _, Nat.zero_le _⟩⟩ (Nat.le_of_ble_eq_true rfl) rfl (fun _ _ h => h) ?_
    refine j_if_eq C dX8_aboutPart_46 (tgt := 84) (by decide) (fun cq => ?_) (fun cq => ?_)
    · have h := jite_f h (jb_f cq)
      refine j_iload_n C dX8_aboutPart_84 1 rfl ?_
      refine j_bipush C dX8_aboutPart_85 (v := 30) (by decide) ?_
      refine j_bipush C dX8_aboutPart_87 (v := 53) (by decide) ?_
      refine j_cS1 C dX8_aboutPart_89 (m_X8_within v1 30 53 rfl) kc_X8_within w_377 w_378 w_1 jy_X8_within ⟨⟨Nat.le_of_ble_eq_true rfl, Nat.le_of_ble_eq_true rfl⟩, ⟨rfl, rfl⟩, ⟨Nat.zero_le _, Nat.zero_le _⟩⟩ (Nat.le_of_ble_eq_true rfl) rfl (fun _ _ h => h) ?_
      refine j_if_eq C dX8_aboutPart_92 (tgt := 110) (by decide) (fun cq => ?_) (fun cq => ?_)
      · have h := jite_f h (jb_f cq)
        refine j_bipush C dX8_aboutPart_110 (v := (-2)) (by decide) ?_
        exact j_iret C dX8_aboutPart_112 rfl rfl (Nat.zero_le _) (Nat.zero_le _) (jretPI h)
      · have h := jite_t h (jb_t cq)
        refine j_aload_n C dX8_aboutPart_95 0 rfl ?_
        refine j_getW C dX8_aboutPart_96 inX8 rfl (by decide) rfl 1 (by decide) w_343 rfl rfl ?_
        refine j_getW C dX8_aboutPart_99 inX2 rfl (by decide) rfl 0 (by decide) w_117 rfl rfl ?_
        refine j_iload_n C dX8_aboutPart_102 1 rfl ?_
        refine j_bipush C dX8_aboutPart_103 (v := 30) (by decide) ?_
        refine j_isub C dX8_aboutPart_105 ?_
        obtain ⟨c106_1, h⟩ := jchk h
        refine j_ialdW C dX8_aboutPart_106 (by decide) rfl (jin_vp c106_1) ?_
        refine j_goto C dX8_aboutPart_107 (tgt := 112) (by decide) ?_
        exact j_iret C dX8_aboutPart_112 rfl rfl (Nat.zero_le _) (Nat.zero_le _) (jretPI h)
    · have h := jite_t h (jb_t cq)
      refine j_aload_n C dX8_aboutPart_49 0 rfl ?_
      refine j_getW C dX8_aboutPart_50 inX8 rfl (by decide) rfl 1 (by decide) w_343 rfl rfl ?_
      refine j_getW C dX8_aboutPart_53 inX2 rfl (by decide) rfl 1 (by decide) w_120 rfl rfl ?_
      refine j_iload_n C dX8_aboutPart_56 1 rfl ?_
      refine j_bipush C dX8_aboutPart_57 (v := 20) (by decide) ?_
      refine j_isub C dX8_aboutPart_59 ?_
      obtain ⟨c60_2, h⟩ := jchk h
      refine j_ialdW C dX8_aboutPart_60 (by decide) rfl (jin_vp c60_2) ?_
      refine j_aload_n C dX8_aboutPart_61 0 rfl ?_
      refine j_getW C dX8_aboutPart_62 inX8 rfl (by decide) rfl 1 (by decide) w_343 rfl rfl ?_
      refine j_getW C dX8_aboutPart_65 inX2 rfl (by decide) rfl 3 (by decide) w_127 rfl rfl ?_
      refine j_iload_n C dX8_aboutPart_68 1 rfl ?_
      refine j_bipush C dX8_aboutPart_69 (v := 20) (by decide) ?_
      refine j_isub C dX8_aboutPart_71 ?_
      refine j_zaldW C dX8_aboutPart_72 (by decide) rfl (jin_vp c60_2) ?_
      refine j_if_eq C dX8_aboutPart_73 (tgt := 81) (by decide) (fun cq => ?_) (fun cq => ?_)
      · have h := jite_f h (jb_f cq)
        refine j_iconst C dX8_aboutPart_81 (v := 0) (by decide) ?_
        refine j_iadd C dX8_aboutPart_82 ?_
        exact j_iret C dX8_aboutPart_83 rfl rfl (Nat.zero_le _) (Nat.zero_le _) (jretPI h)
      · have h := jite_t h (jb_t cq)
        refine j_bipush C dX8_aboutPart_76 (v := 10) (by decide) ?_
        refine j_goto C dX8_aboutPart_78 (tgt := 82) (by decide) ?_
        refine j_iadd C dX8_aboutPart_82 ?_
        exact j_iret C dX8_aboutPart_83 rfl rfl (Nat.zero_le _) (Nat.zero_le _) (jretPI h)
  · have h := jite_t h (jb_t cq)
    refine j_aload_n C dX8_aboutPart_18 0 rfl ?_
    refine j_getW C dX8_aboutPart_19 inX8 rfl (by decide) rfl 1 (by decide) w_343 rfl rfl ?_
    refine j_getW C dX8_aboutPart_22 inX2 rfl (by decide) rfl 2 (by decide) w_124 rfl rfl ?_
    refine j_iload_n C dX8_aboutPart_25 1 rfl ?_
    refine j_bipush C dX8_aboutPart_26 (v := 10) (by decide) ?_
    refine j_isub C dX8_aboutPart_28 ?_
    obtain ⟨c29_3, h⟩ := jchk h
    refine j_ialdW C dX8_aboutPart_29 (by decide) rfl (jin_vp c29_3) ?_
    exact j_iret C dX8_aboutPart_30 rfl rfl (Nat.zero_le _) (Nat.zero_le _) (jretPI h)
-- X8_about
def F_X8_about (v1 : Int32) (s : jS) : Option Int32 :=
  (if v1 = 0 then some (s.1 0 0) else (if v1 = 1 then some (s.1 18 7) else (if v1 = 2 then some (s.1 25 6) else (if v1 = 3 then some (s.1 18 8) else (if v1 = 4 then some (s.1 18 9) else (if v1 = 5 then some (s.1 27 1) else ((F_X8_aboutPart v1 s).bind fun p90 => some p90)))))))
def rm_X8_about : Room := { frames := 2, cells := 0, slots := 0, locals := 43 }
set_option maxHeartbeats 4000000 in
set_option maxRecDepth 100000 in
theorem m_X8_about {l : Launch} {D : va_G} {G : Nat → ClassId} {KV : jV} {ad : Nat → Nat} {nd : Nat} (v1 : Int32) (s : jS) {p : Int32} (h : F_X8_about v1 s = some p) : jM l D G KV yX8_about cX8_about 2 (some .int) rm_X8_about [.ref (ad 0), .int v1] (jw 54 (cellC G nd) ad s) 0 0 (fun v u => v = some (.int p) ∧ u = jw 54 (cellC G nd) ad s) := by
  refine jM.of (by decide) (Nat.le_of_ble_eq_true rfl) ?_
  intro K C
  unfold F_X8_about at h
  show K 0 0 (jw 54 (cellC G nd) ad s) 0 [(0, .ref (ad 0)), (1, .int v1)] []
  refine j_iload_n C dX8_about_0 1 rfl ?_
  by_cases cs0 : v1 = 0
  · have h := jite_t h cs0
    refine j_tinE C dX8_about_1 cs0 (by decide) (by decide) (off := 39) (by decide) (tgt := 40) (by decide) ?_
    refine j_aload_n C dX8_about_40 0 rfl ?_
    refine j_getW C dX8_about_41 inX8 rfl (by decide) rfl 0 (by decide) w_342 rfl rfl ?_
    exact j_iret C dX8_about_44 rfl rfl (Nat.zero_le _) (Nat.zero_le _) (jretPI h)
  have h := jite_f h cs0
  by_cases cs1 : v1 = 1
  · have h := jite_t h cs1
    refine j_tinE C dX8_about_1 cs1 (by decide) (by decide) (off := 44) (by decide) (tgt := 45) (by decide) ?_
    refine j_aload_n C dX8_about_45 0 rfl ?_
    refine j_getW C dX8_about_46 inX8 rfl (by decide) rfl 1 (by decide) w_343 rfl rfl ?_
    refine j_getW C dX8_about_49 inX2 rfl (by decide) rfl 7 (by decide) w_138 rfl rfl ?_
    exact j_iret C dX8_about_52 rfl rfl (Nat.zero_le _) (Nat.zero_le _) (jretPI h)
  have h := jite_f h cs1
  by_cases cs2 : v1 = 2
  · have h := jite_t h cs2
    refine j_tinE C dX8_about_1 cs2 (by decide) (by decide) (off := 52) (by decide) (tgt := 53) (by decide) ?_
    refine j_aload_n C dX8_about_53 0 rfl ?_
    refine j_getW C dX8_about_54 inX8 rfl (by decide) rfl 1 (by decide) w_343 rfl rfl ?_
    refine j_getW C dX8_about_57 inX2 rfl (by decide) rfl 6 (by decide) w_134 rfl rfl ?_
    refine j_getW C dX8_about_60 inX6 rfl (by decide) rfl 6 (by decide) w_96 rfl rfl ?_
    exact j_iret C dX8_about_63 rfl rfl (Nat.zero_le _) (Nat.zero_le _) (jretPI h)
  have h := jite_f h cs2
  by_cases cs3 : v1 = 3
  · have h := jite_t h cs3
    refine j_tinE C dX8_about_1 cs3 (by decide) (by decide) (off := 63) (by decide) (tgt := 64) (by decide) ?_
    refine j_aload_n C dX8_about_64 0 rfl ?_
    refine j_getW C dX8_about_65 inX8 rfl (by decide) rfl 1 (by decide) w_343 rfl rfl ?_
    refine j_getW C dX8_about_68 inX2 rfl (by decide) rfl 8 (by decide) w_141 rfl rfl ?_
    exact j_iret C dX8_about_71 rfl rfl (Nat.zero_le _) (Nat.zero_le _) (jretPI h)
  have h := jite_f h cs3
  by_cases cs4 : v1 = 4
  · have h := jite_t h cs4
    refine j_tinE C dX8_about_1 cs4 (by decide) (by decide) (off := 71) (by decide) (tgt := 72) (by decide) ?_
    refine j_aload_n C dX8_about_72 0 rfl ?_
    refine j_getW C dX8_about_73 inX8 rfl (by decide) rfl 1 (by decide) w_343 rfl rfl ?_
    refine j_getW C dX8_about_76 inX2 rfl (by decide) rfl 9 (by decide) w_143 rfl rfl ?_
    exact j_iret C dX8_about_79 rfl rfl (Nat.zero_le _) (Nat.zero_le _) (jretPI h)
  have h := jite_f h cs4
  by_cases cs5 : v1 = 5
  · have h := jite_t h cs5
    refine j_tinE C dX8_about_1 cs5 (by decide) (by decide) (off := 79) (by decide) (tgt := 80) (by decide) ?_
    refine j_aload_n C dX8_about_80 0 rfl ?_
    refine j_getW C dX8_about_81 inX8 rfl (by decide) rfl 4 (by decide) w_346 rfl rfl ?_
    refine j_getW C dX8_about_84 inX4 rfl (by decide) rfl 1 (by decide) w_173 rfl rfl ?_
    exact j_iret C dX8_about_87 rfl rfl (Nat.zero_le _) (Nat.zero_le _) (jretPI h)
  have h := jite_f h cs5
  refine j_tout C dX8_about_1 (jtsw (by decide) (by decide) (fun z h1 h2 => ?_)) (tgt := 88) (by decide) ?_
  · have hz : z = 0 ∨ z = 1 ∨ z = 2 ∨ z = 3 ∨ z = 4 ∨ z = 5 := by omega
    rcases hz with rfl | rfl | rfl | rfl | rfl | rfl
    all_goals first | exact cs0 | exact cs1 | exact cs2 | exact cs3 | exact cs4 | exact cs5
  refine j_aload_n C dX8_about_88 0 rfl ?_
  refine j_iload_n C dX8_about_89 1 rfl ?_
  obtain ⟨p90, he90, h⟩ := jbind h
  refine j_cV1 C dX8_about_90 (m_X8_aboutPart v1 s he90) kc_X8_aboutPart w_906 w_908 wp_43 w_1 jy_X8_aboutPart ⟨⟨Nat.le_of_ble_eq_true rfl, Nat.le_of_ble_eq_true rfl⟩, ⟨rfl, rfl⟩, ⟨Nat.zero_le _, Nat.zero_le _⟩⟩ (Nat.le_of_ble_eq_true rfl) (by decide) rfl (r := (RX8, TX8, 9)) rfl rfl rfl (fun _ _ h => h) ?_
  exact j_iret C dX8_about_93 rfl rfl (Nat.zero_le _) (Nat.zero_le _) (jretPI h)
-- X9_isIn
def F_X9_isIn (v0 : Int32) (v1 : Int32) (v2 : Int32) : Bool :=
  (if v0 < v1 then false else (if v2 < v0 then false else true))
def rm_X9_isIn : Room := { frames := 0, cells := 0, slots := 0, locals := 0 }
set_option maxHeartbeats 4000000 in
set_option maxRecDepth 100000 in
theorem m_X9_isIn {l : Launch} {D : va_G} {G : Nat → ClassId} {KV : jV} {ad : Nat → Nat} {s : jS} (v0 : Int32) (v1 : Int32) (v2 : Int32) {p : Bool} (h : F_X9_isIn v0 v1 v2 = p) : jM l D G KV yX9_isIn cX9_isIn 3 (some .boolean) rm_X9_isIn [.int v0, .int v1, .int v2] (jw 15 (cellM G) ad s) 0 0 (fun v u => v = some (.int (jb p)) ∧ u = jw 15 (cellM G) ad s) := by
  refine jM.of (by decide) (Nat.le_of_ble_eq_true rfl) ?_
  intro K C
  unfold F_X9_isIn at h
  show K 0 0 (jw 15 (cellM G) ad s) 0 [(0, .int v0), (1, .int v1), (2, .int v2)] []
  refine j_iload_n C dX9_isIn_0 0 rfl ?_
  refine j_iload_n C dX9_isIn_1 1 rfl ?_
  refine j_icmp_lt C dX9_isIn_2 (tgt := 14) (by decide) (fun cq => ?_) (fun cq => ?_)
  · have h := jite_t h cq
    refine j_iconst C dX9_isIn_14 (v := 0) (by decide) ?_
    exact j_iret C dX9_isIn_15 rfl (jb_nar false) (Nat.zero_le _) (Nat.zero_le _) (jretTB h)
  · have h := jite_f h cq
    refine j_iload_n C dX9_isIn_5 0 rfl ?_
    refine j_iload_n C dX9_isIn_6 2 rfl ?_
    refine j_icmp_gt C dX9_isIn_7 (tgt := 14) (by decide) (fun cq => ?_) (fun cq => ?_)
    · have h := jite_t h cq
      refine j_iconst C dX9_isIn_14 (v := 0) (by decide) ?_
      exact j_iret C dX9_isIn_15 rfl (jb_nar false) (Nat.zero_le _) (Nat.zero_le _) (jretTB h)
    · have h := jite_f h cq
      refine j_iconst C dX9_isIn_10 (v := 1) (by decide) ?_
      refine j_goto C dX9_isIn_11 (tgt := 15) (by decide) ?_
      exact j_iret C dX9_isIn_15 rfl (jb_nar true) (Nat.zero_le _) (Nat.zero_le _) (jretTB h)
-- X9_isHour
def F_X9_isHour (v0 : Int32) : Bool :=
  (F_X9_isIn v0 0 23)
def rm_X9_isHour : Room := { frames := 1, cells := 0, slots := 0, locals := 22 }
set_option maxHeartbeats 4000000 in
set_option maxRecDepth 100000 in
theorem m_X9_isHour {l : Launch} {D : va_G} {G : Nat → ClassId} {KV : jV} {ad : Nat → Nat} {s : jS} (v0 : Int32) {p : Bool} (h : F_X9_isHour v0 = p) : jM l D G KV yX9_isHour cX9_isHour 1 (some .boolean) rm_X9_isHour [.int v0] (jw 15 (cellM G) ad s) 0 0 (fun v u => v = some (.int (jb p)) ∧ u = jw 15 (cellM G) ad s) := by
  refine jM.of (by decide) (Nat.le_of_ble_eq_true rfl) ?_
  intro K C
  unfold F_X9_isHour at h
  show K 0 0 (jw 15 (cellM G) ad s) 0 [(0, .int v0)] []
  refine j_iload_n C dX9_isHour_0 0 rfl ?_
  refine j_iconst C dX9_isHour_1 (v := 0) (by decide) ?_
  refine j_bipush C dX9_isHour_2 (v := 23) (by decide) ?_
  refine j_cS1 C dX9_isHour_4 (m_X9_isIn v0 0 23 rfl) kc_X9_isIn w_1025 w_1026 w_11 jy_X9_isIn ⟨⟨Nat.le_of_ble_eq_true rfl, Nat.le_of_ble_eq_true rfl⟩, ⟨rfl, rfl⟩, ⟨Nat.zero_le _, Nat.zero_le _⟩⟩ (Nat.le_of_ble_eq_true rfl) rfl (fun _ _ h => h) ?_
  exact j_iret C dX9_isHour_7 rfl (jb_nar (F_X9_isIn v0 0 23)) (Nat.zero_le _) (Nat.zero_le _) (jretTB h)
-- X9_rain
def F_X9_rain (v1 : Int32) (v2 : Int32) (s : jS) : Option (Bool × jS) :=
  (if (F_X9_isHour v1) = true then (if (F_X9_isIn v2 0 9) = true then (if jin (36 + v1) 324 = true then (jl (upI s 1 (Int32.toNatClampNeg (36 + v1)) v2) fun s28_2 => some (true, s28_2)) else none) else some (false, s)) else some (false, s))
def rm_X9_rain : Room := { frames := 2, cells := 0, slots := 0, locals := 42 }
set_option maxHeartbeats 4000000 in
set_option maxRecDepth 100000 in
theorem m_X9_rain {l : Launch} {D : va_G} {G : Nat → ClassId} {KV : jV} {ad : Nat → Nat} (v1 : Int32) (v2 : Int32) (s : jS) {p : Bool × jS} (h : F_X9_rain v1 v2 s = some p) : jM l D G KV yX9_rain cX9_rain 3 (some .boolean) rm_X9_rain [.ref (ad 0), .int v1, .int v2] (jw 15 (cellM G) ad s) 0 0 (fun v u => v = some (.int (jb p.1)) ∧ u = jw 15 (cellM G) ad p.2) := by
  refine jM.of (by decide) (Nat.le_of_ble_eq_true rfl) ?_
  intro K C
  unfold F_X9_rain at h
  show K 0 0 (jw 15 (cellM G) ad s) 0 [(0, .ref (ad 0)), (1, .int v1), (2, .int v2)] []
  refine j_iload_n C dX9_rain_0 1 rfl ?_
  refine j_cS1 C dX9_rain_1 (m_X9_isHour v1 rfl) kc_X9_isHour w_1022 w_1023 w_11 jy_X9_isHour ⟨⟨Nat.le_of_ble_eq_true rfl, Nat.le_of_ble_eq_true rfl⟩, ⟨rfl, rfl⟩, ⟨Nat.zero_le _, Nat.zero_le _⟩⟩ (Nat.le_of_ble_eq_true rfl) rfl (fun _ _ h => h) ?_
  refine j_if_eq C dX9_rain_4 (tgt := 17) (by decide) (fun cq => ?_) (fun cq => ?_)
  · have h := jite_f h (jb_f cq)
    refine j_iconst C dX9_rain_17 (v := 0) (by decide) ?_
    exact j_iret C dX9_rain_18 rfl (jb_nar false) (Nat.zero_le _) (Nat.zero_le _) (jretWB h)
  · have h := jite_t h (jb_t cq)
    refine j_iload_n C dX9_rain_7 2 rfl ?_
    refine j_iconst C dX9_rain_8 (v := 0) (by decide) ?_
    refine j_bipush C dX9_rain_9 (v := 9) (by decide) ?_
    refine j_cS1 C dX9_rain_11 (m_X9_isIn v2 0 9 rfl) kc_X9_isIn w_1025 w_1026 w_11 jy_X9_isIn ⟨⟨Nat.le_of_ble_eq_true rfl, Nat.le_of_ble_eq_true rfl⟩, ⟨rfl, rfl⟩, ⟨Nat.zero_le _, Nat.zero_le _⟩⟩ (Nat.le_of_ble_eq_true rfl) rfl (fun _ _ h => h) ?_
    refine j_if_ne C dX9_rain_14 (tgt := 19) (by decide) (fun cq => ?_) (fun cq => ?_)
    · have h := jite_t h (jb_t cq)
      refine j_aload_n C dX9_rain_19 0 rfl ?_
      refine j_getW C dX9_rain_20 inX9 rfl (by decide) rfl 0 (by decide) w_923 rfl rfl ?_
      refine j_bipush C dX9_rain_23 (v := 36) (by decide) ?_
      refine j_iload_n C dX9_rain_25 1 rfl ?_
      refine j_iadd C dX9_rain_26 ?_
      refine j_iload_n C dX9_rain_27 2 rfl ?_
      obtain ⟨c28_1, h⟩ := jchk h
      refine j_iastW C dX9_rain_28 (by decide) (fun _ => rfl) (jin_vp c28_1) (fun s28_2 hs28_2 => ?_)
      have h := jlet h hs28_2
      refine j_iconst C dX9_rain_29 (v := 1) (by decide) ?_
      exact j_iret C dX9_rain_30 rfl (jb_nar true) (Nat.zero_le _) (Nat.zero_le _) (jretWB h)
    · have h := jite_f h (jb_f cq)
      refine j_iconst C dX9_rain_17 (v := 0) (by decide) ?_
      exact j_iret C dX9_rain_18 rfl (jb_nar false) (Nat.zero_le _) (Nat.zero_le _) (jretWB h)
-- X9_isDoor
def F_X9_isDoor (v1 : Int32) (s : jS) : Bool :=
  (F_X9_isIn v1 0 ((s.1 0 2) - 1))
def rm_X9_isDoor : Room := { frames := 1, cells := 0, slots := 0, locals := 22 }
set_option maxHeartbeats 4000000 in
set_option maxRecDepth 100000 in
theorem m_X9_isDoor {l : Launch} {D : va_G} {G : Nat → ClassId} {KV : jV} {ad : Nat → Nat} (v1 : Int32) (s : jS) {p : Bool} (h : F_X9_isDoor v1 s = p) : jM l D G KV yX9_isDoor cX9_isDoor 2 (some .boolean) rm_X9_isDoor [.ref (ad 0), .int v1] (jw 15 (cellM G) ad s) 0 0 (fun v u => v = some (.int (jb p)) ∧ u = jw 15 (cellM G) ad s) := by
  refine jM.of (by decide) (Nat.le_of_ble_eq_true rfl) ?_
  intro K C
  unfold F_X9_isDoor at h
  show K 0 0 (jw 15 (cellM G) ad s) 0 [(0, .ref (ad 0)), (1, .int v1)] []
  refine j_iload_n C dX9_isDoor_0 1 rfl ?_
  refine j_iconst C dX9_isDoor_1 (v := 0) (by decide) ?_
  refine j_aload_n C dX9_isDoor_2 0 rfl ?_
  refine j_getW C dX9_isDoor_3 inX9 rfl (by decide) rfl 2 (by decide) w_925 rfl rfl ?_
  refine j_iconst C dX9_isDoor_6 (v := 1) (by decide) ?_
  refine j_isub C dX9_isDoor_7 ?_
  refine j_cS1 C dX9_isDoor_8 (m_X9_isIn v1 0 ((s.1 0 2) - 1) rfl) kc_X9_isIn w_1025 w_1026 w_11 jy_X9_isIn ⟨⟨Nat.le_of_ble_eq_true rfl, Nat.le_of_ble_eq_true rfl⟩, ⟨rfl, rfl⟩, ⟨Nat.zero_le _, Nat.zero_le _⟩⟩ (Nat.le_of_ble_eq_true rfl) rfl (fun _ _ h => h) ?_
  exact j_iret C dX9_isDoor_11 rfl (jb_nar (F_X9_isIn v1 0 ((s.1 0 2) - 1))) (Nat.zero_le _) (Nat.zero_le _) (jretTB h)
-- X9_mood
def F_X9_mood (v1 : Int32) (v2 : Int32) (s : jS) : Option (Bool × jS) :=
  (if (F_X9_isDoor v1 s) = true then (if (F_X9_isIn v2 0 9) = true then (if jin (12 + v1) 324 = true then (jl (upI s 1 (Int32.toNatClampNeg (12 + v1)) v2) fun s29_2 => some (true, s29_2)) else none) else some (false, s)) else some (false, s))
def rm_X9_mood : Room := { frames := 2, cells := 0, slots := 0, locals := 43 }
set_option maxHeartbeats 4000000 in
set_option maxRecDepth 100000 in
theorem m_X9_mood {l : Launch} {D : va_G} {G : Nat → ClassId} {KV : jV} {ad : Nat → Nat} (v1 : Int32) (v2 : Int32) (s : jS) {p : Bool × jS} (h : F_X9_mood v1 v2 s = some p) : jM l D G KV yX9_mood cX9_mood 3 (some .boolean) rm_X9_mood [.ref (ad 0), .int v1, .int v2] (jw 15 (cellM G) ad s) 0 0 (fun v u => v = some (.int (jb p.1)) ∧ u = jw 15 (cellM G) ad p.2) := by
  refine jM.of (by decide) (Nat.le_of_ble_eq_true rfl) ?_
  intro K C
  unfold F_X9_mood at h
  show K 0 0 (jw 15 (cellM G) ad s) 0 [(0, .ref (ad 0)), (1, .int v1), (2, .int v2)] []
  refine j_aload_n C dX9_mood_0 0 rfl ?_
  refine j_iload_n C dX9_mood_1 1 rfl ?_
  refine j_cV1 C dX9_mood_2 (m_X9_isDoor v1 s rfl) kc_X9_isDoor w_1032 w_1034 wp_44 w_11 jy_X9_isDoor ⟨⟨Nat.le_of_ble_eq_true rfl, Nat.le_of_ble_eq_true rfl⟩, ⟨rfl, rfl⟩, ⟨Nat.zero_le _, Nat.zero_le _⟩⟩ (Nat.le_of_ble_eq_true rfl) (by decide) rfl (r := (RX9, TX9, 32)) rfl rfl rfl (fun _ _ h => h) ?_
  refine j_if_eq C dX9_mood_5 (tgt := 18) (by decide) (fun cq => ?_) (fun cq => ?_)
  · have h := jite_f h (jb_f cq)
    refine j_iconst C dX9_mood_18 (v := 0) (by decide) ?_
    exact j_iret C dX9_mood_19 rfl (jb_nar false) (Nat.zero_le _) (Nat.zero_le _) (jretWB h)
  · have h := jite_t h (jb_t cq)
    refine j_iload_n C dX9_mood_8 2 rfl ?_
    refine j_iconst C dX9_mood_9 (v := 0) (by decide) ?_
    refine j_bipush C dX9_mood_10 (v := 9) (by decide) ?_
    refine j_cS1 C dX9_mood_12 (m_X9_isIn v2 0 9 rfl) kc_X9_isIn w_1025 w_1026 w_11 jy_X9_isIn ⟨⟨Nat.le_of_ble_eq_true rfl, Nat.le_of_ble_eq_true rfl⟩, ⟨rfl, rfl⟩, ⟨Nat.zero_le _, Nat.zero_le _⟩⟩ (Nat.le_of_ble_eq_true rfl) rfl (fun _ _ h => h) ?_
    refine j_if_ne C dX9_mood_15 (tgt := 20) (by decide) (fun cq => ?_) (fun cq => ?_)
    · have h := jite_t h (jb_t cq)
      refine j_aload_n C dX9_mood_20 0 rfl ?_
      refine j_getW C dX9_mood_21 inX9 rfl (by decide) rfl 0 (by decide) w_923 rfl rfl ?_
      refine j_bipush C dX9_mood_24 (v := 12) (by decide) ?_
      refine j_iload_n C dX9_mood_26 1 rfl ?_
      refine j_iadd C dX9_mood_27 ?_
      refine j_iload_n C dX9_mood_28 2 rfl ?_
      obtain ⟨c29_1, h⟩ := jchk h
      refine j_iastW C dX9_mood_29 (by decide) (fun _ => rfl) (jin_vp c29_1) (fun s29_2 hs29_2 => ?_)
      have h := jlet h hs29_2
      refine j_iconst C dX9_mood_30 (v := 1) (by decide) ?_
      exact j_iret C dX9_mood_31 rfl (jb_nar true) (Nat.zero_le _) (Nat.zero_le _) (jretWB h)
    · have h := jite_f h (jb_f cq)
      refine j_iconst C dX9_mood_18 (v := 0) (by decide) ?_
      exact j_iret C dX9_mood_19 rfl (jb_nar false) (Nat.zero_le _) (Nat.zero_le _) (jretWB h)
-- X9_moods
def B_X9_moods_22 (n : Nat) (q : Int32 × Int32 × jS) : Option ((Int32 × Int32 × jS) ⊕ (Int32 × Int32 × jS)) :=
  (if (q.2.2.1 0 2) ≤ q.2.1 then some (.inr (q.1, q.2.1, q.2.2)) else (if jin (12 + q.2.1) 324 = true then (jl (upI q.2.2 1 (Int32.toNatClampNeg (12 + q.2.1)) (q.1 - q.1 / 10 * 10)) fun s42_2 => some (.inl ((((q.1 * 197) + 59) - ((q.1 * 197) + 59) / 30113 * 30113), (q.2.1 + 1), s42_2))) else none))
def F_X9_moods (n : Nat) (v1 : Int32) (s : jS) : Option (Int32 × jS) :=
  (if (F_X9_isIn v1 0 9999) = true then ((lp (B_X9_moods_22 n) n (((v1 * 5) + 8), 0, s)).bind fun e22 => some ((e22.2.2.1 1 (Int32.toNatClampNeg 12)), e22.2.2)) else some ((-1), s))
def rm_X9_moods : Room := { frames := 1, cells := 0, slots := 0, locals := 22 }
set_option maxHeartbeats 4000000 in
set_option maxRecDepth 100000 in
theorem m_X9_moods {l : Launch} {D : va_G} {G : Nat → ClassId} {KV : jV} {ad : Nat → Nat} (n : Nat) (v1 : Int32) (s : jS) {p : Int32 × jS} (h : F_X9_moods n v1 s = some p) : jM l D G KV yX9_moods cX9_moods 4 (some .int) rm_X9_moods [.ref (ad 0), .int v1] (jw 15 (cellM G) ad s) 0 0 (fun v u => v = some (.int p.1) ∧ u = jw 15 (cellM G) ad p.2) := by
  refine jM.of (by decide) (Nat.le_of_ble_eq_true rfl) ?_
  intro K C
  unfold F_X9_moods at h
  have lo22 : ∀ (s : jS) (k : Nat) (q : Int32 × Int32 × jS) (e : Int32 × Int32 × jS), lp (B_X9_moods_22 n) k q = some e → K 0 0 (jw 15 (cellM G) ad e.2.2) 62 [(0, .ref (ad 0))] [] → K 0 0 (jw 15 (cellM G) ad q.2.2) 22 [(0, .ref (ad 0)), (2, .int q.1), (3, .int q.2.1)] [] := by
    intro s k q e he hE
    refine jlp (KH := fun q => K 0 0 (jw 15 (cellM G) ad q.2.2) 22 [(0, .ref (ad 0)), (2, .int q.1), (3, .int q.2.1)] []) (KE := fun e => K 0 0 (jw 15 (cellM G) ad e.2.2) 62 [(0, .ref (ad 0))] []) ?_ k q e he hE
    intro q o hb hin hout
    unfold B_X9_moods_22 at hb
    show K 0 0 (jw 15 (cellM G) ad q.2.2) 22 [(0, .ref (ad 0)), (2, .int q.1), (3, .int q.2.1)] []
    refine j_iload_n C dX9_moods_22 2 rfl ?_
    refine j_aload_n C dX9_moods_23 0 rfl ?_
    refine j_getW C dX9_moods_24 inX9 rfl (by decide) rfl 2 (by decide) w_925 rfl rfl ?_
    refine j_icmp_ge C dX9_moods_27 (tgt := 62) (by decide) (fun cq => ?_) (fun cq => ?_)
    · have hb := jite_t hb cq
      refine j_loc C [0] rfl ?_
      have hx := hout _ (jinr hb)
      exact hx
    · have hb := jite_f hb cq
      refine j_aload_n C dX9_moods_30 0 rfl ?_
      refine j_getW C dX9_moods_31 inX9 rfl (by decide) rfl 0 (by decide) w_923 rfl rfl ?_
      refine j_bipush C dX9_moods_34 (v := 12) (by decide) ?_
      refine j_iload_n C dX9_moods_36 2 rfl ?_
      refine j_iadd C dX9_moods_37 ?_
      refine j_iload_n C dX9_moods_38 1 rfl ?_
      refine j_bipush C dX9_moods_39 (v := 10) (by decide) ?_
      refine j_irem C dX9_moods_41 (by decide) ?_
      obtain ⟨c42_1, hb⟩ := jchk hb
      refine j_iastW C dX9_moods_42 (by decide) (fun _ => rfl) (jin_vp c42_1) (fun s42_2 hs42_2 => ?_)
      have hb := jlet hb hs42_2
      refine j_iload_n C dX9_moods_43 1 rfl ?_
      refine j_sipush C dX9_moods_44 (v := 197) (by decide) ?_
      refine j_imul C dX9_moods_47 ?_
      refine j_bipush C dX9_moods_48 (v := 59) (by decide) ?_
      refine j_iadd C dX9_moods_50 ?_
      refine j_sipush C dX9_moods_51 (v := 30113) (by decide) ?_
      refine j_irem C dX9_moods_54 (by decide) ?_
      refine j_istore_n C dX9_moods_55 (by decide) rfl ?_
      refine j_iinc C dX9_moods_56 2 rfl (v := (q.2.1 + 1)) rfl (by decide) rfl ?_
      refine j_goto C dX9_moods_59 (tgt := 22) (by decide) ?_
      refine j_loc C [2, 1, 0] rfl ?_
      have hx := hin _ (jinl hb)
      exact hx
  show K 0 0 (jw 15 (cellM G) ad s) 0 [(0, .ref (ad 0)), (1, .int v1)] []
  refine j_iload_n C dX9_moods_0 1 rfl ?_
  refine j_iconst C dX9_moods_1 (v := 0) (by decide) ?_
  refine j_sipush C dX9_moods_2 (v := 9999) (by decide) ?_
  refine j_cS1 C dX9_moods_5 (m_X9_isIn v1 0 9999 rfl) kc_X9_isIn w_1025 w_1026 w_11 jy_X9_isIn ⟨⟨Nat.le_of_ble_eq_true rfl, Nat.le_of_ble_eq_true rfl⟩, ⟨rfl, rfl⟩, ⟨Nat.zero_le _, Nat.zero_le _⟩⟩ (Nat.le_of_ble_eq_true rfl) rfl (fun _ _ h => h) ?_
  refine j_if_ne C dX9_moods_8 (tgt := 13) (by decide) (fun cq => ?_) (fun cq => ?_)
  · have h := jite_t h (jb_t cq)
    refine j_iload_n C dX9_moods_13 1 rfl ?_
    refine j_iconst C dX9_moods_14 (v := 5) (by decide) ?_
    refine j_imul C dX9_moods_15 ?_
    refine j_bipush C dX9_moods_16 (v := 8) (by decide) ?_
    refine j_iadd C dX9_moods_18 ?_
    refine j_istore_n C dX9_moods_19 (by decide) rfl ?_
    refine j_iconst C dX9_moods_20 (v := 0) (by decide) ?_
    refine j_istore_n C dX9_moods_21 (by decide) rfl ?_
    refine j_loc C [2, 1, 0] rfl ?_
    obtain ⟨e22, he22, h⟩ := jbind h
    refine lo22  s  n (((v1 * 5) + 8), 0, s) e22 he22 ?_
    refine j_aload_n C dX9_moods_62 0 rfl ?_
    refine j_getW C dX9_moods_63 inX9 rfl (by decide) rfl 0 (by decide) w_923 rfl rfl ?_
    refine j_bipush C dX9_moods_66 (v := 12) (by decide) ?_
    refine j_ialdW C dX9_moods_68 (by decide) rfl (jin_vp (i := 12) (n := 324) (by decide)) ?_
    exact j_iret C dX9_moods_69 rfl rfl (Nat.zero_le _) (Nat.zero_le _) (jretWI h)
  · have h := jite_f h (jb_f cq)
    refine j_iconst C dX9_moods_11 (v := (-1)) (by decide) ?_
    exact j_iret C dX9_moods_12 rfl rfl (Nat.zero_le _) (Nat.zero_le _) (jretWI h)
-- X9_hinge
def F_X9_hinge (v1 : Int32) (v2 : Bool) (s : jS) : Option (Bool × jS) :=
  (if (F_X9_isDoor v1 s) = true then (if v2 = true then (if jin (20 + v1) 324 = true then (jl (upI s 1 (Int32.toNatClampNeg (20 + v1)) 1) fun s27_4 => some (true, s27_4)) else none) else (if jin (20 + v1) 324 = true then (jl (upI s 1 (Int32.toNatClampNeg (20 + v1)) 0) fun s27_2 => some (true, s27_2)) else none)) else some (false, s))
def rm_X9_hinge : Room := { frames := 2, cells := 0, slots := 0, locals := 43 }
set_option maxHeartbeats 4000000 in
set_option maxRecDepth 100000 in
theorem m_X9_hinge {l : Launch} {D : va_G} {G : Nat → ClassId} {KV : jV} {ad : Nat → Nat} (v1 : Int32) (v2 : Bool) (s : jS) {p : Bool × jS} (h : F_X9_hinge v1 v2 s = some p) : jM l D G KV yX9_hinge cX9_hinge 3 (some .boolean) rm_X9_hinge [.ref (ad 0), .int v1, .int (jb v2)] (jw 15 (cellM G) ad s) 0 0 (fun v u => v = some (.int (jb p.1)) ∧ u = jw 15 (cellM G) ad p.2) := by
  refine jM.of (by decide) (Nat.le_of_ble_eq_true rfl) ?_
  intro K C
  unfold F_X9_hinge at h
  show K 0 0 (jw 15 (cellM G) ad s) 0 [(0, .ref (ad 0)), (1, .int v1), (2, .int (jb v2))] []
  refine j_aload_n C dX9_hinge_0 0 rfl ?_
  refine j_iload_n C dX9_hinge_1 1 rfl ?_
  refine j_cV1 C dX9_hinge_2 (m_X9_isDoor v1 s rfl) kc_X9_isDoor w_1032 w_1034 wp_44 w_11 jy_X9_isDoor ⟨⟨Nat.le_of_ble_eq_true rfl, Nat.le_of_ble_eq_true rfl⟩, ⟨rfl, rfl⟩, ⟨Nat.zero_le _, Nat.zero_le _⟩⟩ (Nat.le_of_ble_eq_true rfl) (by decide) rfl (r := (RX9, TX9, 32)) rfl rfl rfl (fun _ _ h => h) ?_
  refine j_if_ne C dX9_hinge_5 (tgt := 10) (by decide) (fun cq => ?_) (fun cq => ?_)
  · have h := jite_t h (jb_t cq)
    refine j_aload_n C dX9_hinge_10 0 rfl ?_
    refine j_getW C dX9_hinge_11 inX9 rfl (by decide) rfl 0 (by decide) w_923 rfl rfl ?_
    refine j_bipush C dX9_hinge_14 (v := 20) (by decide) ?_
    refine j_iload_n C dX9_hinge_16 1 rfl ?_
    refine j_iadd C dX9_hinge_17 ?_
    refine j_iload_n C dX9_hinge_18 2 rfl ?_
    refine j_if_eq C dX9_hinge_19 (tgt := 26) (by decide) (fun cq => ?_) (fun cq => ?_)
    · have h := jite_f h (jb_f cq)
      refine j_iconst C dX9_hinge_26 (v := 0) (by decide) ?_
      obtain ⟨c27_1, h⟩ := jchk h
      refine j_iastW C dX9_hinge_27 (by decide) (fun _ => rfl) (jin_vp c27_1) (fun s27_2 hs27_2 => ?_)
      have h := jlet h hs27_2
      refine j_iconst C dX9_hinge_28 (v := 1) (by decide) ?_
      exact j_iret C dX9_hinge_29 rfl (jb_nar true) (Nat.zero_le _) (Nat.zero_le _) (jretWB h)
    · have h := jite_t h (jb_t cq)
      refine j_iconst C dX9_hinge_22 (v := 1) (by decide) ?_
      refine j_goto C dX9_hinge_23 (tgt := 27) (by decide) ?_
      obtain ⟨c27_3, h⟩ := jchk h
      refine j_iastW C dX9_hinge_27 (by decide) (fun _ => rfl) (jin_vp c27_3) (fun s27_4 hs27_4 => ?_)
      have h := jlet h hs27_4
      refine j_iconst C dX9_hinge_28 (v := 1) (by decide) ?_
      exact j_iret C dX9_hinge_29 rfl (jb_nar true) (Nat.zero_le _) (Nat.zero_le _) (jretWB h)
  · have h := jite_f h (jb_f cq)
    refine j_iconst C dX9_hinge_8 (v := 0) (by decide) ?_
    exact j_iret C dX9_hinge_9 rfl (jb_nar false) (Nat.zero_le _) (Nat.zero_le _) (jretWB h)
