theorem dX8_within_0 : decode cX8_within 0 = .ok (.iload_n 0, 1) := by decide +kernel
theorem dX8_within_1 : decode cX8_within 1 = .ok (.iload_n 1, 1) := by decide +kernel
theorem dX8_within_2 : decode cX8_within 2 = .ok (.if_icmp .lt 12, 3) := by decide +kernel
theorem dX8_within_5 : decode cX8_within 5 = .ok (.iload_n 0, 1) := by decide +kernel
theorem dX8_within_6 : decode cX8_within 6 = .ok (.iload_n 2, 1) := by decide +kernel
theorem dX8_within_7 : decode cX8_within 7 = .ok (.if_icmp .gt 7, 3) := by decide +kernel
theorem dX8_within_10 : decode cX8_within 10 = .ok (.iconst 1, 1) := by decide +kernel
theorem dX8_within_11 : decode cX8_within 11 = .ok (.goto 4, 3) := by decide +kernel
theorem dX8_within_14 : decode cX8_within 14 = .ok (.iconst 0, 1) := by decide +kernel
theorem dX8_within_15 : decode cX8_within 15 = .ok (.ireturn, 1) := by decide +kernel
theorem dX8_isHour_0 : decode cX8_isHour 0 = .ok (.iload_n 0, 1) := by decide +kernel
theorem dX8_isHour_1 : decode cX8_isHour 1 = .ok (.iconst 0, 1) := by decide +kernel
theorem dX8_isHour_2 : decode cX8_isHour 2 = .ok (.bipush 23, 2) := by decide +kernel
theorem dX8_isHour_4 : decode cX8_isHour 4 = .ok (.invokestatic 86, 3) := by decide +kernel
theorem dX8_isHour_7 : decode cX8_isHour 7 = .ok (.ireturn, 1) := by decide +kernel
theorem dX3_forget_0 : decode cX3_forget 0 = .ok (.aload_n 0, 1) := by decide +kernel
theorem dX3_forget_1 : decode cX3_forget 1 = .ok (.iconst 1, 1) := by decide +kernel
theorem dX3_forget_2 : decode cX3_forget 2 = .ok (.putfield 34, 3) := by decide +kernel
theorem dX3_forget_5 : decode cX3_forget 5 = .ok (.return_, 1) := by decide +kernel
theorem dX0_forget_0 : decode cX0_forget 0 = .ok (.aload_n 0, 1) := by decide +kernel
theorem dX0_forget_1 : decode cX0_forget 1 = .ok (.iconst 0, 1) := by decide +kernel
theorem dX0_forget_2 : decode cX0_forget 2 = .ok (.putfield 34, 3) := by decide +kernel
theorem dX0_forget_5 : decode cX0_forget 5 = .ok (.return_, 1) := by decide +kernel
theorem dX8_outlookChanged_0 : decode cX8_outlookChanged 0 = .ok (.aload_n 0, 1) := by decide +kernel
theorem dX8_outlookChanged_1 : decode cX8_outlookChanged 1 = .ok (.getfield 65, 3) := by decide +kernel
theorem dX8_outlookChanged_4 : decode cX8_outlookChanged 4 = .ok (.invokevirtual 263, 3) := by decide +kernel
theorem dX8_outlookChanged_7 : decode cX8_outlookChanged 7 = .ok (.aload_n 0, 1) := by decide +kernel
theorem dX8_outlookChanged_8 : decode cX8_outlookChanged 8 = .ok (.getfield 78, 3) := by decide +kernel
theorem dX8_outlookChanged_11 : decode cX8_outlookChanged 11 = .ok (.invokevirtual 107, 3) := by decide +kernel
theorem dX8_outlookChanged_14 : decode cX8_outlookChanged 14 = .ok (.return_, 1) := by decide +kernel
theorem dX8_rain_0 : decode cX8_rain 0 = .ok (.iload_n 1, 1) := by decide +kernel
theorem dX8_rain_1 : decode cX8_rain 1 = .ok (.invokestatic 82, 3) := by decide +kernel
theorem dX8_rain_4 : decode cX8_rain 4 = .ok (.ifCond .eq 13, 3) := by decide +kernel
theorem dX8_rain_7 : decode cX8_rain 7 = .ok (.iload_n 2, 1) := by decide +kernel
theorem dX8_rain_8 : decode cX8_rain 8 = .ok (.iconst 0, 1) := by decide +kernel
theorem dX8_rain_9 : decode cX8_rain 9 = .ok (.bipush 9, 2) := by decide +kernel
theorem dX8_rain_11 : decode cX8_rain 11 = .ok (.invokestatic 86, 3) := by decide +kernel
theorem dX8_rain_14 : decode cX8_rain 14 = .ok (.ifCond .ne 5, 3) := by decide +kernel
theorem dX8_rain_17 : decode cX8_rain 17 = .ok (.iconst 0, 1) := by decide +kernel
theorem dX8_rain_18 : decode cX8_rain 18 = .ok (.ireturn, 1) := by decide +kernel
theorem dX8_rain_19 : decode cX8_rain 19 = .ok (.aload_n 0, 1) := by decide +kernel
theorem dX8_rain_20 : decode cX8_rain 20 = .ok (.getfield 41, 3) := by decide +kernel
theorem dX8_rain_23 : decode cX8_rain 23 = .ok (.getfield 90, 3) := by decide +kernel
theorem dX8_rain_26 : decode cX8_rain 26 = .ok (.iload_n 1, 1) := by decide +kernel
theorem dX8_rain_27 : decode cX8_rain 27 = .ok (.iload_n 2, 1) := by decide +kernel
theorem dX8_rain_28 : decode cX8_rain 28 = .ok (.iastore, 1) := by decide +kernel
theorem dX8_rain_29 : decode cX8_rain 29 = .ok (.aload_n 0, 1) := by decide +kernel
theorem dX8_rain_30 : decode cX8_rain 30 = .ok (.invokevirtual 94, 3) := by decide +kernel
theorem dX8_rain_33 : decode cX8_rain 33 = .ok (.iconst 1, 1) := by decide +kernel
theorem dX8_rain_34 : decode cX8_rain 34 = .ok (.ireturn, 1) := by decide +kernel
theorem dX8_isDoor_0 : decode cX8_isDoor 0 = .ok (.iload_n 1, 1) := by decide +kernel
theorem dX8_isDoor_1 : decode cX8_isDoor 1 = .ok (.iconst 0, 1) := by decide +kernel
theorem dX8_isDoor_2 : decode cX8_isDoor 2 = .ok (.aload_n 0, 1) := by decide +kernel
theorem dX8_isDoor_3 : decode cX8_isDoor 3 = .ok (.getfield 37, 3) := by decide +kernel
theorem dX8_isDoor_6 : decode cX8_isDoor 6 = .ok (.iconst 1, 1) := by decide +kernel
theorem dX8_isDoor_7 : decode cX8_isDoor 7 = .ok (.isub, 1) := by decide +kernel
theorem dX8_isDoor_8 : decode cX8_isDoor 8 = .ok (.invokestatic 86, 3) := by decide +kernel
theorem dX8_isDoor_11 : decode cX8_isDoor 11 = .ok (.ireturn, 1) := by decide +kernel
theorem dX8_mood_0 : decode cX8_mood 0 = .ok (.aload_n 0, 1) := by decide +kernel
theorem dX8_mood_1 : decode cX8_mood 1 = .ok (.iload_n 1, 1) := by decide +kernel
theorem dX8_mood_2 : decode cX8_mood 2 = .ok (.invokevirtual 97, 3) := by decide +kernel
theorem dX8_mood_5 : decode cX8_mood 5 = .ok (.ifCond .eq 13, 3) := by decide +kernel
theorem dX8_mood_8 : decode cX8_mood 8 = .ok (.iload_n 2, 1) := by decide +kernel
theorem dX8_mood_9 : decode cX8_mood 9 = .ok (.iconst 0, 1) := by decide +kernel
theorem dX8_mood_10 : decode cX8_mood 10 = .ok (.bipush 9, 2) := by decide +kernel
theorem dX8_mood_12 : decode cX8_mood 12 = .ok (.invokestatic 86, 3) := by decide +kernel
theorem dX8_mood_15 : decode cX8_mood 15 = .ok (.ifCond .ne 5, 3) := by decide +kernel
theorem dX8_mood_18 : decode cX8_mood 18 = .ok (.iconst 0, 1) := by decide +kernel
theorem dX8_mood_19 : decode cX8_mood 19 = .ok (.ireturn, 1) := by decide +kernel
theorem dX8_mood_20 : decode cX8_mood 20 = .ok (.aload_n 0, 1) := by decide +kernel
theorem dX8_mood_21 : decode cX8_mood 21 = .ok (.getfield 41, 3) := by decide +kernel
theorem dX8_mood_24 : decode cX8_mood 24 = .ok (.getfield 100, 3) := by decide +kernel
theorem dX8_mood_27 : decode cX8_mood 27 = .ok (.iload_n 1, 1) := by decide +kernel
theorem dX8_mood_28 : decode cX8_mood 28 = .ok (.iload_n 2, 1) := by decide +kernel
theorem dX8_mood_29 : decode cX8_mood 29 = .ok (.iastore, 1) := by decide +kernel
theorem dX8_mood_30 : decode cX8_mood 30 = .ok (.aload_n 0, 1) := by decide +kernel
theorem dX8_mood_31 : decode cX8_mood 31 = .ok (.invokevirtual 94, 3) := by decide +kernel
theorem dX8_mood_34 : decode cX8_mood 34 = .ok (.iconst 1, 1) := by decide +kernel
theorem dX8_mood_35 : decode cX8_mood 35 = .ok (.ireturn, 1) := by decide +kernel
theorem dX8_moods_0 : decode cX8_moods 0 = .ok (.iload_n 1, 1) := by decide +kernel
theorem dX8_moods_1 : decode cX8_moods 1 = .ok (.iconst 0, 1) := by decide +kernel
theorem dX8_moods_2 : decode cX8_moods 2 = .ok (.sipush 9999, 3) := by decide +kernel
theorem dX8_moods_5 : decode cX8_moods 5 = .ok (.invokestatic 86, 3) := by decide +kernel
theorem dX8_moods_8 : decode cX8_moods 8 = .ok (.ifCond .ne 5, 3) := by decide +kernel
theorem dX8_moods_11 : decode cX8_moods 11 = .ok (.iconst (-1), 1) := by decide +kernel
theorem dX8_moods_12 : decode cX8_moods 12 = .ok (.ireturn, 1) := by decide +kernel
theorem dX8_moods_13 : decode cX8_moods 13 = .ok (.iload_n 1, 1) := by decide +kernel
theorem dX8_moods_14 : decode cX8_moods 14 = .ok (.iconst 5, 1) := by decide +kernel
theorem dX8_moods_15 : decode cX8_moods 15 = .ok (.imul, 1) := by decide +kernel
theorem dX8_moods_16 : decode cX8_moods 16 = .ok (.bipush 8, 2) := by decide +kernel
theorem dX8_moods_18 : decode cX8_moods 18 = .ok (.iadd, 1) := by decide +kernel
theorem dX8_moods_19 : decode cX8_moods 19 = .ok (.istore_n 2, 1) := by decide +kernel
theorem dX8_moods_20 : decode cX8_moods 20 = .ok (.iconst 0, 1) := by decide +kernel
theorem dX8_moods_21 : decode cX8_moods 21 = .ok (.istore_n 3, 1) := by decide +kernel
theorem dX8_moods_22 : decode cX8_moods 22 = .ok (.iload_n 3, 1) := by decide +kernel
theorem dX8_moods_23 : decode cX8_moods 23 = .ok (.aload_n 0, 1) := by decide +kernel
theorem dX8_moods_24 : decode cX8_moods 24 = .ok (.getfield 37, 3) := by decide +kernel
theorem dX8_moods_27 : decode cX8_moods 27 = .ok (.if_icmp .ge 35, 3) := by decide +kernel
theorem dX8_moods_30 : decode cX8_moods 30 = .ok (.aload_n 0, 1) := by decide +kernel
theorem dX8_moods_31 : decode cX8_moods 31 = .ok (.getfield 41, 3) := by decide +kernel
theorem dX8_moods_34 : decode cX8_moods 34 = .ok (.getfield 100, 3) := by decide +kernel
theorem dX8_moods_37 : decode cX8_moods 37 = .ok (.iload_n 3, 1) := by decide +kernel
theorem dX8_moods_38 : decode cX8_moods 38 = .ok (.iload_n 2, 1) := by decide +kernel
theorem dX8_moods_39 : decode cX8_moods 39 = .ok (.bipush 10, 2) := by decide +kernel
theorem dX8_moods_41 : decode cX8_moods 41 = .ok (.irem, 1) := by decide +kernel
theorem dX8_moods_42 : decode cX8_moods 42 = .ok (.iastore, 1) := by decide +kernel
theorem dX8_moods_43 : decode cX8_moods 43 = .ok (.iload_n 2, 1) := by decide +kernel
theorem dX8_moods_44 : decode cX8_moods 44 = .ok (.sipush 197, 3) := by decide +kernel
theorem dX8_moods_47 : decode cX8_moods 47 = .ok (.imul, 1) := by decide +kernel
theorem dX8_moods_48 : decode cX8_moods 48 = .ok (.bipush 59, 2) := by decide +kernel
theorem dX8_moods_50 : decode cX8_moods 50 = .ok (.iadd, 1) := by decide +kernel
theorem dX8_moods_51 : decode cX8_moods 51 = .ok (.sipush 30113, 3) := by decide +kernel
theorem dX8_moods_54 : decode cX8_moods 54 = .ok (.irem, 1) := by decide +kernel
theorem dX8_moods_55 : decode cX8_moods 55 = .ok (.istore_n 2, 1) := by decide +kernel
theorem dX8_moods_56 : decode cX8_moods 56 = .ok (.iinc 3 1, 3) := by decide +kernel
theorem dX8_moods_59 : decode cX8_moods 59 = .ok (.goto (-37), 3) := by decide +kernel
theorem dX8_moods_62 : decode cX8_moods 62 = .ok (.aload_n 0, 1) := by decide +kernel
theorem dX8_moods_63 : decode cX8_moods 63 = .ok (.invokevirtual 94, 3) := by decide +kernel
theorem dX8_moods_66 : decode cX8_moods 66 = .ok (.aload_n 0, 1) := by decide +kernel
theorem dX8_moods_67 : decode cX8_moods 67 = .ok (.getfield 41, 3) := by decide +kernel
theorem dX8_moods_70 : decode cX8_moods 70 = .ok (.getfield 100, 3) := by decide +kernel
theorem dX8_moods_73 : decode cX8_moods 73 = .ok (.iconst 0, 1) := by decide +kernel
theorem dX8_moods_74 : decode cX8_moods 74 = .ok (.iaload, 1) := by decide +kernel
theorem dX8_moods_75 : decode cX8_moods 75 = .ok (.ireturn, 1) := by decide +kernel
theorem dX8_hinge_0 : decode cX8_hinge 0 = .ok (.aload_n 0, 1) := by decide +kernel
theorem dX8_hinge_1 : decode cX8_hinge 1 = .ok (.iload_n 1, 1) := by decide +kernel
theorem dX8_hinge_2 : decode cX8_hinge 2 = .ok (.invokevirtual 97, 3) := by decide +kernel
theorem dX8_hinge_5 : decode cX8_hinge 5 = .ok (.ifCond .ne 5, 3) := by decide +kernel
theorem dX8_hinge_8 : decode cX8_hinge 8 = .ok (.iconst 0, 1) := by decide +kernel
theorem dX8_hinge_9 : decode cX8_hinge 9 = .ok (.ireturn, 1) := by decide +kernel
theorem dX8_hinge_10 : decode cX8_hinge 10 = .ok (.aload_n 0, 1) := by decide +kernel
theorem dX8_hinge_11 : decode cX8_hinge 11 = .ok (.getfield 41, 3) := by decide +kernel
theorem dX8_hinge_14 : decode cX8_hinge 14 = .ok (.getfield 103, 3) := by decide +kernel
theorem dX8_hinge_17 : decode cX8_hinge 17 = .ok (.iload_n 1, 1) := by decide +kernel
theorem dX8_hinge_18 : decode cX8_hinge 18 = .ok (.iload_n 2, 1) := by decide +kernel
theorem dX8_hinge_19 : decode cX8_hinge 19 = .ok (.ifCond .ne 7, 3) := by decide +kernel
theorem dX8_hinge_22 : decode cX8_hinge 22 = .ok (.iconst 1, 1) := by decide +kernel
theorem dX8_hinge_23 : decode cX8_hinge 23 = .ok (.goto 4, 3) := by decide +kernel
theorem dX8_hinge_26 : decode cX8_hinge 26 = .ok (.iconst 0, 1) := by decide +kernel
theorem dX8_hinge_27 : decode cX8_hinge 27 = .ok (.bastore, 1) := by decide +kernel
theorem dX8_hinge_28 : decode cX8_hinge 28 = .ok (.aload_n 0, 1) := by decide +kernel
theorem dX8_hinge_29 : decode cX8_hinge 29 = .ok (.getfield 78, 3) := by decide +kernel
theorem dX8_hinge_32 : decode cX8_hinge 32 = .ok (.invokevirtual 107, 3) := by decide +kernel
theorem dX8_hinge_35 : decode cX8_hinge 35 = .ok (.iconst 1, 1) := by decide +kernel
theorem dX8_hinge_36 : decode cX8_hinge 36 = .ok (.ireturn, 1) := by decide +kernel
theorem dX4_add_0 : decode cX4_add 0 = .ok (.bipush 24, 2) := by decide +kernel
theorem dX4_add_2 : decode cX4_add 2 = .ok (.istore_n 2, 1) := by decide +kernel
theorem dX4_add_3 : decode cX4_add 3 = .ok (.iload_n 2, 1) := by decide +kernel
theorem dX4_add_4 : decode cX4_add 4 = .ok (.ifCond .lt 49, 3) := by decide +kernel
theorem dX4_add_7 : decode cX4_add 7 = .ok (.aload_n 0, 1) := by decide +kernel
theorem dX4_add_8 : decode cX4_add 8 = .ok (.getfield 15, 3) := by decide +kernel
theorem dX4_add_11 : decode cX4_add 11 = .ok (.ifCond .lt 36, 3) := by decide +kernel
theorem dX4_add_14 : decode cX4_add 14 = .ok (.aload_n 0, 1) := by decide +kernel
theorem dX4_add_15 : decode cX4_add 15 = .ok (.getfield 15, 3) := by decide +kernel
theorem dX4_add_18 : decode cX4_add 18 = .ok (.sipush 300, 3) := by decide +kernel
theorem dX4_add_21 : decode cX4_add 21 = .ok (.if_icmp .ge 26, 3) := by decide +kernel
theorem dX4_add_24 : decode cX4_add 24 = .ok (.aload_n 0, 1) := by decide +kernel
theorem dX4_add_25 : decode cX4_add 25 = .ok (.getfield 9, 3) := by decide +kernel
theorem dX4_add_28 : decode cX4_add 28 = .ok (.aload_n 0, 1) := by decide +kernel
theorem dX4_add_29 : decode cX4_add 29 = .ok (.getfield 15, 3) := by decide +kernel
theorem dX4_add_32 : decode cX4_add 32 = .ok (.iload_n 1, 1) := by decide +kernel
theorem dX4_add_33 : decode cX4_add 33 = .ok (.iload_n 2, 1) := by decide +kernel
theorem dX4_add_34 : decode cX4_add 34 = .ok (.iushr, 1) := by decide +kernel
theorem dX4_add_35 : decode cX4_add 35 = .ok (.i2b, 1) := by decide +kernel
theorem dX4_add_36 : decode cX4_add 36 = .ok (.bastore, 1) := by decide +kernel
theorem dX4_add_37 : decode cX4_add 37 = .ok (.aload_n 0, 1) := by decide +kernel
theorem dX4_add_38 : decode cX4_add 38 = .ok (.dup, 1) := by decide +kernel
theorem dX4_add_39 : decode cX4_add 39 = .ok (.getfield 15, 3) := by decide +kernel
theorem dX4_add_42 : decode cX4_add 42 = .ok (.iconst 1, 1) := by decide +kernel
theorem dX4_add_43 : decode cX4_add 43 = .ok (.iadd, 1) := by decide +kernel
theorem dX4_add_44 : decode cX4_add 44 = .ok (.putfield 15, 3) := by decide +kernel
theorem dX4_add_47 : decode cX4_add 47 = .ok (.iinc 2 (-8), 3) := by decide +kernel
theorem dX4_add_50 : decode cX4_add 50 = .ok (.goto (-47), 3) := by decide +kernel
theorem dX4_add_53 : decode cX4_add 53 = .ok (.return_, 1) := by decide +kernel
theorem dX8_feed_0 : decode cX8_feed 0 = .ok (.aload_n 0, 1) := by decide +kernel
theorem dX8_feed_1 : decode cX8_feed 1 = .ok (.getfield 52, 3) := by decide +kernel
theorem dX8_feed_4 : decode cX8_feed 4 = .ok (.getfield 110, 3) := by decide +kernel
theorem dX8_feed_7 : decode cX8_feed 7 = .ok (.bipush 20, 2) := by decide +kernel
theorem dX8_feed_9 : decode cX8_feed 9 = .ok (.iadd, 1) := by decide +kernel
theorem dX8_feed_10 : decode cX8_feed 10 = .ok (.sipush 300, 3) := by decide +kernel
theorem dX8_feed_13 : decode cX8_feed 13 = .ok (.if_icmp .le 5, 3) := by decide +kernel
theorem dX8_feed_16 : decode cX8_feed 16 = .ok (.iconst (-1), 1) := by decide +kernel
theorem dX8_feed_17 : decode cX8_feed 17 = .ok (.ireturn, 1) := by decide +kernel
theorem dX8_feed_18 : decode cX8_feed 18 = .ok (.aload_n 0, 1) := by decide +kernel
theorem dX8_feed_19 : decode cX8_feed 19 = .ok (.getfield 52, 3) := by decide +kernel
theorem dX8_feed_22 : decode cX8_feed 22 = .ok (.iload_n 1, 1) := by decide +kernel
theorem dX8_feed_23 : decode cX8_feed 23 = .ok (.invokevirtual 113, 3) := by decide +kernel
theorem dX8_feed_26 : decode cX8_feed 26 = .ok (.aload_n 0, 1) := by decide +kernel
theorem dX8_feed_27 : decode cX8_feed 27 = .ok (.getfield 52, 3) := by decide +kernel
theorem dX8_feed_30 : decode cX8_feed 30 = .ok (.iload_n 2, 1) := by decide +kernel
theorem dX8_feed_31 : decode cX8_feed 31 = .ok (.invokevirtual 113, 3) := by decide +kernel
theorem dX8_feed_34 : decode cX8_feed 34 = .ok (.aload_n 0, 1) := by decide +kernel
theorem dX8_feed_35 : decode cX8_feed 35 = .ok (.getfield 52, 3) := by decide +kernel
theorem dX8_feed_38 : decode cX8_feed 38 = .ok (.iload_n 3, 1) := by decide +kernel
theorem dX8_feed_39 : decode cX8_feed 39 = .ok (.invokevirtual 113, 3) := by decide +kernel
theorem dX8_feed_42 : decode cX8_feed 42 = .ok (.aload_n 0, 1) := by decide +kernel
theorem dX8_feed_43 : decode cX8_feed 43 = .ok (.getfield 52, 3) := by decide +kernel
theorem dX8_feed_46 : decode cX8_feed 46 = .ok (.iload 4, 2) := by decide +kernel
theorem dX8_feed_48 : decode cX8_feed 48 = .ok (.invokevirtual 113, 3) := by decide +kernel
theorem dX8_feed_51 : decode cX8_feed 51 = .ok (.aload_n 0, 1) := by decide +kernel
theorem dX8_feed_52 : decode cX8_feed 52 = .ok (.getfield 52, 3) := by decide +kernel
theorem dX8_feed_55 : decode cX8_feed 55 = .ok (.iload 5, 2) := by decide +kernel
theorem dX8_feed_57 : decode cX8_feed 57 = .ok (.invokevirtual 113, 3) := by decide +kernel
theorem dX8_feed_60 : decode cX8_feed 60 = .ok (.aload_n 0, 1) := by decide +kernel
theorem dX8_feed_61 : decode cX8_feed 61 = .ok (.getfield 52, 3) := by decide +kernel
theorem dX8_feed_64 : decode cX8_feed 64 = .ok (.getfield 110, 3) := by decide +kernel
theorem dX8_feed_67 : decode cX8_feed 67 = .ok (.ireturn, 1) := by decide +kernel
theorem dX8_end_0 : decode cX8_end 0 = .ok (.iload_n 1, 1) := by decide +kernel
theorem dX8_end_1 : decode cX8_end 1 = .ok (.iconst 0, 1) := by decide +kernel
theorem dX8_end_2 : decode cX8_end 2 = .ok (.aload_n 0, 1) := by decide +kernel
theorem dX8_end_3 : decode cX8_end 3 = .ok (.getfield 52, 3) := by decide +kernel
theorem dX8_end_6 : decode cX8_end 6 = .ok (.getfield 110, 3) := by decide +kernel
theorem dX8_end_9 : decode cX8_end 9 = .ok (.invokestatic 86, 3) := by decide +kernel
theorem dX8_end_12 : decode cX8_end 12 = .ok (.ifCond .ne 5, 3) := by decide +kernel
theorem dX8_end_15 : decode cX8_end 15 = .ok (.iconst (-1), 1) := by decide +kernel
theorem dX8_end_16 : decode cX8_end 16 = .ok (.ireturn, 1) := by decide +kernel
theorem dX8_end_17 : decode cX8_end 17 = .ok (.aload_n 0, 1) := by decide +kernel
theorem dX8_end_18 : decode cX8_end 18 = .ok (.getfield 52, 3) := by decide +kernel
theorem dX8_end_21 : decode cX8_end 21 = .ok (.iload_n 1, 1) := by decide +kernel
theorem dX8_end_22 : decode cX8_end 22 = .ok (.putfield 110, 3) := by decide +kernel
theorem dX8_end_25 : decode cX8_end 25 = .ok (.iload_n 1, 1) := by decide +kernel
theorem dX8_end_26 : decode cX8_end 26 = .ok (.ireturn, 1) := by decide +kernel
theorem dX5_empties_0 : decode cX5_empties 0 = .ok (.aload_n 0, 1) := by decide +kernel
theorem dX5_empties_1 : decode cX5_empties 1 = .ok (.iconst 0, 1) := by decide +kernel
theorem dX5_empties_2 : decode cX5_empties 2 = .ok (.putfield 21, 3) := by decide +kernel
theorem dX5_empties_5 : decode cX5_empties 5 = .ok (.aload_n 0, 1) := by decide +kernel
theorem dX5_empties_6 : decode cX5_empties 6 = .ok (.iconst 0, 1) := by decide +kernel
theorem dX5_empties_7 : decode cX5_empties 7 = .ok (.putfield 25, 3) := by decide +kernel
theorem dX5_empties_10 : decode cX5_empties 10 = .ok (.aload_n 0, 1) := by decide +kernel
theorem dX5_empties_11 : decode cX5_empties 11 = .ok (.iconst 0, 1) := by decide +kernel
theorem dX5_empties_12 : decode cX5_empties 12 = .ok (.putfield 28, 3) := by decide +kernel
theorem dX5_empties_15 : decode cX5_empties 15 = .ok (.aload_n 0, 1) := by decide +kernel
theorem dX5_empties_16 : decode cX5_empties 16 = .ok (.iconst 0, 1) := by decide +kernel
theorem dX5_empties_17 : decode cX5_empties 17 = .ok (.putfield 31, 3) := by decide +kernel
theorem dX5_empties_20 : decode cX5_empties 20 = .ok (.return_, 1) := by decide +kernel
theorem dX4_rewinds_0 : decode cX4_rewinds 0 = .ok (.aload_n 0, 1) := by decide +kernel
theorem dX4_rewinds_1 : decode cX4_rewinds 1 = .ok (.iconst 0, 1) := by decide +kernel
theorem dX4_rewinds_2 : decode cX4_rewinds 2 = .ok (.putfield 19, 3) := by decide +kernel
theorem dX4_rewinds_5 : decode cX4_rewinds 5 = .ok (.return_, 1) := by decide +kernel
theorem dX4_byteAt_0 : decode cX4_byteAt 0 = .ok (.iload_n 1, 1) := by decide +kernel
theorem dX4_byteAt_1 : decode cX4_byteAt 1 = .ok (.ifCond .lt 31, 3) := by decide +kernel
theorem dX4_byteAt_4 : decode cX4_byteAt 4 = .ok (.iload_n 1, 1) := by decide +kernel
theorem dX4_byteAt_5 : decode cX4_byteAt 5 = .ok (.aload_n 0, 1) := by decide +kernel
theorem dX4_byteAt_6 : decode cX4_byteAt 6 = .ok (.getfield 15, 3) := by decide +kernel
theorem dX4_byteAt_9 : decode cX4_byteAt 9 = .ok (.if_icmp .ge 23, 3) := by decide +kernel
theorem dX4_byteAt_12 : decode cX4_byteAt 12 = .ok (.iload_n 1, 1) := by decide +kernel
theorem dX4_byteAt_13 : decode cX4_byteAt 13 = .ok (.sipush 300, 3) := by decide +kernel
theorem dX4_byteAt_16 : decode cX4_byteAt 16 = .ok (.if_icmp .ge 16, 3) := by decide +kernel
theorem dX4_byteAt_19 : decode cX4_byteAt 19 = .ok (.aload_n 0, 1) := by decide +kernel
theorem dX4_byteAt_20 : decode cX4_byteAt 20 = .ok (.getfield 9, 3) := by decide +kernel
theorem dX4_byteAt_23 : decode cX4_byteAt 23 = .ok (.iload_n 1, 1) := by decide +kernel
theorem dX4_byteAt_24 : decode cX4_byteAt 24 = .ok (.baload, 1) := by decide +kernel
theorem dX4_byteAt_25 : decode cX4_byteAt 25 = .ok (.sipush 255, 3) := by decide +kernel
theorem dX4_byteAt_28 : decode cX4_byteAt 28 = .ok (.iand, 1) := by decide +kernel
theorem dX4_byteAt_29 : decode cX4_byteAt 29 = .ok (.goto 4, 3) := by decide +kernel
theorem dX4_byteAt_32 : decode cX4_byteAt 32 = .ok (.iconst (-1), 1) := by decide +kernel
theorem dX4_byteAt_33 : decode cX4_byteAt 33 = .ok (.ireturn, 1) := by decide +kernel
theorem dX4_isBlank_0 : decode cX4_isBlank 0 = .ok (.iload_n 0, 1) := by decide +kernel
theorem dX4_isBlank_1 : decode cX4_isBlank 1 = .ok (.bipush 32, 2) := by decide +kernel
theorem dX4_isBlank_3 : decode cX4_isBlank 3 = .ok (.if_icmp .eq 9, 3) := by decide +kernel
theorem dX4_isBlank_6 : decode cX4_isBlank 6 = .ok (.iload_n 0, 1) := by decide +kernel
theorem dX4_isBlank_7 : decode cX4_isBlank 7 = .ok (.bipush 10, 2) := by decide +kernel
theorem dX4_isBlank_9 : decode cX4_isBlank 9 = .ok (.if_icmp .ne 7, 3) := by decide +kernel
theorem dX4_isBlank_12 : decode cX4_isBlank 12 = .ok (.iconst 1, 1) := by decide +kernel
theorem dX4_isBlank_13 : decode cX4_isBlank 13 = .ok (.goto 4, 3) := by decide +kernel
theorem dX4_isBlank_16 : decode cX4_isBlank 16 = .ok (.iconst 0, 1) := by decide +kernel
theorem dX4_isBlank_17 : decode cX4_isBlank 17 = .ok (.ireturn, 1) := by decide +kernel
theorem dX4_isLetter_0 : decode cX4_isLetter 0 = .ok (.iload_n 0, 1) := by decide +kernel
theorem dX4_isLetter_1 : decode cX4_isLetter 1 = .ok (.bipush 97, 2) := by decide +kernel
theorem dX4_isLetter_3 : decode cX4_isLetter 3 = .ok (.bipush 122, 2) := by decide +kernel
theorem dX4_isLetter_5 : decode cX4_isLetter 5 = .ok (.invokestatic 61, 3) := by decide +kernel
theorem dX4_isLetter_8 : decode cX4_isLetter 8 = .ok (.ifCond .ne 14, 3) := by decide +kernel
theorem dX4_isLetter_11 : decode cX4_isLetter 11 = .ok (.iload_n 0, 1) := by decide +kernel
theorem dX4_isLetter_12 : decode cX4_isLetter 12 = .ok (.bipush 65, 2) := by decide +kernel
theorem dX4_isLetter_14 : decode cX4_isLetter 14 = .ok (.bipush 90, 2) := by decide +kernel
theorem dX4_isLetter_16 : decode cX4_isLetter 16 = .ok (.invokestatic 61, 3) := by decide +kernel
theorem dX4_isLetter_19 : decode cX4_isLetter 19 = .ok (.ifCond .eq 7, 3) := by decide +kernel
theorem dX4_isLetter_22 : decode cX4_isLetter 22 = .ok (.iconst 1, 1) := by decide +kernel
theorem dX4_isLetter_23 : decode cX4_isLetter 23 = .ok (.goto 4, 3) := by decide +kernel
theorem dX4_isLetter_26 : decode cX4_isLetter 26 = .ok (.iconst 0, 1) := by decide +kernel
theorem dX4_isLetter_27 : decode cX4_isLetter 27 = .ok (.ireturn, 1) := by decide +kernel

-- X8_within
def F_X8_within (v0 : Int32) (v1 : Int32) (v2 : Int32) : Bool :=
  (if v0 < v1 then false else (if v2 < v0 then false else true))
def rm_X8_within : Room := { frames := 0, cells := 0, slots := 0, locals := 0 }
set_option maxHeartbeats 4000000 in
set_option maxRecDepth 100000 in
theorem m_X8_within {l : Launch} {D : va_G} {G : Nat → ClassId} {KV : jV} {ad : Nat → Nat} {nd : Nat} {s : jS} (v0 : Int32) (v1 : Int32) (v2 : Int32) {p : Bool} (h : F_X8_within v0 v1 v2 = p) : jM l D G KV yX8_within cX8_within 3 (some .boolean) rm_X8_within [.int v0, .int v1, .int v2] (jw 54 (cellC G nd) ad s) 0 0 (fun v u => v = some (.int (jb p)) ∧ u = jw 54 (cellC G nd) ad s) := by
  refine jM.of (by decide) (Nat.le_of_ble_eq_true rfl) ?_
  intro K C
  unfold F_X8_within at h
  show K 0 0 (jw 54 (cellC G nd) ad s) 0 [(0, .int v0), (1, .int v1), (2, .int v2)] []
  refine j_iload_n C dX8_within_0 0 rfl ?_
  refine j_iload_n C dX8_within_1 1 rfl ?_
  refine j_icmp_lt C dX8_within_2 (tgt := 14) (by decide) (fun cq => ?_) (fun cq => ?_)
  · have h := jite_t h cq
    refine j_iconst C dX8_within_14 (v := 0) (by decide) ?_
    exact j_iret C dX8_within_15 rfl (jb_nar false) (Nat.zero_le _) (Nat.zero_le _) (jretTB h)
  · have h := jite_f h cq
    refine j_iload_n C dX8_within_5 0 rfl ?_
    refine j_iload_n C dX8_within_6 2 rfl ?_
    refine j_icmp_gt C dX8_within_7 (tgt := 14) (by decide) (fun cq => ?_) (fun cq => ?_)
    · have h := jite_t h cq
      refine j_iconst C dX8_within_14 (v := 0) (by decide) ?_
      exact j_iret C dX8_within_15 rfl (jb_nar false) (Nat.zero_le _) (Nat.zero_le _) (jretTB h)
    · have h := jite_f h cq
      refine j_iconst C dX8_within_10 (v := 1) (by decide) ?_
      refine j_goto C dX8_within_11 (tgt := 15) (by decide) ?_
      exact j_iret C dX8_within_15 rfl (jb_nar true) (Nat.zero_le _) (Nat.zero_le _) (jretTB h)
-- X8_isHour
def F_X8_isHour (v0 : Int32) : Bool :=
  (F_X8_within v0 0 23)
def rm_X8_isHour : Room := { frames := 1, cells := 0, slots := 0, locals := 22 }
set_option maxHeartbeats 4000000 in
set_option maxRecDepth 100000 in
theorem m_X8_isHour {l : Launch} {D : va_G} {G : Nat → ClassId} {KV : jV} {ad : Nat → Nat} {nd : Nat} {s : jS} (v0 : Int32) {p : Bool} (h : F_X8_isHour v0 = p) : jM l D G KV yX8_isHour cX8_isHour 1 (some .boolean) rm_X8_isHour [.int v0] (jw 54 (cellC G nd) ad s) 0 0 (fun v u => v = some (.int (jb p)) ∧ u = jw 54 (cellC G nd) ad s) := by
  refine jM.of (by decide) (Nat.le_of_ble_eq_true rfl) ?_
  intro K C
  unfold F_X8_isHour at h
  show K 0 0 (jw 54 (cellC G nd) ad s) 0 [(0, .int v0)] []
  refine j_iload_n C dX8_isHour_0 0 rfl ?_
  refine j_iconst C dX8_isHour_1 (v := 0) (by decide) ?_
  refine j_bipush C dX8_isHour_2 (v := 23) (by decide) ?_
  refine j_cS1 C dX8_isHour_4 (m_X8_within v0 0 23 rfl) kc_X8_within w_377 w_378 w_1 jy_X8_within ⟨⟨Nat.le_of_ble_eq_true rfl, Nat.le_of_ble_eq_true rfl⟩, ⟨rfl, rfl⟩, ⟨Nat.zero_le _, Nat.zero_le _⟩⟩ (Nat.le_of_ble_eq_true rfl) rfl (fun _ _ h => h) ?_
  exact j_iret C dX8_isHour_7 rfl (jb_nar (F_X8_within v0 0 23)) (Nat.zero_le _) (Nat.zero_le _) (jretTB h)
-- X3_forget
def F_X3_forget (s : jS) : Option jS :=
  (jl (upI s 29 6 (jb true)) fun s2_1 => some s2_1)
def rm_X3_forget : Room := { frames := 0, cells := 0, slots := 0, locals := 0 }
set_option maxHeartbeats 4000000 in
set_option maxRecDepth 100000 in
theorem m_X3_forget {l : Launch} {D : va_G} {G : Nat → ClassId} {KV : jV} {ad : Nat → Nat} {nd : Nat} (s : jS) {p : jS} (h : F_X3_forget s = some p) : jM l D G KV yX3_forget cX3_forget 1 none rm_X3_forget [.ref (ad 29)] (jw 54 (cellC G nd) ad s) 0 0 (fun v u => v = none ∧ u = jw 54 (cellC G nd) ad p) := by
  refine jM.of (by decide) (Nat.le_of_ble_eq_true rfl) ?_
  intro K C
  unfold F_X3_forget at h
  show K 0 0 (jw 54 (cellC G nd) ad s) 0 [(0, .ref (ad 29))] []
  refine j_aload_n C dX3_forget_0 0 rfl ?_
  refine j_iconst C dX3_forget_1 (v := 1) (by decide) ?_
  refine j_putI C dX3_forget_2 inX3 tyX3 tyX3_ok nmX3 rfl (by decide) 6 (x := jb true) rfl rfl (by decide) w_207 rfl rfl (jb_nar true) (jb_fit true) (Nat.le_of_ble_eq_true rfl) (fun s2_1 hs2_1 => ?_)
  have h := jlet h hs2_1
  exact j_vret C dX3_forget_5 rfl (Nat.zero_le _) (Nat.zero_le _) (jretWV h)
-- X0_forget
def F_X0_forget (s : jS) : Option jS :=
  (jl (upI s 51 7 (jb false)) fun s2_1 => some s2_1)
def rm_X0_forget : Room := { frames := 0, cells := 0, slots := 0, locals := 0 }
set_option maxHeartbeats 4000000 in
set_option maxRecDepth 100000 in
theorem m_X0_forget {l : Launch} {D : va_G} {G : Nat → ClassId} {KV : jV} {ad : Nat → Nat} {nd : Nat} (s : jS) {p : jS} (h : F_X0_forget s = some p) : jM l D G KV yX0_forget cX0_forget 1 none rm_X0_forget [.ref (ad 51)] (jw 54 (cellC G nd) ad s) 0 0 (fun v u => v = none ∧ u = jw 54 (cellC G nd) ad p) := by
  refine jM.of (by decide) (Nat.le_of_ble_eq_true rfl) ?_
  intro K C
  unfold F_X0_forget at h
  show K 0 0 (jw 54 (cellC G nd) ad s) 0 [(0, .ref (ad 51))] []
  refine j_aload_n C dX0_forget_0 0 rfl ?_
  refine j_iconst C dX0_forget_1 (v := 0) (by decide) ?_
  refine j_putI C dX0_forget_2 inX0 tyX0 tyX0_ok nmX0 rfl (by decide) 7 (x := jb false) rfl rfl (by decide) w_324 rfl rfl (jb_nar false) (jb_fit false) (Nat.le_of_ble_eq_true rfl) (fun s2_1 hs2_1 => ?_)
  have h := jlet h hs2_1
  exact j_vret C dX0_forget_5 rfl (Nat.zero_le _) (Nat.zero_le _) (jretWV h)
-- X8_outlookChanged
def F_X8_outlookChanged (s : jS) : Option jS :=
  ((F_X3_forget s).bind fun p4 => ((F_X0_forget p4).bind fun p11 => some p11))
def rm_X8_outlookChanged : Room := { frames := 1, cells := 0, slots := 0, locals := 20 }
set_option maxHeartbeats 4000000 in
set_option maxRecDepth 100000 in
theorem m_X8_outlookChanged {l : Launch} {D : va_G} {G : Nat → ClassId} {KV : jV} {ad : Nat → Nat} {nd : Nat} (s : jS) {p : jS} (h : F_X8_outlookChanged s = some p) : jM l D G KV yX8_outlookChanged cX8_outlookChanged 1 none rm_X8_outlookChanged [.ref (ad 0)] (jw 54 (cellC G nd) ad s) 0 0 (fun v u => v = none ∧ u = jw 54 (cellC G nd) ad p) := by
  refine jM.of (by decide) (Nat.le_of_ble_eq_true rfl) ?_
  intro K C
  unfold F_X8_outlookChanged at h
  show K 0 0 (jw 54 (cellC G nd) ad s) 0 [(0, .ref (ad 0))] []
  refine j_aload_n C dX8_outlookChanged_0 0 rfl ?_
  refine j_getW C dX8_outlookChanged_1 inX8 rfl (by decide) rfl 6 (by decide) w_348 rfl rfl ?_
  obtain ⟨p4, he4, h⟩ := jbind h
  refine j_cV0 C dX8_outlookChanged_4 (m_X3_forget s he4) kc_X3_forget w_384 w_385 w_386 w_7 jy_X3_forget ⟨⟨Nat.le_of_ble_eq_true rfl, Nat.le_of_ble_eq_true rfl⟩, ⟨rfl, rfl⟩, ⟨Nat.zero_le _, Nat.zero_le _⟩⟩ (Nat.le_of_ble_eq_true rfl) (by decide) rfl (r := (RX3, TX3, 7)) rfl rfl rfl (fun _ _ h => h) ?_
  refine j_aload_n C dX8_outlookChanged_7 0 rfl ?_
  refine j_getW C dX8_outlookChanged_8 inX8 rfl (by decide) rfl 8 (by decide) w_350 rfl rfl ?_
  obtain ⟨p11, he11, h⟩ := jbind h
  refine j_cV0 C dX8_outlookChanged_11 (m_X0_forget p4 he11) kc_X0_forget w_388 w_389 w_390 w_10 jy_X0_forget ⟨⟨Nat.le_of_ble_eq_true rfl, Nat.le_of_ble_eq_true rfl⟩, ⟨rfl, rfl⟩, ⟨Nat.zero_le _, Nat.zero_le _⟩⟩ (Nat.le_of_ble_eq_true rfl) (by decide) rfl (r := (RX0, TX0, 8)) rfl rfl rfl (fun _ _ h => h) ?_
  exact j_vret C dX8_outlookChanged_14 rfl (Nat.zero_le _) (Nat.zero_le _) (jretWV h)
-- X8_rain
def F_X8_rain (v1 : Int32) (v2 : Int32) (s : jS) : Option (Bool × jS) :=
  (if (F_X8_isHour v1) = true then (if (F_X8_within v2 0 9) = true then (if jin v1 24 = true then (jl (upI s 19 (Int32.toNatClampNeg v1) v2) fun s28_2 => ((F_X8_outlookChanged s28_2).bind fun p30 => some (true, p30))) else none) else some (false, s)) else some (false, s))
def rm_X8_rain : Room := { frames := 2, cells := 0, slots := 0, locals := 42 }
set_option maxHeartbeats 4000000 in
set_option maxRecDepth 100000 in
theorem m_X8_rain {l : Launch} {D : va_G} {G : Nat → ClassId} {KV : jV} {ad : Nat → Nat} {nd : Nat} (v1 : Int32) (v2 : Int32) (s : jS) {p : Bool × jS} (h : F_X8_rain v1 v2 s = some p) : jM l D G KV yX8_rain cX8_rain 3 (some .boolean) rm_X8_rain [.ref (ad 0), .int v1, .int v2] (jw 54 (cellC G nd) ad s) 0 0 (fun v u => v = some (.int (jb p.1)) ∧ u = jw 54 (cellC G nd) ad p.2) := by
  refine jM.of (by decide) (Nat.le_of_ble_eq_true rfl) ?_
  intro K C
  unfold F_X8_rain at h
  show K 0 0 (jw 54 (cellC G nd) ad s) 0 [(0, .ref (ad 0)), (1, .int v1), (2, .int v2)] []
  refine j_iload_n C dX8_rain_0 1 rfl ?_
  refine j_cS1 C dX8_rain_1 (m_X8_isHour v1 rfl) kc_X8_isHour w_374 w_375 w_1 jy_X8_isHour ⟨⟨Nat.le_of_ble_eq_true rfl, Nat.le_of_ble_eq_true rfl⟩, ⟨rfl, rfl⟩, ⟨Nat.zero_le _, Nat.zero_le _⟩⟩ (Nat.le_of_ble_eq_true rfl) rfl (fun _ _ h => h) ?_
  refine j_if_eq C dX8_rain_4 (tgt := 17) (by decide) (fun cq => ?_) (fun cq => ?_)
  · have h := jite_f h (jb_f cq)
    refine j_iconst C dX8_rain_17 (v := 0) (by decide) ?_
    exact j_iret C dX8_rain_18 rfl (jb_nar false) (Nat.zero_le _) (Nat.zero_le _) (jretWB h)
  · have h := jite_t h (jb_t cq)
    refine j_iload_n C dX8_rain_7 2 rfl ?_
    refine j_iconst C dX8_rain_8 (v := 0) (by decide) ?_
    refine j_bipush C dX8_rain_9 (v := 9) (by decide) ?_
    refine j_cS1 C dX8_rain_11 (m_X8_within v2 0 9 rfl) kc_X8_within w_377 w_378 w_1 jy_X8_within ⟨⟨Nat.le_of_ble_eq_true rfl, Nat.le_of_ble_eq_true rfl⟩, ⟨rfl, rfl⟩, ⟨Nat.zero_le _, Nat.zero_le _⟩⟩ (Nat.le_of_ble_eq_true rfl) rfl (fun _ _ h => h) ?_
    refine j_if_ne C dX8_rain_14 (tgt := 19) (by decide) (fun cq => ?_) (fun cq => ?_)
    · have h := jite_t h (jb_t cq)
      refine j_aload_n C dX8_rain_19 0 rfl ?_
      refine j_getW C dX8_rain_20 inX8 rfl (by decide) rfl 1 (by decide) w_343 rfl rfl ?_
      refine j_getW C dX8_rain_23 inX2 rfl (by decide) rfl 0 (by decide) w_117 rfl rfl ?_
      refine j_iload_n C dX8_rain_26 1 rfl ?_
      refine j_iload_n C dX8_rain_27 2 rfl ?_
      obtain ⟨c28_1, h⟩ := jchk h
      refine j_iastW C dX8_rain_28 (by decide) (fun _ => rfl) (jin_vp c28_1) (fun s28_2 hs28_2 => ?_)
      have h := jlet h hs28_2
      refine j_aload_n C dX8_rain_29 0 rfl ?_
      obtain ⟨p30, he30, h⟩ := jbind h
      refine j_cV0 C dX8_rain_30 (m_X8_outlookChanged s28_2 he30) kc_X8_outlookChanged w_380 w_382 wp_0 w_1 jy_X8_outlookChanged ⟨⟨Nat.le_of_ble_eq_true rfl, Nat.le_of_ble_eq_true rfl⟩, ⟨rfl, rfl⟩, ⟨Nat.zero_le _, Nat.zero_le _⟩⟩ (Nat.le_of_ble_eq_true rfl) (by decide) rfl (r := (RX8, TX8, 9)) rfl rfl rfl (fun _ _ h => h) ?_
      refine j_iconst C dX8_rain_33 (v := 1) (by decide) ?_
      exact j_iret C dX8_rain_34 rfl (jb_nar true) (Nat.zero_le _) (Nat.zero_le _) (jretWB h)
    · have h := jite_f h (jb_f cq)
      refine j_iconst C dX8_rain_17 (v := 0) (by decide) ?_
      exact j_iret C dX8_rain_18 rfl (jb_nar false) (Nat.zero_le _) (Nat.zero_le _) (jretWB h)
-- X8_isDoor
def F_X8_isDoor (v1 : Int32) (s : jS) : Bool :=
  (F_X8_within v1 0 ((s.1 0 0) - 1))
def rm_X8_isDoor : Room := { frames := 1, cells := 0, slots := 0, locals := 22 }
set_option maxHeartbeats 4000000 in
set_option maxRecDepth 100000 in
theorem m_X8_isDoor {l : Launch} {D : va_G} {G : Nat → ClassId} {KV : jV} {ad : Nat → Nat} {nd : Nat} (v1 : Int32) (s : jS) {p : Bool} (h : F_X8_isDoor v1 s = p) : jM l D G KV yX8_isDoor cX8_isDoor 2 (some .boolean) rm_X8_isDoor [.ref (ad 0), .int v1] (jw 54 (cellC G nd) ad s) 0 0 (fun v u => v = some (.int (jb p)) ∧ u = jw 54 (cellC G nd) ad s) := by
  refine jM.of (by decide) (Nat.le_of_ble_eq_true rfl) ?_
  intro K C
  unfold F_X8_isDoor at h
  show K 0 0 (jw 54 (cellC G nd) ad s) 0 [(0, .ref (ad 0)), (1, .int v1)] []
  refine j_iload_n C dX8_isDoor_0 1 rfl ?_
  refine j_iconst C dX8_isDoor_1 (v := 0) (by decide) ?_
  refine j_aload_n C dX8_isDoor_2 0 rfl ?_
  refine j_getW C dX8_isDoor_3 inX8 rfl (by decide) rfl 0 (by decide) w_342 rfl rfl ?_
  refine j_iconst C dX8_isDoor_6 (v := 1) (by decide) ?_
  refine j_isub C dX8_isDoor_7 ?_
  refine j_cS1 C dX8_isDoor_8 (m_X8_within v1 0 ((s.1 0 0) - 1) rfl) kc_X8_within w_377 w_378 w_1 jy_X8_within ⟨⟨Nat.le_of_ble_eq_true rfl, Nat.le_of_ble_eq_true rfl⟩, ⟨rfl, rfl⟩, ⟨Nat.zero_le _, Nat.zero_le _⟩⟩ (Nat.le_of_ble_eq_true rfl) rfl (fun _ _ h => h) ?_
  exact j_iret C dX8_isDoor_11 rfl (jb_nar (F_X8_within v1 0 ((s.1 0 0) - 1))) (Nat.zero_le _) (Nat.zero_le _) (jretTB h)
-- X8_mood
def F_X8_mood (v1 : Int32) (v2 : Int32) (s : jS) : Option (Bool × jS) :=
  (if (F_X8_isDoor v1 s) = true then (if (F_X8_within v2 0 9) = true then (if jin v1 8 = true then (jl (upI s 20 (Int32.toNatClampNeg v1) v2) fun s29_2 => ((F_X8_outlookChanged s29_2).bind fun p31 => some (true, p31))) else none) else some (false, s)) else some (false, s))
def rm_X8_mood : Room := { frames := 2, cells := 0, slots := 0, locals := 43 }
set_option maxHeartbeats 4000000 in
set_option maxRecDepth 100000 in
theorem m_X8_mood {l : Launch} {D : va_G} {G : Nat → ClassId} {KV : jV} {ad : Nat → Nat} {nd : Nat} (v1 : Int32) (v2 : Int32) (s : jS) {p : Bool × jS} (h : F_X8_mood v1 v2 s = some p) : jM l D G KV yX8_mood cX8_mood 3 (some .boolean) rm_X8_mood [.ref (ad 0), .int v1, .int v2] (jw 54 (cellC G nd) ad s) 0 0 (fun v u => v = some (.int (jb p.1)) ∧ u = jw 54 (cellC G nd) ad p.2) := by
  refine jM.of (by decide) (Nat.le_of_ble_eq_true rfl) ?_
  intro K C
  unfold F_X8_mood at h
  show K 0 0 (jw 54 (cellC G nd) ad s) 0 [(0, .ref (ad 0)), (1, .int v1), (2, .int v2)] []
  refine j_aload_n C dX8_mood_0 0 rfl ?_
  refine j_iload_n C dX8_mood_1 1 rfl ?_
  refine j_cV1 C dX8_mood_2 (m_X8_isDoor v1 s rfl) kc_X8_isDoor w_396 w_398 wp_1 w_1 jy_X8_isDoor ⟨⟨Nat.le_of_ble_eq_true rfl, Nat.le_of_ble_eq_true rfl⟩, ⟨rfl, rfl⟩, ⟨Nat.zero_le _, Nat.zero_le _⟩⟩ (Nat.le_of_ble_eq_true rfl) (by decide) rfl (r := (RX8, TX8, 9)) rfl rfl rfl (fun _ _ h => h) ?_
  refine j_if_eq C dX8_mood_5 (tgt := 18) (by decide) (fun cq => ?_) (fun cq => ?_)
  · have h := jite_f h (jb_f cq)
    refine j_iconst C dX8_mood_18 (v := 0) (by decide) ?_
    exact j_iret C dX8_mood_19 rfl (jb_nar false) (Nat.zero_le _) (Nat.zero_le _) (jretWB h)
  · have h := jite_t h (jb_t cq)
    refine j_iload_n C dX8_mood_8 2 rfl ?_
    refine j_iconst C dX8_mood_9 (v := 0) (by decide) ?_
    refine j_bipush C dX8_mood_10 (v := 9) (by decide) ?_
    refine j_cS1 C dX8_mood_12 (m_X8_within v2 0 9 rfl) kc_X8_within w_377 w_378 w_1 jy_X8_within ⟨⟨Nat.le_of_ble_eq_true rfl, Nat.le_of_ble_eq_true rfl⟩, ⟨rfl, rfl⟩, ⟨Nat.zero_le _, Nat.zero_le _⟩⟩ (Nat.le_of_ble_eq_true rfl) rfl (fun _ _ h => h) ?_
    refine j_if_ne C dX8_mood_15 (tgt := 20) (by decide) (fun cq => ?_) (fun cq => ?_)
    · have h := jite_t h (jb_t cq)
      refine j_aload_n C dX8_mood_20 0 rfl ?_
      refine j_getW C dX8_mood_21 inX8 rfl (by decide) rfl 1 (by decide) w_343 rfl rfl ?_
      refine j_getW C dX8_mood_24 inX2 rfl (by decide) rfl 1 (by decide) w_120 rfl rfl ?_
      refine j_iload_n C dX8_mood_27 1 rfl ?_
      refine j_iload_n C dX8_mood_28 2 rfl ?_
      obtain ⟨c29_1, h⟩ := jchk h
      refine j_iastW C dX8_mood_29 (by decide) (fun _ => rfl) (jin_vp c29_1) (fun s29_2 hs29_2 => ?_)
      have h := jlet h hs29_2
      refine j_aload_n C dX8_mood_30 0 rfl ?_
      obtain ⟨p31, he31, h⟩ := jbind h
      refine j_cV0 C dX8_mood_31 (m_X8_outlookChanged s29_2 he31) kc_X8_outlookChanged w_380 w_382 wp_0 w_1 jy_X8_outlookChanged ⟨⟨Nat.le_of_ble_eq_true rfl, Nat.le_of_ble_eq_true rfl⟩, ⟨rfl, rfl⟩, ⟨Nat.zero_le _, Nat.zero_le _⟩⟩ (Nat.le_of_ble_eq_true rfl) (by decide) rfl (r := (RX8, TX8, 9)) rfl rfl rfl (fun _ _ h => h) ?_
      refine j_iconst C dX8_mood_34 (v := 1) (by decide) ?_
      exact j_iret C dX8_mood_35 rfl (jb_nar true) (Nat.zero_le _) (Nat.zero_le _) (jretWB h)
    · have h := jite_f h (jb_f cq)
      refine j_iconst C dX8_mood_18 (v := 0) (by decide) ?_
      exact j_iret C dX8_mood_19 rfl (jb_nar false) (Nat.zero_le _) (Nat.zero_le _) (jretWB h)
-- X8_moods
def B_X8_moods_22 (n : Nat) (q : Int32 × Int32 × jS) : Option ((Int32 × Int32 × jS) ⊕ (Int32 × Int32 × jS)) :=
  (if (q.2.2.1 0 0) ≤ q.2.1 then some (.inr (q.1, q.2.1, q.2.2)) else (if jin q.2.1 8 = true then (jl (upI q.2.2 20 (Int32.toNatClampNeg q.2.1) (q.1 - q.1 / 10 * 10)) fun s42_2 => some (.inl ((((q.1 * 197) + 59) - ((q.1 * 197) + 59) / 30113 * 30113), (q.2.1 + 1), s42_2))) else none))
def F_X8_moods (n : Nat) (v1 : Int32) (s : jS) : Option (Int32 × jS) :=
  (if (F_X8_within v1 0 9999) = true then ((lp (B_X8_moods_22 n) n (((v1 * 5) + 8), 0, s)).bind fun e22 => ((F_X8_outlookChanged e22.2.2).bind fun p63 => some ((p63.1 20 (Int32.toNatClampNeg 0)), p63))) else some ((-1), s))
def rm_X8_moods : Room := { frames := 2, cells := 0, slots := 0, locals := 40 }
set_option maxHeartbeats 4000000 in
set_option maxRecDepth 100000 in
theorem m_X8_moods {l : Launch} {D : va_G} {G : Nat → ClassId} {KV : jV} {ad : Nat → Nat} {nd : Nat} (n : Nat) (v1 : Int32) (s : jS) {p : Int32 × jS} (h : F_X8_moods n v1 s = some p) : jM l D G KV yX8_moods cX8_moods 4 (some .int) rm_X8_moods [.ref (ad 0), .int v1] (jw 54 (cellC G nd) ad s) 0 0 (fun v u => v = some (.int p.1) ∧ u = jw 54 (cellC G nd) ad p.2) := by
  refine jM.of (by decide) (Nat.le_of_ble_eq_true rfl) ?_
  intro K C
  unfold F_X8_moods at h
  have lo22 : ∀ (s : jS) (k : Nat) (q : Int32 × Int32 × jS) (e : Int32 × Int32 × jS), lp (B_X8_moods_22 n) k q = some e → K 0 0 (jw 54 (cellC G nd) ad e.2.2) 62 [(0, .ref (ad 0))] [] → K 0 0 (jw 54 (cellC G nd) ad q.2.2) 22 [(0, .ref (ad 0)), (2, .int q.1), (3, .int q.2.1)] [] := by
    intro s k q e he hE
    refine jlp (KH := fun q => K 0 0 (jw 54 (cellC G nd) ad q.2.2) 22 [(0, .ref (ad 0)), (2, .int q.1), (3, .int q.2.1)] []) (KE := fun e => K 0 0 (jw 54 (cellC G nd) ad e.2.2) 62 [(0, .ref (ad 0))] []) ?_ k q e he hE
    intro q o hb hin hout
    unfold B_X8_moods_22 at hb
    show K 0 0 (jw 54 (cellC G nd) ad q.2.2) 22 [(0, .ref (ad 0)), (2, .int q.1), (3, .int q.2.1)] []
    refine j_iload_n C dX8_moods_22 2 rfl ?_
    refine j_aload_n C dX8_moods_23 0 rfl ?_
    refine j_getW C dX8_moods_24 inX8 rfl (by decide) rfl 0 (by decide) w_342 rfl rfl ?_
    refine j_icmp_ge C dX8_moods_27 (tgt := 62) (by decide) (fun cq => ?_) (fun cq => ?_)
    · have hb := jite_t hb cq
      refine j_loc C [0] rfl ?_
      have hx := hout _ (jinr hb)
      exact hx
    · have hb := jite_f hb cq
      refine j_aload_n C dX8_moods_30 0 rfl ?_
      refine j_getW C dX8_moods_31 inX8 rfl (by decide) rfl 1 (by decide) w_343 rfl rfl ?_
      refine j_getW C dX8_moods_34 inX2 rfl (by decide) rfl 1 (by decide) w_120 rfl rfl ?_
      refine j_iload_n C dX8_moods_37 2 rfl ?_
      refine j_iload_n C dX8_moods_38 1 rfl ?_
      refine j_bipush C dX8_moods_39 (v := 10) (by decide) ?_
      refine j_irem C dX8_moods_41 (by decide) ?_
      obtain ⟨c42_1, hb⟩ := jchk hb
      refine j_iastW C dX8_moods_42 (by decide) (fun _ => rfl) (jin_vp c42_1) (fun s42_2 hs42_2 => ?_)
      have hb := jlet hb hs42_2
      refine j_iload_n C dX8_moods_43 1 rfl ?_
      refine j_sipush C dX8_moods_44 (v := 197) (by decide) ?_
      refine j_imul C dX8_moods_47 ?_
      refine j_bipush C dX8_moods_48 (v := 59) (by decide) ?_
      refine j_iadd C dX8_moods_50 ?_
      refine j_sipush C dX8_moods_51 (v := 30113) (by decide) ?_
      refine j_irem C dX8_moods_54 (by decide) ?_
      refine j_istore_n C dX8_moods_55 (by decide) rfl ?_
      refine j_iinc C dX8_moods_56 2 rfl (v := (q.2.1 + 1)) rfl (by decide) rfl ?_
      refine j_goto C dX8_moods_59 (tgt := 22) (by decide) ?_
      refine j_loc C [2, 1, 0] rfl ?_
      have hx := hin _ (jinl hb)
      exact hx
  show K 0 0 (jw 54 (cellC G nd) ad s) 0 [(0, .ref (ad 0)), (1, .int v1)] []
  refine j_iload_n C dX8_moods_0 1 rfl ?_
  refine j_iconst C dX8_moods_1 (v := 0) (by decide) ?_
  refine j_sipush C dX8_moods_2 (v := 9999) (by decide) ?_
  refine j_cS1 C dX8_moods_5 (m_X8_within v1 0 9999 rfl) kc_X8_within w_377 w_378 w_1 jy_X8_within ⟨⟨Nat.le_of_ble_eq_true rfl, Nat.le_of_ble_eq_true rfl⟩, ⟨rfl, rfl⟩, ⟨Nat.zero_le _, Nat.zero_le _⟩⟩ (Nat.le_of_ble_eq_true rfl) rfl (fun _ _ h => h) ?_
  refine j_if_ne C dX8_moods_8 (tgt := 13) (by decide) (fun cq => ?_) (fun cq => ?_)
  · have h := jite_t h (jb_t cq)
    refine j_iload_n C dX8_moods_13 1 rfl ?_
    refine j_iconst C dX8_moods_14 (v := 5) (by decide) ?_
    refine j_imul C dX8_moods_15 ?_
    refine j_bipush C dX8_moods_16 (v := 8) (by decide) ?_
    refine j_iadd C dX8_moods_18 ?_
    refine j_istore_n C dX8_moods_19 (by decide) rfl ?_
    refine j_iconst C dX8_moods_20 (v := 0) (by decide) ?_
    refine j_istore_n C dX8_moods_21 (by decide) rfl ?_
    refine j_loc C [2, 1, 0] rfl ?_
    obtain ⟨e22, he22, h⟩ := jbind h
    refine lo22  s  n (((v1 * 5) + 8), 0, s) e22 he22 ?_
    refine j_aload_n C dX8_moods_62 0 rfl ?_
    obtain ⟨p63, he63, h⟩ := jbind h
    refine j_cV0 C dX8_moods_63 (m_X8_outlookChanged e22.2.2 he63) kc_X8_outlookChanged w_380 w_382 wp_0 w_1 jy_X8_outlookChanged ⟨⟨Nat.le_of_ble_eq_true rfl, Nat.le_of_ble_eq_true rfl⟩, ⟨rfl, rfl⟩, ⟨Nat.zero_le _, Nat.zero_le _⟩⟩ (Nat.le_of_ble_eq_true rfl) (by decide) rfl (r := (RX8, TX8, 9)) rfl rfl rfl (fun _ _ h => h) ?_
    refine j_aload_n C dX8_moods_66 0 rfl ?_
    refine j_getW C dX8_moods_67 inX8 rfl (by decide) rfl 1 (by decide) w_343 rfl rfl ?_
    refine j_getW C dX8_moods_70 inX2 rfl (by decide) rfl 1 (by decide) w_120 rfl rfl ?_
    refine j_iconst C dX8_moods_73 (v := 0) (by decide) ?_
    refine j_ialdW C dX8_moods_74 (by decide) rfl (jin_vp (i := 0) (n := 8) (by decide)) ?_
    exact j_iret C dX8_moods_75 rfl rfl (Nat.zero_le _) (Nat.zero_le _) (jretWI h)
  · have h := jite_f h (jb_f cq)
    refine j_iconst C dX8_moods_11 (v := (-1)) (by decide) ?_
    exact j_iret C dX8_moods_12 rfl rfl (Nat.zero_le _) (Nat.zero_le _) (jretWI h)
-- X8_hinge
def F_X8_hinge (v1 : Int32) (v2 : Bool) (s : jS) : Option (Bool × jS) :=
  (if (F_X8_isDoor v1 s) = true then (if v2 = true then (if jin v1 8 = true then (jl (upI s 22 (Int32.toNatClampNeg v1) (jb false)) fun s27_2 => ((F_X0_forget s27_2).bind fun p32 => some (true, p32))) else none) else (if jin v1 8 = true then (jl (upI s 22 (Int32.toNatClampNeg v1) (jb true)) fun s27_4 => ((F_X0_forget s27_4).bind fun p32 => some (true, p32))) else none)) else some (false, s))
def rm_X8_hinge : Room := { frames := 2, cells := 0, slots := 0, locals := 43 }
set_option maxHeartbeats 4000000 in
set_option maxRecDepth 100000 in
theorem m_X8_hinge {l : Launch} {D : va_G} {G : Nat → ClassId} {KV : jV} {ad : Nat → Nat} {nd : Nat} (v1 : Int32) (v2 : Bool) (s : jS) {p : Bool × jS} (h : F_X8_hinge v1 v2 s = some p) : jM l D G KV yX8_hinge cX8_hinge 3 (some .boolean) rm_X8_hinge [.ref (ad 0), .int v1, .int (jb v2)] (jw 54 (cellC G nd) ad s) 0 0 (fun v u => v = some (.int (jb p.1)) ∧ u = jw 54 (cellC G nd) ad p.2) := by
  refine jM.of (by decide) (Nat.le_of_ble_eq_true rfl) ?_
  intro K C
  unfold F_X8_hinge at h
  show K 0 0 (jw 54 (cellC G nd) ad s) 0 [(0, .ref (ad 0)), (1, .int v1), (2, .int (jb v2))] []
  refine j_aload_n C dX8_hinge_0 0 rfl ?_
  refine j_iload_n C dX8_hinge_1 1 rfl ?_
  refine j_cV1 C dX8_hinge_2 (m_X8_isDoor v1 s rfl) kc_X8_isDoor w_396 w_398 wp_1 w_1 jy_X8_isDoor ⟨⟨Nat.le_of_ble_eq_true rfl, Nat.le_of_ble_eq_true rfl⟩, ⟨rfl, rfl⟩, ⟨Nat.zero_le _, Nat.zero_le _⟩⟩ (Nat.le_of_ble_eq_true rfl) (by decide) rfl (r := (RX8, TX8, 9)) rfl rfl rfl (fun _ _ h => h) ?_
  refine j_if_ne C dX8_hinge_5 (tgt := 10) (by decide) (fun cq => ?_) (fun cq => ?_)
  · have h := jite_t h (jb_t cq)
    refine j_aload_n C dX8_hinge_10 0 rfl ?_
    refine j_getW C dX8_hinge_11 inX8 rfl (by decide) rfl 1 (by decide) w_343 rfl rfl ?_
    refine j_getW C dX8_hinge_14 inX2 rfl (by decide) rfl 3 (by decide) w_127 rfl rfl ?_
    refine j_iload_n C dX8_hinge_17 1 rfl ?_
    refine j_iload_n C dX8_hinge_18 2 rfl ?_
    refine j_if_ne C dX8_hinge_19 (tgt := 26) (by decide) (fun cq => ?_) (fun cq => ?_)
    · have h := jite_t h (jb_t cq)
      refine j_iconst C dX8_hinge_26 (v := 0) (by decide) ?_
      obtain ⟨c27_1, h⟩ := jchk h
      refine j_zastB C (b := false) dX8_hinge_27 (by decide) (fun _ => rfl) (jin_vp c27_1) (fun s27_2 hs27_2 => ?_)
      have h := jlet h hs27_2
      refine j_aload_n C dX8_hinge_28 0 rfl ?_
      refine j_getW C dX8_hinge_29 inX8 rfl (by decide) rfl 8 (by decide) w_350 rfl rfl ?_
      obtain ⟨p32, he32, h⟩ := jbind h
      refine j_cV0 C dX8_hinge_32 (m_X0_forget s27_2 he32) kc_X0_forget w_388 w_389 w_390 w_10 jy_X0_forget ⟨⟨Nat.le_of_ble_eq_true rfl, Nat.le_of_ble_eq_true rfl⟩, ⟨rfl, rfl⟩, ⟨Nat.zero_le _, Nat.zero_le _⟩⟩ (Nat.le_of_ble_eq_true rfl) (by decide) rfl (r := (RX0, TX0, 8)) rfl rfl rfl (fun _ _ h => h) ?_
      refine j_iconst C dX8_hinge_35 (v := 1) (by decide) ?_
      exact j_iret C dX8_hinge_36 rfl (jb_nar true) (Nat.zero_le _) (Nat.zero_le _) (jretWB h)
    · have h := jite_f h (jb_f cq)
      refine j_iconst C dX8_hinge_22 (v := 1) (by decide) ?_
      refine j_goto C dX8_hinge_23 (tgt := 27) (by decide) ?_
      obtain ⟨c27_3, h⟩ := jchk h
      refine j_zastB C (b := true) dX8_hinge_27 (by decide) (fun _ => rfl) (jin_vp c27_3) (fun s27_4 hs27_4 => ?_)
      have h := jlet h hs27_4
      refine j_aload_n C dX8_hinge_28 0 rfl ?_
      refine j_getW C dX8_hinge_29 inX8 rfl (by decide) rfl 8 (by decide) w_350 rfl rfl ?_
      obtain ⟨p32, he32, h⟩ := jbind h
      refine j_cV0 C dX8_hinge_32 (m_X0_forget s27_4 he32) kc_X0_forget w_388 w_389 w_390 w_10 jy_X0_forget ⟨⟨Nat.le_of_ble_eq_true rfl, Nat.le_of_ble_eq_true rfl⟩, ⟨rfl, rfl⟩, ⟨Nat.zero_le _, Nat.zero_le _⟩⟩ (Nat.le_of_ble_eq_true rfl) (by decide) rfl (r := (RX0, TX0, 8)) rfl rfl rfl (fun _ _ h => h) ?_
      refine j_iconst C dX8_hinge_35 (v := 1) (by decide) ?_
      exact j_iret C dX8_hinge_36 rfl (jb_nar true) (Nat.zero_le _) (Nat.zero_le _) (jretWB h)
  · have h := jite_f h (jb_f cq)
    refine j_iconst C dX8_hinge_8 (v := 0) (by decide) ?_
    exact j_iret C dX8_hinge_9 rfl (jb_nar false) (Nat.zero_le _) (Nat.zero_le _) (jretWB h)
-- X4_add
def B_X4_add_3 (n : Nat) (v1 : Int32) (q : Int32 × jS) : Option ((Int32 × jS) ⊕ (Int32 × jS)) :=
  (if q.1 < 0 then some (.inr (q.1, q.2)) else (if (q.2.1 27 1) < 0 then some (.inl ((q.1 + (-8)), q.2)) else (if 300 ≤ (q.2.1 27 1) then some (.inl ((q.1 + (-8)), q.2)) else (if jin (q.2.1 27 1) 300 = true then (jl (upI q.2 28 (Int32.toNatClampNeg (q.2.1 27 1)) (vp_nar .byte ((Int32.toInt8 (((v1).toUInt32 >>> ((q.1 : Int32).toUInt32 &&& Int32.toUInt32 31)).toInt32)).toInt32))) fun s36_2 => (jl (upI s36_2 27 1 ((s36_2.1 27 1) + 1)) fun s44_3 => some (.inl ((q.1 + (-8)), s44_3)))) else none))))
def F_X4_add (n : Nat) (v1 : Int32) (s : jS) : Option jS :=
  ((lp (B_X4_add_3 n v1) n (24, s)).bind fun e3 => some e3.2)
def rm_X4_add : Room := { frames := 0, cells := 0, slots := 0, locals := 0 }
set_option maxHeartbeats 4000000 in
set_option maxRecDepth 100000 in
theorem m_X4_add {l : Launch} {D : va_G} {G : Nat → ClassId} {KV : jV} {ad : Nat → Nat} {nd : Nat} (n : Nat) (v1 : Int32) (s : jS) {p : jS} (h : F_X4_add n v1 s = some p) : jM l D G KV yX4_add cX4_add 3 none rm_X4_add [.ref (ad 27), .int v1] (jw 54 (cellC G nd) ad s) 0 0 (fun v u => v = none ∧ u = jw 54 (cellC G nd) ad p) := by
  refine jM.of (by decide) (Nat.le_of_ble_eq_true rfl) ?_
  intro K C
  unfold F_X4_add at h
  have lo3 : ∀ (v1 : Int32) (s : jS) (k : Nat) (q : Int32 × jS) (e : Int32 × jS), lp (B_X4_add_3 n v1) k q = some e → K 0 0 (jw 54 (cellC G nd) ad e.2) 53 [] [] → K 0 0 (jw 54 (cellC G nd) ad q.2) 3 [(0, .ref (ad 27)), (1, .int v1), (2, .int q.1)] [] := by
    intro v1 s k q e he hE
    refine jlp (KH := fun q => K 0 0 (jw 54 (cellC G nd) ad q.2) 3 [(0, .ref (ad 27)), (1, .int v1), (2, .int q.1)] []) (KE := fun e => K 0 0 (jw 54 (cellC G nd) ad e.2) 53 [] []) ?_ k q e he hE
    intro q o hb hin hout
    unfold B_X4_add_3 at hb
    show K 0 0 (jw 54 (cellC G nd) ad q.2) 3 [(0, .ref (ad 27)), (1, .int v1), (2, .int q.1)] []
    refine j_iload_n C dX4_add_3 2 rfl ?_
    refine j_if_lt C dX4_add_4 (tgt := 53) (by decide) (fun cq => ?_) (fun cq => ?_)
    · have hb := jite_t hb cq
      refine j_loc C [] rfl ?_
      have hx := hout _ (jinr hb)
      exact hx
    · have hb := jite_f hb cq
      refine j_aload_n C dX4_add_7 0 rfl ?_
      refine j_getW C dX4_add_8 inX4 rfl (by decide) rfl 1 (by decide) w_172 rfl rfl ?_
      refine j_if_lt C dX4_add_11 (tgt := 47) (by decide) (fun cq => ?_) (fun cq => ?_)
      · have hb := jite_t hb cq
        refine j_iinc C dX4_add_47 2 rfl (v := (q.1 + (-8))) rfl (by decide) rfl ?_
        refine j_goto C dX4_add_50 (tgt := 3) (by decide) ?_
        refine j_loc C [1, 2, 0] rfl ?_
        have hx := hin _ (jinl hb)
        exact hx
      · have hb := jite_f hb cq
        refine j_aload_n C dX4_add_14 0 rfl ?_
        refine j_getW C dX4_add_15 inX4 rfl (by decide) rfl 1 (by decide) w_172 rfl rfl ?_
        refine j_sipush C dX4_add_18 (v := 300) (by decide) ?_
        refine j_icmp_ge C dX4_add_21 (tgt := 47) (by decide) (fun cq => ?_) (fun cq => ?_)
        · have hb := jite_t hb cq
          refine j_iinc C dX4_add_47 2 rfl (v := (q.1 + (-8))) rfl (by decide) rfl ?_
          refine j_goto C dX4_add_50 (tgt := 3) (by decide) ?_
          refine j_loc C [1, 2, 0] rfl ?_
          have hx := hin _ (jinl hb)
          exact hx
        · have hb := jite_f hb cq
          refine j_aload_n C dX4_add_24 0 rfl ?_
          refine j_getW C dX4_add_25 inX4 rfl (by decide) rfl 0 (by decide) w_171 rfl rfl ?_
          refine j_aload_n C dX4_add_28 0 rfl ?_
          refine j_getW C dX4_add_29 inX4 rfl (by decide) rfl 1 (by decide) w_172 rfl rfl ?_
          refine j_iload_n C dX4_add_32 1 rfl ?_
          refine j_iload_n C dX4_add_33 2 rfl ?_
          refine j_iushr C dX4_add_34 ?_
          refine j_i2b C dX4_add_35 ?_
          obtain ⟨c36_1, hb⟩ := jchk hb
          refine j_bastW C dX4_add_36 (by decide) (fun _ => rfl) (jin_vp c36_1) (fun s36_2 hs36_2 => ?_)
          have hb := jlet hb hs36_2
          refine j_aload_n C dX4_add_37 0 rfl ?_
          refine j_dup C dX4_add_38 rfl ?_
          refine j_getW C dX4_add_39 inX4 rfl (by decide) rfl 1 (by decide) w_172 rfl rfl ?_
          refine j_iconst C dX4_add_42 (v := 1) (by decide) ?_
          refine j_iadd C dX4_add_43 ?_
          refine j_putI C dX4_add_44 inX4 tyX4 tyX4_ok nmX4 rfl (by decide) 1 rfl rfl (by decide) w_172 rfl rfl rfl rfl (Nat.le_of_ble_eq_true rfl) (fun s44_3 hs44_3 => ?_)
          have hb := jlet hb hs44_3
          refine j_iinc C dX4_add_47 2 rfl (v := (q.1 + (-8))) rfl (by decide) rfl ?_
          refine j_goto C dX4_add_50 (tgt := 3) (by decide) ?_
          refine j_loc C [1, 2, 0] rfl ?_
          have hx := hin _ (jinl hb)
          exact hx
  show K 0 0 (jw 54 (cellC G nd) ad s) 0 [(0, .ref (ad 27)), (1, .int v1)] []
  refine j_bipush C dX4_add_0 (v := 24) (by decide) ?_
  refine j_istore_n C dX4_add_2 (by decide) rfl ?_
  refine j_loc C [1, 2, 0] rfl ?_
  obtain ⟨e3, he3, h⟩ := jbind h
  refine lo3 v1 s  n (24, s) e3 he3 ?_
  exact j_vret C dX4_add_53 rfl (Nat.zero_le _) (Nat.zero_le _) (jretWV h)
-- X8_feed
def F_X8_feed (n : Nat) (v1 : Int32) (v2 : Int32) (v3 : Int32) (v4 : Int32) (v5 : Int32) (s : jS) : Option (Int32 × jS) :=
  (if ((s.1 27 1) + 20) ≤ 300 then ((F_X4_add n v1 s).bind fun p23 => ((F_X4_add n v2 p23).bind fun p31 => ((F_X4_add n v3 p31).bind fun p39 => ((F_X4_add n v4 p39).bind fun p48 => ((F_X4_add n v5 p48).bind fun p57 => some ((p57.1 27 1), p57)))))) else some ((-1), s))
def rm_X8_feed : Room := { frames := 1, cells := 0, slots := 0, locals := 22 }
set_option maxHeartbeats 4000000 in
set_option maxRecDepth 100000 in
theorem m_X8_feed {l : Launch} {D : va_G} {G : Nat → ClassId} {KV : jV} {ad : Nat → Nat} {nd : Nat} (n : Nat) (v1 : Int32) (v2 : Int32) (v3 : Int32) (v4 : Int32) (v5 : Int32) (s : jS) {p : Int32 × jS} (h : F_X8_feed n v1 v2 v3 v4 v5 s = some p) : jM l D G KV yX8_feed cX8_feed 6 (some .int) rm_X8_feed [.ref (ad 0), .int v1, .int v2, .int v3, .int v4, .int v5] (jw 54 (cellC G nd) ad s) 0 0 (fun v u => v = some (.int p.1) ∧ u = jw 54 (cellC G nd) ad p.2) := by
  refine jM.of (by decide) (Nat.le_of_ble_eq_true rfl) ?_
  intro K C
  unfold F_X8_feed at h
  show K 0 0 (jw 54 (cellC G nd) ad s) 0 [(0, .ref (ad 0)), (1, .int v1), (2, .int v2), (3, .int v3), (4, .int v4), (5, .int v5)] []
  refine j_aload_n C dX8_feed_0 0 rfl ?_
  refine j_getW C dX8_feed_1 inX8 rfl (by decide) rfl 4 (by decide) w_346 rfl rfl ?_
  refine j_getW C dX8_feed_4 inX4 rfl (by decide) rfl 1 (by decide) w_173 rfl rfl ?_
  refine j_bipush C dX8_feed_7 (v := 20) (by decide) ?_
  refine j_iadd C dX8_feed_9 ?_
  refine j_sipush C dX8_feed_10 (v := 300) (by decide) ?_
  refine j_icmp_le C dX8_feed_13 (tgt := 18) (by decide) (fun cq => ?_) (fun cq => ?_)
  · have h := jite_t h cq
    refine j_aload_n C dX8_feed_18 0 rfl ?_
    refine j_getW C dX8_feed_19 inX8 rfl (by decide) rfl 4 (by decide) w_346 rfl rfl ?_
    refine j_iload_n C dX8_feed_22 1 rfl ?_
    obtain ⟨p23, he23, h⟩ := jbind h
    refine j_cV0 C dX8_feed_23 (m_X4_add n v1 s he23) kc_X4_add w_412 w_413 w_414 w_6 jy_X4_add ⟨⟨Nat.le_of_ble_eq_true rfl, Nat.le_of_ble_eq_true rfl⟩, ⟨rfl, rfl⟩, ⟨Nat.zero_le _, Nat.zero_le _⟩⟩ (Nat.le_of_ble_eq_true rfl) (by decide) rfl (r := (RX4, TX4, 6)) rfl rfl rfl (fun _ _ h => h) ?_
    refine j_aload_n C dX8_feed_26 0 rfl ?_
    refine j_getW C dX8_feed_27 inX8 rfl (by decide) rfl 4 (by decide) w_346 rfl rfl ?_
    refine j_iload_n C dX8_feed_30 2 rfl ?_
    obtain ⟨p31, he31, h⟩ := jbind h
    refine j_cV0 C dX8_feed_31 (m_X4_add n v2 p23 he31) kc_X4_add w_412 w_413 w_414 w_6 jy_X4_add ⟨⟨Nat.le_of_ble_eq_true rfl, Nat.le_of_ble_eq_true rfl⟩, ⟨rfl, rfl⟩, ⟨Nat.zero_le _, Nat.zero_le _⟩⟩ (Nat.le_of_ble_eq_true rfl) (by decide) rfl (r := (RX4, TX4, 6)) rfl rfl rfl (fun _ _ h => h) ?_
    refine j_aload_n C dX8_feed_34 0 rfl ?_
    refine j_getW C dX8_feed_35 inX8 rfl (by decide) rfl 4 (by decide) w_346 rfl rfl ?_
    refine j_iload_n C dX8_feed_38 3 rfl ?_
    obtain ⟨p39, he39, h⟩ := jbind h
    refine j_cV0 C dX8_feed_39 (m_X4_add n v3 p31 he39) kc_X4_add w_412 w_413 w_414 w_6 jy_X4_add ⟨⟨Nat.le_of_ble_eq_true rfl, Nat.le_of_ble_eq_true rfl⟩, ⟨rfl, rfl⟩, ⟨Nat.zero_le _, Nat.zero_le _⟩⟩ (Nat.le_of_ble_eq_true rfl) (by decide) rfl (r := (RX4, TX4, 6)) rfl rfl rfl (fun _ _ h => h) ?_
    refine j_aload_n C dX8_feed_42 0 rfl ?_
    refine j_getW C dX8_feed_43 inX8 rfl (by decide) rfl 4 (by decide) w_346 rfl rfl ?_
    refine j_iload C dX8_feed_46 4 rfl ?_
    obtain ⟨p48, he48, h⟩ := jbind h
    refine j_cV0 C dX8_feed_48 (m_X4_add n v4 p39 he48) kc_X4_add w_412 w_413 w_414 w_6 jy_X4_add ⟨⟨Nat.le_of_ble_eq_true rfl, Nat.le_of_ble_eq_true rfl⟩, ⟨rfl, rfl⟩, ⟨Nat.zero_le _, Nat.zero_le _⟩⟩ (Nat.le_of_ble_eq_true rfl) (by decide) rfl (r := (RX4, TX4, 6)) rfl rfl rfl (fun _ _ h => h) ?_
    refine j_aload_n C dX8_feed_51 0 rfl ?_
    refine j_getW C dX8_feed_52 inX8 rfl (by decide) rfl 4 (by decide) w_346 rfl rfl ?_
    refine j_iload C dX8_feed_55 5 rfl ?_
    obtain ⟨p57, he57, h⟩ := jbind h
    refine j_cV0 C dX8_feed_57 (m_X4_add n v5 p48 he57) kc_X4_add w_412 w_413 w_414 w_6 jy_X4_add ⟨⟨Nat.le_of_ble_eq_true rfl, Nat.le_of_ble_eq_true rfl⟩, ⟨rfl, rfl⟩, ⟨Nat.zero_le _, Nat.zero_le _⟩⟩ (Nat.le_of_ble_eq_true rfl) (by decide) rfl (r := (RX4, TX4, 6)) rfl rfl rfl (fun _ _ h => h) ?_
    refine j_aload_n C dX8_feed_60 0 rfl ?_
    refine j_getW C dX8_feed_61 inX8 rfl (by decide) rfl 4 (by decide) w_346 rfl rfl ?_
    refine j_getW C dX8_feed_64 inX4 rfl (by decide) rfl 1 (by decide) w_173 rfl rfl ?_
    exact j_iret C dX8_feed_67 rfl rfl (Nat.zero_le _) (Nat.zero_le _) (jretWI h)
  · have h := jite_f h cq
    refine j_iconst C dX8_feed_16 (v := (-1)) (by decide) ?_
    exact j_iret C dX8_feed_17 rfl rfl (Nat.zero_le _) (Nat.zero_le _) (jretWI h)
-- X8_end
def F_X8_end (v1 : Int32) (s : jS) : Option (Int32 × jS) :=
  (if (F_X8_within v1 0 (s.1 27 1)) = true then (jl (upI s 27 1 v1) fun s22_1 => some (v1, s22_1)) else some ((-1), s))
def rm_X8_end : Room := { frames := 1, cells := 0, slots := 0, locals := 22 }
set_option maxHeartbeats 4000000 in
set_option maxRecDepth 100000 in
theorem m_X8_end {l : Launch} {D : va_G} {G : Nat → ClassId} {KV : jV} {ad : Nat → Nat} {nd : Nat} (v1 : Int32) (s : jS) {p : Int32 × jS} (h : F_X8_end v1 s = some p) : jM l D G KV yX8_end cX8_end 2 (some .int) rm_X8_end [.ref (ad 0), .int v1] (jw 54 (cellC G nd) ad s) 0 0 (fun v u => v = some (.int p.1) ∧ u = jw 54 (cellC G nd) ad p.2) := by
  refine jM.of (by decide) (Nat.le_of_ble_eq_true rfl) ?_
  intro K C
  unfold F_X8_end at h
  show K 0 0 (jw 54 (cellC G nd) ad s) 0 [(0, .ref (ad 0)), (1, .int v1)] []
  refine j_iload_n C dX8_end_0 1 rfl ?_
  refine j_iconst C dX8_end_1 (v := 0) (by decide) ?_
  refine j_aload_n C dX8_end_2 0 rfl ?_
  refine j_getW C dX8_end_3 inX8 rfl (by decide) rfl 4 (by decide) w_346 rfl rfl ?_
  refine j_getW C dX8_end_6 inX4 rfl (by decide) rfl 1 (by decide) w_173 rfl rfl ?_
  refine j_cS1 C dX8_end_9 (m_X8_within v1 0 (s.1 27 1) rfl) kc_X8_within w_377 w_378 w_1 jy_X8_within ⟨⟨Nat.le_of_ble_eq_true rfl, Nat.le_of_ble_eq_true rfl⟩, ⟨rfl, rfl⟩, ⟨Nat.zero_le _, Nat.zero_le _⟩⟩ (Nat.le_of_ble_eq_true rfl) rfl (fun _ _ h => h) ?_
  refine j_if_ne C dX8_end_12 (tgt := 17) (by decide) (fun cq => ?_) (fun cq => ?_)
  · have h := jite_t h (jb_t cq)
    refine j_aload_n C dX8_end_17 0 rfl ?_
    refine j_getW C dX8_end_18 inX8 rfl (by decide) rfl 4 (by decide) w_346 rfl rfl ?_
    refine j_iload_n C dX8_end_21 1 rfl ?_
    refine j_putI C dX8_end_22 inX4 tyX4 tyX4_ok nmX4 rfl (by decide) 1 rfl rfl (by decide) w_173 rfl rfl rfl rfl (Nat.le_of_ble_eq_true rfl) (fun s22_1 hs22_1 => ?_)
    have h := jlet h hs22_1
    refine j_iload_n C dX8_end_25 1 rfl ?_
    exact j_iret C dX8_end_26 rfl rfl (Nat.zero_le _) (Nat.zero_le _) (jretWI h)
  · have h := jite_f h (jb_f cq)
    refine j_iconst C dX8_end_15 (v := (-1)) (by decide) ?_
    exact j_iret C dX8_end_16 rfl rfl (Nat.zero_le _) (Nat.zero_le _) (jretWI h)
-- X5_empties
def F_X5_empties (t0 : Nat) (s : jS) : Option jS :=
  (jl (upI s (2 + 4 * t0) 3 0) fun s2_1 => (jl (upI s2_1 (2 + 4 * t0) 4 0) fun s7_2 => (jl (upI s7_2 (2 + 4 * t0) 5 0) fun s12_3 => (jl (upI s12_3 (2 + 4 * t0) 6 (jb false)) fun s17_4 => some s17_4))))
def rm_X5_empties : Room := { frames := 0, cells := 0, slots := 0, locals := 0 }
set_option maxHeartbeats 4000000 in
set_option maxRecDepth 100000 in
theorem m_X5_empties {l : Launch} {D : va_G} {G : Nat → ClassId} {KV : jV} {ad : Nat → Nat} {nd : Nat} (t0 : Nat) (s : jS) (ht0 : t0 < 4) {p : jS} (h : F_X5_empties t0 s = some p) : jM l D G KV yX5_empties cX5_empties 1 none rm_X5_empties [.ref (ad (2 + 4 * t0))] (jw 54 (cellC G nd) ad s) 0 0 (fun v u => v = none ∧ u = jw 54 (cellC G nd) ad p) := by
  refine jM.of (by decide) (Nat.le_of_ble_eq_true rfl) ?_
  intro K C
  unfold F_X5_empties at h
  show K 0 0 (jw 54 (cellC G nd) ad s) 0 [(0, .ref (ad (2 + 4 * t0)))] []
  refine j_aload_n C dX5_empties_0 0 rfl ?_
  refine j_iconst C dX5_empties_1 (v := 0) (by decide) ?_
  refine j_putI C dX5_empties_2 inX5 tyX5 tyX5_ok nmX5 rfl (cTq0 ht0) 3 (cT0 ht0) (cT0 ht0) (by decide) w_45 rfl rfl rfl rfl (Nat.le_of_ble_eq_true rfl) (fun s2_1 hs2_1 => ?_)
  have h := jlet h hs2_1
  refine j_aload_n C dX5_empties_5 0 rfl ?_
  refine j_iconst C dX5_empties_6 (v := 0) (by decide) ?_
  refine j_putI C dX5_empties_7 inX5 tyX5 tyX5_ok nmX5 rfl (cTq0 ht0) 4 (cT0 ht0) (cT0 ht0) (by decide) w_47 rfl rfl rfl rfl (Nat.le_of_ble_eq_true rfl) (fun s7_2 hs7_2 => ?_)
  have h := jlet h hs7_2
  refine j_aload_n C dX5_empties_10 0 rfl ?_
  refine j_iconst C dX5_empties_11 (v := 0) (by decide) ?_
  refine j_putI C dX5_empties_12 inX5 tyX5 tyX5_ok nmX5 rfl (cTq0 ht0) 5 (cT0 ht0) (cT0 ht0) (by decide) w_50 rfl rfl rfl rfl (Nat.le_of_ble_eq_true rfl) (fun s12_3 hs12_3 => ?_)
  have h := jlet h hs12_3
  refine j_aload_n C dX5_empties_15 0 rfl ?_
  refine j_iconst C dX5_empties_16 (v := 0) (by decide) ?_
  refine j_putI C dX5_empties_17 inX5 tyX5 tyX5_ok nmX5 rfl (cTq0 ht0) 6 (x := jb false) (cT0 ht0) (cT0 ht0) (by decide) w_52 rfl rfl (jb_nar false) (jb_fit false) (Nat.le_of_ble_eq_true rfl) (fun s17_4 hs17_4 => ?_)
  have h := jlet h hs17_4
  exact j_vret C dX5_empties_20 rfl (Nat.zero_le _) (Nat.zero_le _) (jretWV h)
-- X4_rewinds
def F_X4_rewinds (s : jS) : Option jS :=
  (jl (upI s 27 5 0) fun s2_1 => some s2_1)
def rm_X4_rewinds : Room := { frames := 0, cells := 0, slots := 0, locals := 0 }
set_option maxHeartbeats 4000000 in
set_option maxRecDepth 100000 in
theorem m_X4_rewinds {l : Launch} {D : va_G} {G : Nat → ClassId} {KV : jV} {ad : Nat → Nat} {nd : Nat} (s : jS) {p : jS} (h : F_X4_rewinds s = some p) : jM l D G KV yX4_rewinds cX4_rewinds 1 none rm_X4_rewinds [.ref (ad 27)] (jw 54 (cellC G nd) ad s) 0 0 (fun v u => v = none ∧ u = jw 54 (cellC G nd) ad p) := by
  refine jM.of (by decide) (Nat.le_of_ble_eq_true rfl) ?_
  intro K C
  unfold F_X4_rewinds at h
  show K 0 0 (jw 54 (cellC G nd) ad s) 0 [(0, .ref (ad 27))] []
  refine j_aload_n C dX4_rewinds_0 0 rfl ?_
  refine j_iconst C dX4_rewinds_1 (v := 0) (by decide) ?_
  refine j_putI C dX4_rewinds_2 inX4 tyX4 tyX4_ok nmX4 rfl (by decide) 5 rfl rfl (by decide) w_180 rfl rfl rfl rfl (Nat.le_of_ble_eq_true rfl) (fun s2_1 hs2_1 => ?_)
  have h := jlet h hs2_1
  exact j_vret C dX4_rewinds_5 rfl (Nat.zero_le _) (Nat.zero_le _) (jretWV h)
-- X4_byteAt
def F_X4_byteAt (v1 : Int32) (s : jS) : Option Int32 :=
  (if v1 < 0 then some (-1) else (if (s.1 27 1) ≤ v1 then some (-1) else (if 300 ≤ v1 then some (-1) else (if jin v1 300 = true then some ((s.1 28 (Int32.toNatClampNeg v1)) &&& (255 : Int32)) else none))))
def rm_X4_byteAt : Room := { frames := 0, cells := 0, slots := 0, locals := 0 }
set_option maxHeartbeats 4000000 in
set_option maxRecDepth 100000 in
theorem m_X4_byteAt {l : Launch} {D : va_G} {G : Nat → ClassId} {KV : jV} {ad : Nat → Nat} {nd : Nat} (v1 : Int32) (s : jS) {p : Int32} (h : F_X4_byteAt v1 s = some p) : jM l D G KV yX4_byteAt cX4_byteAt 2 (some .int) rm_X4_byteAt [.ref (ad 27), .int v1] (jw 54 (cellC G nd) ad s) 0 0 (fun v u => v = some (.int p) ∧ u = jw 54 (cellC G nd) ad s) := by
  refine jM.of (by decide) (Nat.le_of_ble_eq_true rfl) ?_
  intro K C
  unfold F_X4_byteAt at h
  show K 0 0 (jw 54 (cellC G nd) ad s) 0 [(0, .ref (ad 27)), (1, .int v1)] []
  refine j_iload_n C dX4_byteAt_0 1 rfl ?_
  refine j_if_lt C dX4_byteAt_1 (tgt := 32) (by decide) (fun cq => ?_) (fun cq => ?_)
  · have h := jite_t h cq
    refine j_iconst C dX4_byteAt_32 (v := (-1)) (by decide) ?_
    exact j_iret C dX4_byteAt_33 rfl rfl (Nat.zero_le _) (Nat.zero_le _) (jretPI h)
  · have h := jite_f h cq
    refine j_iload_n C dX4_byteAt_4 1 rfl ?_
    refine j_aload_n C dX4_byteAt_5 0 rfl ?_
    refine j_getW C dX4_byteAt_6 inX4 rfl (by decide) rfl 1 (by decide) w_172 rfl rfl ?_
    refine j_icmp_ge C dX4_byteAt_9 (tgt := 32) (by decide) (fun cq => ?_) (fun cq => ?_)
    · have h := jite_t h cq
      refine j_iconst C dX4_byteAt_32 (v := (-1)) (by decide) ?_
      exact j_iret C dX4_byteAt_33 rfl rfl (Nat.zero_le _) (Nat.zero_le _) (jretPI h)
    · have h := jite_f h cq
      refine j_iload_n C dX4_byteAt_12 1 rfl ?_
      refine j_sipush C dX4_byteAt_13 (v := 300) (by decide) ?_
      refine j_icmp_ge C dX4_byteAt_16 (tgt := 32) (by decide) (fun cq => ?_) (fun cq => ?_)
      · have h := jite_t h cq
        refine j_iconst C dX4_byteAt_32 (v := (-1)) (by decide) ?_
        exact j_iret C dX4_byteAt_33 rfl rfl (Nat.zero_le _) (Nat.zero_le _) (jretPI h)
      · have h := jite_f h cq
        refine j_aload_n C dX4_byteAt_19 0 rfl ?_
        refine j_getW C dX4_byteAt_20 inX4 rfl (by decide) rfl 0 (by decide) w_171 rfl rfl ?_
        refine j_iload_n C dX4_byteAt_23 1 rfl ?_
        obtain ⟨c24_1, h⟩ := jchk h
        refine j_baldW C dX4_byteAt_24 (by decide) rfl (jin_vp c24_1) ?_
        refine j_sipush C dX4_byteAt_25 (v := 255) (by decide) ?_
        refine j_iand C dX4_byteAt_28 ?_
        refine j_goto C dX4_byteAt_29 (tgt := 33) (by decide) ?_
        exact j_iret C dX4_byteAt_33 rfl rfl (Nat.zero_le _) (Nat.zero_le _) (jretPI h)
-- X4_isBlank
def F_X4_isBlank (v0 : Int32) : Bool :=
  (if v0 = 32 then true else (if v0 = 10 then true else false))
def rm_X4_isBlank : Room := { frames := 0, cells := 0, slots := 0, locals := 0 }
set_option maxHeartbeats 4000000 in
set_option maxRecDepth 100000 in
theorem m_X4_isBlank {l : Launch} {D : va_G} {G : Nat → ClassId} {KV : jV} {ad : Nat → Nat} {nd : Nat} {s : jS} (v0 : Int32) {p : Bool} (h : F_X4_isBlank v0 = p) : jM l D G KV yX4_isBlank cX4_isBlank 1 (some .boolean) rm_X4_isBlank [.int v0] (jw 54 (cellC G nd) ad s) 0 0 (fun v u => v = some (.int (jb p)) ∧ u = jw 54 (cellC G nd) ad s) := by
  refine jM.of (by decide) (Nat.le_of_ble_eq_true rfl) ?_
  intro K C
  unfold F_X4_isBlank at h
  show K 0 0 (jw 54 (cellC G nd) ad s) 0 [(0, .int v0)] []
  refine j_iload_n C dX4_isBlank_0 0 rfl ?_
  refine j_bipush C dX4_isBlank_1 (v := 32) (by decide) ?_
  refine j_icmp_eq C dX4_isBlank_3 (tgt := 12) (by decide) (fun cq => ?_) (fun cq => ?_)
  · have h := jite_t h cq
    refine j_iconst C dX4_isBlank_12 (v := 1) (by decide) ?_
    refine j_goto C dX4_isBlank_13 (tgt := 17) (by decide) ?_
    exact j_iret C dX4_isBlank_17 rfl (jb_nar true) (Nat.zero_le _) (Nat.zero_le _) (jretTB h)
  · have h := jite_f h cq
    refine j_iload_n C dX4_isBlank_6 0 rfl ?_
    refine j_bipush C dX4_isBlank_7 (v := 10) (by decide) ?_
    refine j_icmp_ne C dX4_isBlank_9 (tgt := 16) (by decide) (fun cq => ?_) (fun cq => ?_)
    · have h := jite_f h cq
      refine j_iconst C dX4_isBlank_16 (v := 0) (by decide) ?_
      exact j_iret C dX4_isBlank_17 rfl (jb_nar false) (Nat.zero_le _) (Nat.zero_le _) (jretTB h)
    · have h := jite_t h cq
      refine j_iconst C dX4_isBlank_12 (v := 1) (by decide) ?_
      refine j_goto C dX4_isBlank_13 (tgt := 17) (by decide) ?_
      exact j_iret C dX4_isBlank_17 rfl (jb_nar true) (Nat.zero_le _) (Nat.zero_le _) (jretTB h)
-- X4_isLetter
def F_X4_isLetter (v0 : Int32) : Bool :=
  (if (F_X8_within v0 97 122) = true then true else (if (F_X8_within v0 65 90) = true then true else false))
def rm_X4_isLetter : Room := { frames := 1, cells := 0, slots := 0, locals := 22 }
set_option maxHeartbeats 4000000 in
set_option maxRecDepth 100000 in
theorem m_X4_isLetter {l : Launch} {D : va_G} {G : Nat → ClassId} {KV : jV} {ad : Nat → Nat} {nd : Nat} {s : jS} (v0 : Int32) {p : Bool} (h : F_X4_isLetter v0 = p) : jM l D G KV yX4_isLetter cX4_isLetter 1 (some .boolean) rm_X4_isLetter [.int v0] (jw 54 (cellC G nd) ad s) 0 0 (fun v u => v = some (.int (jb p)) ∧ u = jw 54 (cellC G nd) ad s) := by
  refine jM.of (by decide) (Nat.le_of_ble_eq_true rfl) ?_
  intro K C
  unfold F_X4_isLetter at h
  show K 0 0 (jw 54 (cellC G nd) ad s) 0 [(0, .int v0)] []
  refine j_iload_n C dX4_isLetter_0 0 rfl ?_
  refine j_bipush C dX4_isLetter_1 (v := 97) (by decide) ?_
  refine j_bipush C dX4_isLetter_3 (v := 122) (by decide) ?_
  refine j_cSN1 C (host := "RoadOfDoors") dX4_isLetter_5 (m_X8_within v0 97 122 rfl) kc_X8_within (by decide +kernel) w_378 w_1 jy_X8_within ⟨⟨Nat.le_of_ble_eq_true rfl, Nat.le_of_ble_eq_true rfl⟩, ⟨rfl, rfl⟩, ⟨Nat.zero_le _, Nat.zero_le _⟩⟩ (Nat.le_of_ble_eq_true rfl) rfl (fun _ _ h => h) ?_
  refine j_if_ne C dX4_isLetter_8 (tgt := 22) (by decide) (fun cq => ?_) (fun cq => ?_)
  · have h := jite_t h (jb_t cq)
    refine j_iconst C dX4_isLetter_22 (v := 1) (by decide) ?_
    refine j_goto C dX4_isLetter_23 (tgt := 27) (by decide) ?_
    exact j_iret C dX4_isLetter_27 rfl (jb_nar true) (Nat.zero_le _) (Nat.zero_le _) (jretTB h)
  · have h := jite_f h (jb_f cq)
    refine j_iload_n C dX4_isLetter_11 0 rfl ?_
    refine j_bipush C dX4_isLetter_12 (v := 65) (by decide) ?_
    refine j_bipush C dX4_isLetter_14 (v := 90) (by decide) ?_
    refine j_cSN1 C (host := "RoadOfDoors") dX4_isLetter_16 (m_X8_within v0 65 90 rfl) kc_X8_within (by decide +kernel) w_378 w_1 jy_X8_within ⟨⟨Nat.le_of_ble_eq_true rfl, Nat.le_of_ble_eq_true rfl⟩, ⟨rfl, rfl⟩, ⟨Nat.zero_le _, Nat.zero_le _⟩⟩ (Nat.le_of_ble_eq_true rfl) rfl (fun _ _ h => h) ?_
    refine j_if_eq C dX4_isLetter_19 (tgt := 26) (by decide) (fun cq => ?_) (fun cq => ?_)
    · have h := jite_f h (jb_f cq)
      refine j_iconst C dX4_isLetter_26 (v := 0) (by decide) ?_
      exact j_iret C dX4_isLetter_27 rfl (jb_nar false) (Nat.zero_le _) (Nat.zero_le _) (jretTB h)
    · have h := jite_t h (jb_t cq)
      refine j_iconst C dX4_isLetter_22 (v := 1) (by decide) ?_
      refine j_goto C dX4_isLetter_23 (tgt := 27) (by decide) ?_
      exact j_iret C dX4_isLetter_27 rfl (jb_nar true) (Nat.zero_le _) (Nat.zero_le _) (jretTB h)
-- X4_spells
def B_X4_spells (i : Nat) (s : jS) (q : Int32) : Option (Int32 ⊕ (Int32 ⊕ Bool)) :=
  (if Int32.ofNat (jlen.getD i 0) ≤ q then some (.inr (.inl q)) else ((F_X4_byteAt ((s.1 27 4) + q) s).bind fun p => (if p = (jbyt.getD i []).getD q.toNatClampNeg 0 then some (.inl (q + 1)) else some (.inr (.inr false)))))
def F_X4_spells (n : Nat) (i : Nat) (s : jS) : Option Bool :=
  (if ((s.1 27 5) - (s.1 27 4)) = Int32.ofNat (jlen.getD i 0) then ((lp (B_X4_spells i s) n 0).bind fun e => Sum.elim (fun _ => some true) (fun r => some r) e) else some false)
def rm_X4_spells : Room := { frames := 7, cells := 0, slots := 0, locals := 200 }
set_option maxHeartbeats 4000000 in
set_option maxRecDepth 100000 in
theorem m_X4_spells {l : Launch} {D : va_G} {G : Nat → ClassId} {KV : jV} {ad : Nat → Nat} {nd : Nat} (n : Nat) (i : Nat) (s : jS) (hi : i < 15) {p : Bool} (h : F_X4_spells n i s = some p) : jM l D G KV yX4_spells cX4_spells 3 (some .boolean) rm_X4_spells [.ref (ad 27), .ref (KV.1.1 i)] (jw 54 (cellC G nd) ad s) 0 0 (fun v u => v = some (.int (jb p)) ∧ u = jw 54 (cellC G nd) ad s) := by
  refine jM.of (by decide) (Nat.le_of_ble_eq_true rfl) ?_
  intro K C
  unfold F_X4_spells at h
  have hl := jlen_le i hi
  have eL : (Int32.ofNat (jlen.getD i 0)).toInt = (jlen.getD i 0 : Int) := nI_toInt (by omega)
  refine j_aload_n C dX4_spells_0 0 rfl ?_
  refine j_getW C dX4_spells_1 inX4 rfl (by decide) rfl 5 (by decide) w_180 rfl rfl ?_
  refine j_aload_n C dX4_spells_4 0 rfl ?_
  refine j_getW C dX4_spells_5 inX4 rfl (by decide) rfl 4 (by decide) w_179 rfl rfl ?_
  refine j_isub C dX4_spells_8 ?_
  refine j_aload_n C dX4_spells_9 1 rfl ?_
  refine j_callStr C (rest := [.int ((s.1 27 5) - (s.1 27 4))]) dX4_spells_10 (ct_length hi) kc_J0_length_8abf5 w_465 w_466 w_467 w_12 jy_J0_length_8abf5 ⟨⟨Nat.le_of_ble_eq_true rfl, Nat.le_of_ble_eq_true rfl⟩, ⟨rfl, rfl⟩, ⟨Nat.zero_le _, Nat.zero_le _⟩⟩ (Nat.le_of_ble_eq_true rfl) hi rfl rfl (fun _ _ h => h) ?_
  refine j_icmp_eq C dX4_spells_13 (tgt := 18) (by decide) (fun cq => ?_) (fun cq => ?_)
  · have h := jite_t h cq
    refine j_iconst C dX4_spells_18 (v := 0) (by decide) ?_
    refine j_istore_n C dX4_spells_19 (by decide) rfl ?_
    obtain ⟨e, he, h⟩ := jbind h
    have hloop : (0 ≤ (0 : Int32).toInt ∧ (0 : Int32).toInt ≤ 7) → K 0 0 (jw 54 (cellC G nd) ad s) 20 [(2, .int 0), (0, .ref (ad 27)), (1, .ref (KV.1.1 i))] [] := by
      refine jlp (KH := fun q => (0 ≤ q.toInt ∧ q.toInt ≤ 7) → K 0 0 (jw 54 (cellC G nd) ad s) 20 [(2, .int q), (0, .ref (ad 27)), (1, .ref (KV.1.1 i))] []) (KE := fun e => Sum.elim (fun _ => some true) (fun r => some r) e = some p) ?_ n 0 e he h
      intro q o hb hin hout hq
      unfold B_X4_spells at hb
      refine j_iload_n C dX4_spells_20 0 rfl ?_
      refine j_aload_n C dX4_spells_21 2 rfl ?_
      refine j_callStr C (rest := [.int q]) dX4_spells_22 (ct_length hi) kc_J0_length_8abf5 w_465 w_466 w_467 w_12 jy_J0_length_8abf5 ⟨⟨Nat.le_of_ble_eq_true rfl, Nat.le_of_ble_eq_true rfl⟩, ⟨rfl, rfl⟩, ⟨Nat.zero_le _, Nat.zero_le _⟩⟩ (Nat.le_of_ble_eq_true rfl) hi rfl rfl (fun _ _ h => h) ?_
      refine j_icmp_ge C dX4_spells_25 (tgt := 54) (by decide) (fun cq => ?_) (fun cq => ?_)
      · have hb := jite_t hb cq
        have hx := hout _ (jinr hb)
        refine j_iconst C dX4_spells_54 (v := 1) (by decide) ?_
        exact j_iret C dX4_spells_55 rfl (jb_nar true) (Nat.zero_le _) (Nat.zero_le _) (jretPB hx)
      · have hb := jite_f hb cq
        have hlt : q.toInt < (jlen.getD i 0 : Int) := by
          rcases Int.lt_or_le q.toInt (jlen.getD i 0 : Int) with z | z
          · exact z
          · exact absurd (Int32.le_iff_toInt_le.mpr (by rw [eL]; exact z)) cq
        have hj : jin q (jlen.getD i 0) = true := jin_iff.mpr ⟨hq.1, hlt⟩
        obtain ⟨b, hb1, hb⟩ := jbind hb
        refine j_aload_n C dX4_spells_28 1 rfl ?_
        refine j_aload_n C dX4_spells_29 1 rfl ?_
        refine j_getW C dX4_spells_30 inX4 rfl (by decide) rfl 4 (by decide) w_179 rfl rfl ?_
        refine j_iload_n C dX4_spells_33 0 rfl ?_
        refine j_iadd C dX4_spells_34 ?_
        refine j_cV1 C (rest := []) dX4_spells_35 (m_X4_byteAt ((s.1 27 4) + q) s hb1) kc_X4_byteAt w_440 w_442 wp_2 w_6 jy_X4_byteAt ⟨⟨Nat.le_of_ble_eq_true rfl, Nat.le_of_ble_eq_true rfl⟩, ⟨rfl, rfl⟩, ⟨Nat.zero_le _, Nat.zero_le _⟩⟩ (Nat.le_of_ble_eq_true rfl) (by decide) rfl (r := (RX4, TX4, 6)) rfl rfl rfl (fun _ _ h => h) ?_
        refine j_aload_n C dX4_spells_38 2 rfl ?_
        refine j_iload_n C dX4_spells_39 0 rfl ?_
        refine j_callStr C (rest := [.int b]) dX4_spells_40 (ct_charAt hi hj) kc_J0_charAt_5068e w_475 w_476 w_477 w_12 jy_J0_charAt_5068e ⟨⟨Nat.le_of_ble_eq_true rfl, Nat.le_of_ble_eq_true rfl⟩, ⟨rfl, rfl⟩, ⟨Nat.zero_le _, Nat.zero_le _⟩⟩ (Nat.le_of_ble_eq_true rfl) hi rfl rfl (fun _ _ h => h) ?_
        refine j_icmp_eq C dX4_spells_43 (tgt := 48) (by decide) (fun cq2 => ?_) (fun cq2 => ?_)
        · have hb := jite_t hb cq2
          have hx := hin _ (jinl hb)
          refine j_iinc C dX4_spells_48 0 rfl (v := (q + 1)) rfl (by decide) rfl ?_
          refine j_goto C dX4_spells_51 (tgt := 20) (by decide) ?_
          have e1 : (q + 1).toInt = q.toInt + 1 := by
            have h1 : (1 : Int32).toInt = 1 := by decide
            rw [Int32.toInt_add, h1]
            exact Int.bmod_eq_of_le (by omega) (by omega)
          exact hx ⟨by rw [e1]; omega, by rw [e1]; omega⟩
        · have hb := jite_f hb cq2
          have hx := hout _ (jinr hb)
          refine j_iconst C dX4_spells_46 (v := 0) (by decide) ?_
          exact j_iret C dX4_spells_47 rfl (jb_nar false) (Nat.zero_le _) (Nat.zero_le _) (jretPB hx)
    exact hloop ⟨by decide, by decide⟩
  · have h := jite_f h cq
    refine j_iconst C dX4_spells_16 (v := 0) (by decide) ?_
    exact j_iret C dX4_spells_17 rfl (jb_nar false) (Nat.zero_le _) (Nat.zero_le _) (jretPB h)
