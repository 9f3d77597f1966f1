theorem dX8_opens_0 : decode cX8_opens 0 = .ok (.aload_n 0, 1) := by decide +kernel
theorem dX8_opens_1 : decode cX8_opens 1 = .ok (.iload_n 1, 1) := by decide +kernel
theorem dX8_opens_2 : decode cX8_opens 2 = .ok (.iload_n 2, 1) := by decide +kernel
theorem dX8_opens_3 : decode cX8_opens 3 = .ok (.iload_n 3, 1) := by decide +kernel
theorem dX8_opens_4 : decode cX8_opens 4 = .ok (.iload 4, 2) := by decide +kernel
theorem dX8_opens_6 : decode cX8_opens 6 = .ok (.iload 5, 2) := by decide +kernel
theorem dX8_opens_8 : decode cX8_opens 8 = .ok (.invokevirtual 133, 3) := by decide +kernel
theorem dX8_opens_11 : decode cX8_opens 11 = .ok (.ifCond .eq 14, 3) := by decide +kernel
theorem dX8_opens_14 : decode cX8_opens 14 = .ok (.iload 6, 2) := by decide +kernel
theorem dX8_opens_16 : decode cX8_opens 16 = .ok (.iconst 0, 1) := by decide +kernel
theorem dX8_opens_17 : decode cX8_opens 17 = .ok (.bipush 9, 2) := by decide +kernel
theorem dX8_opens_19 : decode cX8_opens 19 = .ok (.invokestatic 86, 3) := by decide +kernel
theorem dX8_opens_22 : decode cX8_opens 22 = .ok (.ifCond .ne 5, 3) := by decide +kernel
theorem dX8_opens_25 : decode cX8_opens 25 = .ok (.iconst 0, 1) := by decide +kernel
theorem dX8_opens_26 : decode cX8_opens 26 = .ok (.ireturn, 1) := by decide +kernel
theorem dX8_opens_27 : decode cX8_opens 27 = .ok (.aload_n 0, 1) := by decide +kernel
theorem dX8_opens_28 : decode cX8_opens 28 = .ok (.getfield 41, 3) := by decide +kernel
theorem dX8_opens_31 : decode cX8_opens 31 = .ok (.getfield 103, 3) := by decide +kernel
theorem dX8_opens_34 : decode cX8_opens 34 = .ok (.iload_n 1, 1) := by decide +kernel
theorem dX8_opens_35 : decode cX8_opens 35 = .ok (.baload, 1) := by decide +kernel
theorem dX8_opens_36 : decode cX8_opens 36 = .ok (.ifCond .ne 31, 3) := by decide +kernel
theorem dX8_opens_39 : decode cX8_opens 39 = .ok (.aload_n 0, 1) := by decide +kernel
theorem dX8_opens_40 : decode cX8_opens 40 = .ok (.getfield 65, 3) := by decide +kernel
theorem dX8_opens_43 : decode cX8_opens 43 = .ok (.aload_n 0, 1) := by decide +kernel
theorem dX8_opens_44 : decode cX8_opens 44 = .ok (.getfield 41, 3) := by decide +kernel
theorem dX8_opens_47 : decode cX8_opens 47 = .ok (.getfield 130, 3) := by decide +kernel
theorem dX8_opens_50 : decode cX8_opens 50 = .ok (.iload_n 1, 1) := by decide +kernel
theorem dX8_opens_51 : decode cX8_opens 51 = .ok (.iaload, 1) := by decide +kernel
theorem dX8_opens_52 : decode cX8_opens 52 = .ok (.iload_n 1, 1) := by decide +kernel
theorem dX8_opens_53 : decode cX8_opens 53 = .ok (.iload_n 2, 1) := by decide +kernel
theorem dX8_opens_54 : decode cX8_opens 54 = .ok (.iload_n 3, 1) := by decide +kernel
theorem dX8_opens_55 : decode cX8_opens 55 = .ok (.iload 4, 2) := by decide +kernel
theorem dX8_opens_57 : decode cX8_opens 57 = .ok (.iload 5, 2) := by decide +kernel
theorem dX8_opens_59 : decode cX8_opens 59 = .ok (.iload 6, 2) := by decide +kernel
theorem dX8_opens_61 : decode cX8_opens 61 = .ok (.invokevirtual 137, 3) := by decide +kernel
theorem dX8_opens_64 : decode cX8_opens 64 = .ok (.ifCond .eq 7, 3) := by decide +kernel
theorem dX8_opens_67 : decode cX8_opens 67 = .ok (.iconst 1, 1) := by decide +kernel
theorem dX8_opens_68 : decode cX8_opens 68 = .ok (.goto 4, 3) := by decide +kernel
theorem dX8_opens_71 : decode cX8_opens 71 = .ok (.iconst 0, 1) := by decide +kernel
theorem dX8_opens_72 : decode cX8_opens 72 = .ok (.ireturn, 1) := by decide +kernel
theorem dX8_isTraveller_0 : decode cX8_isTraveller 0 = .ok (.iload_n 1, 1) := by decide +kernel
theorem dX8_isTraveller_1 : decode cX8_isTraveller 1 = .ok (.iconst 0, 1) := by decide +kernel
theorem dX8_isTraveller_2 : decode cX8_isTraveller 2 = .ok (.bipush 9, 2) := by decide +kernel
theorem dX8_isTraveller_4 : decode cX8_isTraveller 4 = .ok (.invokestatic 86, 3) := by decide +kernel
theorem dX8_isTraveller_7 : decode cX8_isTraveller 7 = .ok (.ifCond .eq 41, 3) := by decide +kernel
theorem dX8_isTraveller_10 : decode cX8_isTraveller 10 = .ok (.iload_n 2, 1) := by decide +kernel
theorem dX8_isTraveller_11 : decode cX8_isTraveller 11 = .ok (.iconst 0, 1) := by decide +kernel
theorem dX8_isTraveller_12 : decode cX8_isTraveller 12 = .ok (.iconst 1, 1) := by decide +kernel
theorem dX8_isTraveller_13 : decode cX8_isTraveller 13 = .ok (.aload_n 0, 1) := by decide +kernel
theorem dX8_isTraveller_14 : decode cX8_isTraveller 14 = .ok (.getfield 37, 3) := by decide +kernel
theorem dX8_isTraveller_17 : decode cX8_isTraveller 17 = .ok (.ishl, 1) := by decide +kernel
theorem dX8_isTraveller_18 : decode cX8_isTraveller 18 = .ok (.iconst 1, 1) := by decide +kernel
theorem dX8_isTraveller_19 : decode cX8_isTraveller 19 = .ok (.isub, 1) := by decide +kernel
theorem dX8_isTraveller_20 : decode cX8_isTraveller 20 = .ok (.invokestatic 86, 3) := by decide +kernel
theorem dX8_isTraveller_23 : decode cX8_isTraveller 23 = .ok (.ifCond .eq 25, 3) := by decide +kernel
theorem dX8_isTraveller_26 : decode cX8_isTraveller 26 = .ok (.iload_n 3, 1) := by decide +kernel
theorem dX8_isTraveller_27 : decode cX8_isTraveller 27 = .ok (.invokestatic 82, 3) := by decide +kernel
theorem dX8_isTraveller_30 : decode cX8_isTraveller 30 = .ok (.ifCond .eq 18, 3) := by decide +kernel
theorem dX8_isTraveller_33 : decode cX8_isTraveller 33 = .ok (.iload 4, 2) := by decide +kernel
theorem dX8_isTraveller_35 : decode cX8_isTraveller 35 = .ok (.iconst 0, 1) := by decide +kernel
theorem dX8_isTraveller_36 : decode cX8_isTraveller 36 = .ok (.bipush 99, 2) := by decide +kernel
theorem dX8_isTraveller_38 : decode cX8_isTraveller 38 = .ok (.invokestatic 86, 3) := by decide +kernel
theorem dX8_isTraveller_41 : decode cX8_isTraveller 41 = .ok (.ifCond .eq 7, 3) := by decide +kernel
theorem dX8_isTraveller_44 : decode cX8_isTraveller 44 = .ok (.iconst 1, 1) := by decide +kernel
theorem dX8_isTraveller_45 : decode cX8_isTraveller 45 = .ok (.goto 4, 3) := by decide +kernel
theorem dX8_isTraveller_48 : decode cX8_isTraveller 48 = .ok (.iconst 0, 1) := by decide +kernel
theorem dX8_isTraveller_49 : decode cX8_isTraveller 49 = .ok (.ireturn, 1) := by decide +kernel
theorem dX6_starts_0 : decode cX6_starts 0 = .ok (.aload_n 0, 1) := by decide +kernel
theorem dX6_starts_1 : decode cX6_starts 1 = .ok (.iload_n 1, 1) := by decide +kernel
theorem dX6_starts_2 : decode cX6_starts 2 = .ok (.putfield 15, 3) := by decide +kernel
theorem dX6_starts_5 : decode cX6_starts 5 = .ok (.aload_n 0, 1) := by decide +kernel
theorem dX6_starts_6 : decode cX6_starts 6 = .ok (.iload_n 2, 1) := by decide +kernel
theorem dX6_starts_7 : decode cX6_starts 7 = .ok (.putfield 19, 3) := by decide +kernel
theorem dX6_starts_10 : decode cX6_starts 10 = .ok (.aload_n 0, 1) := by decide +kernel
theorem dX6_starts_11 : decode cX6_starts 11 = .ok (.iload_n 3, 1) := by decide +kernel
theorem dX6_starts_12 : decode cX6_starts 12 = .ok (.putfield 22, 3) := by decide +kernel
theorem dX6_starts_15 : decode cX6_starts 15 = .ok (.aload_n 0, 1) := by decide +kernel
theorem dX6_starts_16 : decode cX6_starts 16 = .ok (.iload 4, 2) := by decide +kernel
theorem dX6_starts_18 : decode cX6_starts 18 = .ok (.putfield 25, 3) := by decide +kernel
theorem dX6_starts_21 : decode cX6_starts 21 = .ok (.aload_n 0, 1) := by decide +kernel
theorem dX6_starts_22 : decode cX6_starts 22 = .ok (.iconst 0, 1) := by decide +kernel
theorem dX6_starts_23 : decode cX6_starts 23 = .ok (.putfield 28, 3) := by decide +kernel
theorem dX6_starts_26 : decode cX6_starts 26 = .ok (.aload_n 0, 1) := by decide +kernel
theorem dX6_starts_27 : decode cX6_starts 27 = .ok (.iconst 0, 1) := by decide +kernel
theorem dX6_starts_28 : decode cX6_starts 28 = .ok (.putfield 31, 3) := by decide +kernel
theorem dX6_starts_31 : decode cX6_starts 31 = .ok (.aload_n 0, 1) := by decide +kernel
theorem dX6_starts_32 : decode cX6_starts 32 = .ok (.iconst 0, 1) := by decide +kernel
theorem dX6_starts_33 : decode cX6_starts 33 = .ok (.putfield 34, 3) := by decide +kernel
theorem dX6_starts_36 : decode cX6_starts 36 = .ok (.return_, 1) := by decide +kernel
theorem dX8_sets_0 : decode cX8_sets 0 = .ok (.aload_n 0, 1) := by decide +kernel
theorem dX8_sets_1 : decode cX8_sets 1 = .ok (.iload_n 1, 1) := by decide +kernel
theorem dX8_sets_2 : decode cX8_sets 2 = .ok (.iload_n 2, 1) := by decide +kernel
theorem dX8_sets_3 : decode cX8_sets 3 = .ok (.iload_n 3, 1) := by decide +kernel
theorem dX8_sets_4 : decode cX8_sets 4 = .ok (.iload 4, 2) := by decide +kernel
theorem dX8_sets_6 : decode cX8_sets 6 = .ok (.invokevirtual 141, 3) := by decide +kernel
theorem dX8_sets_9 : decode cX8_sets 9 = .ok (.ifCond .ne 5, 3) := by decide +kernel
theorem dX8_sets_12 : decode cX8_sets 12 = .ok (.iconst 0, 1) := by decide +kernel
theorem dX8_sets_13 : decode cX8_sets 13 = .ok (.ireturn, 1) := by decide +kernel
theorem dX8_sets_14 : decode cX8_sets 14 = .ok (.aload_n 0, 1) := by decide +kernel
theorem dX8_sets_15 : decode cX8_sets 15 = .ok (.getfield 41, 3) := by decide +kernel
theorem dX8_sets_18 : decode cX8_sets 18 = .ok (.getfield 145, 3) := by decide +kernel
theorem dX8_sets_21 : decode cX8_sets 21 = .ok (.iload_n 1, 1) := by decide +kernel
theorem dX8_sets_22 : decode cX8_sets 22 = .ok (.iload_n 2, 1) := by decide +kernel
theorem dX8_sets_23 : decode cX8_sets 23 = .ok (.iload_n 3, 1) := by decide +kernel
theorem dX8_sets_24 : decode cX8_sets 24 = .ok (.iload 4, 2) := by decide +kernel
theorem dX8_sets_26 : decode cX8_sets 26 = .ok (.invokevirtual 149, 3) := by decide +kernel
theorem dX8_sets_29 : decode cX8_sets 29 = .ok (.iconst 1, 1) := by decide +kernel
theorem dX8_sets_30 : decode cX8_sets 30 = .ok (.ireturn, 1) := by decide +kernel
theorem dX8_canKnock_0 : decode cX8_canKnock 0 = .ok (.aload_n 0, 1) := by decide +kernel
theorem dX8_canKnock_1 : decode cX8_canKnock 1 = .ok (.aload_n 0, 1) := by decide +kernel
theorem dX8_canKnock_2 : decode cX8_canKnock 2 = .ok (.getfield 41, 3) := by decide +kernel
theorem dX8_canKnock_5 : decode cX8_canKnock 5 = .ok (.getfield 145, 3) := by decide +kernel
theorem dX8_canKnock_8 : decode cX8_canKnock 8 = .ok (.getfield 190, 3) := by decide +kernel
theorem dX8_canKnock_11 : decode cX8_canKnock 11 = .ok (.invokevirtual 97, 3) := by decide +kernel
theorem dX8_canKnock_14 : decode cX8_canKnock 14 = .ok (.ifCond .eq 40, 3) := by decide +kernel
theorem dX8_canKnock_17 : decode cX8_canKnock 17 = .ok (.iload_n 1, 1) := by decide +kernel
theorem dX8_canKnock_18 : decode cX8_canKnock 18 = .ok (.iconst 1, 1) := by decide +kernel
theorem dX8_canKnock_19 : decode cX8_canKnock 19 = .ok (.bipush 7, 2) := by decide +kernel
theorem dX8_canKnock_21 : decode cX8_canKnock 21 = .ok (.invokestatic 86, 3) := by decide +kernel
theorem dX8_canKnock_24 : decode cX8_canKnock 24 = .ok (.ifCond .eq 30, 3) := by decide +kernel
theorem dX8_canKnock_27 : decode cX8_canKnock 27 = .ok (.iload_n 2, 1) := by decide +kernel
theorem dX8_canKnock_28 : decode cX8_canKnock 28 = .ok (.iconst 0, 1) := by decide +kernel
theorem dX8_canKnock_29 : decode cX8_canKnock 29 = .ok (.iconst 5, 1) := by decide +kernel
theorem dX8_canKnock_30 : decode cX8_canKnock 30 = .ok (.invokestatic 86, 3) := by decide +kernel
theorem dX8_canKnock_33 : decode cX8_canKnock 33 = .ok (.ifCond .eq 21, 3) := by decide +kernel
theorem dX8_canKnock_36 : decode cX8_canKnock 36 = .ok (.iload_n 2, 1) := by decide +kernel
theorem dX8_canKnock_37 : decode cX8_canKnock 37 = .ok (.aload_n 0, 1) := by decide +kernel
theorem dX8_canKnock_38 : decode cX8_canKnock 38 = .ok (.getfield 41, 3) := by decide +kernel
theorem dX8_canKnock_41 : decode cX8_canKnock 41 = .ok (.getfield 145, 3) := by decide +kernel
theorem dX8_canKnock_44 : decode cX8_canKnock 44 = .ok (.getfield 195, 3) := by decide +kernel
theorem dX8_canKnock_47 : decode cX8_canKnock 47 = .ok (.if_icmp .gt 7, 3) := by decide +kernel
theorem dX8_canKnock_50 : decode cX8_canKnock 50 = .ok (.iconst 1, 1) := by decide +kernel
theorem dX8_canKnock_51 : decode cX8_canKnock 51 = .ok (.goto 4, 3) := by decide +kernel
theorem dX8_canKnock_54 : decode cX8_canKnock 54 = .ok (.iconst 0, 1) := by decide +kernel
theorem dX8_canKnock_55 : decode cX8_canKnock 55 = .ok (.ireturn, 1) := by decide +kernel
theorem dX8_hasKey_0 : decode cX8_hasKey 0 = .ok (.iload_n 0, 1) := by decide +kernel
theorem dX8_hasKey_1 : decode cX8_hasKey 1 = .ok (.iload_n 1, 1) := by decide +kernel
theorem dX8_hasKey_2 : decode cX8_hasKey 2 = .ok (.ishr, 1) := by decide +kernel
theorem dX8_hasKey_3 : decode cX8_hasKey 3 = .ok (.iconst 1, 1) := by decide +kernel
theorem dX8_hasKey_4 : decode cX8_hasKey 4 = .ok (.iand, 1) := by decide +kernel
theorem dX8_hasKey_5 : decode cX8_hasKey 5 = .ok (.iconst 1, 1) := by decide +kernel
theorem dX8_hasKey_6 : decode cX8_hasKey 6 = .ok (.if_icmp .ne 7, 3) := by decide +kernel
theorem dX8_hasKey_9 : decode cX8_hasKey 9 = .ok (.iconst 1, 1) := by decide +kernel
theorem dX8_hasKey_10 : decode cX8_hasKey 10 = .ok (.goto 4, 3) := by decide +kernel
theorem dX8_hasKey_13 : decode cX8_hasKey 13 = .ok (.iconst 0, 1) := by decide +kernel
theorem dX8_hasKey_14 : decode cX8_hasKey 14 = .ok (.ireturn, 1) := by decide +kernel
theorem dX6_keepsStep_0 : decode cX6_keepsStep 0 = .ok (.aload_n 0, 1) := by decide +kernel
theorem dX6_keepsStep_1 : decode cX6_keepsStep 1 = .ok (.getfield 34, 3) := by decide +kernel
theorem dX6_keepsStep_4 : decode cX6_keepsStep 4 = .ok (.bipush 30, 2) := by decide +kernel
theorem dX6_keepsStep_6 : decode cX6_keepsStep 6 = .ok (.if_icmp .lt 24, 3) := by decide +kernel
theorem dX6_keepsStep_9 : decode cX6_keepsStep 9 = .ok (.aload_n 0, 1) := by decide +kernel
theorem dX6_keepsStep_10 : decode cX6_keepsStep 10 = .ok (.getfield 9, 3) := by decide +kernel
theorem dX6_keepsStep_13 : decode cX6_keepsStep 13 = .ok (.iconst 1, 1) := by decide +kernel
theorem dX6_keepsStep_14 : decode cX6_keepsStep 14 = .ok (.aload_n 0, 1) := by decide +kernel
theorem dX6_keepsStep_15 : decode cX6_keepsStep 15 = .ok (.getfield 9, 3) := by decide +kernel
theorem dX6_keepsStep_18 : decode cX6_keepsStep 18 = .ok (.iconst 0, 1) := by decide +kernel
theorem dX6_keepsStep_19 : decode cX6_keepsStep 19 = .ok (.bipush 29, 2) := by decide +kernel
theorem dX6_keepsStep_21 : decode cX6_keepsStep 21 = .ok (.invokestatic 43, 3) := by decide +kernel
theorem dX6_keepsStep_24 : decode cX6_keepsStep 24 = .ok (.aload_n 0, 1) := by decide +kernel
theorem dX6_keepsStep_25 : decode cX6_keepsStep 25 = .ok (.bipush 29, 2) := by decide +kernel
theorem dX6_keepsStep_27 : decode cX6_keepsStep 27 = .ok (.putfield 34, 3) := by decide +kernel
theorem dX6_keepsStep_30 : decode cX6_keepsStep 30 = .ok (.aload_n 0, 1) := by decide +kernel
theorem dX6_keepsStep_31 : decode cX6_keepsStep 31 = .ok (.getfield 9, 3) := by decide +kernel
theorem dX6_keepsStep_34 : decode cX6_keepsStep 34 = .ok (.aload_n 0, 1) := by decide +kernel
theorem dX6_keepsStep_35 : decode cX6_keepsStep 35 = .ok (.getfield 34, 3) := by decide +kernel
theorem dX6_keepsStep_38 : decode cX6_keepsStep 38 = .ok (.aload_n 0, 1) := by decide +kernel
theorem dX6_keepsStep_39 : decode cX6_keepsStep 39 = .ok (.getfield 31, 3) := by decide +kernel
theorem dX6_keepsStep_42 : decode cX6_keepsStep 42 = .ok (.bipush 24, 2) := by decide +kernel
theorem dX6_keepsStep_44 : decode cX6_keepsStep 44 = .ok (.imul, 1) := by decide +kernel
theorem dX6_keepsStep_45 : decode cX6_keepsStep 45 = .ok (.aload_n 0, 1) := by decide +kernel
theorem dX6_keepsStep_46 : decode cX6_keepsStep 46 = .ok (.getfield 22, 3) := by decide +kernel
theorem dX6_keepsStep_49 : decode cX6_keepsStep 49 = .ok (.iadd, 1) := by decide +kernel
theorem dX6_keepsStep_50 : decode cX6_keepsStep 50 = .ok (.bipush 10, 2) := by decide +kernel
theorem dX6_keepsStep_52 : decode cX6_keepsStep 52 = .ok (.imul, 1) := by decide +kernel
theorem dX6_keepsStep_53 : decode cX6_keepsStep 53 = .ok (.aload_n 0, 1) := by decide +kernel
theorem dX6_keepsStep_54 : decode cX6_keepsStep 54 = .ok (.getfield 28, 3) := by decide +kernel
theorem dX6_keepsStep_57 : decode cX6_keepsStep 57 = .ok (.iadd, 1) := by decide +kernel
theorem dX6_keepsStep_58 : decode cX6_keepsStep 58 = .ok (.bipush 100, 2) := by decide +kernel
theorem dX6_keepsStep_60 : decode cX6_keepsStep 60 = .ok (.imul, 1) := by decide +kernel
theorem dX6_keepsStep_61 : decode cX6_keepsStep 61 = .ok (.aload_n 0, 1) := by decide +kernel
theorem dX6_keepsStep_62 : decode cX6_keepsStep 62 = .ok (.getfield 25, 3) := by decide +kernel
theorem dX6_keepsStep_65 : decode cX6_keepsStep 65 = .ok (.iadd, 1) := by decide +kernel
theorem dX6_keepsStep_66 : decode cX6_keepsStep 66 = .ok (.iastore, 1) := by decide +kernel
theorem dX6_keepsStep_67 : decode cX6_keepsStep 67 = .ok (.aload_n 0, 1) := by decide +kernel
theorem dX6_keepsStep_68 : decode cX6_keepsStep 68 = .ok (.dup, 1) := by decide +kernel
theorem dX6_keepsStep_69 : decode cX6_keepsStep 69 = .ok (.getfield 34, 3) := by decide +kernel
theorem dX6_keepsStep_72 : decode cX6_keepsStep 72 = .ok (.iconst 1, 1) := by decide +kernel
theorem dX6_keepsStep_73 : decode cX6_keepsStep 73 = .ok (.iadd, 1) := by decide +kernel
theorem dX6_keepsStep_74 : decode cX6_keepsStep 74 = .ok (.putfield 34, 3) := by decide +kernel
theorem dX6_keepsStep_77 : decode cX6_keepsStep 77 = .ok (.return_, 1) := by decide +kernel
theorem dX6_hourGoes_0 : decode cX6_hourGoes 0 = .ok (.aload_n 0, 1) := by decide +kernel
theorem dX6_hourGoes_1 : decode cX6_hourGoes 1 = .ok (.aload_n 0, 1) := by decide +kernel
theorem dX6_hourGoes_2 : decode cX6_hourGoes 2 = .ok (.getfield 22, 3) := by decide +kernel
theorem dX6_hourGoes_5 : decode cX6_hourGoes 5 = .ok (.iconst 1, 1) := by decide +kernel
theorem dX6_hourGoes_6 : decode cX6_hourGoes 6 = .ok (.iadd, 1) := by decide +kernel
theorem dX6_hourGoes_7 : decode cX6_hourGoes 7 = .ok (.bipush 24, 2) := by decide +kernel
theorem dX6_hourGoes_9 : decode cX6_hourGoes 9 = .ok (.irem, 1) := by decide +kernel
theorem dX6_hourGoes_10 : decode cX6_hourGoes 10 = .ok (.putfield 22, 3) := by decide +kernel
theorem dX6_hourGoes_13 : decode cX6_hourGoes 13 = .ok (.return_, 1) := by decide +kernel
theorem dX6_stays_0 : decode cX6_stays 0 = .ok (.aload_n 0, 1) := by decide +kernel
theorem dX6_stays_1 : decode cX6_stays 1 = .ok (.bipush 9, 2) := by decide +kernel
theorem dX6_stays_3 : decode cX6_stays 3 = .ok (.aload_n 0, 1) := by decide +kernel
theorem dX6_stays_4 : decode cX6_stays 4 = .ok (.getfield 28, 3) := by decide +kernel
theorem dX6_stays_7 : decode cX6_stays 7 = .ok (.iconst 1, 1) := by decide +kernel
theorem dX6_stays_8 : decode cX6_stays 8 = .ok (.iadd, 1) := by decide +kernel
theorem dX6_stays_9 : decode cX6_stays 9 = .ok (.invokestatic 37, 3) := by decide +kernel
theorem dX6_stays_12 : decode cX6_stays 12 = .ok (.putfield 28, 3) := by decide +kernel
theorem dX6_stays_15 : decode cX6_stays 15 = .ok (.return_, 1) := by decide +kernel
theorem dX8_knocked_0 : decode cX8_knocked 0 = .ok (.aload_n 0, 1) := by decide +kernel
theorem dX8_knocked_1 : decode cX8_knocked 1 = .ok (.getfield 41, 3) := by decide +kernel
theorem dX8_knocked_4 : decode cX8_knocked 4 = .ok (.getfield 145, 3) := by decide +kernel
theorem dX8_knocked_7 : decode cX8_knocked 7 = .ok (.astore_n 3, 1) := by decide +kernel
theorem dX8_knocked_8 : decode cX8_knocked 8 = .ok (.aload_n 0, 1) := by decide +kernel
theorem dX8_knocked_9 : decode cX8_knocked 9 = .ok (.getfield 41, 3) := by decide +kernel
theorem dX8_knocked_12 : decode cX8_knocked 12 = .ok (.getfield 130, 3) := by decide +kernel
theorem dX8_knocked_15 : decode cX8_knocked 15 = .ok (.aload_n 3, 1) := by decide +kernel
theorem dX8_knocked_16 : decode cX8_knocked 16 = .ok (.getfield 190, 3) := by decide +kernel
theorem dX8_knocked_19 : decode cX8_knocked 19 = .ok (.iaload, 1) := by decide +kernel
theorem dX8_knocked_20 : decode cX8_knocked 20 = .ok (.istore 4, 2) := by decide +kernel
theorem dX8_knocked_22 : decode cX8_knocked 22 = .ok (.aload_n 0, 1) := by decide +kernel
theorem dX8_knocked_23 : decode cX8_knocked 23 = .ok (.getfield 41, 3) := by decide +kernel
theorem dX8_knocked_26 : decode cX8_knocked 26 = .ok (.getfield 103, 3) := by decide +kernel
theorem dX8_knocked_29 : decode cX8_knocked 29 = .ok (.aload_n 3, 1) := by decide +kernel
theorem dX8_knocked_30 : decode cX8_knocked 30 = .ok (.getfield 190, 3) := by decide +kernel
theorem dX8_knocked_33 : decode cX8_knocked 33 = .ok (.baload, 1) := by decide +kernel
theorem dX8_knocked_34 : decode cX8_knocked 34 = .ok (.ifCond .ne 47, 3) := by decide +kernel
theorem dX8_knocked_37 : decode cX8_knocked 37 = .ok (.aload_n 3, 1) := by decide +kernel
theorem dX8_knocked_38 : decode cX8_knocked 38 = .ok (.getfield 201, 3) := by decide +kernel
theorem dX8_knocked_41 : decode cX8_knocked 41 = .ok (.aload_n 3, 1) := by decide +kernel
theorem dX8_knocked_42 : decode cX8_knocked 42 = .ok (.getfield 190, 3) := by decide +kernel
theorem dX8_knocked_45 : decode cX8_knocked 45 = .ok (.invokestatic 204, 3) := by decide +kernel
theorem dX8_knocked_48 : decode cX8_knocked 48 = .ok (.ifCond .ne 33, 3) := by decide +kernel
theorem dX8_knocked_51 : decode cX8_knocked 51 = .ok (.aload_n 0, 1) := by decide +kernel
theorem dX8_knocked_52 : decode cX8_knocked 52 = .ok (.getfield 65, 3) := by decide +kernel
theorem dX8_knocked_55 : decode cX8_knocked 55 = .ok (.iload 4, 2) := by decide +kernel
theorem dX8_knocked_57 : decode cX8_knocked 57 = .ok (.aload_n 3, 1) := by decide +kernel
theorem dX8_knocked_58 : decode cX8_knocked 58 = .ok (.getfield 190, 3) := by decide +kernel
theorem dX8_knocked_61 : decode cX8_knocked 61 = .ok (.aload_n 3, 1) := by decide +kernel
theorem dX8_knocked_62 : decode cX8_knocked 62 = .ok (.getfield 168, 3) := by decide +kernel
theorem dX8_knocked_65 : decode cX8_knocked 65 = .ok (.iload_n 1, 1) := by decide +kernel
theorem dX8_knocked_66 : decode cX8_knocked 66 = .ok (.iload_n 2, 1) := by decide +kernel
theorem dX8_knocked_67 : decode cX8_knocked 67 = .ok (.aload_n 3, 1) := by decide +kernel
theorem dX8_knocked_68 : decode cX8_knocked 68 = .ok (.getfield 193, 3) := by decide +kernel
theorem dX8_knocked_71 : decode cX8_knocked 71 = .ok (.aload_n 3, 1) := by decide +kernel
theorem dX8_knocked_72 : decode cX8_knocked 72 = .ok (.getfield 198, 3) := by decide +kernel
theorem dX8_knocked_75 : decode cX8_knocked 75 = .ok (.invokevirtual 137, 3) := by decide +kernel
theorem dX8_knocked_78 : decode cX8_knocked 78 = .ok (.ifCond .eq 7, 3) := by decide +kernel
theorem dX8_knocked_81 : decode cX8_knocked 81 = .ok (.iconst 1, 1) := by decide +kernel
theorem dX8_knocked_82 : decode cX8_knocked 82 = .ok (.goto 4, 3) := by decide +kernel
theorem dX8_knocked_85 : decode cX8_knocked 85 = .ok (.iconst 0, 1) := by decide +kernel
theorem dX8_knocked_86 : decode cX8_knocked 86 = .ok (.istore 5, 2) := by decide +kernel
theorem dX8_knocked_88 : decode cX8_knocked 88 = .ok (.aload_n 3, 1) := by decide +kernel
theorem dX8_knocked_89 : decode cX8_knocked 89 = .ok (.invokevirtual 264, 3) := by decide +kernel
theorem dX8_knocked_92 : decode cX8_knocked 92 = .ok (.aload_n 3, 1) := by decide +kernel
theorem dX8_knocked_93 : decode cX8_knocked 93 = .ok (.invokevirtual 267, 3) := by decide +kernel
theorem dX8_knocked_96 : decode cX8_knocked 96 = .ok (.iload 5, 2) := by decide +kernel
theorem dX8_knocked_98 : decode cX8_knocked 98 = .ok (.ifCond .eq 31, 3) := by decide +kernel
theorem dX8_knocked_101 : decode cX8_knocked 101 = .ok (.aload_n 3, 1) := by decide +kernel
theorem dX8_knocked_102 : decode cX8_knocked 102 = .ok (.dup, 1) := by decide +kernel
theorem dX8_knocked_103 : decode cX8_knocked 103 = .ok (.getfield 195, 3) := by decide +kernel
theorem dX8_knocked_106 : decode cX8_knocked 106 = .ok (.iload_n 2, 1) := by decide +kernel
theorem dX8_knocked_107 : decode cX8_knocked 107 = .ok (.isub, 1) := by decide +kernel
theorem dX8_knocked_108 : decode cX8_knocked 108 = .ok (.putfield 195, 3) := by decide +kernel
theorem dX8_knocked_111 : decode cX8_knocked 111 = .ok (.aload_n 3, 1) := by decide +kernel
theorem dX8_knocked_112 : decode cX8_knocked 112 = .ok (.dup, 1) := by decide +kernel
theorem dX8_knocked_113 : decode cX8_knocked 113 = .ok (.getfield 190, 3) := by decide +kernel
theorem dX8_knocked_116 : decode cX8_knocked 116 = .ok (.iconst 1, 1) := by decide +kernel
theorem dX8_knocked_117 : decode cX8_knocked 117 = .ok (.iadd, 1) := by decide +kernel
theorem dX8_knocked_118 : decode cX8_knocked 118 = .ok (.putfield 190, 3) := by decide +kernel
theorem dX8_knocked_121 : decode cX8_knocked 121 = .ok (.aload_n 3, 1) := by decide +kernel
theorem dX8_knocked_122 : decode cX8_knocked 122 = .ok (.iconst 0, 1) := by decide +kernel
theorem dX8_knocked_123 : decode cX8_knocked 123 = .ok (.putfield 193, 3) := by decide +kernel
theorem dX8_knocked_126 : decode cX8_knocked 126 = .ok (.goto 7, 3) := by decide +kernel
theorem dX8_knocked_129 : decode cX8_knocked 129 = .ok (.aload_n 3, 1) := by decide +kernel
theorem dX8_knocked_130 : decode cX8_knocked 130 = .ok (.invokevirtual 270, 3) := by decide +kernel
theorem dX8_knocked_133 : decode cX8_knocked 133 = .ok (.iload 5, 2) := by decide +kernel
theorem dX8_knocked_135 : decode cX8_knocked 135 = .ok (.ireturn, 1) := by decide +kernel
theorem dX8_knock_0 : decode cX8_knock 0 = .ok (.aload_n 0, 1) := by decide +kernel
theorem dX8_knock_1 : decode cX8_knock 1 = .ok (.iload_n 1, 1) := by decide +kernel
theorem dX8_knock_2 : decode cX8_knock 2 = .ok (.iload_n 2, 1) := by decide +kernel
theorem dX8_knock_3 : decode cX8_knock 3 = .ok (.invokevirtual 155, 3) := by decide +kernel
theorem dX8_knock_6 : decode cX8_knock 6 = .ok (.ifCond .ne 5, 3) := by decide +kernel
theorem dX8_knock_9 : decode cX8_knock 9 = .ok (.iconst (-1), 1) := by decide +kernel
theorem dX8_knock_10 : decode cX8_knock 10 = .ok (.ireturn, 1) := by decide +kernel
theorem dX8_knock_11 : decode cX8_knock 11 = .ok (.aload_n 0, 1) := by decide +kernel
theorem dX8_knock_12 : decode cX8_knock 12 = .ok (.iload_n 1, 1) := by decide +kernel
theorem dX8_knock_13 : decode cX8_knock 13 = .ok (.iload_n 2, 1) := by decide +kernel
theorem dX8_knock_14 : decode cX8_knock 14 = .ok (.invokevirtual 159, 3) := by decide +kernel
theorem dX8_knock_17 : decode cX8_knock 17 = .ok (.ifCond .eq 7, 3) := by decide +kernel
theorem dX8_knock_20 : decode cX8_knock 20 = .ok (.iconst 1, 1) := by decide +kernel
theorem dX8_knock_21 : decode cX8_knock 21 = .ok (.goto 4, 3) := by decide +kernel
theorem dX8_knock_24 : decode cX8_knock 24 = .ok (.iconst 0, 1) := by decide +kernel
theorem dX8_knock_25 : decode cX8_knock 25 = .ok (.ireturn, 1) := by decide +kernel
theorem dX8_canWait_0 : decode cX8_canWait 0 = .ok (.aload_n 0, 1) := by decide +kernel
theorem dX8_canWait_1 : decode cX8_canWait 1 = .ok (.aload_n 0, 1) := by decide +kernel
theorem dX8_canWait_2 : decode cX8_canWait 2 = .ok (.getfield 41, 3) := by decide +kernel
theorem dX8_canWait_5 : decode cX8_canWait 5 = .ok (.getfield 145, 3) := by decide +kernel
theorem dX8_canWait_8 : decode cX8_canWait 8 = .ok (.getfield 190, 3) := by decide +kernel
theorem dX8_canWait_11 : decode cX8_canWait 11 = .ok (.invokevirtual 97, 3) := by decide +kernel
theorem dX8_canWait_14 : decode cX8_canWait 14 = .ok (.ifCond .eq 17, 3) := by decide +kernel
theorem dX8_canWait_17 : decode cX8_canWait 17 = .ok (.iload_n 1, 1) := by decide +kernel
theorem dX8_canWait_18 : decode cX8_canWait 18 = .ok (.iconst 0, 1) := by decide +kernel
theorem dX8_canWait_19 : decode cX8_canWait 19 = .ok (.bipush 24, 2) := by decide +kernel
theorem dX8_canWait_21 : decode cX8_canWait 21 = .ok (.invokestatic 86, 3) := by decide +kernel
theorem dX8_canWait_24 : decode cX8_canWait 24 = .ok (.ifCond .eq 7, 3) := by decide +kernel
theorem dX8_canWait_27 : decode cX8_canWait 27 = .ok (.iconst 1, 1) := by decide +kernel
theorem dX8_canWait_28 : decode cX8_canWait 28 = .ok (.goto 4, 3) := by decide +kernel
theorem dX8_canWait_31 : decode cX8_canWait 31 = .ok (.iconst 0, 1) := by decide +kernel
theorem dX8_canWait_32 : decode cX8_canWait 32 = .ok (.ireturn, 1) := by decide +kernel
theorem dX8_waited_0 : decode cX8_waited 0 = .ok (.iconst 0, 1) := by decide +kernel
theorem dX8_waited_1 : decode cX8_waited 1 = .ok (.istore_n 2, 1) := by decide +kernel
theorem dX8_waited_2 : decode cX8_waited 2 = .ok (.iload_n 2, 1) := by decide +kernel
theorem dX8_waited_3 : decode cX8_waited 3 = .ok (.iload_n 1, 1) := by decide +kernel
theorem dX8_waited_4 : decode cX8_waited 4 = .ok (.if_icmp .ge 39, 3) := by decide +kernel
theorem dX8_waited_7 : decode cX8_waited 7 = .ok (.aload_n 0, 1) := by decide +kernel
theorem dX8_waited_8 : decode cX8_waited 8 = .ok (.getfield 41, 3) := by decide +kernel
theorem dX8_waited_11 : decode cX8_waited 11 = .ok (.getfield 145, 3) := by decide +kernel
theorem dX8_waited_14 : decode cX8_waited 14 = .ok (.invokevirtual 264, 3) := by decide +kernel
theorem dX8_waited_17 : decode cX8_waited 17 = .ok (.aload_n 0, 1) := by decide +kernel
theorem dX8_waited_18 : decode cX8_waited 18 = .ok (.getfield 41, 3) := by decide +kernel
theorem dX8_waited_21 : decode cX8_waited 21 = .ok (.getfield 145, 3) := by decide +kernel
theorem dX8_waited_24 : decode cX8_waited 24 = .ok (.invokevirtual 267, 3) := by decide +kernel
theorem dX8_waited_27 : decode cX8_waited 27 = .ok (.aload_n 0, 1) := by decide +kernel
theorem dX8_waited_28 : decode cX8_waited 28 = .ok (.getfield 41, 3) := by decide +kernel
theorem dX8_waited_31 : decode cX8_waited 31 = .ok (.getfield 145, 3) := by decide +kernel
theorem dX8_waited_34 : decode cX8_waited 34 = .ok (.invokevirtual 270, 3) := by decide +kernel
theorem dX8_waited_37 : decode cX8_waited 37 = .ok (.iinc 2 1, 3) := by decide +kernel
theorem dX8_waited_40 : decode cX8_waited 40 = .ok (.goto (-38), 3) := by decide +kernel
theorem dX8_waited_43 : decode cX8_waited 43 = .ok (.return_, 1) := by decide +kernel
theorem dX8_later_0 : decode cX8_later 0 = .ok (.aload_n 0, 1) := by decide +kernel
theorem dX8_later_1 : decode cX8_later 1 = .ok (.iload_n 1, 1) := by decide +kernel
theorem dX8_later_2 : decode cX8_later 2 = .ok (.invokevirtual 162, 3) := by decide +kernel
theorem dX8_later_5 : decode cX8_later 5 = .ok (.ifCond .ne 5, 3) := by decide +kernel
theorem dX8_later_8 : decode cX8_later 8 = .ok (.iconst (-1), 1) := by decide +kernel
theorem dX8_later_9 : decode cX8_later 9 = .ok (.ireturn, 1) := by decide +kernel
theorem dX8_later_10 : decode cX8_later 10 = .ok (.aload_n 0, 1) := by decide +kernel
theorem dX8_later_11 : decode cX8_later 11 = .ok (.iload_n 1, 1) := by decide +kernel
theorem dX8_later_12 : decode cX8_later 12 = .ok (.invokevirtual 165, 3) := by decide +kernel
theorem dX8_later_15 : decode cX8_later 15 = .ok (.aload_n 0, 1) := by decide +kernel
theorem dX8_later_16 : decode cX8_later 16 = .ok (.getfield 41, 3) := by decide +kernel
theorem dX8_later_19 : decode cX8_later 19 = .ok (.getfield 145, 3) := by decide +kernel
theorem dX8_later_22 : decode cX8_later 22 = .ok (.getfield 168, 3) := by decide +kernel
theorem dX8_later_25 : decode cX8_later 25 = .ok (.ireturn, 1) := by decide +kernel
theorem dX8_clauseDone_0 : decode cX8_clauseDone 0 = .ok (.iload_n 1, 1) := by decide +kernel
theorem dX8_clauseDone_1 : decode cX8_clauseDone 1 = .ok (.iconst (-1), 1) := by decide +kernel
theorem dX8_clauseDone_2 : decode cX8_clauseDone 2 = .ok (.if_icmp .ne 5, 3) := by decide +kernel
theorem dX8_clauseDone_5 : decode cX8_clauseDone 5 = .ok (.iconst 1, 1) := by decide +kernel
theorem dX8_clauseDone_6 : decode cX8_clauseDone 6 = .ok (.ireturn, 1) := by decide +kernel
theorem dX8_clauseDone_7 : decode cX8_clauseDone 7 = .ok (.iload_n 1, 1) := by decide +kernel
theorem dX8_clauseDone_8 : decode cX8_clauseDone 8 = .ok (.ifCond .ne 24, 3) := by decide +kernel
theorem dX8_clauseDone_11 : decode cX8_clauseDone 11 = .ok (.aload_n 0, 1) := by decide +kernel
theorem dX8_clauseDone_12 : decode cX8_clauseDone 12 = .ok (.iload_n 2, 1) := by decide +kernel
theorem dX8_clauseDone_13 : decode cX8_clauseDone 13 = .ok (.invokevirtual 162, 3) := by decide +kernel
theorem dX8_clauseDone_16 : decode cX8_clauseDone 16 = .ok (.istore_n 3, 1) := by decide +kernel
theorem dX8_clauseDone_17 : decode cX8_clauseDone 17 = .ok (.aload_n 0, 1) := by decide +kernel
theorem dX8_clauseDone_18 : decode cX8_clauseDone 18 = .ok (.iload_n 3, 1) := by decide +kernel
theorem dX8_clauseDone_19 : decode cX8_clauseDone 19 = .ok (.ifCond .eq 7, 3) := by decide +kernel
theorem dX8_clauseDone_22 : decode cX8_clauseDone 22 = .ok (.iload_n 2, 1) := by decide +kernel
theorem dX8_clauseDone_23 : decode cX8_clauseDone 23 = .ok (.goto 4, 3) := by decide +kernel
theorem dX8_clauseDone_26 : decode cX8_clauseDone 26 = .ok (.iconst 0, 1) := by decide +kernel
theorem dX8_clauseDone_27 : decode cX8_clauseDone 27 = .ok (.invokevirtual 165, 3) := by decide +kernel
theorem dX8_clauseDone_30 : decode cX8_clauseDone 30 = .ok (.iload_n 3, 1) := by decide +kernel
theorem dX8_clauseDone_31 : decode cX8_clauseDone 31 = .ok (.ireturn, 1) := by decide +kernel
theorem dX8_clauseDone_32 : decode cX8_clauseDone 32 = .ok (.aload_n 0, 1) := by decide +kernel
theorem dX8_clauseDone_33 : decode cX8_clauseDone 33 = .ok (.iload_n 1, 1) := by decide +kernel
theorem dX8_clauseDone_34 : decode cX8_clauseDone 34 = .ok (.iload_n 2, 1) := by decide +kernel
theorem dX8_clauseDone_35 : decode cX8_clauseDone 35 = .ok (.invokevirtual 155, 3) := by decide +kernel
theorem dX8_clauseDone_38 : decode cX8_clauseDone 38 = .ok (.ifCond .ne 5, 3) := by decide +kernel
theorem dX8_clauseDone_41 : decode cX8_clauseDone 41 = .ok (.iconst 0, 1) := by decide +kernel
theorem dX8_clauseDone_42 : decode cX8_clauseDone 42 = .ok (.ireturn, 1) := by decide +kernel
theorem dX8_clauseDone_43 : decode cX8_clauseDone 43 = .ok (.aload_n 0, 1) := by decide +kernel
theorem dX8_clauseDone_44 : decode cX8_clauseDone 44 = .ok (.iload_n 1, 1) := by decide +kernel
theorem dX8_clauseDone_45 : decode cX8_clauseDone 45 = .ok (.iload_n 2, 1) := by decide +kernel
theorem dX8_clauseDone_46 : decode cX8_clauseDone 46 = .ok (.invokevirtual 159, 3) := by decide +kernel
theorem dX8_clauseDone_49 : decode cX8_clauseDone 49 = .ok (.pop, 1) := by decide +kernel
theorem dX8_clauseDone_50 : decode cX8_clauseDone 50 = .ok (.iconst 1, 1) := by decide +kernel
theorem dX8_clauseDone_51 : decode cX8_clauseDone 51 = .ok (.ireturn, 1) := by decide +kernel
-- X8_opens
def F_X8_opens (n : Nat) (v1 : Int32) (v2 : Int32) (v3 : Int32) (v4 : Int32) (v5 : Int32) (v6 : Int32) (s : jS) : Option (Bool × jS) :=
  (if (F_X8_isKnock v1 v2 v3 v4 v5 s) = true then (if (F_X8_within v6 0 9) = true then (if jin v1 8 = true then (if (jz (s.1 22 (Int32.toNatClampNeg v1))) = true then some (true, s) else ((F_X3_opensBy n (s.1 21 (Int32.toNatClampNeg v1)) v1 v2 v3 v4 v5 v6 s).bind fun p61 => (if p61.1 = true then some (true, p61.2) else some (false, p61.2)))) else none) else some (false, s)) else some (false, s))
def rm_X8_opens : Room := { frames := 3, cells := 0, slots := 0, locals := 76 }
set_option maxHeartbeats 4000000 in
set_option maxRecDepth 100000 in
theorem m_X8_opens {l : Launch} {D : va_G} {G : Nat → ClassId} {KV : jV} {ad : Nat → Nat} {nd : Nat} (n : Nat) (v1 : Int32) (v2 : Int32) (v3 : Int32) (v4 : Int32) (v5 : Int32) (v6 : Int32) (s : jS) {p : Bool × jS} (h : F_X8_opens n v1 v2 v3 v4 v5 v6 s = some p) : jM l D G KV yX8_opens cX8_opens 7 (some .boolean) rm_X8_opens [.ref (ad 0), .int v1, .int v2, .int v3, .int v4, .int v5, .int v6] (jw 54 (cellC G nd) ad s) 0 0 (fun v u => v = some (.int (jb p.1)) ∧ u = jw 54 (cellC G nd) ad p.2) := by
  refine jM.of (by decide) (Nat.le_of_ble_eq_true rfl) ?_
  intro K C
  unfold F_X8_opens at h
  show K 0 0 (jw 54 (cellC G nd) ad s) 0 [(0, .ref (ad 0)), (1, .int v1), (2, .int v2), (3, .int v3), (4, .int v4), (5, .int v5), (6, .int v6)] []
  refine j_aload_n C dX8_opens_0 0 rfl ?_
  refine j_iload_n C dX8_opens_1 1 rfl ?_
  refine j_iload_n C dX8_opens_2 2 rfl ?_
  refine j_iload_n C dX8_opens_3 3 rfl ?_
  refine j_iload C dX8_opens_4 4 rfl ?_
  refine j_iload C dX8_opens_6 5 rfl ?_
  refine j_cV1 C dX8_opens_8 (m_X8_isKnock v1 v2 v3 v4 v5 s rfl) kc_X8_isKnock w_642 w_644 wp_23 w_1 jy_X8_isKnock ⟨⟨Nat.le_of_ble_eq_true rfl, Nat.le_of_ble_eq_true rfl⟩, ⟨rfl, rfl⟩, ⟨Nat.zero_le _, Nat.zero_le _⟩⟩ (Nat.le_of_ble_eq_true rfl) (by decide) rfl (r := (RX8, TX8, 9)) rfl rfl rfl (fun _ _ h => h) ?_
  refine j_if_eq C dX8_opens_11 (tgt := 25) (by decide) (fun cq => ?_) (fun cq => ?_)
  · have h := jite_f h (jb_f cq)
    refine j_iconst C dX8_opens_25 (v := 0) (by decide) ?_
    exact j_iret C dX8_opens_26 rfl (jb_nar false) (Nat.zero_le _) (Nat.zero_le _) (jretWB h)
  · have h := jite_t h (jb_t cq)
    refine j_iload C dX8_opens_14 6 rfl ?_
    refine j_iconst C dX8_opens_16 (v := 0) (by decide) ?_
    refine j_bipush C dX8_opens_17 (v := 9) (by decide) ?_
    refine j_cS1 C dX8_opens_19 (m_X8_within v6 0 9 rfl) kc_X8_within w_377 w_378 w_1 jy_X8_within ⟨⟨Nat.le_of_ble_eq_true rfl, Nat.le_of_ble_eq_true rfl⟩, ⟨rfl, rfl⟩, ⟨Nat.zero_le _, Nat.zero_le _⟩⟩ (Nat.le_of_ble_eq_true rfl) rfl (fun _ _ h => h) ?_
    refine j_if_ne C dX8_opens_22 (tgt := 27) (by decide) (fun cq => ?_) (fun cq => ?_)
    · have h := jite_t h (jb_t cq)
      refine j_aload_n C dX8_opens_27 0 rfl ?_
      refine j_getW C dX8_opens_28 inX8 rfl (by decide) rfl 1 (by decide) w_343 rfl rfl ?_
      refine j_getW C dX8_opens_31 inX2 rfl (by decide) rfl 3 (by decide) w_127 rfl rfl ?_
      refine j_iload_n C dX8_opens_34 1 rfl ?_
      obtain ⟨c35_1, h⟩ := jchk h
      refine j_zaldW C dX8_opens_35 (by decide) rfl (jin_vp c35_1) ?_
      refine j_if_ne C dX8_opens_36 (tgt := 67) (by decide) (fun cq => ?_) (fun cq => ?_)
      · have h := jite_t h (jb_t cq)
        refine j_iconst C dX8_opens_67 (v := 1) (by decide) ?_
        refine j_goto C dX8_opens_68 (tgt := 72) (by decide) ?_
        exact j_iret C dX8_opens_72 rfl (jb_nar true) (Nat.zero_le _) (Nat.zero_le _) (jretWB h)
      · have h := jite_f h (jb_f cq)
        refine j_aload_n C dX8_opens_39 0 rfl ?_
        refine j_getW C dX8_opens_40 inX8 rfl (by decide) rfl 6 (by decide) w_348 rfl rfl ?_
        refine j_aload_n C dX8_opens_43 0 rfl ?_
        refine j_getW C dX8_opens_44 inX8 rfl (by decide) rfl 1 (by decide) w_343 rfl rfl ?_
        refine j_getW C dX8_opens_47 inX2 rfl (by decide) rfl 2 (by decide) w_124 rfl rfl ?_
        refine j_iload_n C dX8_opens_50 1 rfl ?_
        refine j_ialdW C dX8_opens_51 (by decide) rfl (jin_vp c35_1) ?_
        refine j_iload_n C dX8_opens_52 1 rfl ?_
        refine j_iload_n C dX8_opens_53 2 rfl ?_
        refine j_iload_n C dX8_opens_54 3 rfl ?_
        refine j_iload C dX8_opens_55 4 rfl ?_
        refine j_iload C dX8_opens_57 5 rfl ?_
        refine j_iload C dX8_opens_59 6 rfl ?_
        obtain ⟨p61, he61, h⟩ := jbind h
        refine j_cV1 C dX8_opens_61 (m_X3_opensBy n (s.1 21 (Int32.toNatClampNeg v1)) v1 v2 v3 v4 v5 v6 s he61) kc_X3_opensBy w_646 w_647 w_648 w_7 jy_X3_opensBy ⟨⟨Nat.le_of_ble_eq_true rfl, Nat.le_of_ble_eq_true rfl⟩, ⟨rfl, rfl⟩, ⟨Nat.zero_le _, Nat.zero_le _⟩⟩ (Nat.le_of_ble_eq_true rfl) (by decide) rfl (r := (RX3, TX3, 7)) rfl rfl rfl (fun _ _ h => h) ?_
        refine j_if_eq C dX8_opens_64 (tgt := 71) (by decide) (fun cq => ?_) (fun cq => ?_)
        · have h := jite_f h (jb_f cq)
          refine j_iconst C dX8_opens_71 (v := 0) (by decide) ?_
          exact j_iret C dX8_opens_72 rfl (jb_nar false) (Nat.zero_le _) (Nat.zero_le _) (jretWB h)
        · have h := jite_t h (jb_t cq)
          refine j_iconst C dX8_opens_67 (v := 1) (by decide) ?_
          refine j_goto C dX8_opens_68 (tgt := 72) (by decide) ?_
          exact j_iret C dX8_opens_72 rfl (jb_nar true) (Nat.zero_le _) (Nat.zero_le _) (jretWB h)
    · have h := jite_f h (jb_f cq)
      refine j_iconst C dX8_opens_25 (v := 0) (by decide) ?_
      exact j_iret C dX8_opens_26 rfl (jb_nar false) (Nat.zero_le _) (Nat.zero_le _) (jretWB h)
-- X8_isTraveller
def F_X8_isTraveller (v1 : Int32) (v2 : Int32) (v3 : Int32) (v4 : Int32) (s : jS) : Bool :=
  (if (F_X8_within v1 0 9) = true then (if (F_X8_within v2 0 (((1 : Int32) <<< ((s.1 0 0) &&& 31)) - 1)) = true then (if (F_X8_isHour v3) = true then (if (F_X8_within v4 0 99) = true then true else false) else false) else false) else false)
def rm_X8_isTraveller : Room := { frames := 2, cells := 0, slots := 0, locals := 42 }
set_option maxHeartbeats 4000000 in
set_option maxRecDepth 100000 in
theorem m_X8_isTraveller {l : Launch} {D : va_G} {G : Nat → ClassId} {KV : jV} {ad : Nat → Nat} {nd : Nat} (v1 : Int32) (v2 : Int32) (v3 : Int32) (v4 : Int32) (s : jS) {p : Bool} (h : F_X8_isTraveller v1 v2 v3 v4 s = p) : jM l D G KV yX8_isTraveller cX8_isTraveller 5 (some .boolean) rm_X8_isTraveller [.ref (ad 0), .int v1, .int v2, .int v3, .int v4] (jw 54 (cellC G nd) ad s) 0 0 (fun v u => v = some (.int (jb p)) ∧ u = jw 54 (cellC G nd) ad s) := by
  refine jM.of (by decide) (Nat.le_of_ble_eq_true rfl) ?_
  intro K C
  unfold F_X8_isTraveller at h
  show K 0 0 (jw 54 (cellC G nd) ad s) 0 [(0, .ref (ad 0)), (1, .int v1), (2, .int v2), (3, .int v3), (4, .int v4)] []
  refine j_iload_n C dX8_isTraveller_0 1 rfl ?_
  refine j_iconst C dX8_isTraveller_1 (v := 0) (by decide) ?_
  refine j_bipush C dX8_isTraveller_2 (v := 9) (by decide) ?_
  refine j_cS1 C dX8_isTraveller_4 (m_X8_within v1 0 9 rfl) kc_X8_within w_377 w_378 w_1 jy_X8_within ⟨⟨Nat.le_of_ble_eq_true rfl, Nat.le_of_ble_eq_true rfl⟩, ⟨rfl, rfl⟩, ⟨Nat.zero_le _, Nat.zero_le _⟩⟩ (Nat.le_of_ble_eq_true rfl) rfl (fun _ _ h => h) ?_
  refine j_if_eq C dX8_isTraveller_7 (tgt := 48) (by decide) (fun cq => ?_) (fun cq => ?_)
  · have h := jite_f h (jb_f cq)
    refine j_iconst C dX8_isTraveller_48 (v := 0) (by decide) ?_
    exact j_iret C dX8_isTraveller_49 rfl (jb_nar false) (Nat.zero_le _) (Nat.zero_le _) (jretTB h)
  · have h := jite_t h (jb_t cq)
    refine j_iload_n C dX8_isTraveller_10 2 rfl ?_
    refine j_iconst C dX8_isTraveller_11 (v := 0) (by decide) ?_
    refine j_iconst C dX8_isTraveller_12 (v := 1) (by decide) ?_
    refine j_aload_n C dX8_isTraveller_13 0 rfl ?_
    refine j_getW C dX8_isTraveller_14 inX8 rfl (by decide) rfl 0 (by decide) w_342 rfl rfl ?_
    refine j_ishl C dX8_isTraveller_17 ?_
    refine j_iconst C dX8_isTraveller_18 (v := 1) (by decide) ?_
    refine j_isub C dX8_isTraveller_19 ?_
    refine j_cS1 C dX8_isTraveller_20 (m_X8_within v2 0 (((1 : Int32) <<< ((s.1 0 0) &&& 31)) - 1) rfl) kc_X8_within w_377 w_378 w_1 jy_X8_within ⟨⟨Nat.le_of_ble_eq_true rfl, Nat.le_of_ble_eq_true rfl⟩, ⟨rfl, rfl⟩, ⟨Nat.zero_le _, Nat.zero_le _⟩⟩ (Nat.le_of_ble_eq_true rfl) rfl (fun _ _ h => h) ?_
    refine j_if_eq C dX8_isTraveller_23 (tgt := 48) (by decide) (fun cq => ?_) (fun cq => ?_)
    · have h := jite_f h (jb_f cq)
      refine j_iconst C dX8_isTraveller_48 (v := 0) (by decide) ?_
      exact j_iret C dX8_isTraveller_49 rfl (jb_nar false) (Nat.zero_le _) (Nat.zero_le _) (jretTB h)
    · have h := jite_t h (jb_t cq)
      refine j_iload_n C dX8_isTraveller_26 3 rfl ?_
      refine j_cS1 C dX8_isTraveller_27 (m_X8_isHour v3 rfl) kc_X8_isHour w_374 w_375 w_1 jy_X8_isHour ⟨⟨Nat.le_of_ble_eq_true rfl, Nat.le_of_ble_eq_true rfl⟩, ⟨rfl, rfl⟩, ⟨Nat.zero_le _, Nat.zero_le _⟩⟩ (Nat.le_of_ble_eq_true rfl) rfl (fun _ _ h => h) ?_
      refine j_if_eq C dX8_isTraveller_30 (tgt := 48) (by decide) (fun cq => ?_) (fun cq => ?_)
      · have h := jite_f h (jb_f cq)
        refine j_iconst C dX8_isTraveller_48 (v := 0) (by decide) ?_
        exact j_iret C dX8_isTraveller_49 rfl (jb_nar false) (Nat.zero_le _) (Nat.zero_le _) (jretTB h)
      · have h := jite_t h (jb_t cq)
        refine j_iload C dX8_isTraveller_33 4 rfl ?_
        refine j_iconst C dX8_isTraveller_35 (v := 0) (by decide) ?_
        refine j_bipush C dX8_isTraveller_36 (v := 99) (by decide) ?_
        refine j_cS1 C dX8_isTraveller_38 (m_X8_within v4 0 99 rfl) kc_X8_within w_377 w_378 w_1 jy_X8_within ⟨⟨Nat.le_of_ble_eq_true rfl, Nat.le_of_ble_eq_true rfl⟩, ⟨rfl, rfl⟩, ⟨Nat.zero_le _, Nat.zero_le _⟩⟩ (Nat.le_of_ble_eq_true rfl) rfl (fun _ _ h => h) ?_
        refine j_if_eq C dX8_isTraveller_41 (tgt := 48) (by decide) (fun cq => ?_) (fun cq => ?_)
        · have h := jite_f h (jb_f cq)
          refine j_iconst C dX8_isTraveller_48 (v := 0) (by decide) ?_
          exact j_iret C dX8_isTraveller_49 rfl (jb_nar false) (Nat.zero_le _) (Nat.zero_le _) (jretTB h)
        · have h := jite_t h (jb_t cq)
          refine j_iconst C dX8_isTraveller_44 (v := 1) (by decide) ?_
          refine j_goto C dX8_isTraveller_45 (tgt := 49) (by decide) ?_
          exact j_iret C dX8_isTraveller_49 rfl (jb_nar true) (Nat.zero_le _) (Nat.zero_le _) (jretTB h)
-- X6_starts_25
def F_X6_starts_25 (v1 : Int32) (v2 : Int32) (v3 : Int32) (v4 : Int32) (s : jS) : Option jS :=
  (jl (upI s 25 0 v1) fun s2_1 => (jl (upI s2_1 25 1 v2) fun s7_2 => (jl (upI s7_2 25 3 v3) fun s12_3 => (jl (upI s12_3 25 2 v4) fun s18_4 => (jl (upI s18_4 25 4 0) fun s23_5 => (jl (upI s23_5 25 5 0) fun s28_6 => (jl (upI s28_6 25 6 0) fun s33_7 => some s33_7)))))))
def rm_X6_starts_25 : Room := { frames := 0, cells := 0, slots := 0, locals := 0 }
set_option maxHeartbeats 4000000 in
set_option maxRecDepth 100000 in
theorem m_X6_starts_25 {l : Launch} {D : va_G} {G : Nat → ClassId} {KV : jV} {ad : Nat → Nat} {nd : Nat} (v1 : Int32) (v2 : Int32) (v3 : Int32) (v4 : Int32) (s : jS) {p : jS} (h : F_X6_starts_25 v1 v2 v3 v4 s = some p) : jM l D G KV yX6_starts cX6_starts 5 none rm_X6_starts_25 [.ref (ad 25), .int v1, .int v2, .int v3, .int v4] (jw 54 (cellC G nd) ad s) 0 0 (fun v u => v = none ∧ u = jw 54 (cellC G nd) ad p) := by
  refine jM.of (by decide) (Nat.le_of_ble_eq_true rfl) ?_
  intro K C
  unfold F_X6_starts_25 at h
  show K 0 0 (jw 54 (cellC G nd) ad s) 0 [(0, .ref (ad 25)), (1, .int v1), (2, .int v2), (3, .int v3), (4, .int v4)] []
  refine j_aload_n C dX6_starts_0 0 rfl ?_
  refine j_iload_n C dX6_starts_1 1 rfl ?_
  refine j_putI C dX6_starts_2 inX6 tyX6 tyX6_ok nmX6 rfl (by decide) 0 rfl rfl (by decide) w_83 rfl rfl rfl rfl (Nat.le_of_ble_eq_true rfl) (fun s2_1 hs2_1 => ?_)
  have h := jlet h hs2_1
  refine j_aload_n C dX6_starts_5 0 rfl ?_
  refine j_iload_n C dX6_starts_6 2 rfl ?_
  refine j_putI C dX6_starts_7 inX6 tyX6 tyX6_ok nmX6 rfl (by decide) 1 rfl rfl (by decide) w_85 rfl rfl rfl rfl (Nat.le_of_ble_eq_true rfl) (fun s7_2 hs7_2 => ?_)
  have h := jlet h hs7_2
  refine j_aload_n C dX6_starts_10 0 rfl ?_
  refine j_iload_n C dX6_starts_11 3 rfl ?_
  refine j_putI C dX6_starts_12 inX6 tyX6 tyX6_ok nmX6 rfl (by decide) 3 rfl rfl (by decide) w_89 rfl rfl rfl rfl (Nat.le_of_ble_eq_true rfl) (fun s12_3 hs12_3 => ?_)
  have h := jlet h hs12_3
  refine j_aload_n C dX6_starts_15 0 rfl ?_
  refine j_iload C dX6_starts_16 4 rfl ?_
  refine j_putI C dX6_starts_18 inX6 tyX6 tyX6_ok nmX6 rfl (by decide) 2 rfl rfl (by decide) w_87 rfl rfl rfl rfl (Nat.le_of_ble_eq_true rfl) (fun s18_4 hs18_4 => ?_)
  have h := jlet h hs18_4
  refine j_aload_n C dX6_starts_21 0 rfl ?_
  refine j_iconst C dX6_starts_22 (v := 0) (by decide) ?_
  refine j_putI C dX6_starts_23 inX6 tyX6 tyX6_ok nmX6 rfl (by decide) 4 rfl rfl (by decide) w_91 rfl rfl rfl rfl (Nat.le_of_ble_eq_true rfl) (fun s23_5 hs23_5 => ?_)
  have h := jlet h hs23_5
  refine j_aload_n C dX6_starts_26 0 rfl ?_
  refine j_iconst C dX6_starts_27 (v := 0) (by decide) ?_
  refine j_putI C dX6_starts_28 inX6 tyX6 tyX6_ok nmX6 rfl (by decide) 5 rfl rfl (by decide) w_93 rfl rfl rfl rfl (Nat.le_of_ble_eq_true rfl) (fun s28_6 hs28_6 => ?_)
  have h := jlet h hs28_6
  refine j_aload_n C dX6_starts_31 0 rfl ?_
  refine j_iconst C dX6_starts_32 (v := 0) (by decide) ?_
  refine j_putI C dX6_starts_33 inX6 tyX6 tyX6_ok nmX6 rfl (by decide) 6 rfl rfl (by decide) w_95 rfl rfl rfl rfl (Nat.le_of_ble_eq_true rfl) (fun s33_7 hs33_7 => ?_)
  have h := jlet h hs33_7
  exact j_vret C dX6_starts_36 rfl (Nat.zero_le _) (Nat.zero_le _) (jretWV h)
-- X8_sets
def F_X8_sets (v1 : Int32) (v2 : Int32) (v3 : Int32) (v4 : Int32) (s : jS) : Option (Bool × jS) :=
  (if (F_X8_isTraveller v1 v2 v3 v4 s) = true then ((F_X6_starts_25 v1 v2 v3 v4 s).bind fun p26 => some (true, p26)) else some (false, s))
def rm_X8_sets : Room := { frames := 3, cells := 0, slots := 0, locals := 66 }
set_option maxHeartbeats 4000000 in
set_option maxRecDepth 100000 in
theorem m_X8_sets {l : Launch} {D : va_G} {G : Nat → ClassId} {KV : jV} {ad : Nat → Nat} {nd : Nat} (v1 : Int32) (v2 : Int32) (v3 : Int32) (v4 : Int32) (s : jS) {p : Bool × jS} (h : F_X8_sets v1 v2 v3 v4 s = some p) : jM l D G KV yX8_sets cX8_sets 5 (some .boolean) rm_X8_sets [.ref (ad 0), .int v1, .int v2, .int v3, .int v4] (jw 54 (cellC G nd) ad s) 0 0 (fun v u => v = some (.int (jb p.1)) ∧ u = jw 54 (cellC G nd) ad p.2) := by
  refine jM.of (by decide) (Nat.le_of_ble_eq_true rfl) ?_
  intro K C
  unfold F_X8_sets at h
  show K 0 0 (jw 54 (cellC G nd) ad s) 0 [(0, .ref (ad 0)), (1, .int v1), (2, .int v2), (3, .int v3), (4, .int v4)] []
  refine j_aload_n C dX8_sets_0 0 rfl ?_
  refine j_iload_n C dX8_sets_1 1 rfl ?_
  refine j_iload_n C dX8_sets_2 2 rfl ?_
  refine j_iload_n C dX8_sets_3 3 rfl ?_
  refine j_iload C dX8_sets_4 4 rfl ?_
  refine j_cV1 C dX8_sets_6 (m_X8_isTraveller v1 v2 v3 v4 s rfl) kc_X8_isTraveller w_673 w_675 wp_26 w_1 jy_X8_isTraveller ⟨⟨Nat.le_of_ble_eq_true rfl, Nat.le_of_ble_eq_true rfl⟩, ⟨rfl, rfl⟩, ⟨Nat.zero_le _, Nat.zero_le _⟩⟩ (Nat.le_of_ble_eq_true rfl) (by decide) rfl (r := (RX8, TX8, 9)) rfl rfl rfl (fun _ _ h => h) ?_
  refine j_if_ne C dX8_sets_9 (tgt := 14) (by decide) (fun cq => ?_) (fun cq => ?_)
  · have h := jite_t h (jb_t cq)
    refine j_aload_n C dX8_sets_14 0 rfl ?_
    refine j_getW C dX8_sets_15 inX8 rfl (by decide) rfl 1 (by decide) w_343 rfl rfl ?_
    refine j_getW C dX8_sets_18 inX2 rfl (by decide) rfl 6 (by decide) w_134 rfl rfl ?_
    refine j_iload_n C dX8_sets_21 1 rfl ?_
    refine j_iload_n C dX8_sets_22 2 rfl ?_
    refine j_iload_n C dX8_sets_23 3 rfl ?_
    refine j_iload C dX8_sets_24 4 rfl ?_
    obtain ⟨p26, he26, h⟩ := jbind h
    refine j_cV0 C dX8_sets_26 (m_X6_starts_25 v1 v2 v3 v4 s he26) kc_X6_starts w_677 w_678 w_679 w_5 jy_X6_starts ⟨⟨Nat.le_of_ble_eq_true rfl, Nat.le_of_ble_eq_true rfl⟩, ⟨rfl, rfl⟩, ⟨Nat.zero_le _, Nat.zero_le _⟩⟩ (Nat.le_of_ble_eq_true rfl) (by decide) rfl (r := (RX6, TX6, 8)) rfl rfl rfl (fun _ _ h => h) ?_
    refine j_iconst C dX8_sets_29 (v := 1) (by decide) ?_
    exact j_iret C dX8_sets_30 rfl (jb_nar true) (Nat.zero_le _) (Nat.zero_le _) (jretWB h)
  · have h := jite_f h (jb_f cq)
    refine j_iconst C dX8_sets_12 (v := 0) (by decide) ?_
    exact j_iret C dX8_sets_13 rfl (jb_nar false) (Nat.zero_le _) (Nat.zero_le _) (jretWB h)
-- X8_canKnock
def F_X8_canKnock (v1 : Int32) (v2 : Int32) (s : jS) : Bool :=
  (if (F_X8_isDoor (s.1 25 5) s) = true then (if (F_X8_within v1 1 7) = true then (if (F_X8_within v2 0 5) = true then (if (s.1 25 2) < v2 then false else true) else false) else false) else false)
def rm_X8_canKnock : Room := { frames := 2, cells := 0, slots := 0, locals := 43 }
set_option maxHeartbeats 4000000 in
set_option maxRecDepth 100000 in
theorem m_X8_canKnock {l : Launch} {D : va_G} {G : Nat → ClassId} {KV : jV} {ad : Nat → Nat} {nd : Nat} (v1 : Int32) (v2 : Int32) (s : jS) {p : Bool} (h : F_X8_canKnock v1 v2 s = p) : jM l D G KV yX8_canKnock cX8_canKnock 3 (some .boolean) rm_X8_canKnock [.ref (ad 0), .int v1, .int v2] (jw 54 (cellC G nd) ad s) 0 0 (fun v u => v = some (.int (jb p)) ∧ u = jw 54 (cellC G nd) ad s) := by
  refine jM.of (by decide) (Nat.le_of_ble_eq_true rfl) ?_
  intro K C
  unfold F_X8_canKnock at h
  show K 0 0 (jw 54 (cellC G nd) ad s) 0 [(0, .ref (ad 0)), (1, .int v1), (2, .int v2)] []
  refine j_aload_n C dX8_canKnock_0 0 rfl ?_
  refine j_aload_n C dX8_canKnock_1 0 rfl ?_
  refine j_getW C dX8_canKnock_2 inX8 rfl (by decide) rfl 1 (by decide) w_343 rfl rfl ?_
  refine j_getW C dX8_canKnock_5 inX2 rfl (by decide) rfl 6 (by decide) w_134 rfl rfl ?_
  refine j_getW C dX8_canKnock_8 inX6 rfl (by decide) rfl 5 (by decide) w_94 rfl rfl ?_
  refine j_cV1 C dX8_canKnock_11 (m_X8_isDoor (s.1 25 5) s rfl) kc_X8_isDoor w_396 w_398 wp_1 w_1 jy_X8_isDoor ⟨⟨Nat.le_of_ble_eq_true rfl, Nat.le_of_ble_eq_true rfl⟩, ⟨rfl, rfl⟩, ⟨Nat.zero_le _, Nat.zero_le _⟩⟩ (Nat.le_of_ble_eq_true rfl) (by decide) rfl (r := (RX8, TX8, 9)) rfl rfl rfl (fun _ _ h => h) ?_
  refine j_if_eq C dX8_canKnock_14 (tgt := 54) (by decide) (fun cq => ?_) (fun cq => ?_)
  · have h := jite_f h (jb_f cq)
    refine j_iconst C dX8_canKnock_54 (v := 0) (by decide) ?_
    exact j_iret C dX8_canKnock_55 rfl (jb_nar false) (Nat.zero_le _) (Nat.zero_le _) (jretTB h)
  · have h := jite_t h (jb_t cq)
    refine j_iload_n C dX8_canKnock_17 1 rfl ?_
    refine j_iconst C dX8_canKnock_18 (v := 1) (by decide) ?_
    refine j_bipush C dX8_canKnock_19 (v := 7) (by decide) ?_
    refine j_cS1 C dX8_canKnock_21 (m_X8_within v1 1 7 rfl) kc_X8_within w_377 w_378 w_1 jy_X8_within ⟨⟨Nat.le_of_ble_eq_true rfl, Nat.le_of_ble_eq_true rfl⟩, ⟨rfl, rfl⟩, ⟨Nat.zero_le _, Nat.zero_le _⟩⟩ (Nat.le_of_ble_eq_true rfl) rfl (fun _ _ h => h) ?_
    refine j_if_eq C dX8_canKnock_24 (tgt := 54) (by decide) (fun cq => ?_) (fun cq => ?_)
    · have h := jite_f h (jb_f cq)
      refine j_iconst C dX8_canKnock_54 (v := 0) (by decide) ?_
      exact j_iret C dX8_canKnock_55 rfl (jb_nar false) (Nat.zero_le _) (Nat.zero_le _) (jretTB h)
    · have h := jite_t h (jb_t cq)
      refine j_iload_n C dX8_canKnock_27 2 rfl ?_
      refine j_iconst C dX8_canKnock_28 (v := 0) (by decide) ?_
      refine j_iconst C dX8_canKnock_29 (v := 5) (by decide) ?_
      refine j_cS1 C dX8_canKnock_30 (m_X8_within v2 0 5 rfl) kc_X8_within w_377 w_378 w_1 jy_X8_within ⟨⟨Nat.le_of_ble_eq_true rfl, Nat.le_of_ble_eq_true rfl⟩, ⟨rfl, rfl⟩, ⟨Nat.zero_le _, Nat.zero_le _⟩⟩ (Nat.le_of_ble_eq_true rfl) rfl (fun _ _ h => h) ?_
      refine j_if_eq C dX8_canKnock_33 (tgt := 54) (by decide) (fun cq => ?_) (fun cq => ?_)
      · have h := jite_f h (jb_f cq)
        refine j_iconst C dX8_canKnock_54 (v := 0) (by decide) ?_
        exact j_iret C dX8_canKnock_55 rfl (jb_nar false) (Nat.zero_le _) (Nat.zero_le _) (jretTB h)
      · have h := jite_t h (jb_t cq)
        refine j_iload_n C dX8_canKnock_36 2 rfl ?_
        refine j_aload_n C dX8_canKnock_37 0 rfl ?_
        refine j_getW C dX8_canKnock_38 inX8 rfl (by decide) rfl 1 (by decide) w_343 rfl rfl ?_
        refine j_getW C dX8_canKnock_41 inX2 rfl (by decide) rfl 6 (by decide) w_134 rfl rfl ?_
        refine j_getW C dX8_canKnock_44 inX6 rfl (by decide) rfl 2 (by decide) w_88 rfl rfl ?_
        refine j_icmp_gt C dX8_canKnock_47 (tgt := 54) (by decide) (fun cq => ?_) (fun cq => ?_)
        · have h := jite_t h cq
          refine j_iconst C dX8_canKnock_54 (v := 0) (by decide) ?_
          exact j_iret C dX8_canKnock_55 rfl (jb_nar false) (Nat.zero_le _) (Nat.zero_le _) (jretTB h)
        · have h := jite_f h cq
          refine j_iconst C dX8_canKnock_50 (v := 1) (by decide) ?_
          refine j_goto C dX8_canKnock_51 (tgt := 55) (by decide) ?_
          exact j_iret C dX8_canKnock_55 rfl (jb_nar true) (Nat.zero_le _) (Nat.zero_le _) (jretTB h)
-- X8_hasKey
def F_X8_hasKey (v0 : Int32) (v1 : Int32) : Bool :=
  (if ((v0 >>> (v1 &&& 31)) &&& (1 : Int32)) = 1 then true else false)
def rm_X8_hasKey : Room := { frames := 0, cells := 0, slots := 0, locals := 0 }
set_option maxHeartbeats 4000000 in
set_option maxRecDepth 100000 in
theorem m_X8_hasKey {l : Launch} {D : va_G} {G : Nat → ClassId} {KV : jV} {ad : Nat → Nat} {nd : Nat} {s : jS} (v0 : Int32) (v1 : Int32) {p : Bool} (h : F_X8_hasKey v0 v1 = p) : jM l D G KV yX8_hasKey cX8_hasKey 2 (some .boolean) rm_X8_hasKey [.int v0, .int v1] (jw 54 (cellC G nd) ad s) 0 0 (fun v u => v = some (.int (jb p)) ∧ u = jw 54 (cellC G nd) ad s) := by
  refine jM.of (by decide) (Nat.le_of_ble_eq_true rfl) ?_
  intro K C
  unfold F_X8_hasKey at h
  show K 0 0 (jw 54 (cellC G nd) ad s) 0 [(0, .int v0), (1, .int v1)] []
  refine j_iload_n C dX8_hasKey_0 0 rfl ?_
  refine j_iload_n C dX8_hasKey_1 1 rfl ?_
  refine j_ishr C dX8_hasKey_2 ?_
  refine j_iconst C dX8_hasKey_3 (v := 1) (by decide) ?_
  refine j_iand C dX8_hasKey_4 ?_
  refine j_iconst C dX8_hasKey_5 (v := 1) (by decide) ?_
  refine j_icmp_ne C dX8_hasKey_6 (tgt := 13) (by decide) (fun cq => ?_) (fun cq => ?_)
  · have h := jite_f h cq
    refine j_iconst C dX8_hasKey_13 (v := 0) (by decide) ?_
    exact j_iret C dX8_hasKey_14 rfl (jb_nar false) (Nat.zero_le _) (Nat.zero_le _) (jretTB h)
  · have h := jite_t h cq
    refine j_iconst C dX8_hasKey_9 (v := 1) (by decide) ?_
    refine j_goto C dX8_hasKey_10 (tgt := 14) (by decide) ?_
    exact j_iret C dX8_hasKey_14 rfl (jb_nar true) (Nat.zero_le _) (Nat.zero_le _) (jretTB h)
-- X6_keepsStep_25
def J_X6_keepsStep_25_30 (s : jS) : Option jS :=
  (if jin (s.1 25 6) 30 = true then (jl (upI s 26 (Int32.toNatClampNeg (s.1 25 6)) (((((((s.1 25 5) * 24) + (s.1 25 3)) * 10) + (s.1 25 4)) * 100) + (s.1 25 2))) fun s66_2 => (jl (upI s66_2 25 6 ((s66_2.1 25 6) + 1)) fun s74_3 => some s74_3)) else none)
def F_X6_keepsStep_25 (s : jS) : Option jS :=
  (if (s.1 25 6) < 30 then J_X6_keepsStep_25_30 s else (jl (upR s 26 (va_cpy (s.1 26) (s.1 26) (Int32.toNatClampNeg 1) (Int32.toNatClampNeg 0) (Int32.toNatClampNeg 29))) fun s21_4 => (jl (upI s21_4 25 6 29) fun s27_5 => J_X6_keepsStep_25_30 s27_5)))
def rm_X6_keepsStep_25 : Room := { frames := 1, cells := 0, slots := 0, locals := 26 }
set_option maxHeartbeats 4000000 in
set_option maxRecDepth 100000 in
theorem m_X6_keepsStep_25 {l : Launch} {D : va_G} {G : Nat → ClassId} {KV : jV} {ad : Nat → Nat} {nd : Nat} (s : jS) {p : jS} (h : F_X6_keepsStep_25 s = some p) : jM l D G KV yX6_keepsStep cX6_keepsStep 1 none rm_X6_keepsStep_25 [.ref (ad 25)] (jw 54 (cellC G nd) ad s) 0 0 (fun v u => v = none ∧ u = jw 54 (cellC G nd) ad p) := by
  refine jM.of (by decide) (Nat.le_of_ble_eq_true rfl) ?_
  intro K C
  unfold F_X6_keepsStep_25 at h
  have jn30 : ∀ (s : jS) (_ : J_X6_keepsStep_25_30 s = some p), K 0 0 (jw 54 (cellC G nd) ad s) 30 [(0, .ref (ad 25))] [] := by
    intro s h
    unfold J_X6_keepsStep_25_30 at h
    refine j_aload_n C dX6_keepsStep_30 0 rfl ?_
    refine j_getW C dX6_keepsStep_31 inX6 rfl (by decide) rfl 7 (by decide) w_97 rfl rfl ?_
    refine j_aload_n C dX6_keepsStep_34 0 rfl ?_
    refine j_getW C dX6_keepsStep_35 inX6 rfl (by decide) rfl 6 (by decide) w_95 rfl rfl ?_
    refine j_aload_n C dX6_keepsStep_38 0 rfl ?_
    refine j_getW C dX6_keepsStep_39 inX6 rfl (by decide) rfl 5 (by decide) w_93 rfl rfl ?_
    refine j_bipush C dX6_keepsStep_42 (v := 24) (by decide) ?_
    refine j_imul C dX6_keepsStep_44 ?_
    refine j_aload_n C dX6_keepsStep_45 0 rfl ?_
    refine j_getW C dX6_keepsStep_46 inX6 rfl (by decide) rfl 3 (by decide) w_89 rfl rfl ?_
    refine j_iadd C dX6_keepsStep_49 ?_
    refine j_bipush C dX6_keepsStep_50 (v := 10) (by decide) ?_
    refine j_imul C dX6_keepsStep_52 ?_
    refine j_aload_n C dX6_keepsStep_53 0 rfl ?_
    refine j_getW C dX6_keepsStep_54 inX6 rfl (by decide) rfl 4 (by decide) w_91 rfl rfl ?_
    refine j_iadd C dX6_keepsStep_57 ?_
    refine j_bipush C dX6_keepsStep_58 (v := 100) (by decide) ?_
    refine j_imul C dX6_keepsStep_60 ?_
    refine j_aload_n C dX6_keepsStep_61 0 rfl ?_
    refine j_getW C dX6_keepsStep_62 inX6 rfl (by decide) rfl 2 (by decide) w_87 rfl rfl ?_
    refine j_iadd C dX6_keepsStep_65 ?_
    obtain ⟨c66_1, h⟩ := jchk h
    refine j_iastW C dX6_keepsStep_66 (by decide) (fun _ => rfl) (jin_vp c66_1) (fun s66_2 hs66_2 => ?_)
    have h := jlet h hs66_2
    refine j_aload_n C dX6_keepsStep_67 0 rfl ?_
    refine j_dup C dX6_keepsStep_68 rfl ?_
    refine j_getW C dX6_keepsStep_69 inX6 rfl (by decide) rfl 6 (by decide) w_95 rfl rfl ?_
    refine j_iconst C dX6_keepsStep_72 (v := 1) (by decide) ?_
    refine j_iadd C dX6_keepsStep_73 ?_
    refine j_putI C dX6_keepsStep_74 inX6 tyX6 tyX6_ok nmX6 rfl (by decide) 6 rfl rfl (by decide) w_95 rfl rfl rfl rfl (Nat.le_of_ble_eq_true rfl) (fun s74_3 hs74_3 => ?_)
    have h := jlet h hs74_3
    exact j_vret C dX6_keepsStep_77 rfl (Nat.zero_le _) (Nat.zero_le _) (jretWV h)
  show K 0 0 (jw 54 (cellC G nd) ad s) 0 [(0, .ref (ad 25))] []
  refine j_aload_n C dX6_keepsStep_0 0 rfl ?_
  refine j_getW C dX6_keepsStep_1 inX6 rfl (by decide) rfl 6 (by decide) w_95 rfl rfl ?_
  refine j_bipush C dX6_keepsStep_4 (v := 30) (by decide) ?_
  refine j_icmp_lt C dX6_keepsStep_6 (tgt := 30) (by decide) (fun cq => ?_) (fun cq => ?_)
  · have h := jite_t h cq
    refine j_loc C [0] rfl ?_
    exact jn30  s  h
  · have h := jite_f h cq
    refine j_aload_n C dX6_keepsStep_9 0 rfl ?_
    refine j_getW C dX6_keepsStep_10 inX6 rfl (by decide) rfl 7 (by decide) w_97 rfl rfl ?_
    refine j_iconst C dX6_keepsStep_13 (v := 1) (by decide) ?_
    refine j_aload_n C dX6_keepsStep_14 0 rfl ?_
    refine j_getW C dX6_keepsStep_15 inX6 rfl (by decide) rfl 7 (by decide) w_97 rfl rfl ?_
    refine j_iconst C dX6_keepsStep_18 (v := 0) (by decide) ?_
    refine j_bipush C dX6_keepsStep_19 (v := 29) (by decide) ?_
    refine j_copyI C dX6_keepsStep_21 w_700 w_702 w_701 w_16 (by decide) (by decide) (fun _ => rfl) (fun _ => rfl) (by decide) (by decide) (by decide) (by decide) (by decide) (Nat.le_of_ble_eq_true rfl) (Nat.le_of_ble_eq_true rfl) (fun s21_4 hs21_4 => ?_)
    have h := jlet h hs21_4
    refine j_aload_n C dX6_keepsStep_24 0 rfl ?_
    refine j_bipush C dX6_keepsStep_25 (v := 29) (by decide) ?_
    refine j_putI C dX6_keepsStep_27 inX6 tyX6 tyX6_ok nmX6 rfl (by decide) 6 rfl rfl (by decide) w_95 rfl rfl rfl rfl (Nat.le_of_ble_eq_true rfl) (fun s27_5 hs27_5 => ?_)
    have h := jlet h hs27_5
    refine j_loc C [0] rfl ?_
    exact jn30  s27_5  h
-- X6_hourGoes_25
def F_X6_hourGoes_25 (s : jS) : Option jS :=
  (jl (upI s 25 3 (((s.1 25 3) + 1) - ((s.1 25 3) + 1) / 24 * 24)) fun s10_1 => some s10_1)
def rm_X6_hourGoes_25 : Room := { frames := 0, cells := 0, slots := 0, locals := 0 }
set_option maxHeartbeats 4000000 in
set_option maxRecDepth 100000 in
theorem m_X6_hourGoes_25 {l : Launch} {D : va_G} {G : Nat → ClassId} {KV : jV} {ad : Nat → Nat} {nd : Nat} (s : jS) {p : jS} (h : F_X6_hourGoes_25 s = some p) : jM l D G KV yX6_hourGoes cX6_hourGoes 1 none rm_X6_hourGoes_25 [.ref (ad 25)] (jw 54 (cellC G nd) ad s) 0 0 (fun v u => v = none ∧ u = jw 54 (cellC G nd) ad p) := by
  refine jM.of (by decide) (Nat.le_of_ble_eq_true rfl) ?_
  intro K C
  unfold F_X6_hourGoes_25 at h
  show K 0 0 (jw 54 (cellC G nd) ad s) 0 [(0, .ref (ad 25))] []
  refine j_aload_n C dX6_hourGoes_0 0 rfl ?_
  refine j_aload_n C dX6_hourGoes_1 0 rfl ?_
  refine j_getW C dX6_hourGoes_2 inX6 rfl (by decide) rfl 3 (by decide) w_89 rfl rfl ?_
  refine j_iconst C dX6_hourGoes_5 (v := 1) (by decide) ?_
  refine j_iadd C dX6_hourGoes_6 ?_
  refine j_bipush C dX6_hourGoes_7 (v := 24) (by decide) ?_
  refine j_irem C dX6_hourGoes_9 (by decide) ?_
  refine j_putI C dX6_hourGoes_10 inX6 tyX6 tyX6_ok nmX6 rfl (by decide) 3 rfl rfl (by decide) w_89 rfl rfl rfl rfl (Nat.le_of_ble_eq_true rfl) (fun s10_1 hs10_1 => ?_)
  have h := jlet h hs10_1
  exact j_vret C dX6_hourGoes_13 rfl (Nat.zero_le _) (Nat.zero_le _) (jretWV h)
-- X6_stays_25
def F_X6_stays_25 (s : jS) : Option jS :=
  (jl (upI s 25 4 (if (((s.1 25 4) + 1) : Int32) < 9 then ((s.1 25 4) + 1) else 9)) fun s12_1 => some s12_1)
def rm_X6_stays_25 : Room := { frames := 1, cells := 0, slots := 0, locals := 26 }
set_option maxHeartbeats 4000000 in
set_option maxRecDepth 100000 in
theorem m_X6_stays_25 {l : Launch} {D : va_G} {G : Nat → ClassId} {KV : jV} {ad : Nat → Nat} {nd : Nat} (s : jS) {p : jS} (h : F_X6_stays_25 s = some p) : jM l D G KV yX6_stays cX6_stays 1 none rm_X6_stays_25 [.ref (ad 25)] (jw 54 (cellC G nd) ad s) 0 0 (fun v u => v = none ∧ u = jw 54 (cellC G nd) ad p) := by
  refine jM.of (by decide) (Nat.le_of_ble_eq_true rfl) ?_
  intro K C
  unfold F_X6_stays_25 at h
  show K 0 0 (jw 54 (cellC G nd) ad s) 0 [(0, .ref (ad 25))] []
  refine j_aload_n C dX6_stays_0 0 rfl ?_
  refine j_bipush C dX6_stays_1 (v := 9) (by decide) ?_
  refine j_aload_n C dX6_stays_3 0 rfl ?_
  refine j_getW C dX6_stays_4 inX6 rfl (by decide) rfl 4 (by decide) w_91 rfl rfl ?_
  refine j_iconst C dX6_stays_7 (v := 1) (by decide) ?_
  refine j_iadd C dX6_stays_8 ?_
  refine j_mmin C dX6_stays_9 w_711 w_27 w_2 w_28 (Nat.le_of_ble_eq_true rfl) (Nat.le_of_ble_eq_true rfl) (Nat.zero_le _) (Nat.zero_le _) ?_
  refine j_putI C dX6_stays_12 inX6 tyX6 tyX6_ok nmX6 rfl (by decide) 4 rfl rfl (by decide) w_91 rfl rfl rfl rfl (Nat.le_of_ble_eq_true rfl) (fun s12_1 hs12_1 => ?_)
  have h := jlet h hs12_1
  exact j_vret C dX6_stays_15 rfl (Nat.zero_le _) (Nat.zero_le _) (jretWV h)
-- X8_knocked
def J_X8_knocked_86 (n : Nat) (v2 : Int32) (k0 : Bool) (s : jS) : Option (Bool × jS) :=
  ((F_X6_keepsStep_25 s).bind fun p89 => ((F_X6_hourGoes_25 p89).bind fun p93 => (if k0 = true then (jl (upI p93 25 2 ((p93.1 25 2) - v2)) fun s108_2 => (jl (upI s108_2 25 5 ((s108_2.1 25 5) + 1)) fun s118_3 => (jl (upI s118_3 25 4 0) fun s123_4 => some (k0, s123_4)))) else ((F_X6_stays_25 p93).bind fun p130 => some (k0, p130)))))
def J_X8_knocked_81 (n : Nat) (v2 : Int32) (s : jS) : Option (Bool × jS) :=
  J_X8_knocked_86 n v2 true s
def F_X8_knocked (n : Nat) (v1 : Int32) (v2 : Int32) (s : jS) : Option (Bool × jS) :=
  (if jin (s.1 25 5) 8 = true then (if (jz (s.1 22 (Int32.toNatClampNeg (s.1 25 5)))) = true then J_X8_knocked_81 n v2 s else (if (F_X8_hasKey (s.1 25 1) (s.1 25 5)) = true then J_X8_knocked_81 n v2 s else ((F_X3_opensBy n (s.1 21 (Int32.toNatClampNeg (s.1 25 5))) (s.1 25 5) (s.1 25 3) v1 v2 (s.1 25 4) (s.1 25 0) s).bind fun p75 => (if p75.1 = true then J_X8_knocked_81 n v2 p75.2 else J_X8_knocked_86 n v2 false p75.2)))) else none)
def rm_X8_knocked : Room := { frames := 3, cells := 0, slots := 0, locals := 76 }
set_option maxHeartbeats 4000000 in
set_option maxRecDepth 100000 in
theorem m_X8_knocked {l : Launch} {D : va_G} {G : Nat → ClassId} {KV : jV} {ad : Nat → Nat} {nd : Nat} (n : Nat) (v1 : Int32) (v2 : Int32) (s : jS) {p : Bool × jS} (h : F_X8_knocked n v1 v2 s = some p) : jM l D G KV yX8_knocked cX8_knocked 6 (some .boolean) rm_X8_knocked [.ref (ad 0), .int v1, .int v2] (jw 54 (cellC G nd) ad s) 0 0 (fun v u => v = some (.int (jb p.1)) ∧ u = jw 54 (cellC G nd) ad p.2) := by
  refine jM.of (by decide) (Nat.le_of_ble_eq_true rfl) ?_
  intro K C
  unfold F_X8_knocked at h
  have jn86 : ∀ (v2 : Int32) (k0 : Bool) (s : jS) (_ : J_X8_knocked_86 n v2 k0 s = some p), K 0 0 (jw 54 (cellC G nd) ad s) 86 [(2, .int v2), (3, .ref (ad 25))] [.int (jb k0)] := by
    intro v2 k0 s h
    unfold J_X8_knocked_86 at h
    refine j_istore C dX8_knocked_86 (by decide) rfl ?_
    refine j_aload_n C dX8_knocked_88 2 rfl ?_
    obtain ⟨p89, he89, h⟩ := jbind h
    refine j_cV0 C dX8_knocked_89 (m_X6_keepsStep_25 s he89) kc_X6_keepsStep w_696 w_697 w_698 w_5 jy_X6_keepsStep ⟨⟨Nat.le_of_ble_eq_true rfl, Nat.le_of_ble_eq_true rfl⟩, ⟨rfl, rfl⟩, ⟨Nat.zero_le _, Nat.zero_le _⟩⟩ (Nat.le_of_ble_eq_true rfl) (by decide) rfl (r := (RX6, TX6, 8)) rfl rfl rfl (fun _ _ h => h) ?_
    refine j_aload_n C dX8_knocked_92 2 rfl ?_
    obtain ⟨p93, he93, h⟩ := jbind h
    refine j_cV0 C dX8_knocked_93 (m_X6_hourGoes_25 p89 he93) kc_X6_hourGoes w_703 w_704 w_705 w_5 jy_X6_hourGoes ⟨⟨Nat.le_of_ble_eq_true rfl, Nat.le_of_ble_eq_true rfl⟩, ⟨rfl, rfl⟩, ⟨Nat.zero_le _, Nat.zero_le _⟩⟩ (Nat.le_of_ble_eq_true rfl) (by decide) rfl (r := (RX6, TX6, 8)) rfl rfl rfl (fun _ _ h => h) ?_
    refine j_iload C dX8_knocked_96 0 rfl ?_
    refine j_if_eq C dX8_knocked_98 (tgt := 129) (by decide) (fun cq => ?_) (fun cq => ?_)
    · have h := jite_f h (jb_f cq)
      refine j_aload_n C dX8_knocked_129 2 rfl ?_
      obtain ⟨p130, he130, h⟩ := jbind h
      refine j_cV0 C dX8_knocked_130 (m_X6_stays_25 p93 he130) kc_X6_stays w_707 w_708 w_709 w_5 jy_X6_stays ⟨⟨Nat.le_of_ble_eq_true rfl, Nat.le_of_ble_eq_true rfl⟩, ⟨rfl, rfl⟩, ⟨Nat.zero_le _, Nat.zero_le _⟩⟩ (Nat.le_of_ble_eq_true rfl) (by decide) rfl (r := (RX6, TX6, 8)) rfl rfl rfl (fun _ _ h => h) ?_
      refine j_iload C dX8_knocked_133 0 rfl ?_
      exact j_iret C dX8_knocked_135 rfl (jb_nar k0) (Nat.zero_le _) (Nat.zero_le _) (jretWB h)
    · have h := jite_t h (jb_t cq)
      refine j_aload_n C dX8_knocked_101 2 rfl ?_
      refine j_dup C dX8_knocked_102 rfl ?_
      refine j_getW C dX8_knocked_103 inX6 rfl (by decide) rfl 2 (by decide) w_88 rfl rfl ?_
      refine j_iload_n C dX8_knocked_106 1 rfl ?_
      refine j_isub C dX8_knocked_107 ?_
      refine j_putI C dX8_knocked_108 inX6 tyX6 tyX6_ok nmX6 rfl (by decide) 2 rfl rfl (by decide) w_88 rfl rfl rfl rfl (Nat.le_of_ble_eq_true rfl) (fun s108_2 hs108_2 => ?_)
      have h := jlet h hs108_2
      refine j_aload_n C dX8_knocked_111 2 rfl ?_
      refine j_dup C dX8_knocked_112 rfl ?_
      refine j_getW C dX8_knocked_113 inX6 rfl (by decide) rfl 5 (by decide) w_94 rfl rfl ?_
      refine j_iconst C dX8_knocked_116 (v := 1) (by decide) ?_
      refine j_iadd C dX8_knocked_117 ?_
      refine j_putI C dX8_knocked_118 inX6 tyX6 tyX6_ok nmX6 rfl (by decide) 5 rfl rfl (by decide) w_94 rfl rfl rfl rfl (Nat.le_of_ble_eq_true rfl) (fun s118_3 hs118_3 => ?_)
      have h := jlet h hs118_3
      refine j_aload_n C dX8_knocked_121 2 rfl ?_
      refine j_iconst C dX8_knocked_122 (v := 0) (by decide) ?_
      refine j_putI C dX8_knocked_123 inX6 tyX6 tyX6_ok nmX6 rfl (by decide) 4 rfl rfl (by decide) w_92 rfl rfl rfl rfl (Nat.le_of_ble_eq_true rfl) (fun s123_4 hs123_4 => ?_)
      have h := jlet h hs123_4
      refine j_goto C dX8_knocked_126 (tgt := 133) (by decide) ?_
      refine j_iload C dX8_knocked_133 0 rfl ?_
      exact j_iret C dX8_knocked_135 rfl (jb_nar k0) (Nat.zero_le _) (Nat.zero_le _) (jretWB h)
  have jn81 : ∀ (v2 : Int32) (s : jS) (_ : J_X8_knocked_81 n v2 s = some p), K 0 0 (jw 54 (cellC G nd) ad s) 81 [(2, .int v2), (3, .ref (ad 25))] [] := by
    intro v2 s h
    unfold J_X8_knocked_81 at h
    refine j_iconst C dX8_knocked_81 (v := 1) (by decide) ?_
    refine j_goto C dX8_knocked_82 (tgt := 86) (by decide) ?_
    refine j_loc C [0, 1] rfl ?_
    exact jn86 v2 true s  h
  show K 0 0 (jw 54 (cellC G nd) ad s) 0 [(0, .ref (ad 0)), (1, .int v1), (2, .int v2)] []
  refine j_aload_n C dX8_knocked_0 0 rfl ?_
  refine j_getW C dX8_knocked_1 inX8 rfl (by decide) rfl 1 (by decide) w_343 rfl rfl ?_
  refine j_getW C dX8_knocked_4 inX2 rfl (by decide) rfl 6 (by decide) w_134 rfl rfl ?_
  refine j_astore_n C dX8_knocked_7 (by decide) rfl ?_
  refine j_aload_n C dX8_knocked_8 1 rfl ?_
  refine j_getW C dX8_knocked_9 inX8 rfl (by decide) rfl 1 (by decide) w_343 rfl rfl ?_
  refine j_getW C dX8_knocked_12 inX2 rfl (by decide) rfl 2 (by decide) w_124 rfl rfl ?_
  refine j_aload_n C dX8_knocked_15 0 rfl ?_
  refine j_getW C dX8_knocked_16 inX6 rfl (by decide) rfl 5 (by decide) w_94 rfl rfl ?_
  obtain ⟨c19_1, h⟩ := jchk h
  refine j_ialdW C dX8_knocked_19 (by decide) rfl (jin_vp c19_1) ?_
  refine j_istore C dX8_knocked_20 (by decide) rfl ?_
  refine j_aload_n C dX8_knocked_22 2 rfl ?_
  refine j_getW C dX8_knocked_23 inX8 rfl (by decide) rfl 1 (by decide) w_343 rfl rfl ?_
  refine j_getW C dX8_knocked_26 inX2 rfl (by decide) rfl 3 (by decide) w_127 rfl rfl ?_
  refine j_aload_n C dX8_knocked_29 1 rfl ?_
  refine j_getW C dX8_knocked_30 inX6 rfl (by decide) rfl 5 (by decide) w_94 rfl rfl ?_
  refine j_zaldW C dX8_knocked_33 (by decide) rfl (jin_vp c19_1) ?_
  refine j_if_ne C dX8_knocked_34 (tgt := 81) (by decide) (fun cq => ?_) (fun cq => ?_)
  · have h := jite_t h (jb_t cq)
    refine j_loc C [4, 1] rfl ?_
    exact jn81 v2 s  h
  · have h := jite_f h (jb_f cq)
    refine j_aload_n C dX8_knocked_37 1 rfl ?_
    refine j_getW C dX8_knocked_38 inX6 rfl (by decide) rfl 1 (by decide) w_86 rfl rfl ?_
    refine j_aload_n C dX8_knocked_41 1 rfl ?_
    refine j_getW C dX8_knocked_42 inX6 rfl (by decide) rfl 5 (by decide) w_94 rfl rfl ?_
    refine j_cS1 C dX8_knocked_45 (m_X8_hasKey (s.1 25 1) (s.1 25 5) rfl) kc_X8_hasKey w_693 w_694 w_1 jy_X8_hasKey ⟨⟨Nat.le_of_ble_eq_true rfl, Nat.le_of_ble_eq_true rfl⟩, ⟨rfl, rfl⟩, ⟨Nat.zero_le _, Nat.zero_le _⟩⟩ (Nat.le_of_ble_eq_true rfl) rfl (fun _ _ h => h) ?_
    refine j_if_ne C dX8_knocked_48 (tgt := 81) (by decide) (fun cq => ?_) (fun cq => ?_)
    · have h := jite_t h (jb_t cq)
      refine j_loc C [4, 1] rfl ?_
      exact jn81 v2 s  h
    · have h := jite_f h (jb_f cq)
      refine j_aload_n C dX8_knocked_51 2 rfl ?_
      refine j_getW C dX8_knocked_52 inX8 rfl (by decide) rfl 6 (by decide) w_348 rfl rfl ?_
      refine j_iload C dX8_knocked_55 0 rfl ?_
      refine j_aload_n C dX8_knocked_57 1 rfl ?_
      refine j_getW C dX8_knocked_58 inX6 rfl (by decide) rfl 5 (by decide) w_94 rfl rfl ?_
      refine j_aload_n C dX8_knocked_61 1 rfl ?_
      refine j_getW C dX8_knocked_62 inX6 rfl (by decide) rfl 3 (by decide) w_90 rfl rfl ?_
      refine j_iload_n C dX8_knocked_65 3 rfl ?_
      refine j_iload_n C dX8_knocked_66 4 rfl ?_
      refine j_aload_n C dX8_knocked_67 1 rfl ?_
      refine j_getW C dX8_knocked_68 inX6 rfl (by decide) rfl 4 (by decide) w_92 rfl rfl ?_
      refine j_aload_n C dX8_knocked_71 1 rfl ?_
      refine j_getW C dX8_knocked_72 inX6 rfl (by decide) rfl 0 (by decide) w_84 rfl rfl ?_
      obtain ⟨p75, he75, h⟩ := jbind h
      refine j_cV1 C dX8_knocked_75 (m_X3_opensBy n (s.1 21 (Int32.toNatClampNeg (s.1 25 5))) (s.1 25 5) (s.1 25 3) v1 v2 (s.1 25 4) (s.1 25 0) s he75) kc_X3_opensBy w_646 w_647 w_648 w_7 jy_X3_opensBy ⟨⟨Nat.le_of_ble_eq_true rfl, Nat.le_of_ble_eq_true rfl⟩, ⟨rfl, rfl⟩, ⟨Nat.zero_le _, Nat.zero_le _⟩⟩ (Nat.le_of_ble_eq_true rfl) (by decide) rfl (r := (RX3, TX3, 7)) rfl rfl rfl (fun _ _ h => h) ?_
      refine j_if_eq C dX8_knocked_78 (tgt := 85) (by decide) (fun cq => ?_) (fun cq => ?_)
      · have h := jite_f h (jb_f cq)
        refine j_iconst C dX8_knocked_85 (v := 0) (by decide) ?_
        refine j_loc C [4, 1] rfl ?_
        exact jn86 v2 false p75.2  h
      · have h := jite_t h (jb_t cq)
        refine j_loc C [4, 1] rfl ?_
        exact jn81 v2 p75.2  h
-- X8_knock
def F_X8_knock (n : Nat) (v1 : Int32) (v2 : Int32) (s : jS) : Option (Int32 × jS) :=
  (if (F_X8_canKnock v1 v2 s) = true then ((F_X8_knocked n v1 v2 s).bind fun p14 => (if p14.1 = true then some (1, p14.2) else some (0, p14.2))) else some ((-1), s))
def rm_X8_knock : Room := { frames := 4, cells := 0, slots := 0, locals := 101 }
set_option maxHeartbeats 4000000 in
set_option maxRecDepth 100000 in
theorem m_X8_knock {l : Launch} {D : va_G} {G : Nat → ClassId} {KV : jV} {ad : Nat → Nat} {nd : Nat} (n : Nat) (v1 : Int32) (v2 : Int32) (s : jS) {p : Int32 × jS} (h : F_X8_knock n v1 v2 s = some p) : jM l D G KV yX8_knock cX8_knock 3 (some .int) rm_X8_knock [.ref (ad 0), .int v1, .int v2] (jw 54 (cellC G nd) ad s) 0 0 (fun v u => v = some (.int p.1) ∧ u = jw 54 (cellC G nd) ad p.2) := by
  refine jM.of (by decide) (Nat.le_of_ble_eq_true rfl) ?_
  intro K C
  unfold F_X8_knock at h
  show K 0 0 (jw 54 (cellC G nd) ad s) 0 [(0, .ref (ad 0)), (1, .int v1), (2, .int v2)] []
  refine j_aload_n C dX8_knock_0 0 rfl ?_
  refine j_iload_n C dX8_knock_1 1 rfl ?_
  refine j_iload_n C dX8_knock_2 2 rfl ?_
  refine j_cV1 C dX8_knock_3 (m_X8_canKnock v1 v2 s rfl) kc_X8_canKnock w_685 w_687 wp_27 w_1 jy_X8_canKnock ⟨⟨Nat.le_of_ble_eq_true rfl, Nat.le_of_ble_eq_true rfl⟩, ⟨rfl, rfl⟩, ⟨Nat.zero_le _, Nat.zero_le _⟩⟩ (Nat.le_of_ble_eq_true rfl) (by decide) rfl (r := (RX8, TX8, 9)) rfl rfl rfl (fun _ _ h => h) ?_
  refine j_if_ne C dX8_knock_6 (tgt := 11) (by decide) (fun cq => ?_) (fun cq => ?_)
  · have h := jite_t h (jb_t cq)
    refine j_aload_n C dX8_knock_11 0 rfl ?_
    refine j_iload_n C dX8_knock_12 1 rfl ?_
    refine j_iload_n C dX8_knock_13 2 rfl ?_
    obtain ⟨p14, he14, h⟩ := jbind h
    refine j_cV1 C dX8_knock_14 (m_X8_knocked n v1 v2 s he14) kc_X8_knocked w_689 w_691 wp_28 w_1 jy_X8_knocked ⟨⟨Nat.le_of_ble_eq_true rfl, Nat.le_of_ble_eq_true rfl⟩, ⟨rfl, rfl⟩, ⟨Nat.zero_le _, Nat.zero_le _⟩⟩ (Nat.le_of_ble_eq_true rfl) (by decide) rfl (r := (RX8, TX8, 9)) rfl rfl rfl (fun _ _ h => h) ?_
    refine j_if_eq C dX8_knock_17 (tgt := 24) (by decide) (fun cq => ?_) (fun cq => ?_)
    · have h := jite_f h (jb_f cq)
      refine j_iconst C dX8_knock_24 (v := 0) (by decide) ?_
      exact j_iret C dX8_knock_25 rfl rfl (Nat.zero_le _) (Nat.zero_le _) (jretWI h)
    · have h := jite_t h (jb_t cq)
      refine j_iconst C dX8_knock_20 (v := 1) (by decide) ?_
      refine j_goto C dX8_knock_21 (tgt := 25) (by decide) ?_
      exact j_iret C dX8_knock_25 rfl rfl (Nat.zero_le _) (Nat.zero_le _) (jretWI h)
  · have h := jite_f h (jb_f cq)
    refine j_iconst C dX8_knock_9 (v := (-1)) (by decide) ?_
    exact j_iret C dX8_knock_10 rfl rfl (Nat.zero_le _) (Nat.zero_le _) (jretWI h)
-- X8_canWait
def F_X8_canWait (v1 : Int32) (s : jS) : Bool :=
  (if (F_X8_isDoor (s.1 25 5) s) = true then (if (F_X8_within v1 0 24) = true then true else false) else false)
def rm_X8_canWait : Room := { frames := 2, cells := 0, slots := 0, locals := 43 }
set_option maxHeartbeats 4000000 in
set_option maxRecDepth 100000 in
theorem m_X8_canWait {l : Launch} {D : va_G} {G : Nat → ClassId} {KV : jV} {ad : Nat → Nat} {nd : Nat} (v1 : Int32) (s : jS) {p : Bool} (h : F_X8_canWait v1 s = p) : jM l D G KV yX8_canWait cX8_canWait 2 (some .boolean) rm_X8_canWait [.ref (ad 0), .int v1] (jw 54 (cellC G nd) ad s) 0 0 (fun v u => v = some (.int (jb p)) ∧ u = jw 54 (cellC G nd) ad s) := by
  refine jM.of (by decide) (Nat.le_of_ble_eq_true rfl) ?_
  intro K C
  unfold F_X8_canWait at h
  show K 0 0 (jw 54 (cellC G nd) ad s) 0 [(0, .ref (ad 0)), (1, .int v1)] []
  refine j_aload_n C dX8_canWait_0 0 rfl ?_
  refine j_aload_n C dX8_canWait_1 0 rfl ?_
  refine j_getW C dX8_canWait_2 inX8 rfl (by decide) rfl 1 (by decide) w_343 rfl rfl ?_
  refine j_getW C dX8_canWait_5 inX2 rfl (by decide) rfl 6 (by decide) w_134 rfl rfl ?_
  refine j_getW C dX8_canWait_8 inX6 rfl (by decide) rfl 5 (by decide) w_94 rfl rfl ?_
  refine j_cV1 C dX8_canWait_11 (m_X8_isDoor (s.1 25 5) s rfl) kc_X8_isDoor w_396 w_398 wp_1 w_1 jy_X8_isDoor ⟨⟨Nat.le_of_ble_eq_true rfl, Nat.le_of_ble_eq_true rfl⟩, ⟨rfl, rfl⟩, ⟨Nat.zero_le _, Nat.zero_le _⟩⟩ (Nat.le_of_ble_eq_true rfl) (by decide) rfl (r := (RX8, TX8, 9)) rfl rfl rfl (fun _ _ h => h) ?_
  refine j_if_eq C dX8_canWait_14 (tgt := 31) (by decide) (fun cq => ?_) (fun cq => ?_)
  · have h := jite_f h (jb_f cq)
    refine j_iconst C dX8_canWait_31 (v := 0) (by decide) ?_
    exact j_iret C dX8_canWait_32 rfl (jb_nar false) (Nat.zero_le _) (Nat.zero_le _) (jretTB h)
  · have h := jite_t h (jb_t cq)
    refine j_iload_n C dX8_canWait_17 1 rfl ?_
    refine j_iconst C dX8_canWait_18 (v := 0) (by decide) ?_
    refine j_bipush C dX8_canWait_19 (v := 24) (by decide) ?_
    refine j_cS1 C dX8_canWait_21 (m_X8_within v1 0 24 rfl) kc_X8_within w_377 w_378 w_1 jy_X8_within ⟨⟨Nat.le_of_ble_eq_true rfl, Nat.le_of_ble_eq_true rfl⟩, ⟨rfl, rfl⟩, ⟨Nat.zero_le _, Nat.zero_le _⟩⟩ (Nat.le_of_ble_eq_true rfl) rfl (fun _ _ h => h) ?_
    refine j_if_eq C dX8_canWait_24 (tgt := 31) (by decide) (fun cq => ?_) (fun cq => ?_)
    · have h := jite_f h (jb_f cq)
      refine j_iconst C dX8_canWait_31 (v := 0) (by decide) ?_
      exact j_iret C dX8_canWait_32 rfl (jb_nar false) (Nat.zero_le _) (Nat.zero_le _) (jretTB h)
    · have h := jite_t h (jb_t cq)
      refine j_iconst C dX8_canWait_27 (v := 1) (by decide) ?_
      refine j_goto C dX8_canWait_28 (tgt := 32) (by decide) ?_
      exact j_iret C dX8_canWait_32 rfl (jb_nar true) (Nat.zero_le _) (Nat.zero_le _) (jretTB h)
-- X8_waited
def B_X8_waited_2 (n : Nat) (v1 : Int32) (q : Int32 × jS) : Option ((Int32 × jS) ⊕ (Int32 × jS)) :=
  (if v1 ≤ q.1 then some (.inr (q.1, q.2)) else ((F_X6_keepsStep_25 q.2).bind fun p14 => ((F_X6_hourGoes_25 p14).bind fun p24 => ((F_X6_stays_25 p24).bind fun p34 => some (.inl ((q.1 + 1), p34))))))
def F_X8_waited (n : Nat) (v1 : Int32) (s : jS) : Option jS :=
  ((lp (B_X8_waited_2 n v1) n (0, s)).bind fun e2 => some e2.2)
def rm_X8_waited : Room := { frames := 2, cells := 0, slots := 0, locals := 46 }
set_option maxHeartbeats 4000000 in
set_option maxRecDepth 100000 in
theorem m_X8_waited {l : Launch} {D : va_G} {G : Nat → ClassId} {KV : jV} {ad : Nat → Nat} {nd : Nat} (n : Nat) (v1 : Int32) (s : jS) {p : jS} (h : F_X8_waited n v1 s = some p) : jM l D G KV yX8_waited cX8_waited 3 none rm_X8_waited [.ref (ad 0), .int v1] (jw 54 (cellC G nd) ad s) 0 0 (fun v u => v = none ∧ u = jw 54 (cellC G nd) ad p) := by
  refine jM.of (by decide) (Nat.le_of_ble_eq_true rfl) ?_
  intro K C
  unfold F_X8_waited at h
  have lo2 : ∀ (v1 : Int32) (s : jS) (k : Nat) (q : Int32 × jS) (e : Int32 × jS), lp (B_X8_waited_2 n v1) k q = some e → K 0 0 (jw 54 (cellC G nd) ad e.2) 43 [] [] → K 0 0 (jw 54 (cellC G nd) ad q.2) 2 [(0, .ref (ad 0)), (1, .int v1), (2, .int q.1)] [] := by
    intro v1 s k q e he hE
    refine jlp (KH := fun q => K 0 0 (jw 54 (cellC G nd) ad q.2) 2 [(0, .ref (ad 0)), (1, .int v1), (2, .int q.1)] []) (KE := fun e => K 0 0 (jw 54 (cellC G nd) ad e.2) 43 [] []) ?_ k q e he hE
    intro q o hb hin hout
    unfold B_X8_waited_2 at hb
    show K 0 0 (jw 54 (cellC G nd) ad q.2) 2 [(0, .ref (ad 0)), (1, .int v1), (2, .int q.1)] []
    refine j_iload_n C dX8_waited_2 2 rfl ?_
    refine j_iload_n C dX8_waited_3 1 rfl ?_
    refine j_icmp_ge C dX8_waited_4 (tgt := 43) (by decide) (fun cq => ?_) (fun cq => ?_)
    · have hb := jite_t hb cq
      refine j_loc C [] rfl ?_
      have hx := hout _ (jinr hb)
      exact hx
    · have hb := jite_f hb cq
      refine j_aload_n C dX8_waited_7 0 rfl ?_
      refine j_getW C dX8_waited_8 inX8 rfl (by decide) rfl 1 (by decide) w_343 rfl rfl ?_
      refine j_getW C dX8_waited_11 inX2 rfl (by decide) rfl 6 (by decide) w_134 rfl rfl ?_
      obtain ⟨p14, he14, hb⟩ := jbind hb
      refine j_cV0 C dX8_waited_14 (m_X6_keepsStep_25 q.2 he14) kc_X6_keepsStep w_696 w_697 w_698 w_5 jy_X6_keepsStep ⟨⟨Nat.le_of_ble_eq_true rfl, Nat.le_of_ble_eq_true rfl⟩, ⟨rfl, rfl⟩, ⟨Nat.zero_le _, Nat.zero_le _⟩⟩ (Nat.le_of_ble_eq_true rfl) (by decide) rfl (r := (RX6, TX6, 8)) rfl rfl rfl (fun _ _ h => h) ?_
      refine j_aload_n C dX8_waited_17 0 rfl ?_
      refine j_getW C dX8_waited_18 inX8 rfl (by decide) rfl 1 (by decide) w_343 rfl rfl ?_
      refine j_getW C dX8_waited_21 inX2 rfl (by decide) rfl 6 (by decide) w_134 rfl rfl ?_
      obtain ⟨p24, he24, hb⟩ := jbind hb
      refine j_cV0 C dX8_waited_24 (m_X6_hourGoes_25 p14 he24) kc_X6_hourGoes w_703 w_704 w_705 w_5 jy_X6_hourGoes ⟨⟨Nat.le_of_ble_eq_true rfl, Nat.le_of_ble_eq_true rfl⟩, ⟨rfl, rfl⟩, ⟨Nat.zero_le _, Nat.zero_le _⟩⟩ (Nat.le_of_ble_eq_true rfl) (by decide) rfl (r := (RX6, TX6, 8)) rfl rfl rfl (fun _ _ h => h) ?_
      refine j_aload_n C dX8_waited_27 0 rfl ?_
      refine j_getW C dX8_waited_28 inX8 rfl (by decide) rfl 1 (by decide) w_343 rfl rfl ?_
      refine j_getW C dX8_waited_31 inX2 rfl (by decide) rfl 6 (by decide) w_134 rfl rfl ?_
      obtain ⟨p34, he34, hb⟩ := jbind hb
      refine j_cV0 C dX8_waited_34 (m_X6_stays_25 p24 he34) kc_X6_stays w_707 w_708 w_709 w_5 jy_X6_stays ⟨⟨Nat.le_of_ble_eq_true rfl, Nat.le_of_ble_eq_true rfl⟩, ⟨rfl, rfl⟩, ⟨Nat.zero_le _, Nat.zero_le _⟩⟩ (Nat.le_of_ble_eq_true rfl) (by decide) rfl (r := (RX6, TX6, 8)) rfl rfl rfl (fun _ _ h => h) ?_
      refine j_iinc C dX8_waited_37 2 rfl (v := (q.1 + 1)) rfl (by decide) rfl ?_
      refine j_goto C dX8_waited_40 (tgt := 2) (by decide) ?_
      refine j_loc C [1, 2, 0] rfl ?_
      have hx := hin _ (jinl hb)
      exact hx
  show K 0 0 (jw 54 (cellC G nd) ad s) 0 [(0, .ref (ad 0)), (1, .int v1)] []
  refine j_iconst C dX8_waited_0 (v := 0) (by decide) ?_
  refine j_istore_n C dX8_waited_1 (by decide) rfl ?_
  refine j_loc C [1, 2, 0] rfl ?_
  obtain ⟨e2, he2, h⟩ := jbind h
  refine lo2 v1 s  n (0, s) e2 he2 ?_
  exact j_vret C dX8_waited_43 rfl (Nat.zero_le _) (Nat.zero_le _) (jretWV h)
-- X8_later
def F_X8_later (n : Nat) (v1 : Int32) (s : jS) : Option (Int32 × jS) :=
  (if (F_X8_canWait v1 s) = true then ((F_X8_waited n v1 s).bind fun p12 => some ((p12.1 25 3), p12)) else some ((-1), s))
def rm_X8_later : Room := { frames := 3, cells := 0, slots := 0, locals := 68 }
set_option maxHeartbeats 4000000 in
set_option maxRecDepth 100000 in
theorem m_X8_later {l : Launch} {D : va_G} {G : Nat → ClassId} {KV : jV} {ad : Nat → Nat} {nd : Nat} (n : Nat) (v1 : Int32) (s : jS) {p : Int32 × jS} (h : F_X8_later n v1 s = some p) : jM l D G KV yX8_later cX8_later 2 (some .int) rm_X8_later [.ref (ad 0), .int v1] (jw 54 (cellC G nd) ad s) 0 0 (fun v u => v = some (.int p.1) ∧ u = jw 54 (cellC G nd) ad p.2) := by
  refine jM.of (by decide) (Nat.le_of_ble_eq_true rfl) ?_
  intro K C
  unfold F_X8_later at h
  show K 0 0 (jw 54 (cellC G nd) ad s) 0 [(0, .ref (ad 0)), (1, .int v1)] []
  refine j_aload_n C dX8_later_0 0 rfl ?_
  refine j_iload_n C dX8_later_1 1 rfl ?_
  refine j_cV1 C dX8_later_2 (m_X8_canWait v1 s rfl) kc_X8_canWait w_716 w_718 wp_29 w_1 jy_X8_canWait ⟨⟨Nat.le_of_ble_eq_true rfl, Nat.le_of_ble_eq_true rfl⟩, ⟨rfl, rfl⟩, ⟨Nat.zero_le _, Nat.zero_le _⟩⟩ (Nat.le_of_ble_eq_true rfl) (by decide) rfl (r := (RX8, TX8, 9)) rfl rfl rfl (fun _ _ h => h) ?_
  refine j_if_ne C dX8_later_5 (tgt := 10) (by decide) (fun cq => ?_) (fun cq => ?_)
  · have h := jite_t h (jb_t cq)
    refine j_aload_n C dX8_later_10 0 rfl ?_
    refine j_iload_n C dX8_later_11 1 rfl ?_
    obtain ⟨p12, he12, h⟩ := jbind h
    refine j_cV0 C dX8_later_12 (m_X8_waited n v1 s he12) kc_X8_waited w_720 w_722 wp_30 w_1 jy_X8_waited ⟨⟨Nat.le_of_ble_eq_true rfl, Nat.le_of_ble_eq_true rfl⟩, ⟨rfl, rfl⟩, ⟨Nat.zero_le _, Nat.zero_le _⟩⟩ (Nat.le_of_ble_eq_true rfl) (by decide) rfl (r := (RX8, TX8, 9)) rfl rfl rfl (fun _ _ h => h) ?_
    refine j_aload_n C dX8_later_15 0 rfl ?_
    refine j_getW C dX8_later_16 inX8 rfl (by decide) rfl 1 (by decide) w_343 rfl rfl ?_
    refine j_getW C dX8_later_19 inX2 rfl (by decide) rfl 6 (by decide) w_134 rfl rfl ?_
    refine j_getW C dX8_later_22 inX6 rfl (by decide) rfl 3 (by decide) w_90 rfl rfl ?_
    exact j_iret C dX8_later_25 rfl rfl (Nat.zero_le _) (Nat.zero_le _) (jretWI h)
  · have h := jite_f h (jb_f cq)
    refine j_iconst C dX8_later_8 (v := (-1)) (by decide) ?_
    exact j_iret C dX8_later_9 rfl rfl (Nat.zero_le _) (Nat.zero_le _) (jretWI h)
-- X8_clauseDone
def F_X8_clauseDone (n : Nat) (v1 : Int32) (v2 : Int32) (s : jS) : Option (Bool × jS) :=
  (if v1 = (-1) then some (true, s) else (if v1 = 0 then (if (F_X8_canWait v2 s) = true then ((F_X8_waited n v2 s).bind fun p27 => some ((F_X8_canWait v2 s), p27)) else ((F_X8_waited n 0 s).bind fun p27 => some ((F_X8_canWait v2 s), p27))) else (if (F_X8_canKnock v1 v2 s) = true then ((F_X8_knocked n v1 v2 s).bind fun p46 => some (true, p46.2)) else some (false, s))))
def rm_X8_clauseDone : Room := { frames := 4, cells := 0, slots := 0, locals := 101 }
set_option maxHeartbeats 4000000 in
set_option maxRecDepth 100000 in
theorem m_X8_clauseDone {l : Launch} {D : va_G} {G : Nat → ClassId} {KV : jV} {ad : Nat → Nat} {nd : Nat} (n : Nat) (v1 : Int32) (v2 : Int32) (s : jS) {p : Bool × jS} (h : F_X8_clauseDone n v1 v2 s = some p) : jM l D G KV yX8_clauseDone cX8_clauseDone 4 (some .boolean) rm_X8_clauseDone [.ref (ad 0), .int v1, .int v2] (jw 54 (cellC G nd) ad s) 0 0 (fun v u => v = some (.int (jb p.1)) ∧ u = jw 54 (cellC G nd) ad p.2) := by
  refine jM.of (by decide) (Nat.le_of_ble_eq_true rfl) ?_
  intro K C
  unfold F_X8_clauseDone at h
  show K 0 0 (jw 54 (cellC G nd) ad s) 0 [(0, .ref (ad 0)), (1, .int v1), (2, .int v2)] []
  refine j_iload_n C dX8_clauseDone_0 1 rfl ?_
  refine j_iconst C dX8_clauseDone_1 (v := (-1)) (by decide) ?_
  refine j_icmp_ne C dX8_clauseDone_2 (tgt := 7) (by decide) (fun cq => ?_) (fun cq => ?_)
  · have h := jite_f h cq
    refine j_iload_n C dX8_clauseDone_7 1 rfl ?_
    refine j_if_ne C dX8_clauseDone_8 (tgt := 32) (by decide) (fun cq => ?_) (fun cq => ?_)
    · have h := jite_f h cq
      refine j_aload_n C dX8_clauseDone_32 0 rfl ?_
      refine j_iload_n C dX8_clauseDone_33 1 rfl ?_
      refine j_iload_n C dX8_clauseDone_34 2 rfl ?_
      refine j_cV1 C dX8_clauseDone_35 (m_X8_canKnock v1 v2 s rfl) kc_X8_canKnock w_685 w_687 wp_27 w_1 jy_X8_canKnock ⟨⟨Nat.le_of_ble_eq_true rfl, Nat.le_of_ble_eq_true rfl⟩, ⟨rfl, rfl⟩, ⟨Nat.zero_le _, Nat.zero_le _⟩⟩ (Nat.le_of_ble_eq_true rfl) (by decide) rfl (r := (RX8, TX8, 9)) rfl rfl rfl (fun _ _ h => h) ?_
      refine j_if_ne C dX8_clauseDone_38 (tgt := 43) (by decide) (fun cq => ?_) (fun cq => ?_)
      · have h := jite_t h (jb_t cq)
        refine j_aload_n C dX8_clauseDone_43 0 rfl ?_
        refine j_iload_n C dX8_clauseDone_44 1 rfl ?_
        refine j_iload_n C dX8_clauseDone_45 2 rfl ?_
        obtain ⟨p46, he46, h⟩ := jbind h
        refine j_cV1 C dX8_clauseDone_46 (m_X8_knocked n v1 v2 s he46) kc_X8_knocked w_689 w_691 wp_28 w_1 jy_X8_knocked ⟨⟨Nat.le_of_ble_eq_true rfl, Nat.le_of_ble_eq_true rfl⟩, ⟨rfl, rfl⟩, ⟨Nat.zero_le _, Nat.zero_le _⟩⟩ (Nat.le_of_ble_eq_true rfl) (by decide) rfl (r := (RX8, TX8, 9)) rfl rfl rfl (fun _ _ h => h) ?_
        refine j_pop C dX8_clauseDone_49 rfl ?_
        refine j_iconst C dX8_clauseDone_50 (v := 1) (by decide) ?_
        exact j_iret C dX8_clauseDone_51 rfl (jb_nar true) (Nat.zero_le _) (Nat.zero_le _) (jretWB h)
      · have h := jite_f h (jb_f cq)
        refine j_iconst C dX8_clauseDone_41 (v := 0) (by decide) ?_
        exact j_iret C dX8_clauseDone_42 rfl (jb_nar false) (Nat.zero_le _) (Nat.zero_le _) (jretWB h)
    · have h := jite_t h cq
      refine j_aload_n C dX8_clauseDone_11 0 rfl ?_
      refine j_iload_n C dX8_clauseDone_12 2 rfl ?_
      refine j_cV1 C dX8_clauseDone_13 (m_X8_canWait v2 s rfl) kc_X8_canWait w_716 w_718 wp_29 w_1 jy_X8_canWait ⟨⟨Nat.le_of_ble_eq_true rfl, Nat.le_of_ble_eq_true rfl⟩, ⟨rfl, rfl⟩, ⟨Nat.zero_le _, Nat.zero_le _⟩⟩ (Nat.le_of_ble_eq_true rfl) (by decide) rfl (r := (RX8, TX8, 9)) rfl rfl rfl (fun _ _ h => h) ?_
      refine j_istore_n C dX8_clauseDone_16 (by decide) rfl ?_
      refine j_aload_n C dX8_clauseDone_17 1 rfl ?_
      refine j_iload_n C dX8_clauseDone_18 0 rfl ?_
      refine j_if_eq C dX8_clauseDone_19 (tgt := 26) (by decide) (fun cq => ?_) (fun cq => ?_)
      · have h := jite_f h (jb_f cq)
        refine j_iconst C dX8_clauseDone_26 (v := 0) (by decide) ?_
        obtain ⟨p27, he27, h⟩ := jbind h
        refine j_cV0 C dX8_clauseDone_27 (m_X8_waited n 0 s he27) kc_X8_waited w_720 w_722 wp_30 w_1 jy_X8_waited ⟨⟨Nat.le_of_ble_eq_true rfl, Nat.le_of_ble_eq_true rfl⟩, ⟨rfl, rfl⟩, ⟨Nat.zero_le _, Nat.zero_le _⟩⟩ (Nat.le_of_ble_eq_true rfl) (by decide) rfl (r := (RX8, TX8, 9)) rfl rfl rfl (fun _ _ h => h) ?_
        refine j_iload_n C dX8_clauseDone_30 0 rfl ?_
        exact j_iret C dX8_clauseDone_31 rfl (jb_nar (F_X8_canWait v2 s)) (Nat.zero_le _) (Nat.zero_le _) (jretWB h)
      · have h := jite_t h (jb_t cq)
        refine j_iload_n C dX8_clauseDone_22 3 rfl ?_
        refine j_goto C dX8_clauseDone_23 (tgt := 27) (by decide) ?_
        obtain ⟨p27, he27, h⟩ := jbind h
        refine j_cV0 C dX8_clauseDone_27 (m_X8_waited n v2 s he27) kc_X8_waited w_720 w_722 wp_30 w_1 jy_X8_waited ⟨⟨Nat.le_of_ble_eq_true rfl, Nat.le_of_ble_eq_true rfl⟩, ⟨rfl, rfl⟩, ⟨Nat.zero_le _, Nat.zero_le _⟩⟩ (Nat.le_of_ble_eq_true rfl) (by decide) rfl (r := (RX8, TX8, 9)) rfl rfl rfl (fun _ _ h => h) ?_
        refine j_iload_n C dX8_clauseDone_30 0 rfl ?_
        exact j_iret C dX8_clauseDone_31 rfl (jb_nar (F_X8_canWait v2 s)) (Nat.zero_le _) (Nat.zero_le _) (jretWB h)
  · have h := jite_t h cq
    refine j_iconst C dX8_clauseDone_5 (v := 1) (by decide) ?_
    exact j_iret C dX8_clauseDone_6 rfl (jb_nar true) (Nat.zero_le _) (Nat.zero_le _) (jretWB h)
