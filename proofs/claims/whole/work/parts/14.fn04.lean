theorem dX1_read_0 : decode cX1_read 0 = .ok (.aload_n 0, 1) := by decide +kernel
theorem dX1_read_1 : decode cX1_read 1 = .ok (.iconst 0, 1) := by decide +kernel
theorem dX1_read_2 : decode cX1_read 2 = .ok (.putfield 9, 3) := by decide +kernel
theorem dX1_read_5 : decode cX1_read 5 = .ok (.aload_n 0, 1) := by decide +kernel
theorem dX1_read_6 : decode cX1_read 6 = .ok (.iconst (-1), 1) := by decide +kernel
theorem dX1_read_7 : decode cX1_read 7 = .ok (.putfield 15, 3) := by decide +kernel
theorem dX1_read_10 : decode cX1_read 10 = .ok (.aload_n 0, 1) := by decide +kernel
theorem dX1_read_11 : decode cX1_read 11 = .ok (.iconst 0, 1) := by decide +kernel
theorem dX1_read_12 : decode cX1_read 12 = .ok (.putfield 30, 3) := by decide +kernel
theorem dX1_read_15 : decode cX1_read 15 = .ok (.aload_n 0, 1) := by decide +kernel
theorem dX1_read_16 : decode cX1_read 16 = .ok (.aload_n 1, 1) := by decide +kernel
theorem dX1_read_17 : decode cX1_read 17 = .ok (.putfield 26, 3) := by decide +kernel
theorem dX1_read_20 : decode cX1_read 20 = .ok (.aload_n 0, 1) := by decide +kernel
theorem dX1_read_21 : decode cX1_read 21 = .ok (.getfield 26, 3) := by decide +kernel
theorem dX1_read_24 : decode cX1_read 24 = .ok (.invokevirtual 33, 3) := by decide +kernel
theorem dX1_read_27 : decode cX1_read 27 = .ok (.aload_n 0, 1) := by decide +kernel
theorem dX1_read_28 : decode cX1_read 28 = .ok (.getfield 22, 3) := by decide +kernel
theorem dX1_read_31 : decode cX1_read 31 = .ok (.invokevirtual 38, 3) := by decide +kernel
theorem dX1_read_34 : decode cX1_read 34 = .ok (.iconst 0, 1) := by decide +kernel
theorem dX1_read_35 : decode cX1_read 35 = .ok (.istore_n 2, 1) := by decide +kernel
theorem dX1_read_36 : decode cX1_read 36 = .ok (.iconst 0, 1) := by decide +kernel
theorem dX1_read_37 : decode cX1_read 37 = .ok (.istore_n 3, 1) := by decide +kernel
theorem dX1_read_38 : decode cX1_read 38 = .ok (.iload_n 3, 1) := by decide +kernel
theorem dX1_read_39 : decode cX1_read 39 = .ok (.sipush 300, 3) := by decide +kernel
theorem dX1_read_42 : decode cX1_read 42 = .ok (.if_icmp .gt 66, 3) := by decide +kernel
theorem dX1_read_45 : decode cX1_read 45 = .ok (.aload_n 0, 1) := by decide +kernel
theorem dX1_read_46 : decode cX1_read 46 = .ok (.getfield 9, 3) := by decide +kernel
theorem dX1_read_49 : decode cX1_read 49 = .ok (.ifCond .ne 59, 3) := by decide +kernel
theorem dX1_read_52 : decode cX1_read 52 = .ok (.iload_n 2, 1) := by decide +kernel
theorem dX1_read_53 : decode cX1_read 53 = .ok (.ifCond .ne 55, 3) := by decide +kernel
theorem dX1_read_56 : decode cX1_read 56 = .ok (.aload_n 0, 1) := by decide +kernel
theorem dX1_read_57 : decode cX1_read 57 = .ok (.getfield 22, 3) := by decide +kernel
theorem dX1_read_60 : decode cX1_read 60 = .ok (.invokevirtual 43, 3) := by decide +kernel
theorem dX1_read_63 : decode cX1_read 63 = .ok (.aload_n 0, 1) := by decide +kernel
theorem dX1_read_64 : decode cX1_read 64 = .ok (.getfield 30, 3) := by decide +kernel
theorem dX1_read_67 : decode cX1_read 67 = .ok (.ifCond .ne 18, 3) := by decide +kernel
theorem dX1_read_70 : decode cX1_read 70 = .ok (.aload_n 0, 1) := by decide +kernel
theorem dX1_read_71 : decode cX1_read 71 = .ok (.getfield 22, 3) := by decide +kernel
theorem dX1_read_74 : decode cX1_read 74 = .ok (.getfield 46, 3) := by decide +kernel
theorem dX1_read_77 : decode cX1_read 77 = .ok (.iconst 1, 1) := by decide +kernel
theorem dX1_read_78 : decode cX1_read 78 = .ok (.if_icmp .ne 7, 3) := by decide +kernel
theorem dX1_read_81 : decode cX1_read 81 = .ok (.iconst 1, 1) := by decide +kernel
theorem dX1_read_82 : decode cX1_read 82 = .ok (.goto 4, 3) := by decide +kernel
theorem dX1_read_85 : decode cX1_read 85 = .ok (.iconst 0, 1) := by decide +kernel
theorem dX1_read_86 : decode cX1_read 86 = .ok (.istore_n 2, 1) := by decide +kernel
theorem dX1_read_87 : decode cX1_read 87 = .ok (.iload_n 2, 1) := by decide +kernel
theorem dX1_read_88 : decode cX1_read 88 = .ok (.ifCond .ne 14, 3) := by decide +kernel
theorem dX1_read_91 : decode cX1_read 91 = .ok (.aload_n 0, 1) := by decide +kernel
theorem dX1_read_92 : decode cX1_read 92 = .ok (.aload_n 0, 1) := by decide +kernel
theorem dX1_read_93 : decode cX1_read 93 = .ok (.getfield 22, 3) := by decide +kernel
theorem dX1_read_96 : decode cX1_read 96 = .ok (.getfield 46, 3) := by decide +kernel
theorem dX1_read_99 : decode cX1_read 99 = .ok (.invokevirtual 49, 3) := by decide +kernel
theorem dX1_read_102 : decode cX1_read 102 = .ok (.iinc 3 1, 3) := by decide +kernel
theorem dX1_read_105 : decode cX1_read 105 = .ok (.goto (-67), 3) := by decide +kernel
theorem dX1_read_108 : decode cX1_read 108 = .ok (.aload_n 0, 1) := by decide +kernel
theorem dX1_read_109 : decode cX1_read 109 = .ok (.getfield 9, 3) := by decide +kernel
theorem dX1_read_112 : decode cX1_read 112 = .ok (.ifCond .ne 7, 3) := by decide +kernel
theorem dX1_read_115 : decode cX1_read 115 = .ok (.iconst 1, 1) := by decide +kernel
theorem dX1_read_116 : decode cX1_read 116 = .ok (.goto 4, 3) := by decide +kernel
theorem dX1_read_119 : decode cX1_read 119 = .ok (.iconst 0, 1) := by decide +kernel
theorem dX1_read_120 : decode cX1_read 120 = .ok (.ireturn, 1) := by decide +kernel
theorem dX8_text_0 : decode cX8_text 0 = .ok (.aload_n 0, 1) := by decide +kernel
theorem dX8_text_1 : decode cX8_text 1 = .ok (.getfield 41, 3) := by decide +kernel
theorem dX8_text_4 : decode cX8_text 4 = .ok (.getfield 117, 3) := by decide +kernel
theorem dX8_text_7 : decode cX8_text 7 = .ok (.istore_n 1, 1) := by decide +kernel
theorem dX8_text_8 : decode cX8_text 8 = .ok (.iload_n 1, 1) := by decide +kernel
theorem dX8_text_9 : decode cX8_text 9 = .ok (.iconst 0, 1) := by decide +kernel
theorem dX8_text_10 : decode cX8_text 10 = .ok (.iconst 3, 1) := by decide +kernel
theorem dX8_text_11 : decode cX8_text 11 = .ok (.invokestatic 86, 3) := by decide +kernel
theorem dX8_text_14 : decode cX8_text 14 = .ok (.ifCond .ne 5, 3) := by decide +kernel
theorem dX8_text_17 : decode cX8_text 17 = .ok (.iconst (-1), 1) := by decide +kernel
theorem dX8_text_18 : decode cX8_text 18 = .ok (.ireturn, 1) := by decide +kernel
theorem dX8_text_19 : decode cX8_text 19 = .ok (.aload_n 0, 1) := by decide +kernel
theorem dX8_text_20 : decode cX8_text 20 = .ok (.getfield 61, 3) := by decide +kernel
theorem dX8_text_23 : decode cX8_text 23 = .ok (.aload_n 0, 1) := by decide +kernel
theorem dX8_text_24 : decode cX8_text 24 = .ok (.getfield 48, 3) := by decide +kernel
theorem dX8_text_27 : decode cX8_text 27 = .ok (.iload_n 1, 1) := by decide +kernel
theorem dX8_text_28 : decode cX8_text 28 = .ok (.aaload, 1) := by decide +kernel
theorem dX8_text_29 : decode cX8_text 29 = .ok (.invokevirtual 120, 3) := by decide +kernel
theorem dX8_text_32 : decode cX8_text 32 = .ok (.istore_n 2, 1) := by decide +kernel
theorem dX8_text_33 : decode cX8_text 33 = .ok (.aload_n 0, 1) := by decide +kernel
theorem dX8_text_34 : decode cX8_text 34 = .ok (.getfield 52, 3) := by decide +kernel
theorem dX8_text_37 : decode cX8_text 37 = .ok (.iconst 0, 1) := by decide +kernel
theorem dX8_text_38 : decode cX8_text 38 = .ok (.putfield 110, 3) := by decide +kernel
theorem dX8_text_41 : decode cX8_text 41 = .ok (.iload_n 2, 1) := by decide +kernel
theorem dX8_text_42 : decode cX8_text 42 = .ok (.ifCond .ne 5, 3) := by decide +kernel
theorem dX8_text_45 : decode cX8_text 45 = .ok (.iconst (-1), 1) := by decide +kernel
theorem dX8_text_46 : decode cX8_text 46 = .ok (.ireturn, 1) := by decide +kernel
theorem dX8_text_47 : decode cX8_text 47 = .ok (.aload_n 0, 1) := by decide +kernel
theorem dX8_text_48 : decode cX8_text 48 = .ok (.getfield 41, 3) := by decide +kernel
theorem dX8_text_51 : decode cX8_text 51 = .ok (.iload_n 1, 1) := by decide +kernel
theorem dX8_text_52 : decode cX8_text 52 = .ok (.iconst 1, 1) := by decide +kernel
theorem dX8_text_53 : decode cX8_text 53 = .ok (.iadd, 1) := by decide +kernel
theorem dX8_text_54 : decode cX8_text 54 = .ok (.putfield 117, 3) := by decide +kernel
theorem dX8_text_57 : decode cX8_text 57 = .ok (.aload_n 0, 1) := by decide +kernel
theorem dX8_text_58 : decode cX8_text 58 = .ok (.invokevirtual 94, 3) := by decide +kernel
theorem dX8_text_61 : decode cX8_text 61 = .ok (.iload_n 1, 1) := by decide +kernel
theorem dX8_text_62 : decode cX8_text 62 = .ok (.ireturn, 1) := by decide +kernel
theorem dX8_fault_0 : decode cX8_fault 0 = .ok (.iload_n 1, 1) := by decide +kernel
theorem dX8_fault_1 : decode cX8_fault 1 = .ok (.ifCond .ne 11, 3) := by decide +kernel
theorem dX8_fault_4 : decode cX8_fault 4 = .ok (.aload_n 0, 1) := by decide +kernel
theorem dX8_fault_5 : decode cX8_fault 5 = .ok (.getfield 61, 3) := by decide +kernel
theorem dX8_fault_8 : decode cX8_fault 8 = .ok (.getfield 124, 3) := by decide +kernel
theorem dX8_fault_11 : decode cX8_fault 11 = .ok (.ireturn, 1) := by decide +kernel
theorem dX8_fault_12 : decode cX8_fault 12 = .ok (.iload_n 1, 1) := by decide +kernel
theorem dX8_fault_13 : decode cX8_fault 13 = .ok (.iconst 1, 1) := by decide +kernel
theorem dX8_fault_14 : decode cX8_fault 14 = .ok (.if_icmp .ne 13, 3) := by decide +kernel
theorem dX8_fault_17 : decode cX8_fault 17 = .ok (.aload_n 0, 1) := by decide +kernel
theorem dX8_fault_18 : decode cX8_fault 18 = .ok (.getfield 61, 3) := by decide +kernel
theorem dX8_fault_21 : decode cX8_fault 21 = .ok (.getfield 127, 3) := by decide +kernel
theorem dX8_fault_24 : decode cX8_fault 24 = .ok (.goto 4, 3) := by decide +kernel
theorem dX8_fault_27 : decode cX8_fault 27 = .ok (.iconst (-1), 1) := by decide +kernel
theorem dX8_fault_28 : decode cX8_fault 28 = .ok (.ireturn, 1) := by decide +kernel
theorem dX8_keep_0 : decode cX8_keep 0 = .ok (.aload_n 0, 1) := by decide +kernel
theorem dX8_keep_1 : decode cX8_keep 1 = .ok (.iload_n 1, 1) := by decide +kernel
theorem dX8_keep_2 : decode cX8_keep 2 = .ok (.invokevirtual 97, 3) := by decide +kernel
theorem dX8_keep_5 : decode cX8_keep 5 = .ok (.ifCond .eq 20, 3) := by decide +kernel
theorem dX8_keep_8 : decode cX8_keep 8 = .ok (.iload_n 2, 1) := by decide +kernel
theorem dX8_keep_9 : decode cX8_keep 9 = .ok (.iconst (-1), 1) := by decide +kernel
theorem dX8_keep_10 : decode cX8_keep 10 = .ok (.aload_n 0, 1) := by decide +kernel
theorem dX8_keep_11 : decode cX8_keep 11 = .ok (.getfield 41, 3) := by decide +kernel
theorem dX8_keep_14 : decode cX8_keep 14 = .ok (.getfield 117, 3) := by decide +kernel
theorem dX8_keep_17 : decode cX8_keep 17 = .ok (.iconst 1, 1) := by decide +kernel
theorem dX8_keep_18 : decode cX8_keep 18 = .ok (.isub, 1) := by decide +kernel
theorem dX8_keep_19 : decode cX8_keep 19 = .ok (.invokestatic 86, 3) := by decide +kernel
theorem dX8_keep_22 : decode cX8_keep 22 = .ok (.ifCond .ne 5, 3) := by decide +kernel
theorem dX8_keep_25 : decode cX8_keep 25 = .ok (.iconst 0, 1) := by decide +kernel
theorem dX8_keep_26 : decode cX8_keep 26 = .ok (.ireturn, 1) := by decide +kernel
theorem dX8_keep_27 : decode cX8_keep 27 = .ok (.aload_n 0, 1) := by decide +kernel
theorem dX8_keep_28 : decode cX8_keep 28 = .ok (.getfield 41, 3) := by decide +kernel
theorem dX8_keep_31 : decode cX8_keep 31 = .ok (.getfield 130, 3) := by decide +kernel
theorem dX8_keep_34 : decode cX8_keep 34 = .ok (.iload_n 1, 1) := by decide +kernel
theorem dX8_keep_35 : decode cX8_keep 35 = .ok (.iload_n 2, 1) := by decide +kernel
theorem dX8_keep_36 : decode cX8_keep 36 = .ok (.iastore, 1) := by decide +kernel
theorem dX8_keep_37 : decode cX8_keep 37 = .ok (.aload_n 0, 1) := by decide +kernel
theorem dX8_keep_38 : decode cX8_keep 38 = .ok (.getfield 78, 3) := by decide +kernel
theorem dX8_keep_41 : decode cX8_keep 41 = .ok (.invokevirtual 107, 3) := by decide +kernel
theorem dX8_keep_44 : decode cX8_keep 44 = .ok (.iconst 1, 1) := by decide +kernel
theorem dX8_keep_45 : decode cX8_keep 45 = .ok (.ireturn, 1) := by decide +kernel
theorem dX8_isKnock_0 : decode cX8_isKnock 0 = .ok (.aload_n 0, 1) := by decide +kernel
theorem dX8_isKnock_1 : decode cX8_isKnock 1 = .ok (.iload_n 1, 1) := by decide +kernel
theorem dX8_isKnock_2 : decode cX8_isKnock 2 = .ok (.invokevirtual 97, 3) := by decide +kernel
theorem dX8_isKnock_5 : decode cX8_isKnock 5 = .ok (.ifCond .eq 45, 3) := by decide +kernel
theorem dX8_isKnock_8 : decode cX8_isKnock 8 = .ok (.iload_n 2, 1) := by decide +kernel
theorem dX8_isKnock_9 : decode cX8_isKnock 9 = .ok (.invokestatic 82, 3) := by decide +kernel
theorem dX8_isKnock_12 : decode cX8_isKnock 12 = .ok (.ifCond .eq 38, 3) := by decide +kernel
theorem dX8_isKnock_15 : decode cX8_isKnock 15 = .ok (.iload_n 3, 1) := by decide +kernel
theorem dX8_isKnock_16 : decode cX8_isKnock 16 = .ok (.iconst 1, 1) := by decide +kernel
theorem dX8_isKnock_17 : decode cX8_isKnock 17 = .ok (.bipush 7, 2) := by decide +kernel
theorem dX8_isKnock_19 : decode cX8_isKnock 19 = .ok (.invokestatic 86, 3) := by decide +kernel
theorem dX8_isKnock_22 : decode cX8_isKnock 22 = .ok (.ifCond .eq 28, 3) := by decide +kernel
theorem dX8_isKnock_25 : decode cX8_isKnock 25 = .ok (.iload 4, 2) := by decide +kernel
theorem dX8_isKnock_27 : decode cX8_isKnock 27 = .ok (.iconst 0, 1) := by decide +kernel
theorem dX8_isKnock_28 : decode cX8_isKnock 28 = .ok (.iconst 5, 1) := by decide +kernel
theorem dX8_isKnock_29 : decode cX8_isKnock 29 = .ok (.invokestatic 86, 3) := by decide +kernel
theorem dX8_isKnock_32 : decode cX8_isKnock 32 = .ok (.ifCond .eq 18, 3) := by decide +kernel
theorem dX8_isKnock_35 : decode cX8_isKnock 35 = .ok (.iload 5, 2) := by decide +kernel
theorem dX8_isKnock_37 : decode cX8_isKnock 37 = .ok (.iconst 0, 1) := by decide +kernel
theorem dX8_isKnock_38 : decode cX8_isKnock 38 = .ok (.bipush 9, 2) := by decide +kernel
theorem dX8_isKnock_40 : decode cX8_isKnock 40 = .ok (.invokestatic 86, 3) := by decide +kernel
theorem dX8_isKnock_43 : decode cX8_isKnock 43 = .ok (.ifCond .eq 7, 3) := by decide +kernel
theorem dX8_isKnock_46 : decode cX8_isKnock 46 = .ok (.iconst 1, 1) := by decide +kernel
theorem dX8_isKnock_47 : decode cX8_isKnock 47 = .ok (.goto 4, 3) := by decide +kernel
theorem dX8_isKnock_50 : decode cX8_isKnock 50 = .ok (.iconst 0, 1) := by decide +kernel
theorem dX8_isKnock_51 : decode cX8_isKnock 51 = .ok (.ireturn, 1) := by decide +kernel
theorem dX3_isOpening_0 : decode cX3_isOpening 0 = .ok (.iload_n 1, 1) := by decide +kernel
theorem dX3_isOpening_1 : decode cX3_isOpening 1 = .ok (.ifCond .lt 35, 3) := by decide +kernel
theorem dX3_isOpening_4 : decode cX3_isOpening 4 = .ok (.iload_n 1, 1) := by decide +kernel
theorem dX3_isOpening_5 : decode cX3_isOpening 5 = .ok (.iconst 4, 1) := by decide +kernel
theorem dX3_isOpening_6 : decode cX3_isOpening 6 = .ok (.if_icmp .ge 30, 3) := by decide +kernel
theorem dX3_isOpening_9 : decode cX3_isOpening 9 = .ok (.iload_n 1, 1) := by decide +kernel
theorem dX3_isOpening_10 : decode cX3_isOpening 10 = .ok (.aload_n 0, 1) := by decide +kernel
theorem dX3_isOpening_11 : decode cX3_isOpening 11 = .ok (.getfield 22, 3) := by decide +kernel
theorem dX3_isOpening_14 : decode cX3_isOpening 14 = .ok (.getfield 38, 3) := by decide +kernel
theorem dX3_isOpening_17 : decode cX3_isOpening 17 = .ok (.if_icmp .ge 19, 3) := by decide +kernel
theorem dX3_isOpening_20 : decode cX3_isOpening 20 = .ok (.aload_n 0, 1) := by decide +kernel
theorem dX3_isOpening_21 : decode cX3_isOpening 21 = .ok (.getfield 26, 3) := by decide +kernel
theorem dX3_isOpening_24 : decode cX3_isOpening 24 = .ok (.iload_n 1, 1) := by decide +kernel
theorem dX3_isOpening_25 : decode cX3_isOpening 25 = .ok (.aaload, 1) := by decide +kernel
theorem dX3_isOpening_26 : decode cX3_isOpening 26 = .ok (.getfield 43, 3) := by decide +kernel
theorem dX3_isOpening_29 : decode cX3_isOpening 29 = .ok (.ifCond .eq 7, 3) := by decide +kernel
theorem dX3_isOpening_32 : decode cX3_isOpening 32 = .ok (.iconst 1, 1) := by decide +kernel
theorem dX3_isOpening_33 : decode cX3_isOpening 33 = .ok (.goto 4, 3) := by decide +kernel
theorem dX3_isOpening_36 : decode cX3_isOpening 36 = .ok (.iconst 0, 1) := by decide +kernel
theorem dX3_isOpening_37 : decode cX3_isOpening 37 = .ok (.ireturn, 1) := by decide +kernel
theorem dX3_face_0 : decode cX3_face 0 = .ok (.aload_n 0, 1) := by decide +kernel
theorem dX3_face_1 : decode cX3_face 1 = .ok (.getfield 9, 3) := by decide +kernel
theorem dX3_face_4 : decode cX3_face 4 = .ok (.iconst 0, 1) := by decide +kernel
theorem dX3_face_5 : decode cX3_face 5 = .ok (.iload_n 1, 1) := by decide +kernel
theorem dX3_face_6 : decode cX3_face 6 = .ok (.iastore, 1) := by decide +kernel
theorem dX3_face_7 : decode cX3_face 7 = .ok (.aload_n 0, 1) := by decide +kernel
theorem dX3_face_8 : decode cX3_face 8 = .ok (.getfield 9, 3) := by decide +kernel
theorem dX3_face_11 : decode cX3_face 11 = .ok (.iconst 1, 1) := by decide +kernel
theorem dX3_face_12 : decode cX3_face 12 = .ok (.iload_n 2, 1) := by decide +kernel
theorem dX3_face_13 : decode cX3_face 13 = .ok (.iastore, 1) := by decide +kernel
theorem dX3_face_14 : decode cX3_face 14 = .ok (.aload_n 0, 1) := by decide +kernel
theorem dX3_face_15 : decode cX3_face 15 = .ok (.getfield 9, 3) := by decide +kernel
theorem dX3_face_18 : decode cX3_face 18 = .ok (.iconst 2, 1) := by decide +kernel
theorem dX3_face_19 : decode cX3_face 19 = .ok (.iload_n 2, 1) := by decide +kernel
theorem dX3_face_20 : decode cX3_face 20 = .ok (.ifCond .lt 21, 3) := by decide +kernel
theorem dX3_face_23 : decode cX3_face 23 = .ok (.iload_n 2, 1) := by decide +kernel
theorem dX3_face_24 : decode cX3_face 24 = .ok (.bipush 24, 2) := by decide +kernel
theorem dX3_face_26 : decode cX3_face 26 = .ok (.if_icmp .ge 15, 3) := by decide +kernel
theorem dX3_face_29 : decode cX3_face 29 = .ok (.aload_n 0, 1) := by decide +kernel
theorem dX3_face_30 : decode cX3_face 30 = .ok (.getfield 22, 3) := by decide +kernel
theorem dX3_face_33 : decode cX3_face 33 = .ok (.getfield 77, 3) := by decide +kernel
theorem dX3_face_36 : decode cX3_face 36 = .ok (.iload_n 2, 1) := by decide +kernel
theorem dX3_face_37 : decode cX3_face 37 = .ok (.iaload, 1) := by decide +kernel
theorem dX3_face_38 : decode cX3_face 38 = .ok (.goto 4, 3) := by decide +kernel
theorem dX3_face_41 : decode cX3_face 41 = .ok (.iconst 0, 1) := by decide +kernel
theorem dX3_face_42 : decode cX3_face 42 = .ok (.iastore, 1) := by decide +kernel
theorem dX3_face_43 : decode cX3_face 43 = .ok (.aload_n 0, 1) := by decide +kernel
theorem dX3_face_44 : decode cX3_face 44 = .ok (.getfield 9, 3) := by decide +kernel
theorem dX3_face_47 : decode cX3_face 47 = .ok (.iconst 3, 1) := by decide +kernel
theorem dX3_face_48 : decode cX3_face 48 = .ok (.iload_n 1, 1) := by decide +kernel
theorem dX3_face_49 : decode cX3_face 49 = .ok (.ifCond .lt 21, 3) := by decide +kernel
theorem dX3_face_52 : decode cX3_face 52 = .ok (.iload_n 1, 1) := by decide +kernel
theorem dX3_face_53 : decode cX3_face 53 = .ok (.bipush 8, 2) := by decide +kernel
theorem dX3_face_55 : decode cX3_face 55 = .ok (.if_icmp .ge 15, 3) := by decide +kernel
theorem dX3_face_58 : decode cX3_face 58 = .ok (.aload_n 0, 1) := by decide +kernel
theorem dX3_face_59 : decode cX3_face 59 = .ok (.getfield 22, 3) := by decide +kernel
theorem dX3_face_62 : decode cX3_face 62 = .ok (.getfield 80, 3) := by decide +kernel
theorem dX3_face_65 : decode cX3_face 65 = .ok (.iload_n 1, 1) := by decide +kernel
theorem dX3_face_66 : decode cX3_face 66 = .ok (.iaload, 1) := by decide +kernel
theorem dX3_face_67 : decode cX3_face 67 = .ok (.goto 4, 3) := by decide +kernel
theorem dX3_face_70 : decode cX3_face 70 = .ok (.iconst 0, 1) := by decide +kernel
theorem dX3_face_71 : decode cX3_face 71 = .ok (.iastore, 1) := by decide +kernel
theorem dX3_face_72 : decode cX3_face 72 = .ok (.aload_n 0, 1) := by decide +kernel
theorem dX3_face_73 : decode cX3_face 73 = .ok (.getfield 9, 3) := by decide +kernel
theorem dX3_face_76 : decode cX3_face 76 = .ok (.bipush 7, 2) := by decide +kernel
theorem dX3_face_78 : decode cX3_face 78 = .ok (.iload_n 3, 1) := by decide +kernel
theorem dX3_face_79 : decode cX3_face 79 = .ok (.iastore, 1) := by decide +kernel
theorem dX3_face_80 : decode cX3_face 80 = .ok (.return_, 1) := by decide +kernel
theorem dX3_joined_0 : decode cX3_joined 0 = .ok (.iload_n 0, 1) := by decide +kernel
theorem dX3_joined_1 : decode cX3_joined 1 = .ok (.tableswitch 164 11 22 #[63, 67, 164, 71, 82, 93, 104, 115, 126, 137, 146, 155], 63) := by decide +kernel
theorem dX3_joined_64 : decode cX3_joined 64 = .ok (.iload_n 1, 1) := by decide +kernel
theorem dX3_joined_65 : decode cX3_joined 65 = .ok (.iload_n 2, 1) := by decide +kernel
theorem dX3_joined_66 : decode cX3_joined 66 = .ok (.ior, 1) := by decide +kernel
theorem dX3_joined_67 : decode cX3_joined 67 = .ok (.ireturn, 1) := by decide +kernel
theorem dX3_joined_68 : decode cX3_joined 68 = .ok (.iload_n 1, 1) := by decide +kernel
theorem dX3_joined_69 : decode cX3_joined 69 = .ok (.iload_n 2, 1) := by decide +kernel
theorem dX3_joined_70 : decode cX3_joined 70 = .ok (.iand, 1) := by decide +kernel
theorem dX3_joined_71 : decode cX3_joined 71 = .ok (.ireturn, 1) := by decide +kernel
theorem dX3_joined_72 : decode cX3_joined 72 = .ok (.iload_n 1, 1) := by decide +kernel
theorem dX3_joined_73 : decode cX3_joined 73 = .ok (.iload_n 2, 1) := by decide +kernel
theorem dX3_joined_74 : decode cX3_joined 74 = .ok (.if_icmp .ge 7, 3) := by decide +kernel
theorem dX3_joined_77 : decode cX3_joined 77 = .ok (.iconst 1, 1) := by decide +kernel
theorem dX3_joined_78 : decode cX3_joined 78 = .ok (.goto 4, 3) := by decide +kernel
theorem dX3_joined_81 : decode cX3_joined 81 = .ok (.iconst 0, 1) := by decide +kernel
theorem dX3_joined_82 : decode cX3_joined 82 = .ok (.ireturn, 1) := by decide +kernel
theorem dX3_joined_83 : decode cX3_joined 83 = .ok (.iload_n 1, 1) := by decide +kernel
theorem dX3_joined_84 : decode cX3_joined 84 = .ok (.iload_n 2, 1) := by decide +kernel
theorem dX3_joined_85 : decode cX3_joined 85 = .ok (.if_icmp .gt 7, 3) := by decide +kernel
theorem dX3_joined_88 : decode cX3_joined 88 = .ok (.iconst 1, 1) := by decide +kernel
theorem dX3_joined_89 : decode cX3_joined 89 = .ok (.goto 4, 3) := by decide +kernel
theorem dX3_joined_92 : decode cX3_joined 92 = .ok (.iconst 0, 1) := by decide +kernel
theorem dX3_joined_93 : decode cX3_joined 93 = .ok (.ireturn, 1) := by decide +kernel
theorem dX3_joined_94 : decode cX3_joined 94 = .ok (.iload_n 1, 1) := by decide +kernel
theorem dX3_joined_95 : decode cX3_joined 95 = .ok (.iload_n 2, 1) := by decide +kernel
theorem dX3_joined_96 : decode cX3_joined 96 = .ok (.if_icmp .le 7, 3) := by decide +kernel
theorem dX3_joined_99 : decode cX3_joined 99 = .ok (.iconst 1, 1) := by decide +kernel
theorem dX3_joined_100 : decode cX3_joined 100 = .ok (.goto 4, 3) := by decide +kernel
theorem dX3_joined_103 : decode cX3_joined 103 = .ok (.iconst 0, 1) := by decide +kernel
theorem dX3_joined_104 : decode cX3_joined 104 = .ok (.ireturn, 1) := by decide +kernel
theorem dX3_joined_105 : decode cX3_joined 105 = .ok (.iload_n 1, 1) := by decide +kernel
theorem dX3_joined_106 : decode cX3_joined 106 = .ok (.iload_n 2, 1) := by decide +kernel
theorem dX3_joined_107 : decode cX3_joined 107 = .ok (.if_icmp .lt 7, 3) := by decide +kernel
theorem dX3_joined_110 : decode cX3_joined 110 = .ok (.iconst 1, 1) := by decide +kernel
theorem dX3_joined_111 : decode cX3_joined 111 = .ok (.goto 4, 3) := by decide +kernel
theorem dX3_joined_114 : decode cX3_joined 114 = .ok (.iconst 0, 1) := by decide +kernel
theorem dX3_joined_115 : decode cX3_joined 115 = .ok (.ireturn, 1) := by decide +kernel
theorem dX3_joined_116 : decode cX3_joined 116 = .ok (.iload_n 1, 1) := by decide +kernel
theorem dX3_joined_117 : decode cX3_joined 117 = .ok (.iload_n 2, 1) := by decide +kernel
theorem dX3_joined_118 : decode cX3_joined 118 = .ok (.if_icmp .ne 7, 3) := by decide +kernel
theorem dX3_joined_121 : decode cX3_joined 121 = .ok (.iconst 1, 1) := by decide +kernel
theorem dX3_joined_122 : decode cX3_joined 122 = .ok (.goto 4, 3) := by decide +kernel
theorem dX3_joined_125 : decode cX3_joined 125 = .ok (.iconst 0, 1) := by decide +kernel
theorem dX3_joined_126 : decode cX3_joined 126 = .ok (.ireturn, 1) := by decide +kernel
theorem dX3_joined_127 : decode cX3_joined 127 = .ok (.iload_n 1, 1) := by decide +kernel
theorem dX3_joined_128 : decode cX3_joined 128 = .ok (.iload_n 2, 1) := by decide +kernel
theorem dX3_joined_129 : decode cX3_joined 129 = .ok (.if_icmp .eq 7, 3) := by decide +kernel
theorem dX3_joined_132 : decode cX3_joined 132 = .ok (.iconst 1, 1) := by decide +kernel
theorem dX3_joined_133 : decode cX3_joined 133 = .ok (.goto 4, 3) := by decide +kernel
theorem dX3_joined_136 : decode cX3_joined 136 = .ok (.iconst 0, 1) := by decide +kernel
theorem dX3_joined_137 : decode cX3_joined 137 = .ok (.ireturn, 1) := by decide +kernel
theorem dX3_joined_138 : decode cX3_joined 138 = .ok (.iload_n 1, 1) := by decide +kernel
theorem dX3_joined_139 : decode cX3_joined 139 = .ok (.i2l, 1) := by decide +kernel
theorem dX3_joined_140 : decode cX3_joined 140 = .ok (.iload_n 2, 1) := by decide +kernel
theorem dX3_joined_141 : decode cX3_joined 141 = .ok (.i2l, 1) := by decide +kernel
theorem dX3_joined_142 : decode cX3_joined 142 = .ok (.ladd, 1) := by decide +kernel
theorem dX3_joined_143 : decode cX3_joined 143 = .ok (.lstore_n 3, 1) := by decide +kernel
theorem dX3_joined_144 : decode cX3_joined 144 = .ok (.goto 34, 3) := by decide +kernel
theorem dX3_joined_147 : decode cX3_joined 147 = .ok (.iload_n 1, 1) := by decide +kernel
theorem dX3_joined_148 : decode cX3_joined 148 = .ok (.i2l, 1) := by decide +kernel
theorem dX3_joined_149 : decode cX3_joined 149 = .ok (.iload_n 2, 1) := by decide +kernel
theorem dX3_joined_150 : decode cX3_joined 150 = .ok (.i2l, 1) := by decide +kernel
theorem dX3_joined_151 : decode cX3_joined 151 = .ok (.lsub, 1) := by decide +kernel
theorem dX3_joined_152 : decode cX3_joined 152 = .ok (.lstore_n 3, 1) := by decide +kernel
theorem dX3_joined_153 : decode cX3_joined 153 = .ok (.goto 25, 3) := by decide +kernel
theorem dX3_joined_156 : decode cX3_joined 156 = .ok (.iload_n 1, 1) := by decide +kernel
theorem dX3_joined_157 : decode cX3_joined 157 = .ok (.i2l, 1) := by decide +kernel
theorem dX3_joined_158 : decode cX3_joined 158 = .ok (.iload_n 2, 1) := by decide +kernel
theorem dX3_joined_159 : decode cX3_joined 159 = .ok (.i2l, 1) := by decide +kernel
theorem dX3_joined_160 : decode cX3_joined 160 = .ok (.lmul, 1) := by decide +kernel
theorem dX3_joined_161 : decode cX3_joined 161 = .ok (.lstore_n 3, 1) := by decide +kernel
theorem dX3_joined_162 : decode cX3_joined 162 = .ok (.goto 16, 3) := by decide +kernel
theorem dX3_joined_165 : decode cX3_joined 165 = .ok (.iload_n 2, 1) := by decide +kernel
theorem dX3_joined_166 : decode cX3_joined 166 = .ok (.ifCond .ne 7, 3) := by decide +kernel
theorem dX3_joined_169 : decode cX3_joined 169 = .ok (.lconst 0, 1) := by decide +kernel
theorem dX3_joined_170 : decode cX3_joined 170 = .ok (.goto 7, 3) := by decide +kernel
theorem dX3_joined_173 : decode cX3_joined 173 = .ok (.iload_n 1, 1) := by decide +kernel
theorem dX3_joined_174 : decode cX3_joined 174 = .ok (.iload_n 2, 1) := by decide +kernel
theorem dX3_joined_175 : decode cX3_joined 175 = .ok (.idiv, 1) := by decide +kernel
theorem dX3_joined_176 : decode cX3_joined 176 = .ok (.i2l, 1) := by decide +kernel
theorem dX3_joined_177 : decode cX3_joined 177 = .ok (.lstore_n 3, 1) := by decide +kernel
theorem dX3_joined_178 : decode cX3_joined 178 = .ok (.lload_n 3, 1) := by decide +kernel
theorem dX3_joined_179 : decode cX3_joined 179 = .ok (.ldc2_w 92, 3) := by decide +kernel
theorem dX3_joined_182 : decode cX3_joined 182 = .ok (.lcmp, 1) := by decide +kernel
theorem dX3_joined_183 : decode cX3_joined 183 = .ok (.ifCond .le 6, 3) := by decide +kernel
theorem dX3_joined_186 : decode cX3_joined 186 = .ok (.ldc 94, 2) := by decide +kernel
theorem dX3_joined_188 : decode cX3_joined 188 = .ok (.ireturn, 1) := by decide +kernel
theorem dX3_joined_189 : decode cX3_joined 189 = .ok (.lload_n 3, 1) := by decide +kernel
theorem dX3_joined_190 : decode cX3_joined 190 = .ok (.ldc2_w 95, 3) := by decide +kernel
theorem dX3_joined_193 : decode cX3_joined 193 = .ok (.lcmp, 1) := by decide +kernel
theorem dX3_joined_194 : decode cX3_joined 194 = .ok (.ifCond .ge 8, 3) := by decide +kernel
theorem dX3_joined_197 : decode cX3_joined 197 = .ok (.ldc 97, 2) := by decide +kernel
theorem dX3_joined_199 : decode cX3_joined 199 = .ok (.goto 5, 3) := by decide +kernel
theorem dX3_joined_202 : decode cX3_joined 202 = .ok (.lload_n 3, 1) := by decide +kernel
theorem dX3_joined_203 : decode cX3_joined 203 = .ok (.l2i, 1) := by decide +kernel
theorem dX3_joined_204 : decode cX3_joined 204 = .ok (.ireturn, 1) := by decide +kernel
-- X1_read_T
def J_X1_read_T_86 (n : Nat) (v3 : Int32) (k0 : Bool) (s : jS) : Option ((Bool × Int32 × jS) ⊕ (Bool × Int32 × jS)) :=
  (if k0 = true then some (.inl (k0, (v3 + 1), s)) else ((F_X1_take n (s.1 27 2) s).bind fun p99 => some (.inl (k0, (v3 + 1), p99))))
def J_X1_read_T_85 (n : Nat) (v3 : Int32) (s : jS) : Option ((Bool × Int32 × jS) ⊕ (Bool × Int32 × jS)) :=
  J_X1_read_T_86 n v3 false s
def B_X1_read_T_38 (n : Nat) (q : Bool × Int32 × jS) : Option ((Bool × Int32 × jS) ⊕ (Bool × Int32 × jS)) :=
  (if 300 < q.2.1 then some (.inr (q.1, q.2.1, q.2.2)) else (if (q.2.2.1 49 0) = 0 then (if q.1 = true then some (.inr (q.1, q.2.1, q.2.2)) else ((F_X4_nextToken n q.2.2).bind fun p60 => (if (p60.1 49 5) = 0 then (if (p60.1 27 2) = 1 then J_X1_read_T_86 n q.2.1 true p60 else J_X1_read_T_85 n q.2.1 p60) else J_X1_read_T_85 n q.2.1 p60))) else some (.inr (q.1, q.2.1, q.2.2))))
def F_X1_read_T (n : Nat) (t1 : Nat) (s : jS) : Option (Bool × jS) :=
  (jl (upI s 49 0 0) fun s2_1 => (jl (upI s2_1 49 1 (-1)) fun s7_2 => (jl (upI s7_2 49 5 0) fun s12_3 => (jl (upI s12_3 49 4 (Int32.ofNat t1)) fun s17_4 => (if jin (s17_4.1 49 4) 4 = true then ((F_X5_empties ((s17_4.1 49 4).toNatClampNeg) s17_4).bind fun p24 => ((F_X4_rewinds p24).bind fun p31 => ((lp (B_X1_read_T_38 n) n (false, 0, p31)).bind fun e38 => (if (e38.2.2.1 49 0) = 0 then some (true, e38.2.2) else some (false, e38.2.2))))) else none)))))
def rm_X1_read_T : Room := { frames := 11, cells := 0, slots := 0, locals := 285 }
set_option maxHeartbeats 4000000 in
set_option maxRecDepth 100000 in
theorem m_X1_read_T {l : Launch} {D : va_G} {G : Nat → ClassId} {KV : jV} {ad : Nat → Nat} {nd : Nat} (n : Nat) (t1 : Nat) (s : jS) (ht1 : t1 < 4) {p : Bool × jS} (h : F_X1_read_T n t1 s = some p) : jM l D G KV yX1_read cX1_read 4 (some .boolean) rm_X1_read_T [.ref (ad 49), .ref (ad (2 + 4 * t1))] (jw 54 (cellC G nd) ad s) 0 0 (fun v u => v = some (.int (jb p.1)) ∧ u = jw 54 (cellC G nd) ad p.2) := by
  refine jM.of (by decide) (Nat.le_of_ble_eq_true rfl) ?_
  intro K C
  unfold F_X1_read_T at h
  have jn86_38 : ∀ (v3 : Int32) (k0 : Bool) (s : jS) (o : (Bool × Int32 × jS) ⊕ (Bool × Int32 × jS)), J_X1_read_T_86 n v3 k0 s = some o → (∀ q, o = .inl q → K 0 0 (jw 54 (cellC G nd) ad q.2.2) 38 [(0, .ref (ad 49)), (2, .int (jb q.1)), (3, .int q.2.1)] []) → (∀ e, o = .inr e → K 0 0 (jw 54 (cellC G nd) ad e.2.2) 108 [(0, .ref (ad 49))] []) → K 0 0 (jw 54 (cellC G nd) ad s) 86 [(0, .ref (ad 49)), (3, .int v3)] [.int (jb k0)] := by
    intro v3 k0 s o hb hin hout
    unfold J_X1_read_T_86 at hb
    refine j_istore_n C dX1_read_86 (by decide) rfl ?_
    refine j_iload_n C dX1_read_87 0 rfl ?_
    refine j_if_ne C dX1_read_88 (tgt := 102) (by decide) (fun cq => ?_) (fun cq => ?_)
    · have hb := jite_t hb (jb_t cq)
      refine j_iinc C dX1_read_102 2 rfl (v := (v3 + 1)) rfl (by decide) rfl ?_
      refine j_goto C dX1_read_105 (tgt := 38) (by decide) ?_
      refine j_loc C [2, 1, 0] rfl ?_
      have hx := hin _ (jinl hb)
      exact hx
    · have hb := jite_f hb (jb_f cq)
      refine j_aload_n C dX1_read_91 1 rfl ?_
      refine j_aload_n C dX1_read_92 1 rfl ?_
      refine j_getW C dX1_read_93 inX1 rfl (by decide) rfl 2 (by decide) w_281 rfl rfl ?_
      refine j_getW C dX1_read_96 inX4 rfl (by decide) rfl 2 (by decide) w_174 rfl rfl ?_
      obtain ⟨p99, he99, hb⟩ := jbind hb
      refine j_cV0 C dX1_read_99 (m_X1_take n (s.1 27 2) s he99) kc_X1_take w_544 w_546 wp_8 w_9 jy_X1_take ⟨⟨Nat.le_of_ble_eq_true rfl, Nat.le_of_ble_eq_true rfl⟩, ⟨rfl, rfl⟩, ⟨Nat.zero_le _, Nat.zero_le _⟩⟩ (Nat.le_of_ble_eq_true rfl) (by decide) rfl (r := (RX1, TX1, 10)) rfl rfl rfl (fun _ _ h => h) ?_
      refine j_iinc C dX1_read_102 2 rfl (v := (v3 + 1)) rfl (by decide) rfl ?_
      refine j_goto C dX1_read_105 (tgt := 38) (by decide) ?_
      refine j_loc C [2, 1, 0] rfl ?_
      have hx := hin _ (jinl hb)
      exact hx
  have jn85_38 : ∀ (v3 : Int32) (s : jS) (o : (Bool × Int32 × jS) ⊕ (Bool × Int32 × jS)), J_X1_read_T_85 n v3 s = some o → (∀ q, o = .inl q → K 0 0 (jw 54 (cellC G nd) ad q.2.2) 38 [(0, .ref (ad 49)), (2, .int (jb q.1)), (3, .int q.2.1)] []) → (∀ e, o = .inr e → K 0 0 (jw 54 (cellC G nd) ad e.2.2) 108 [(0, .ref (ad 49))] []) → K 0 0 (jw 54 (cellC G nd) ad s) 85 [(0, .ref (ad 49)), (3, .int v3)] [] := by
    intro v3 s o hb hin hout
    unfold J_X1_read_T_85 at hb
    refine j_iconst C dX1_read_85 (v := 0) (by decide) ?_
    refine j_loc C [0, 1] rfl ?_
    exact jn86_38 v3 false s   _ hb hin hout
  have lo38 : ∀ (s : jS) (k : Nat) (q : Bool × Int32 × jS) (e : Bool × Int32 × jS), lp (B_X1_read_T_38 n) k q = some e → K 0 0 (jw 54 (cellC G nd) ad e.2.2) 108 [(0, .ref (ad 49))] [] → K 0 0 (jw 54 (cellC G nd) ad q.2.2) 38 [(0, .ref (ad 49)), (2, .int (jb q.1)), (3, .int q.2.1)] [] := by
    intro s k q e he hE
    refine jlp (KH := fun q => K 0 0 (jw 54 (cellC G nd) ad q.2.2) 38 [(0, .ref (ad 49)), (2, .int (jb q.1)), (3, .int q.2.1)] []) (KE := fun e => K 0 0 (jw 54 (cellC G nd) ad e.2.2) 108 [(0, .ref (ad 49))] []) ?_ k q e he hE
    intro q o hb hin hout
    unfold B_X1_read_T_38 at hb
    show K 0 0 (jw 54 (cellC G nd) ad q.2.2) 38 [(0, .ref (ad 49)), (2, .int (jb q.1)), (3, .int q.2.1)] []
    refine j_iload_n C dX1_read_38 2 rfl ?_
    refine j_sipush C dX1_read_39 (v := 300) (by decide) ?_
    refine j_icmp_gt C dX1_read_42 (tgt := 108) (by decide) (fun cq => ?_) (fun cq => ?_)
    · have hb := jite_t hb cq
      refine j_loc C [0] rfl ?_
      have hx := hout _ (jinr hb)
      exact hx
    · have hb := jite_f hb cq
      refine j_aload_n C dX1_read_45 0 rfl ?_
      refine j_getW C dX1_read_46 inX1 rfl (by decide) rfl 0 (by decide) w_277 rfl rfl ?_
      refine j_if_ne C dX1_read_49 (tgt := 108) (by decide) (fun cq => ?_) (fun cq => ?_)
      · have hb := jite_f hb cq
        refine j_loc C [0] rfl ?_
        have hx := hout _ (jinr hb)
        exact hx
      · have hb := jite_t hb cq
        refine j_iload_n C dX1_read_52 1 rfl ?_
        refine j_if_ne C dX1_read_53 (tgt := 108) (by decide) (fun cq => ?_) (fun cq => ?_)
        · have hb := jite_t hb (jb_t cq)
          refine j_loc C [0] rfl ?_
          have hx := hout _ (jinr hb)
          exact hx
        · have hb := jite_f hb (jb_f cq)
          refine j_aload_n C dX1_read_56 0 rfl ?_
          refine j_getW C dX1_read_57 inX1 rfl (by decide) rfl 2 (by decide) w_281 rfl rfl ?_
          obtain ⟨p60, he60, hb⟩ := jbind hb
          refine j_cV0 C dX1_read_60 (m_X4_nextToken n q.2.2 he60) kc_X4_nextToken w_436 w_437 w_438 w_6 jy_X4_nextToken ⟨⟨Nat.le_of_ble_eq_true rfl, Nat.le_of_ble_eq_true rfl⟩, ⟨rfl, rfl⟩, ⟨Nat.zero_le _, Nat.zero_le _⟩⟩ (Nat.le_of_ble_eq_true rfl) (by decide) rfl (r := (RX4, TX4, 6)) rfl rfl rfl (fun _ _ h => h) ?_
          refine j_aload_n C dX1_read_63 0 rfl ?_
          refine j_getW C dX1_read_64 inX1 rfl (by decide) rfl 5 (by decide) w_284 rfl rfl ?_
          refine j_if_ne C dX1_read_67 (tgt := 85) (by decide) (fun cq => ?_) (fun cq => ?_)
          · have hb := jite_f hb cq
            refine j_loc C [0, 2] rfl ?_
            exact jn85_38 q.2.1 p60   _ hb hin hout
          · have hb := jite_t hb cq
            refine j_aload_n C dX1_read_70 0 rfl ?_
            refine j_getW C dX1_read_71 inX1 rfl (by decide) rfl 2 (by decide) w_281 rfl rfl ?_
            refine j_getW C dX1_read_74 inX4 rfl (by decide) rfl 2 (by decide) w_174 rfl rfl ?_
            refine j_iconst C dX1_read_77 (v := 1) (by decide) ?_
            refine j_icmp_ne C dX1_read_78 (tgt := 85) (by decide) (fun cq => ?_) (fun cq => ?_)
            · have hb := jite_f hb cq
              refine j_loc C [0, 2] rfl ?_
              exact jn85_38 q.2.1 p60   _ hb hin hout
            · have hb := jite_t hb cq
              refine j_iconst C dX1_read_81 (v := 1) (by decide) ?_
              refine j_goto C dX1_read_82 (tgt := 86) (by decide) ?_
              refine j_loc C [0, 2] rfl ?_
              exact jn86_38 q.2.1 true p60   _ hb hin hout
  show K 0 0 (jw 54 (cellC G nd) ad s) 0 [(0, .ref (ad 49)), (1, .ref (ad (2 + 4 * t1)))] []
  refine j_aload_n C dX1_read_0 0 rfl ?_
  refine j_iconst C dX1_read_1 (v := 0) (by decide) ?_
  refine j_putI C dX1_read_2 inX1 tyX1 tyX1_ok nmX1 rfl (by decide) 0 rfl rfl (by decide) w_277 rfl rfl rfl rfl (Nat.le_of_ble_eq_true rfl) (fun s2_1 hs2_1 => ?_)
  have h := jlet h hs2_1
  refine j_aload_n C dX1_read_5 0 rfl ?_
  refine j_iconst C dX1_read_6 (v := (-1)) (by decide) ?_
  refine j_putI C dX1_read_7 inX1 tyX1 tyX1_ok nmX1 rfl (by decide) 1 rfl rfl (by decide) w_279 rfl rfl rfl rfl (Nat.le_of_ble_eq_true rfl) (fun s7_2 hs7_2 => ?_)
  have h := jlet h hs7_2
  refine j_aload_n C dX1_read_10 0 rfl ?_
  refine j_iconst C dX1_read_11 (v := 0) (by decide) ?_
  refine j_putI C dX1_read_12 inX1 tyX1 tyX1_ok nmX1 rfl (by decide) 5 rfl rfl (by decide) w_284 rfl rfl rfl rfl (Nat.le_of_ble_eq_true rfl) (fun s12_3 hs12_3 => ?_)
  have h := jlet h hs12_3
  refine j_aload_n C dX1_read_15 0 rfl ?_
  refine j_aload_n C dX1_read_16 1 rfl ?_
  refine j_putT C dX1_read_17 w_283 ht1 (fun s17_4 hs17_4 => ?_)
  have h := jlet h hs17_4
  refine j_aload_n C dX1_read_20 0 rfl ?_
  refine j_getW C dX1_read_21 inX1 rfl (by decide) rfl 4 (by decide) w_283 rfl rfl ?_
  obtain ⟨c21_5, h⟩ := jchk h
  obtain ⟨p24, he24, h⟩ := jbind h
  refine j_cV0 C dX1_read_24 (m_X5_empties ((s17_4.1 49 4).toNatClampNeg) s17_4 (jin_lt c21_5) he24) kc_X5_empties w_428 w_429 w_430 w_3 jy_X5_empties ⟨⟨Nat.le_of_ble_eq_true rfl, Nat.le_of_ble_eq_true rfl⟩, ⟨rfl, rfl⟩, ⟨Nat.zero_le _, Nat.zero_le _⟩⟩ (Nat.le_of_ble_eq_true rfl) (cTq0 (jin_lt c21_5)) (cT0 (jin_lt c21_5)) (r := (RX5, TX5, 7)) rfl rfl rfl (fun _ _ h => h) ?_
  refine j_aload_n C dX1_read_27 0 rfl ?_
  refine j_getW C dX1_read_28 inX1 rfl (by decide) rfl 2 (by decide) w_281 rfl rfl ?_
  obtain ⟨p31, he31, h⟩ := jbind h
  refine j_cV0 C dX1_read_31 (m_X4_rewinds p24 he31) kc_X4_rewinds w_432 w_433 w_434 w_6 jy_X4_rewinds ⟨⟨Nat.le_of_ble_eq_true rfl, Nat.le_of_ble_eq_true rfl⟩, ⟨rfl, rfl⟩, ⟨Nat.zero_le _, Nat.zero_le _⟩⟩ (Nat.le_of_ble_eq_true rfl) (by decide) rfl (r := (RX4, TX4, 6)) rfl rfl rfl (fun _ _ h => h) ?_
  refine j_iconst C dX1_read_34 (v := 0) (by decide) ?_
  refine j_istore_n C dX1_read_35 (by decide) rfl ?_
  refine j_iconst C dX1_read_36 (v := 0) (by decide) ?_
  refine j_istore_n C dX1_read_37 (by decide) rfl ?_
  refine j_loc C [2, 1, 0] rfl ?_
  obtain ⟨e38, he38, h⟩ := jbind h
  refine lo38  p31  n (false, 0, p31) e38 he38 ?_
  refine j_aload_n C dX1_read_108 0 rfl ?_
  refine j_getW C dX1_read_109 inX1 rfl (by decide) rfl 0 (by decide) w_277 rfl rfl ?_
  refine j_if_ne C dX1_read_112 (tgt := 119) (by decide) (fun cq => ?_) (fun cq => ?_)
  · have h := jite_f h cq
    refine j_iconst C dX1_read_119 (v := 0) (by decide) ?_
    exact j_iret C dX1_read_120 rfl (jb_nar false) (Nat.zero_le _) (Nat.zero_le _) (jretWB h)
  · have h := jite_t h cq
    refine j_iconst C dX1_read_115 (v := 1) (by decide) ?_
    refine j_goto C dX1_read_116 (tgt := 120) (by decide) ?_
    exact j_iret C dX1_read_120 rfl (jb_nar true) (Nat.zero_le _) (Nat.zero_le _) (jretWB h)
-- X8_text
def F_X8_text (n : Nat) (s : jS) : Option (Int32 × jS) :=
  (if (F_X8_within (s.1 18 7) 0 3) = true then (if jin (s.1 18 7) 4 = true then ((F_X1_read_T n (Int32.toNatClampNeg (s.1 18 7)) s).bind fun p29 => (jl (upI p29.2 27 1 0) fun s38_2 => (if p29.1 = true then (jl (upI s38_2 18 7 ((s.1 18 7) + 1)) fun s54_3 => ((F_X8_outlookChanged s54_3).bind fun p58 => some ((s.1 18 7), p58))) else some ((-1), s38_2)))) else none) else some ((-1), s))
def rm_X8_text : Room := { frames := 12, cells := 0, slots := 0, locals := 308 }
set_option maxHeartbeats 4000000 in
set_option maxRecDepth 100000 in
theorem m_X8_text {l : Launch} {D : va_G} {G : Nat → ClassId} {KV : jV} {ad : Nat → Nat} {nd : Nat} (n : Nat) (s : jS) {p : Int32 × jS} (h : F_X8_text n s = some p) : jM l D G KV yX8_text cX8_text 3 (some .int) rm_X8_text [.ref (ad 0)] (jw 54 (cellC G nd) ad s) 0 0 (fun v u => v = some (.int p.1) ∧ u = jw 54 (cellC G nd) ad p.2) := by
  refine jM.of (by decide) (Nat.le_of_ble_eq_true rfl) ?_
  intro K C
  unfold F_X8_text at h
  show K 0 0 (jw 54 (cellC G nd) ad s) 0 [(0, .ref (ad 0))] []
  refine j_aload_n C dX8_text_0 0 rfl ?_
  refine j_getW C dX8_text_1 inX8 rfl (by decide) rfl 1 (by decide) w_343 rfl rfl ?_
  refine j_getW C dX8_text_4 inX2 rfl (by decide) rfl 7 (by decide) w_138 rfl rfl ?_
  refine j_istore_n C dX8_text_7 (by decide) rfl ?_
  refine j_iload_n C dX8_text_8 0 rfl ?_
  refine j_iconst C dX8_text_9 (v := 0) (by decide) ?_
  refine j_iconst C dX8_text_10 (v := 3) (by decide) ?_
  refine j_cS1 C dX8_text_11 (m_X8_within (s.1 18 7) 0 3 rfl) kc_X8_within w_377 w_378 w_1 jy_X8_within ⟨⟨Nat.le_of_ble_eq_true rfl, Nat.le_of_ble_eq_true rfl⟩, ⟨rfl, rfl⟩, ⟨Nat.zero_le _, Nat.zero_le _⟩⟩ (Nat.le_of_ble_eq_true rfl) rfl (fun _ _ h => h) ?_
  refine j_if_ne C dX8_text_14 (tgt := 19) (by decide) (fun cq => ?_) (fun cq => ?_)
  · have h := jite_t h (jb_t cq)
    refine j_aload_n C dX8_text_19 1 rfl ?_
    refine j_getW C dX8_text_20 inX8 rfl (by decide) rfl 5 (by decide) w_347 rfl rfl ?_
    refine j_aload_n C dX8_text_23 1 rfl ?_
    refine j_getW C dX8_text_24 inX8 rfl (by decide) rfl 3 (by decide) w_345 rfl rfl ?_
    refine j_iload_n C dX8_text_27 0 rfl ?_
    obtain ⟨c28_1, h⟩ := jchk h
    refine j_aaldT C dX8_text_28 (by decide) rfl c28_1 ?_
    obtain ⟨p29, he29, h⟩ := jbind h
    refine j_cV1 C dX8_text_29 (m_X1_read_T n (Int32.toNatClampNeg (s.1 18 7)) s (jin_lt (i := (s.1 18 7)) (n := 4) c28_1) he29) kc_X1_read w_424 w_425 w_426 w_9 jy_X1_read ⟨⟨Nat.le_of_ble_eq_true rfl, Nat.le_of_ble_eq_true rfl⟩, ⟨rfl, rfl⟩, ⟨Nat.zero_le _, Nat.zero_le _⟩⟩ (Nat.le_of_ble_eq_true rfl) (by decide) rfl (r := (RX1, TX1, 10)) rfl rfl rfl (fun _ _ h => h) ?_
    refine j_istore_n C dX8_text_32 (by decide) rfl ?_
    refine j_aload_n C dX8_text_33 2 rfl ?_
    refine j_getW C dX8_text_34 inX8 rfl (by decide) rfl 4 (by decide) w_346 rfl rfl ?_
    refine j_iconst C dX8_text_37 (v := 0) (by decide) ?_
    refine j_putI C dX8_text_38 inX4 tyX4 tyX4_ok nmX4 rfl (by decide) 1 rfl rfl (by decide) w_173 rfl rfl rfl rfl (Nat.le_of_ble_eq_true rfl) (fun s38_2 hs38_2 => ?_)
    have h := jlet h hs38_2
    refine j_iload_n C dX8_text_41 0 rfl ?_
    refine j_if_ne C dX8_text_42 (tgt := 47) (by decide) (fun cq => ?_) (fun cq => ?_)
    · have h := jite_t h (jb_t cq)
      refine j_aload_n C dX8_text_47 2 rfl ?_
      refine j_getW C dX8_text_48 inX8 rfl (by decide) rfl 1 (by decide) w_343 rfl rfl ?_
      refine j_iload_n C dX8_text_51 1 rfl ?_
      refine j_iconst C dX8_text_52 (v := 1) (by decide) ?_
      refine j_iadd C dX8_text_53 ?_
      refine j_putI C dX8_text_54 inX2 tyX2 tyX2_ok nmX2 rfl (by decide) 7 rfl rfl (by decide) w_138 rfl rfl rfl rfl (Nat.le_of_ble_eq_true rfl) (fun s54_3 hs54_3 => ?_)
      have h := jlet h hs54_3
      refine j_aload_n C dX8_text_57 2 rfl ?_
      obtain ⟨p58, he58, h⟩ := jbind h
      refine j_cV0 C dX8_text_58 (m_X8_outlookChanged s54_3 he58) kc_X8_outlookChanged w_380 w_382 wp_0 w_1 jy_X8_outlookChanged ⟨⟨Nat.le_of_ble_eq_true rfl, Nat.le_of_ble_eq_true rfl⟩, ⟨rfl, rfl⟩, ⟨Nat.zero_le _, Nat.zero_le _⟩⟩ (Nat.le_of_ble_eq_true rfl) (by decide) rfl (r := (RX8, TX8, 9)) rfl rfl rfl (fun _ _ h => h) ?_
      refine j_iload_n C dX8_text_61 1 rfl ?_
      exact j_iret C dX8_text_62 rfl rfl (Nat.zero_le _) (Nat.zero_le _) (jretWI h)
    · have h := jite_f h (jb_f cq)
      refine j_iconst C dX8_text_45 (v := (-1)) (by decide) ?_
      exact j_iret C dX8_text_46 rfl rfl (Nat.zero_le _) (Nat.zero_le _) (jretWI h)
  · have h := jite_f h (jb_f cq)
    refine j_iconst C dX8_text_17 (v := (-1)) (by decide) ?_
    exact j_iret C dX8_text_18 rfl rfl (Nat.zero_le _) (Nat.zero_le _) (jretWI h)
-- X8_fault
def F_X8_fault (v1 : Int32) (s : jS) : Int32 :=
  (if v1 = 0 then (s.1 49 0) else (if v1 = 1 then (s.1 49 1) else (-1)))
def rm_X8_fault : Room := { frames := 0, cells := 0, slots := 0, locals := 0 }
set_option maxHeartbeats 4000000 in
set_option maxRecDepth 100000 in
theorem m_X8_fault {l : Launch} {D : va_G} {G : Nat → ClassId} {KV : jV} {ad : Nat → Nat} {nd : Nat} (v1 : Int32) (s : jS) {p : Int32} (h : F_X8_fault v1 s = p) : jM l D G KV yX8_fault cX8_fault 2 (some .int) rm_X8_fault [.ref (ad 0), .int v1] (jw 54 (cellC G nd) ad s) 0 0 (fun v u => v = some (.int p) ∧ u = jw 54 (cellC G nd) ad s) := by
  refine jM.of (by decide) (Nat.le_of_ble_eq_true rfl) ?_
  intro K C
  unfold F_X8_fault at h
  show K 0 0 (jw 54 (cellC G nd) ad s) 0 [(0, .ref (ad 0)), (1, .int v1)] []
  refine j_iload_n C dX8_fault_0 1 rfl ?_
  refine j_if_ne C dX8_fault_1 (tgt := 12) (by decide) (fun cq => ?_) (fun cq => ?_)
  · have h := jite_f h cq
    refine j_iload_n C dX8_fault_12 1 rfl ?_
    refine j_iconst C dX8_fault_13 (v := 1) (by decide) ?_
    refine j_icmp_ne C dX8_fault_14 (tgt := 27) (by decide) (fun cq => ?_) (fun cq => ?_)
    · have h := jite_f h cq
      refine j_iconst C dX8_fault_27 (v := (-1)) (by decide) ?_
      exact j_iret C dX8_fault_28 rfl rfl (Nat.zero_le _) (Nat.zero_le _) (jretTI h)
    · have h := jite_t h cq
      refine j_aload_n C dX8_fault_17 0 rfl ?_
      refine j_getW C dX8_fault_18 inX8 rfl (by decide) rfl 5 (by decide) w_347 rfl rfl ?_
      refine j_getW C dX8_fault_21 inX1 rfl (by decide) rfl 1 (by decide) w_280 rfl rfl ?_
      refine j_goto C dX8_fault_24 (tgt := 28) (by decide) ?_
      exact j_iret C dX8_fault_28 rfl rfl (Nat.zero_le _) (Nat.zero_le _) (jretTI h)
  · have h := jite_t h cq
    refine j_aload_n C dX8_fault_4 0 rfl ?_
    refine j_getW C dX8_fault_5 inX8 rfl (by decide) rfl 5 (by decide) w_347 rfl rfl ?_
    refine j_getW C dX8_fault_8 inX1 rfl (by decide) rfl 0 (by decide) w_278 rfl rfl ?_
    exact j_iret C dX8_fault_11 rfl rfl (Nat.zero_le _) (Nat.zero_le _) (jretTI h)
-- X8_keep
def F_X8_keep (v1 : Int32) (v2 : Int32) (s : jS) : Option (Bool × jS) :=
  (if (F_X8_isDoor v1 s) = true then (if (F_X8_within v2 (-1) ((s.1 18 7) - 1)) = true then (if jin v1 8 = true then (jl (upI s 21 (Int32.toNatClampNeg v1) v2) fun s36_2 => ((F_X0_forget s36_2).bind fun p41 => some (true, p41))) else none) else some (false, s)) else some (false, s))
def rm_X8_keep : Room := { frames := 2, cells := 0, slots := 0, locals := 43 }
set_option maxHeartbeats 4000000 in
set_option maxRecDepth 100000 in
theorem m_X8_keep {l : Launch} {D : va_G} {G : Nat → ClassId} {KV : jV} {ad : Nat → Nat} {nd : Nat} (v1 : Int32) (v2 : Int32) (s : jS) {p : Bool × jS} (h : F_X8_keep v1 v2 s = some p) : jM l D G KV yX8_keep cX8_keep 3 (some .boolean) rm_X8_keep [.ref (ad 0), .int v1, .int v2] (jw 54 (cellC G nd) ad s) 0 0 (fun v u => v = some (.int (jb p.1)) ∧ u = jw 54 (cellC G nd) ad p.2) := by
  refine jM.of (by decide) (Nat.le_of_ble_eq_true rfl) ?_
  intro K C
  unfold F_X8_keep at h
  show K 0 0 (jw 54 (cellC G nd) ad s) 0 [(0, .ref (ad 0)), (1, .int v1), (2, .int v2)] []
  refine j_aload_n C dX8_keep_0 0 rfl ?_
  refine j_iload_n C dX8_keep_1 1 rfl ?_
  refine j_cV1 C dX8_keep_2 (m_X8_isDoor v1 s rfl) kc_X8_isDoor w_396 w_398 wp_1 w_1 jy_X8_isDoor ⟨⟨Nat.le_of_ble_eq_true rfl, Nat.le_of_ble_eq_true rfl⟩, ⟨rfl, rfl⟩, ⟨Nat.zero_le _, Nat.zero_le _⟩⟩ (Nat.le_of_ble_eq_true rfl) (by decide) rfl (r := (RX8, TX8, 9)) rfl rfl rfl (fun _ _ h => h) ?_
  refine j_if_eq C dX8_keep_5 (tgt := 25) (by decide) (fun cq => ?_) (fun cq => ?_)
  · have h := jite_f h (jb_f cq)
    refine j_iconst C dX8_keep_25 (v := 0) (by decide) ?_
    exact j_iret C dX8_keep_26 rfl (jb_nar false) (Nat.zero_le _) (Nat.zero_le _) (jretWB h)
  · have h := jite_t h (jb_t cq)
    refine j_iload_n C dX8_keep_8 2 rfl ?_
    refine j_iconst C dX8_keep_9 (v := (-1)) (by decide) ?_
    refine j_aload_n C dX8_keep_10 0 rfl ?_
    refine j_getW C dX8_keep_11 inX8 rfl (by decide) rfl 1 (by decide) w_343 rfl rfl ?_
    refine j_getW C dX8_keep_14 inX2 rfl (by decide) rfl 7 (by decide) w_138 rfl rfl ?_
    refine j_iconst C dX8_keep_17 (v := 1) (by decide) ?_
    refine j_isub C dX8_keep_18 ?_
    refine j_cS1 C dX8_keep_19 (m_X8_within v2 (-1) ((s.1 18 7) - 1) rfl) kc_X8_within w_377 w_378 w_1 jy_X8_within ⟨⟨Nat.le_of_ble_eq_true rfl, Nat.le_of_ble_eq_true rfl⟩, ⟨rfl, rfl⟩, ⟨Nat.zero_le _, Nat.zero_le _⟩⟩ (Nat.le_of_ble_eq_true rfl) rfl (fun _ _ h => h) ?_
    refine j_if_ne C dX8_keep_22 (tgt := 27) (by decide) (fun cq => ?_) (fun cq => ?_)
    · have h := jite_t h (jb_t cq)
      refine j_aload_n C dX8_keep_27 0 rfl ?_
      refine j_getW C dX8_keep_28 inX8 rfl (by decide) rfl 1 (by decide) w_343 rfl rfl ?_
      refine j_getW C dX8_keep_31 inX2 rfl (by decide) rfl 2 (by decide) w_124 rfl rfl ?_
      refine j_iload_n C dX8_keep_34 1 rfl ?_
      refine j_iload_n C dX8_keep_35 2 rfl ?_
      obtain ⟨c36_1, h⟩ := jchk h
      refine j_iastW C dX8_keep_36 (by decide) (fun _ => rfl) (jin_vp c36_1) (fun s36_2 hs36_2 => ?_)
      have h := jlet h hs36_2
      refine j_aload_n C dX8_keep_37 0 rfl ?_
      refine j_getW C dX8_keep_38 inX8 rfl (by decide) rfl 8 (by decide) w_350 rfl rfl ?_
      obtain ⟨p41, he41, h⟩ := jbind h
      refine j_cV0 C dX8_keep_41 (m_X0_forget s36_2 he41) kc_X0_forget w_388 w_389 w_390 w_10 jy_X0_forget ⟨⟨Nat.le_of_ble_eq_true rfl, Nat.le_of_ble_eq_true rfl⟩, ⟨rfl, rfl⟩, ⟨Nat.zero_le _, Nat.zero_le _⟩⟩ (Nat.le_of_ble_eq_true rfl) (by decide) rfl (r := (RX0, TX0, 8)) rfl rfl rfl (fun _ _ h => h) ?_
      refine j_iconst C dX8_keep_44 (v := 1) (by decide) ?_
      exact j_iret C dX8_keep_45 rfl (jb_nar true) (Nat.zero_le _) (Nat.zero_le _) (jretWB h)
    · have h := jite_f h (jb_f cq)
      refine j_iconst C dX8_keep_25 (v := 0) (by decide) ?_
      exact j_iret C dX8_keep_26 rfl (jb_nar false) (Nat.zero_le _) (Nat.zero_le _) (jretWB h)
-- X8_isKnock
def F_X8_isKnock (v1 : Int32) (v2 : Int32) (v3 : Int32) (v4 : Int32) (v5 : Int32) (s : jS) : Bool :=
  (if (F_X8_isDoor v1 s) = true then (if (F_X8_isHour v2) = true then (if (F_X8_within v3 1 7) = true then (if (F_X8_within v4 0 5) = true then (if (F_X8_within v5 0 9) = true then true else false) else false) else false) else false) else false)
def rm_X8_isKnock : Room := { frames := 2, cells := 0, slots := 0, locals := 43 }
set_option maxHeartbeats 4000000 in
set_option maxRecDepth 100000 in
theorem m_X8_isKnock {l : Launch} {D : va_G} {G : Nat → ClassId} {KV : jV} {ad : Nat → Nat} {nd : Nat} (v1 : Int32) (v2 : Int32) (v3 : Int32) (v4 : Int32) (v5 : Int32) (s : jS) {p : Bool} (h : F_X8_isKnock v1 v2 v3 v4 v5 s = p) : jM l D G KV yX8_isKnock cX8_isKnock 6 (some .boolean) rm_X8_isKnock [.ref (ad 0), .int v1, .int v2, .int v3, .int v4, .int v5] (jw 54 (cellC G nd) ad s) 0 0 (fun v u => v = some (.int (jb p)) ∧ u = jw 54 (cellC G nd) ad s) := by
  refine jM.of (by decide) (Nat.le_of_ble_eq_true rfl) ?_
  intro K C
  unfold F_X8_isKnock at h
  show K 0 0 (jw 54 (cellC G nd) ad s) 0 [(0, .ref (ad 0)), (1, .int v1), (2, .int v2), (3, .int v3), (4, .int v4), (5, .int v5)] []
  refine j_aload_n C dX8_isKnock_0 0 rfl ?_
  refine j_iload_n C dX8_isKnock_1 1 rfl ?_
  refine j_cV1 C dX8_isKnock_2 (m_X8_isDoor v1 s rfl) kc_X8_isDoor w_396 w_398 wp_1 w_1 jy_X8_isDoor ⟨⟨Nat.le_of_ble_eq_true rfl, Nat.le_of_ble_eq_true rfl⟩, ⟨rfl, rfl⟩, ⟨Nat.zero_le _, Nat.zero_le _⟩⟩ (Nat.le_of_ble_eq_true rfl) (by decide) rfl (r := (RX8, TX8, 9)) rfl rfl rfl (fun _ _ h => h) ?_
  refine j_if_eq C dX8_isKnock_5 (tgt := 50) (by decide) (fun cq => ?_) (fun cq => ?_)
  · have h := jite_f h (jb_f cq)
    refine j_iconst C dX8_isKnock_50 (v := 0) (by decide) ?_
    exact j_iret C dX8_isKnock_51 rfl (jb_nar false) (Nat.zero_le _) (Nat.zero_le _) (jretTB h)
  · have h := jite_t h (jb_t cq)
    refine j_iload_n C dX8_isKnock_8 2 rfl ?_
    refine j_cS1 C dX8_isKnock_9 (m_X8_isHour v2 rfl) kc_X8_isHour w_374 w_375 w_1 jy_X8_isHour ⟨⟨Nat.le_of_ble_eq_true rfl, Nat.le_of_ble_eq_true rfl⟩, ⟨rfl, rfl⟩, ⟨Nat.zero_le _, Nat.zero_le _⟩⟩ (Nat.le_of_ble_eq_true rfl) rfl (fun _ _ h => h) ?_
    refine j_if_eq C dX8_isKnock_12 (tgt := 50) (by decide) (fun cq => ?_) (fun cq => ?_)
    · have h := jite_f h (jb_f cq)
      refine j_iconst C dX8_isKnock_50 (v := 0) (by decide) ?_
      exact j_iret C dX8_isKnock_51 rfl (jb_nar false) (Nat.zero_le _) (Nat.zero_le _) (jretTB h)
    · have h := jite_t h (jb_t cq)
      refine j_iload_n C dX8_isKnock_15 3 rfl ?_
      refine j_iconst C dX8_isKnock_16 (v := 1) (by decide) ?_
      refine j_bipush C dX8_isKnock_17 (v := 7) (by decide) ?_
      refine j_cS1 C dX8_isKnock_19 (m_X8_within v3 1 7 rfl) kc_X8_within w_377 w_378 w_1 jy_X8_within ⟨⟨Nat.le_of_ble_eq_true rfl, Nat.le_of_ble_eq_true rfl⟩, ⟨rfl, rfl⟩, ⟨Nat.zero_le _, Nat.zero_le _⟩⟩ (Nat.le_of_ble_eq_true rfl) rfl (fun _ _ h => h) ?_
      refine j_if_eq C dX8_isKnock_22 (tgt := 50) (by decide) (fun cq => ?_) (fun cq => ?_)
      · have h := jite_f h (jb_f cq)
        refine j_iconst C dX8_isKnock_50 (v := 0) (by decide) ?_
        exact j_iret C dX8_isKnock_51 rfl (jb_nar false) (Nat.zero_le _) (Nat.zero_le _) (jretTB h)
      · have h := jite_t h (jb_t cq)
        refine j_iload C dX8_isKnock_25 4 rfl ?_
        refine j_iconst C dX8_isKnock_27 (v := 0) (by decide) ?_
        refine j_iconst C dX8_isKnock_28 (v := 5) (by decide) ?_
        refine j_cS1 C dX8_isKnock_29 (m_X8_within v4 0 5 rfl) kc_X8_within w_377 w_378 w_1 jy_X8_within ⟨⟨Nat.le_of_ble_eq_true rfl, Nat.le_of_ble_eq_true rfl⟩, ⟨rfl, rfl⟩, ⟨Nat.zero_le _, Nat.zero_le _⟩⟩ (Nat.le_of_ble_eq_true rfl) rfl (fun _ _ h => h) ?_
        refine j_if_eq C dX8_isKnock_32 (tgt := 50) (by decide) (fun cq => ?_) (fun cq => ?_)
        · have h := jite_f h (jb_f cq)
          refine j_iconst C dX8_isKnock_50 (v := 0) (by decide) ?_
          exact j_iret C dX8_isKnock_51 rfl (jb_nar false) (Nat.zero_le _) (Nat.zero_le _) (jretTB h)
        · have h := jite_t h (jb_t cq)
          refine j_iload C dX8_isKnock_35 5 rfl ?_
          refine j_iconst C dX8_isKnock_37 (v := 0) (by decide) ?_
          refine j_bipush C dX8_isKnock_38 (v := 9) (by decide) ?_
          refine j_cS1 C dX8_isKnock_40 (m_X8_within v5 0 9 rfl) kc_X8_within w_377 w_378 w_1 jy_X8_within ⟨⟨Nat.le_of_ble_eq_true rfl, Nat.le_of_ble_eq_true rfl⟩, ⟨rfl, rfl⟩, ⟨Nat.zero_le _, Nat.zero_le _⟩⟩ (Nat.le_of_ble_eq_true rfl) rfl (fun _ _ h => h) ?_
          refine j_if_eq C dX8_isKnock_43 (tgt := 50) (by decide) (fun cq => ?_) (fun cq => ?_)
          · have h := jite_f h (jb_f cq)
            refine j_iconst C dX8_isKnock_50 (v := 0) (by decide) ?_
            exact j_iret C dX8_isKnock_51 rfl (jb_nar false) (Nat.zero_le _) (Nat.zero_le _) (jretTB h)
          · have h := jite_t h (jb_t cq)
            refine j_iconst C dX8_isKnock_46 (v := 1) (by decide) ?_
            refine j_goto C dX8_isKnock_47 (tgt := 51) (by decide) ?_
            exact j_iret C dX8_isKnock_51 rfl (jb_nar true) (Nat.zero_le _) (Nat.zero_le _) (jretTB h)
-- X3_isOpening
def F_X3_isOpening (v1 : Int32) (s : jS) : Option Bool :=
  (if v1 < 0 then some false else (if 4 ≤ v1 then some false else (if (s.1 18 7) ≤ v1 then some false else (if jin v1 4 = true then (if (jz (s.1 (2 + 4 * (Int32.toNatClampNeg v1)) 6)) = true then some true else some false) else none))))
def rm_X3_isOpening : Room := { frames := 0, cells := 0, slots := 0, locals := 0 }
set_option maxHeartbeats 4000000 in
set_option maxRecDepth 100000 in
theorem m_X3_isOpening {l : Launch} {D : va_G} {G : Nat → ClassId} {KV : jV} {ad : Nat → Nat} {nd : Nat} (v1 : Int32) (s : jS) {p : Bool} (h : F_X3_isOpening v1 s = some p) : jM l D G KV yX3_isOpening cX3_isOpening 2 (some .boolean) rm_X3_isOpening [.ref (ad 29), .int v1] (jw 54 (cellC G nd) ad s) 0 0 (fun v u => v = some (.int (jb p)) ∧ u = jw 54 (cellC G nd) ad s) := by
  refine jM.of (by decide) (Nat.le_of_ble_eq_true rfl) ?_
  intro K C
  unfold F_X3_isOpening at h
  show K 0 0 (jw 54 (cellC G nd) ad s) 0 [(0, .ref (ad 29)), (1, .int v1)] []
  refine j_iload_n C dX3_isOpening_0 1 rfl ?_
  refine j_if_lt C dX3_isOpening_1 (tgt := 36) (by decide) (fun cq => ?_) (fun cq => ?_)
  · have h := jite_t h cq
    refine j_iconst C dX3_isOpening_36 (v := 0) (by decide) ?_
    exact j_iret C dX3_isOpening_37 rfl (jb_nar false) (Nat.zero_le _) (Nat.zero_le _) (jretPB h)
  · have h := jite_f h cq
    refine j_iload_n C dX3_isOpening_4 1 rfl ?_
    refine j_iconst C dX3_isOpening_5 (v := 4) (by decide) ?_
    refine j_icmp_ge C dX3_isOpening_6 (tgt := 36) (by decide) (fun cq => ?_) (fun cq => ?_)
    · have h := jite_t h cq
      refine j_iconst C dX3_isOpening_36 (v := 0) (by decide) ?_
      exact j_iret C dX3_isOpening_37 rfl (jb_nar false) (Nat.zero_le _) (Nat.zero_le _) (jretPB h)
    · have h := jite_f h cq
      refine j_iload_n C dX3_isOpening_9 1 rfl ?_
      refine j_aload_n C dX3_isOpening_10 0 rfl ?_
      refine j_getW C dX3_isOpening_11 inX3 rfl (by decide) rfl 1 (by decide) w_202 rfl rfl ?_
      refine j_getW C dX3_isOpening_14 inX2 rfl (by decide) rfl 7 (by decide) w_135 rfl rfl ?_
      refine j_icmp_ge C dX3_isOpening_17 (tgt := 36) (by decide) (fun cq => ?_) (fun cq => ?_)
      · have h := jite_t h cq
        refine j_iconst C dX3_isOpening_36 (v := 0) (by decide) ?_
        exact j_iret C dX3_isOpening_37 rfl (jb_nar false) (Nat.zero_le _) (Nat.zero_le _) (jretPB h)
      · have h := jite_f h cq
        refine j_aload_n C dX3_isOpening_20 0 rfl ?_
        refine j_getW C dX3_isOpening_21 inX3 rfl (by decide) rfl 2 (by decide) w_203 rfl rfl ?_
        refine j_iload_n C dX3_isOpening_24 1 rfl ?_
        obtain ⟨c25_1, h⟩ := jchk h
        refine j_aaldT C dX3_isOpening_25 (by decide) rfl c25_1 ?_
        refine j_getW C dX3_isOpening_26 inX5 rfl (cTq0 (jin_lt (i := v1) (n := 4) c25_1)) (cT0 (jin_lt (i := v1) (n := 4) c25_1)) 6 (by decide) w_53 rfl rfl ?_
        refine j_if_eq C dX3_isOpening_29 (tgt := 36) (by decide) (fun cq => ?_) (fun cq => ?_)
        · have h := jite_f h (jb_f cq)
          refine j_iconst C dX3_isOpening_36 (v := 0) (by decide) ?_
          exact j_iret C dX3_isOpening_37 rfl (jb_nar false) (Nat.zero_le _) (Nat.zero_le _) (jretPB h)
        · have h := jite_t h (jb_t cq)
          refine j_iconst C dX3_isOpening_32 (v := 1) (by decide) ?_
          refine j_goto C dX3_isOpening_33 (tgt := 37) (by decide) ?_
          exact j_iret C dX3_isOpening_37 rfl (jb_nar true) (Nat.zero_le _) (Nat.zero_le _) (jretPB h)
-- X3_face
def J_X3_face_42 (v1 : Int32) (v3 : Int32) (k1 : Int32) (k2 : Int32) (s : jS) : Option jS :=
  (if jin k1 8 = true then (jl (upI s 30 (Int32.toNatClampNeg k1) k2) fun s42_4 => (if v1 < 0 then (jl (upI s42_4 30 (Int32.toNatClampNeg 3) 0) fun s71_5 => (jl (upI s71_5 30 (Int32.toNatClampNeg 7) v3) fun s79_6 => some s79_6)) else (if 8 ≤ v1 then (jl (upI s42_4 30 (Int32.toNatClampNeg 3) 0) fun s71_7 => (jl (upI s71_7 30 (Int32.toNatClampNeg 7) v3) fun s79_8 => some s79_8)) else (if jin v1 8 = true then (jl (upI s42_4 30 (Int32.toNatClampNeg 3) (s42_4.1 20 (Int32.toNatClampNeg v1))) fun s71_10 => (jl (upI s71_10 30 (Int32.toNatClampNeg 7) v3) fun s79_11 => some s79_11)) else none)))) else none)
def J_X3_face_41 (v1 : Int32) (v3 : Int32) (k1 : Int32) (s : jS) : Option jS :=
  J_X3_face_42 v1 v3 k1 0 s
def F_X3_face (v1 : Int32) (v2 : Int32) (v3 : Int32) (s : jS) : Option jS :=
  (jl (upI s 30 (Int32.toNatClampNeg 0) v1) fun s6_1 => (jl (upI s6_1 30 (Int32.toNatClampNeg 1) v2) fun s13_2 => (if v2 < 0 then J_X3_face_41 v1 v3 2 s13_2 else (if 24 ≤ v2 then J_X3_face_41 v1 v3 2 s13_2 else (if jin v2 24 = true then J_X3_face_42 v1 v3 2 (s13_2.1 19 (Int32.toNatClampNeg v2)) s13_2 else none)))))
def rm_X3_face : Room := { frames := 0, cells := 0, slots := 0, locals := 0 }
set_option maxHeartbeats 4000000 in
set_option maxRecDepth 100000 in
theorem m_X3_face {l : Launch} {D : va_G} {G : Nat → ClassId} {KV : jV} {ad : Nat → Nat} {nd : Nat} (v1 : Int32) (v2 : Int32) (v3 : Int32) (s : jS) {p : jS} (h : F_X3_face v1 v2 v3 s = some p) : jM l D G KV yX3_face cX3_face 4 none rm_X3_face [.ref (ad 29), .int v1, .int v2, .int v3] (jw 54 (cellC G nd) ad s) 0 0 (fun v u => v = none ∧ u = jw 54 (cellC G nd) ad p) := by
  refine jM.of (by decide) (Nat.le_of_ble_eq_true rfl) ?_
  intro K C
  unfold F_X3_face at h
  have jn42 : ∀ (v1 : Int32) (v3 : Int32) (k1 : Int32) (k2 : Int32) (s : jS) (_ : J_X3_face_42 v1 v3 k1 k2 s = some p), K 0 0 (jw 54 (cellC G nd) ad s) 42 [(0, .ref (ad 29)), (1, .int v1), (3, .int v3)] [.int k2, .int k1, .ref (ad 30)] := by
    intro v1 v3 k1 k2 s h
    unfold J_X3_face_42 at h
    obtain ⟨c42_3, h⟩ := jchk h
    refine j_iastW C dX3_face_42 (by decide) (fun _ => rfl) (jin_vp c42_3) (fun s42_4 hs42_4 => ?_)
    have h := jlet h hs42_4
    refine j_aload_n C dX3_face_43 0 rfl ?_
    refine j_getW C dX3_face_44 inX3 rfl (by decide) rfl 3 (by decide) w_204 rfl rfl ?_
    refine j_iconst C dX3_face_47 (v := 3) (by decide) ?_
    refine j_iload_n C dX3_face_48 1 rfl ?_
    refine j_if_lt C dX3_face_49 (tgt := 70) (by decide) (fun cq => ?_) (fun cq => ?_)
    · have h := jite_t h cq
      refine j_iconst C dX3_face_70 (v := 0) (by decide) ?_
      refine j_iastW C dX3_face_71 (by decide) (fun _ => rfl) (jin_vp (i := 3) (n := 8) (by decide)) (fun s71_5 hs71_5 => ?_)
      have h := jlet h hs71_5
      refine j_aload_n C dX3_face_72 0 rfl ?_
      refine j_getW C dX3_face_73 inX3 rfl (by decide) rfl 3 (by decide) w_204 rfl rfl ?_
      refine j_bipush C dX3_face_76 (v := 7) (by decide) ?_
      refine j_iload_n C dX3_face_78 2 rfl ?_
      refine j_iastW C dX3_face_79 (by decide) (fun _ => rfl) (jin_vp (i := 7) (n := 8) (by decide)) (fun s79_6 hs79_6 => ?_)
      have h := jlet h hs79_6
      exact j_vret C dX3_face_80 rfl (Nat.zero_le _) (Nat.zero_le _) (jretWV h)
    · have h := jite_f h cq
      refine j_iload_n C dX3_face_52 1 rfl ?_
      refine j_bipush C dX3_face_53 (v := 8) (by decide) ?_
      refine j_icmp_ge C dX3_face_55 (tgt := 70) (by decide) (fun cq => ?_) (fun cq => ?_)
      · have h := jite_t h cq
        refine j_iconst C dX3_face_70 (v := 0) (by decide) ?_
        refine j_iastW C dX3_face_71 (by decide) (fun _ => rfl) (jin_vp (i := 3) (n := 8) (by decide)) (fun s71_7 hs71_7 => ?_)
        have h := jlet h hs71_7
        refine j_aload_n C dX3_face_72 0 rfl ?_
        refine j_getW C dX3_face_73 inX3 rfl (by decide) rfl 3 (by decide) w_204 rfl rfl ?_
        refine j_bipush C dX3_face_76 (v := 7) (by decide) ?_
        refine j_iload_n C dX3_face_78 2 rfl ?_
        refine j_iastW C dX3_face_79 (by decide) (fun _ => rfl) (jin_vp (i := 7) (n := 8) (by decide)) (fun s79_8 hs79_8 => ?_)
        have h := jlet h hs79_8
        exact j_vret C dX3_face_80 rfl (Nat.zero_le _) (Nat.zero_le _) (jretWV h)
      · have h := jite_f h cq
        refine j_aload_n C dX3_face_58 0 rfl ?_
        refine j_getW C dX3_face_59 inX3 rfl (by decide) rfl 1 (by decide) w_202 rfl rfl ?_
        refine j_getW C dX3_face_62 inX2 rfl (by decide) rfl 1 (by decide) w_121 rfl rfl ?_
        refine j_iload_n C dX3_face_65 1 rfl ?_
        obtain ⟨c66_9, h⟩ := jchk h
        refine j_ialdW C dX3_face_66 (by decide) rfl (jin_vp c66_9) ?_
        refine j_goto C dX3_face_67 (tgt := 71) (by decide) ?_
        refine j_iastW C dX3_face_71 (by decide) (fun _ => rfl) (jin_vp (i := 3) (n := 8) (by decide)) (fun s71_10 hs71_10 => ?_)
        have h := jlet h hs71_10
        refine j_aload_n C dX3_face_72 0 rfl ?_
        refine j_getW C dX3_face_73 inX3 rfl (by decide) rfl 3 (by decide) w_204 rfl rfl ?_
        refine j_bipush C dX3_face_76 (v := 7) (by decide) ?_
        refine j_iload_n C dX3_face_78 2 rfl ?_
        refine j_iastW C dX3_face_79 (by decide) (fun _ => rfl) (jin_vp (i := 7) (n := 8) (by decide)) (fun s79_11 hs79_11 => ?_)
        have h := jlet h hs79_11
        exact j_vret C dX3_face_80 rfl (Nat.zero_le _) (Nat.zero_le _) (jretWV h)
  have jn41 : ∀ (v1 : Int32) (v3 : Int32) (k1 : Int32) (s : jS) (_ : J_X3_face_41 v1 v3 k1 s = some p), K 0 0 (jw 54 (cellC G nd) ad s) 41 [(0, .ref (ad 29)), (1, .int v1), (3, .int v3)] [.int k1, .ref (ad 30)] := by
    intro v1 v3 k1 s h
    unfold J_X3_face_41 at h
    refine j_iconst C dX3_face_41 (v := 0) (by decide) ?_
    refine j_loc C [0, 1, 2] rfl ?_
    exact jn42 v1 v3 k1 0 s  h
  show K 0 0 (jw 54 (cellC G nd) ad s) 0 [(0, .ref (ad 29)), (1, .int v1), (2, .int v2), (3, .int v3)] []
  refine j_aload_n C dX3_face_0 0 rfl ?_
  refine j_getW C dX3_face_1 inX3 rfl (by decide) rfl 3 (by decide) w_204 rfl rfl ?_
  refine j_iconst C dX3_face_4 (v := 0) (by decide) ?_
  refine j_iload_n C dX3_face_5 1 rfl ?_
  refine j_iastW C dX3_face_6 (by decide) (fun _ => rfl) (jin_vp (i := 0) (n := 8) (by decide)) (fun s6_1 hs6_1 => ?_)
  have h := jlet h hs6_1
  refine j_aload_n C dX3_face_7 0 rfl ?_
  refine j_getW C dX3_face_8 inX3 rfl (by decide) rfl 3 (by decide) w_204 rfl rfl ?_
  refine j_iconst C dX3_face_11 (v := 1) (by decide) ?_
  refine j_iload_n C dX3_face_12 2 rfl ?_
  refine j_iastW C dX3_face_13 (by decide) (fun _ => rfl) (jin_vp (i := 1) (n := 8) (by decide)) (fun s13_2 hs13_2 => ?_)
  have h := jlet h hs13_2
  refine j_aload_n C dX3_face_14 0 rfl ?_
  refine j_getW C dX3_face_15 inX3 rfl (by decide) rfl 3 (by decide) w_204 rfl rfl ?_
  refine j_iconst C dX3_face_18 (v := 2) (by decide) ?_
  refine j_iload_n C dX3_face_19 2 rfl ?_
  refine j_if_lt C dX3_face_20 (tgt := 41) (by decide) (fun cq => ?_) (fun cq => ?_)
  · have h := jite_t h cq
    refine j_loc C [0, 1, 3] rfl ?_
    exact jn41 v1 v3 2 s13_2  h
  · have h := jite_f h cq
    refine j_iload_n C dX3_face_23 2 rfl ?_
    refine j_bipush C dX3_face_24 (v := 24) (by decide) ?_
    refine j_icmp_ge C dX3_face_26 (tgt := 41) (by decide) (fun cq => ?_) (fun cq => ?_)
    · have h := jite_t h cq
      refine j_loc C [0, 1, 3] rfl ?_
      exact jn41 v1 v3 2 s13_2  h
    · have h := jite_f h cq
      refine j_aload_n C dX3_face_29 0 rfl ?_
      refine j_getW C dX3_face_30 inX3 rfl (by decide) rfl 1 (by decide) w_202 rfl rfl ?_
      refine j_getW C dX3_face_33 inX2 rfl (by decide) rfl 0 (by decide) w_118 rfl rfl ?_
      refine j_iload_n C dX3_face_36 2 rfl ?_
      obtain ⟨c37_12, h⟩ := jchk h
      refine j_ialdW C dX3_face_37 (by decide) rfl (jin_vp c37_12) ?_
      refine j_goto C dX3_face_38 (tgt := 42) (by decide) ?_
      refine j_loc C [0, 1, 3] rfl ?_
      exact jn42 v1 v3 2 (s13_2.1 19 (Int32.toNatClampNeg v2)) s13_2  h
-- X3_joined
def J_X3_joined_178 (v3 : Int64) : Option Int32 :=
  (if (lg_cmp v3 1000000) ≤ 0 then (if 0 ≤ (lg_cmp v3 (-1000000)) then some (Int64.toInt32 v3) else some (-1000000)) else some 1000000)
def J_X3_joined_177 (k0 : Int64) : Option Int32 :=
  J_X3_joined_178 k0
def J_X3_joined_165 (v1 : Int32) (v2 : Int32) : Option Int32 :=
  (if v2 = 0 then J_X3_joined_177 0 else (if ¬ v2 = 0 then J_X3_joined_177 (Int32.toInt64 (v1 / v2)) else none))
def F_X3_joined (v0 : Int32) (v1 : Int32) (v2 : Int32) : Option Int32 :=
  (if v0 = 11 then some (v1 ||| v2) else (if v0 = 12 then some (v1 &&& v2) else (if v0 = 13 then J_X3_joined_165 v1 v2 else (if v0 = 14 then (if v2 ≤ v1 then some 0 else some 1) else (if v0 = 15 then (if v2 < v1 then some 0 else some 1) else (if v0 = 16 then (if v1 ≤ v2 then some 0 else some 1) else (if v0 = 17 then (if v1 < v2 then some 0 else some 1) else (if v0 = 18 then (if v1 = v2 then some 1 else some 0) else (if v0 = 19 then (if v1 = v2 then some 0 else some 1) else (if v0 = 20 then J_X3_joined_178 ((Int32.toInt64 v1) + (Int32.toInt64 v2)) else (if v0 = 21 then J_X3_joined_178 ((Int32.toInt64 v1) - (Int32.toInt64 v2)) else (if v0 = 22 then J_X3_joined_178 ((Int32.toInt64 v1) * (Int32.toInt64 v2)) else J_X3_joined_165 v1 v2))))))))))))
def rm_X3_joined : Room := { frames := 0, cells := 0, slots := 0, locals := 0 }
set_option maxHeartbeats 4000000 in
set_option maxRecDepth 100000 in
theorem m_X3_joined {l : Launch} {D : va_G} {G : Nat → ClassId} {KV : jV} {ad : Nat → Nat} {nd : Nat} {s : jS} (v0 : Int32) (v1 : Int32) (v2 : Int32) {p : Int32} (h : F_X3_joined v0 v1 v2 = some p) : jM l D G KV yX3_joined cX3_joined 5 (some .int) rm_X3_joined [.int v0, .int v1, .int v2] (jw 54 (cellC G nd) ad s) 0 0 (fun v u => v = some (.int p) ∧ u = jw 54 (cellC G nd) ad s) := by
  refine jM.of (by decide) (Nat.le_of_ble_eq_true rfl) ?_
  intro K C
  unfold F_X3_joined at h
  have jn178 : ∀ (v3 : Int64) (_ : J_X3_joined_178 v3 = some p), K 0 0 (jw 54 (cellC G nd) ad s) 178 [(3, .long v3)] [] := by
    intro v3 h
    unfold J_X3_joined_178 at h
    refine j_lload_n C dX3_joined_178 0 rfl ?_
    refine j_ldc2 C dX3_joined_179 (v := 1000000) w_665 ?_
    refine j_lcmp C dX3_joined_182 ?_
    refine j_if_le C dX3_joined_183 (tgt := 189) (by decide) (fun cq => ?_) (fun cq => ?_)
    · have h := jite_t h cq
      refine j_lload_n C dX3_joined_189 0 rfl ?_
      refine j_ldc2 C dX3_joined_190 (v := (-1000000)) w_667 ?_
      refine j_lcmp C dX3_joined_193 ?_
      refine j_if_ge C dX3_joined_194 (tgt := 202) (by decide) (fun cq => ?_) (fun cq => ?_)
      · have h := jite_t h cq
        refine j_lload_n C dX3_joined_202 0 rfl ?_
        refine j_l2i C dX3_joined_203 ?_
        exact j_iret C dX3_joined_204 rfl rfl (Nat.zero_le _) (Nat.zero_le _) (jretPI h)
      · have h := jite_f h cq
        refine j_ldc C dX3_joined_197 (v := (-1000000)) w_668 ?_
        refine j_goto C dX3_joined_199 (tgt := 204) (by decide) ?_
        exact j_iret C dX3_joined_204 rfl rfl (Nat.zero_le _) (Nat.zero_le _) (jretPI h)
    · have h := jite_f h cq
      refine j_ldc C dX3_joined_186 (v := 1000000) w_666 ?_
      exact j_iret C dX3_joined_188 rfl rfl (Nat.zero_le _) (Nat.zero_le _) (jretPI h)
  have jn177 : ∀ (k0 : Int64) (_ : J_X3_joined_177 k0 = some p), K 0 0 (jw 54 (cellC G nd) ad s) 177 [] [.long k0] := by
    intro k0 h
    unfold J_X3_joined_177 at h
    refine j_lstore_n C dX3_joined_177 (by decide) rfl ?_
    refine j_loc C [0] rfl ?_
    exact jn178 k0   h
  have jn165 : ∀ (v1 : Int32) (v2 : Int32) (_ : J_X3_joined_165 v1 v2 = some p), K 0 0 (jw 54 (cellC G nd) ad s) 165 [(1, .int v1), (2, .int v2)] [] := by
    intro v1 v2 h
    unfold J_X3_joined_165 at h
    refine j_iload_n C dX3_joined_165 1 rfl ?_
    refine j_if_ne C dX3_joined_166 (tgt := 173) (by decide) (fun cq => ?_) (fun cq => ?_)
    · have h := jite_f h cq
      refine j_iload_n C dX3_joined_173 0 rfl ?_
      refine j_iload_n C dX3_joined_174 1 rfl ?_
      obtain ⟨z175_1, h⟩ := jchk h
      refine j_idiv C dX3_joined_175 z175_1 ?_
      refine j_i2l C dX3_joined_176 ?_
      refine j_loc C [] rfl ?_
      exact jn177 (Int32.toInt64 (v1 / v2))   h
    · have h := jite_t h cq
      refine j_lconst C dX3_joined_169 (v := 0) (by decide) ?_
      refine j_goto C dX3_joined_170 (tgt := 177) (by decide) ?_
      refine j_loc C [] rfl ?_
      exact jn177 0   h
  show K 0 0 (jw 54 (cellC G nd) ad s) 0 [(0, .int v0), (1, .int v1), (2, .int v2)] []
  refine j_iload_n C dX3_joined_0 0 rfl ?_
  by_cases cs11 : v0 = 11
  · have h := jite_t h cs11
    refine j_tinE C dX3_joined_1 cs11 (by decide) (by decide) (off := 63) (by decide) (tgt := 64) (by decide) ?_
    refine j_iload_n C dX3_joined_64 1 rfl ?_
    refine j_iload_n C dX3_joined_65 2 rfl ?_
    refine j_ior C dX3_joined_66 ?_
    exact j_iret C dX3_joined_67 rfl rfl (Nat.zero_le _) (Nat.zero_le _) (jretPI h)
  have h := jite_f h cs11
  by_cases cs12 : v0 = 12
  · have h := jite_t h cs12
    refine j_tinE C dX3_joined_1 cs12 (by decide) (by decide) (off := 67) (by decide) (tgt := 68) (by decide) ?_
    refine j_iload_n C dX3_joined_68 1 rfl ?_
    refine j_iload_n C dX3_joined_69 2 rfl ?_
    refine j_iand C dX3_joined_70 ?_
    exact j_iret C dX3_joined_71 rfl rfl (Nat.zero_le _) (Nat.zero_le _) (jretPI h)
  have h := jite_f h cs12
  by_cases cs13 : v0 = 13
  · have h := jite_t h cs13
    refine j_tinE C dX3_joined_1 cs13 (by decide) (by decide) (off := 164) (by decide) (tgt := 165) (by decide) ?_
    refine j_loc C [1, 2] rfl ?_
    exact jn165 v1 v2   h
  have h := jite_f h cs13
  by_cases cs14 : v0 = 14
  · have h := jite_t h cs14
    refine j_tinE C dX3_joined_1 cs14 (by decide) (by decide) (off := 71) (by decide) (tgt := 72) (by decide) ?_
    refine j_iload_n C dX3_joined_72 1 rfl ?_
    refine j_iload_n C dX3_joined_73 2 rfl ?_
    refine j_icmp_ge C dX3_joined_74 (tgt := 81) (by decide) (fun cq => ?_) (fun cq => ?_)
    · have h := jite_t h cq
      refine j_iconst C dX3_joined_81 (v := 0) (by decide) ?_
      exact j_iret C dX3_joined_82 rfl rfl (Nat.zero_le _) (Nat.zero_le _) (jretPI h)
    · have h := jite_f h cq
      refine j_iconst C dX3_joined_77 (v := 1) (by decide) ?_
      refine j_goto C dX3_joined_78 (tgt := 82) (by decide) ?_
      exact j_iret C dX3_joined_82 rfl rfl (Nat.zero_le _) (Nat.zero_le _) (jretPI h)
  have h := jite_f h cs14
  by_cases cs15 : v0 = 15
  · have h := jite_t h cs15
    refine j_tinE C dX3_joined_1 cs15 (by decide) (by decide) (off := 82) (by decide) (tgt := 83) (by decide) ?_
    refine j_iload_n C dX3_joined_83 1 rfl ?_
    refine j_iload_n C dX3_joined_84 2 rfl ?_
    refine j_icmp_gt C dX3_joined_85 (tgt := 92) (by decide) (fun cq => ?_) (fun cq => ?_)
    · have h := jite_t h cq
      refine j_iconst C dX3_joined_92 (v := 0) (by decide) ?_
      exact j_iret C dX3_joined_93 rfl rfl (Nat.zero_le _) (Nat.zero_le _) (jretPI h)
    · have h := jite_f h cq
      refine j_iconst C dX3_joined_88 (v := 1) (by decide) ?_
      refine j_goto C dX3_joined_89 (tgt := 93) (by decide) ?_
      exact j_iret C dX3_joined_93 rfl rfl (Nat.zero_le _) (Nat.zero_le _) (jretPI h)
  have h := jite_f h cs15
  by_cases cs16 : v0 = 16
  · have h := jite_t h cs16
    refine j_tinE C dX3_joined_1 cs16 (by decide) (by decide) (off := 93) (by decide) (tgt := 94) (by decide) ?_
    refine j_iload_n C dX3_joined_94 1 rfl ?_
    refine j_iload_n C dX3_joined_95 2 rfl ?_
    refine j_icmp_le C dX3_joined_96 (tgt := 103) (by decide) (fun cq => ?_) (fun cq => ?_)
    · have h := jite_t h cq
      refine j_iconst C dX3_joined_103 (v := 0) (by decide) ?_
      exact j_iret C dX3_joined_104 rfl rfl (Nat.zero_le _) (Nat.zero_le _) (jretPI h)
    · have h := jite_f h cq
      refine j_iconst C dX3_joined_99 (v := 1) (by decide) ?_
      refine j_goto C dX3_joined_100 (tgt := 104) (by decide) ?_
      exact j_iret C dX3_joined_104 rfl rfl (Nat.zero_le _) (Nat.zero_le _) (jretPI h)
  have h := jite_f h cs16
  by_cases cs17 : v0 = 17
  · have h := jite_t h cs17
    refine j_tinE C dX3_joined_1 cs17 (by decide) (by decide) (off := 104) (by decide) (tgt := 105) (by decide) ?_
    refine j_iload_n C dX3_joined_105 1 rfl ?_
    refine j_iload_n C dX3_joined_106 2 rfl ?_
    refine j_icmp_lt C dX3_joined_107 (tgt := 114) (by decide) (fun cq => ?_) (fun cq => ?_)
    · have h := jite_t h cq
      refine j_iconst C dX3_joined_114 (v := 0) (by decide) ?_
      exact j_iret C dX3_joined_115 rfl rfl (Nat.zero_le _) (Nat.zero_le _) (jretPI h)
    · have h := jite_f h cq
      refine j_iconst C dX3_joined_110 (v := 1) (by decide) ?_
      refine j_goto C dX3_joined_111 (tgt := 115) (by decide) ?_
      exact j_iret C dX3_joined_115 rfl rfl (Nat.zero_le _) (Nat.zero_le _) (jretPI h)
  have h := jite_f h cs17
  by_cases cs18 : v0 = 18
  · have h := jite_t h cs18
    refine j_tinE C dX3_joined_1 cs18 (by decide) (by decide) (off := 115) (by decide) (tgt := 116) (by decide) ?_
    refine j_iload_n C dX3_joined_116 1 rfl ?_
    refine j_iload_n C dX3_joined_117 2 rfl ?_
    refine j_icmp_ne C dX3_joined_118 (tgt := 125) (by decide) (fun cq => ?_) (fun cq => ?_)
    · have h := jite_f h cq
      refine j_iconst C dX3_joined_125 (v := 0) (by decide) ?_
      exact j_iret C dX3_joined_126 rfl rfl (Nat.zero_le _) (Nat.zero_le _) (jretPI h)
    · have h := jite_t h cq
      refine j_iconst C dX3_joined_121 (v := 1) (by decide) ?_
      refine j_goto C dX3_joined_122 (tgt := 126) (by decide) ?_
      exact j_iret C dX3_joined_126 rfl rfl (Nat.zero_le _) (Nat.zero_le _) (jretPI h)
  have h := jite_f h cs18
  by_cases cs19 : v0 = 19
  · have h := jite_t h cs19
    refine j_tinE C dX3_joined_1 cs19 (by decide) (by decide) (off := 126) (by decide) (tgt := 127) (by decide) ?_
    refine j_iload_n C dX3_joined_127 1 rfl ?_
    refine j_iload_n C dX3_joined_128 2 rfl ?_
    refine j_icmp_eq C dX3_joined_129 (tgt := 136) (by decide) (fun cq => ?_) (fun cq => ?_)
    · have h := jite_t h cq
      refine j_iconst C dX3_joined_136 (v := 0) (by decide) ?_
      exact j_iret C dX3_joined_137 rfl rfl (Nat.zero_le _) (Nat.zero_le _) (jretPI h)
    · have h := jite_f h cq
      refine j_iconst C dX3_joined_132 (v := 1) (by decide) ?_
      refine j_goto C dX3_joined_133 (tgt := 137) (by decide) ?_
      exact j_iret C dX3_joined_137 rfl rfl (Nat.zero_le _) (Nat.zero_le _) (jretPI h)
  have h := jite_f h cs19
  by_cases cs20 : v0 = 20
  · have h := jite_t h cs20
    refine j_tinE C dX3_joined_1 cs20 (by decide) (by decide) (off := 137) (by decide) (tgt := 138) (by decide) ?_
    refine j_iload_n C dX3_joined_138 1 rfl ?_
    refine j_i2l C dX3_joined_139 ?_
    refine j_iload_n C dX3_joined_140 2 rfl ?_
    refine j_i2l C dX3_joined_141 ?_
    refine j_ladd C dX3_joined_142 ?_
    refine j_lstore_n C dX3_joined_143 (by decide) rfl ?_
    refine j_goto C dX3_joined_144 (tgt := 178) (by decide) ?_
    refine j_loc C [0] rfl ?_
    exact jn178 ((Int32.toInt64 v1) + (Int32.toInt64 v2))   h
  have h := jite_f h cs20
  by_cases cs21 : v0 = 21
  · have h := jite_t h cs21
    refine j_tinE C dX3_joined_1 cs21 (by decide) (by decide) (off := 146) (by decide) (tgt := 147) (by decide) ?_
    refine j_iload_n C dX3_joined_147 1 rfl ?_
    refine j_i2l C dX3_joined_148 ?_
    refine j_iload_n C dX3_joined_149 2 rfl ?_
    refine j_i2l C dX3_joined_150 ?_
    refine j_lsub C dX3_joined_151 ?_
    refine j_lstore_n C dX3_joined_152 (by decide) rfl ?_
    refine j_goto C dX3_joined_153 (tgt := 178) (by decide) ?_
    refine j_loc C [0] rfl ?_
    exact jn178 ((Int32.toInt64 v1) - (Int32.toInt64 v2))   h
  have h := jite_f h cs21
  by_cases cs22 : v0 = 22
  · have h := jite_t h cs22
    refine j_tinE C dX3_joined_1 cs22 (by decide) (by decide) (off := 155) (by decide) (tgt := 156) (by decide) ?_
    refine j_iload_n C dX3_joined_156 1 rfl ?_
    refine j_i2l C dX3_joined_157 ?_
    refine j_iload_n C dX3_joined_158 2 rfl ?_
    refine j_i2l C dX3_joined_159 ?_
    refine j_lmul C dX3_joined_160 ?_
    refine j_lstore_n C dX3_joined_161 (by decide) rfl ?_
    refine j_goto C dX3_joined_162 (tgt := 178) (by decide) ?_
    refine j_loc C [0] rfl ?_
    exact jn178 ((Int32.toInt64 v1) * (Int32.toInt64 v2))   h
  have h := jite_f h cs22
  refine j_tout C dX3_joined_1 (jtsw (by decide) (by decide) (fun z h1 h2 => ?_)) (tgt := 165) (by decide) ?_
  · have hz : z = 11 ∨ z = 12 ∨ z = 13 ∨ z = 14 ∨ z = 15 ∨ z = 16 ∨ z = 17 ∨ z = 18 ∨ z = 19 ∨ z = 20 ∨ z = 21 ∨ z = 22 := by omega
    rcases hz with rfl | rfl | rfl | rfl | rfl | rfl | rfl | rfl | rfl | rfl | rfl | rfl
    all_goals first | exact cs11 | exact cs12 | exact cs13 | exact cs14 | exact cs15 | exact cs16 | exact cs17 | exact cs18 | exact cs19 | exact cs20 | exact cs21 | exact cs22
  refine j_loc C [1, 2] rfl ?_
  exact jn165 v1 v2   h
