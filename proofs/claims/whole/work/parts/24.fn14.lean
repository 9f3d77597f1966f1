theorem dX9_hasParen_0 : decode cX9_hasParen 0 = .ok (.iconst 0, 1) := by decide +kernel
theorem dX9_hasParen_1 : decode cX9_hasParen 1 = .ok (.istore_n 1, 1) := by decide +kernel
theorem dX9_hasParen_2 : decode cX9_hasParen 2 = .ok (.iload_n 1, 1) := by decide +kernel
theorem dX9_hasParen_3 : decode cX9_hasParen 3 = .ok (.aload_n 0, 1) := by decide +kernel
theorem dX9_hasParen_4 : decode cX9_hasParen 4 = .ok (.getfield 128, 3) := by decide +kernel
theorem dX9_hasParen_7 : decode cX9_hasParen 7 = .ok (.if_icmp .ge 22, 3) := by decide +kernel
theorem dX9_hasParen_10 : decode cX9_hasParen 10 = .ok (.aload_n 0, 1) := by decide +kernel
theorem dX9_hasParen_11 : decode cX9_hasParen 11 = .ok (.getfield 29, 3) := by decide +kernel
theorem dX9_hasParen_14 : decode cX9_hasParen 14 = .ok (.iload_n 1, 1) := by decide +kernel
theorem dX9_hasParen_15 : decode cX9_hasParen 15 = .ok (.iaload, 1) := by decide +kernel
theorem dX9_hasParen_16 : decode cX9_hasParen 16 = .ok (.bipush 40, 2) := by decide +kernel
theorem dX9_hasParen_18 : decode cX9_hasParen 18 = .ok (.if_icmp .ne 5, 3) := by decide +kernel
theorem dX9_hasParen_21 : decode cX9_hasParen 21 = .ok (.iconst 1, 1) := by decide +kernel
theorem dX9_hasParen_22 : decode cX9_hasParen 22 = .ok (.ireturn, 1) := by decide +kernel
theorem dX9_hasParen_23 : decode cX9_hasParen 23 = .ok (.iinc 1 1, 3) := by decide +kernel
theorem dX9_hasParen_26 : decode cX9_hasParen 26 = .ok (.goto (-24), 3) := by decide +kernel
theorem dX9_hasParen_29 : decode cX9_hasParen 29 = .ok (.iconst 0, 1) := by decide +kernel
theorem dX9_hasParen_30 : decode cX9_hasParen 30 = .ok (.ireturn, 1) := by decide +kernel
theorem dX9_goesOn_0 : decode cX9_goesOn 0 = .ok (.aload_n 0, 1) := by decide +kernel
theorem dX9_goesOn_1 : decode cX9_goesOn 1 = .ok (.getfield 97, 3) := by decide +kernel
theorem dX9_goesOn_4 : decode cX9_goesOn 4 = .ok (.bipush 43, 2) := by decide +kernel
theorem dX9_goesOn_6 : decode cX9_goesOn 6 = .ok (.if_icmp .eq 46, 3) := by decide +kernel
theorem dX9_goesOn_9 : decode cX9_goesOn 9 = .ok (.aload_n 0, 1) := by decide +kernel
theorem dX9_goesOn_10 : decode cX9_goesOn 10 = .ok (.getfield 97, 3) := by decide +kernel
theorem dX9_goesOn_13 : decode cX9_goesOn 13 = .ok (.bipush 45, 2) := by decide +kernel
theorem dX9_goesOn_15 : decode cX9_goesOn 15 = .ok (.if_icmp .eq 37, 3) := by decide +kernel
theorem dX9_goesOn_18 : decode cX9_goesOn 18 = .ok (.aload_n 0, 1) := by decide +kernel
theorem dX9_goesOn_19 : decode cX9_goesOn 19 = .ok (.getfield 97, 3) := by decide +kernel
theorem dX9_goesOn_22 : decode cX9_goesOn 22 = .ok (.bipush 42, 2) := by decide +kernel
theorem dX9_goesOn_24 : decode cX9_goesOn 24 = .ok (.if_icmp .eq 28, 3) := by decide +kernel
theorem dX9_goesOn_27 : decode cX9_goesOn 27 = .ok (.aload_n 0, 1) := by decide +kernel
theorem dX9_goesOn_28 : decode cX9_goesOn 28 = .ok (.getfield 97, 3) := by decide +kernel
theorem dX9_goesOn_31 : decode cX9_goesOn 31 = .ok (.bipush 47, 2) := by decide +kernel
theorem dX9_goesOn_33 : decode cX9_goesOn 33 = .ok (.if_icmp .eq 19, 3) := by decide +kernel
theorem dX9_goesOn_36 : decode cX9_goesOn 36 = .ok (.aload_n 0, 1) := by decide +kernel
theorem dX9_goesOn_37 : decode cX9_goesOn 37 = .ok (.getfield 97, 3) := by decide +kernel
theorem dX9_goesOn_40 : decode cX9_goesOn 40 = .ok (.bipush 41, 2) := by decide +kernel
theorem dX9_goesOn_42 : decode cX9_goesOn 42 = .ok (.if_icmp .ne 14, 3) := by decide +kernel
theorem dX9_goesOn_45 : decode cX9_goesOn 45 = .ok (.aload_n 0, 1) := by decide +kernel
theorem dX9_goesOn_46 : decode cX9_goesOn 46 = .ok (.invokevirtual 163, 3) := by decide +kernel
theorem dX9_goesOn_49 : decode cX9_goesOn 49 = .ok (.ifCond .eq 7, 3) := by decide +kernel
theorem dX9_goesOn_52 : decode cX9_goesOn 52 = .ok (.iconst 1, 1) := by decide +kernel
theorem dX9_goesOn_53 : decode cX9_goesOn 53 = .ok (.goto 4, 3) := by decide +kernel
theorem dX9_goesOn_56 : decode cX9_goesOn 56 = .ok (.iconst 0, 1) := by decide +kernel
theorem dX9_goesOn_57 : decode cX9_goesOn 57 = .ok (.ireturn, 1) := by decide +kernel
theorem dX9_emit_0 : decode cX9_emit 0 = .ok (.aload_n 0, 1) := by decide +kernel
theorem dX9_emit_1 : decode cX9_emit 1 = .ok (.getfield 16, 3) := by decide +kernel
theorem dX9_emit_4 : decode cX9_emit 4 = .ok (.aload_n 0, 1) := by decide +kernel
theorem dX9_emit_5 : decode cX9_emit 5 = .ok (.getfield 122, 3) := by decide +kernel
theorem dX9_emit_8 : decode cX9_emit 8 = .ok (.bipush 75, 2) := by decide +kernel
theorem dX9_emit_10 : decode cX9_emit 10 = .ok (.iadd, 1) := by decide +kernel
theorem dX9_emit_11 : decode cX9_emit 11 = .ok (.iconst 2, 1) := by decide +kernel
theorem dX9_emit_12 : decode cX9_emit 12 = .ok (.aload_n 0, 1) := by decide +kernel
theorem dX9_emit_13 : decode cX9_emit 13 = .ok (.getfield 125, 3) := by decide +kernel
theorem dX9_emit_16 : decode cX9_emit 16 = .ok (.imul, 1) := by decide +kernel
theorem dX9_emit_17 : decode cX9_emit 17 = .ok (.iadd, 1) := by decide +kernel
theorem dX9_emit_18 : decode cX9_emit 18 = .ok (.iload_n 1, 1) := by decide +kernel
theorem dX9_emit_19 : decode cX9_emit 19 = .ok (.iastore, 1) := by decide +kernel
theorem dX9_emit_20 : decode cX9_emit 20 = .ok (.aload_n 0, 1) := by decide +kernel
theorem dX9_emit_21 : decode cX9_emit 21 = .ok (.getfield 16, 3) := by decide +kernel
theorem dX9_emit_24 : decode cX9_emit 24 = .ok (.aload_n 0, 1) := by decide +kernel
theorem dX9_emit_25 : decode cX9_emit 25 = .ok (.getfield 122, 3) := by decide +kernel
theorem dX9_emit_28 : decode cX9_emit 28 = .ok (.bipush 75, 2) := by decide +kernel
theorem dX9_emit_30 : decode cX9_emit 30 = .ok (.iadd, 1) := by decide +kernel
theorem dX9_emit_31 : decode cX9_emit 31 = .ok (.iconst 2, 1) := by decide +kernel
theorem dX9_emit_32 : decode cX9_emit 32 = .ok (.aload_n 0, 1) := by decide +kernel
theorem dX9_emit_33 : decode cX9_emit 33 = .ok (.getfield 125, 3) := by decide +kernel
theorem dX9_emit_36 : decode cX9_emit 36 = .ok (.imul, 1) := by decide +kernel
theorem dX9_emit_37 : decode cX9_emit 37 = .ok (.iadd, 1) := by decide +kernel
theorem dX9_emit_38 : decode cX9_emit 38 = .ok (.iconst 1, 1) := by decide +kernel
theorem dX9_emit_39 : decode cX9_emit 39 = .ok (.iadd, 1) := by decide +kernel
theorem dX9_emit_40 : decode cX9_emit 40 = .ok (.iload_n 2, 1) := by decide +kernel
theorem dX9_emit_41 : decode cX9_emit 41 = .ok (.iastore, 1) := by decide +kernel
theorem dX9_emit_42 : decode cX9_emit 42 = .ok (.aload_n 0, 1) := by decide +kernel
theorem dX9_emit_43 : decode cX9_emit 43 = .ok (.dup, 1) := by decide +kernel
theorem dX9_emit_44 : decode cX9_emit 44 = .ok (.getfield 125, 3) := by decide +kernel
theorem dX9_emit_47 : decode cX9_emit 47 = .ok (.iconst 1, 1) := by decide +kernel
theorem dX9_emit_48 : decode cX9_emit 48 = .ok (.iadd, 1) := by decide +kernel
theorem dX9_emit_49 : decode cX9_emit 49 = .ok (.putfield 125, 3) := by decide +kernel
theorem dX9_emit_52 : decode cX9_emit 52 = .ok (.return_, 1) := by decide +kernel
theorem dX9_settle_0 : decode cX9_settle 0 = .ok (.aload_n 0, 1) := by decide +kernel
theorem dX9_settle_1 : decode cX9_settle 1 = .ok (.getfield 128, 3) := by decide +kernel
theorem dX9_settle_4 : decode cX9_settle 4 = .ok (.ifCond .le 61, 3) := by decide +kernel
theorem dX9_settle_7 : decode cX9_settle 7 = .ok (.aload_n 0, 1) := by decide +kernel
theorem dX9_settle_8 : decode cX9_settle 8 = .ok (.getfield 29, 3) := by decide +kernel
theorem dX9_settle_11 : decode cX9_settle 11 = .ok (.aload_n 0, 1) := by decide +kernel
theorem dX9_settle_12 : decode cX9_settle 12 = .ok (.getfield 128, 3) := by decide +kernel
theorem dX9_settle_15 : decode cX9_settle 15 = .ok (.iconst 1, 1) := by decide +kernel
theorem dX9_settle_16 : decode cX9_settle 16 = .ok (.isub, 1) := by decide +kernel
theorem dX9_settle_17 : decode cX9_settle 17 = .ok (.iaload, 1) := by decide +kernel
theorem dX9_settle_18 : decode cX9_settle 18 = .ok (.bipush 40, 2) := by decide +kernel
theorem dX9_settle_20 : decode cX9_settle 20 = .ok (.if_icmp .ge 45, 3) := by decide +kernel
theorem dX9_settle_23 : decode cX9_settle 23 = .ok (.aload_n 0, 1) := by decide +kernel
theorem dX9_settle_24 : decode cX9_settle 24 = .ok (.getfield 29, 3) := by decide +kernel
theorem dX9_settle_27 : decode cX9_settle 27 = .ok (.aload_n 0, 1) := by decide +kernel
theorem dX9_settle_28 : decode cX9_settle 28 = .ok (.getfield 128, 3) := by decide +kernel
theorem dX9_settle_31 : decode cX9_settle 31 = .ok (.iconst 1, 1) := by decide +kernel
theorem dX9_settle_32 : decode cX9_settle 32 = .ok (.isub, 1) := by decide +kernel
theorem dX9_settle_33 : decode cX9_settle 33 = .ok (.iaload, 1) := by decide +kernel
theorem dX9_settle_34 : decode cX9_settle 34 = .ok (.iload_n 1, 1) := by decide +kernel
theorem dX9_settle_35 : decode cX9_settle 35 = .ok (.if_icmp .lt 30, 3) := by decide +kernel
theorem dX9_settle_38 : decode cX9_settle 38 = .ok (.aload_n 0, 1) := by decide +kernel
theorem dX9_settle_39 : decode cX9_settle 39 = .ok (.dup, 1) := by decide +kernel
theorem dX9_settle_40 : decode cX9_settle 40 = .ok (.getfield 128, 3) := by decide +kernel
theorem dX9_settle_43 : decode cX9_settle 43 = .ok (.iconst 1, 1) := by decide +kernel
theorem dX9_settle_44 : decode cX9_settle 44 = .ok (.isub, 1) := by decide +kernel
theorem dX9_settle_45 : decode cX9_settle 45 = .ok (.putfield 128, 3) := by decide +kernel
theorem dX9_settle_48 : decode cX9_settle 48 = .ok (.aload_n 0, 1) := by decide +kernel
theorem dX9_settle_49 : decode cX9_settle 49 = .ok (.aload_n 0, 1) := by decide +kernel
theorem dX9_settle_50 : decode cX9_settle 50 = .ok (.getfield 29, 3) := by decide +kernel
theorem dX9_settle_53 : decode cX9_settle 53 = .ok (.aload_n 0, 1) := by decide +kernel
theorem dX9_settle_54 : decode cX9_settle 54 = .ok (.getfield 128, 3) := by decide +kernel
theorem dX9_settle_57 : decode cX9_settle 57 = .ok (.iaload, 1) := by decide +kernel
theorem dX9_settle_58 : decode cX9_settle 58 = .ok (.iconst 0, 1) := by decide +kernel
theorem dX9_settle_59 : decode cX9_settle 59 = .ok (.invokevirtual 138, 3) := by decide +kernel
theorem dX9_settle_62 : decode cX9_settle 62 = .ok (.goto (-62), 3) := by decide +kernel
theorem dX9_settle_65 : decode cX9_settle 65 = .ok (.return_, 1) := by decide +kernel
theorem dX9_push_0 : decode cX9_push 0 = .ok (.aload_n 0, 1) := by decide +kernel
theorem dX9_push_1 : decode cX9_push 1 = .ok (.getfield 29, 3) := by decide +kernel
theorem dX9_push_4 : decode cX9_push 4 = .ok (.aload_n 0, 1) := by decide +kernel
theorem dX9_push_5 : decode cX9_push 5 = .ok (.getfield 128, 3) := by decide +kernel
theorem dX9_push_8 : decode cX9_push 8 = .ok (.iload_n 1, 1) := by decide +kernel
theorem dX9_push_9 : decode cX9_push 9 = .ok (.iastore, 1) := by decide +kernel
theorem dX9_push_10 : decode cX9_push 10 = .ok (.aload_n 0, 1) := by decide +kernel
theorem dX9_push_11 : decode cX9_push 11 = .ok (.dup, 1) := by decide +kernel
theorem dX9_push_12 : decode cX9_push 12 = .ok (.getfield 128, 3) := by decide +kernel
theorem dX9_push_15 : decode cX9_push 15 = .ok (.iconst 1, 1) := by decide +kernel
theorem dX9_push_16 : decode cX9_push 16 = .ok (.iadd, 1) := by decide +kernel
theorem dX9_push_17 : decode cX9_push 17 = .ok (.putfield 128, 3) := by decide +kernel
theorem dX9_push_20 : decode cX9_push 20 = .ok (.return_, 1) := by decide +kernel
theorem dX9_whole_0 : decode cX9_whole 0 = .ok (.aload_n 0, 1) := by decide +kernel
theorem dX9_whole_1 : decode cX9_whole 1 = .ok (.iconst 1, 1) := by decide +kernel
theorem dX9_whole_2 : decode cX9_whole 2 = .ok (.putfield 131, 3) := by decide +kernel
theorem dX9_whole_5 : decode cX9_whole 5 = .ok (.aload_n 0, 1) := by decide +kernel
theorem dX9_whole_6 : decode cX9_whole 6 = .ok (.getfield 128, 3) := by decide +kernel
theorem dX9_whole_9 : decode cX9_whole 9 = .ok (.ifCond .le 47, 3) := by decide +kernel
theorem dX9_whole_12 : decode cX9_whole 12 = .ok (.aload_n 0, 1) := by decide +kernel
theorem dX9_whole_13 : decode cX9_whole 13 = .ok (.getfield 29, 3) := by decide +kernel
theorem dX9_whole_16 : decode cX9_whole 16 = .ok (.aload_n 0, 1) := by decide +kernel
theorem dX9_whole_17 : decode cX9_whole 17 = .ok (.getfield 128, 3) := by decide +kernel
theorem dX9_whole_20 : decode cX9_whole 20 = .ok (.iconst 1, 1) := by decide +kernel
theorem dX9_whole_21 : decode cX9_whole 21 = .ok (.isub, 1) := by decide +kernel
theorem dX9_whole_22 : decode cX9_whole 22 = .ok (.iaload, 1) := by decide +kernel
theorem dX9_whole_23 : decode cX9_whole 23 = .ok (.iconst 2, 1) := by decide +kernel
theorem dX9_whole_24 : decode cX9_whole 24 = .ok (.if_icmp .ne 32, 3) := by decide +kernel
theorem dX9_whole_27 : decode cX9_whole 27 = .ok (.aload_n 0, 1) := by decide +kernel
theorem dX9_whole_28 : decode cX9_whole 28 = .ok (.dup, 1) := by decide +kernel
theorem dX9_whole_29 : decode cX9_whole 29 = .ok (.getfield 128, 3) := by decide +kernel
theorem dX9_whole_32 : decode cX9_whole 32 = .ok (.iconst 1, 1) := by decide +kernel
theorem dX9_whole_33 : decode cX9_whole 33 = .ok (.isub, 1) := by decide +kernel
theorem dX9_whole_34 : decode cX9_whole 34 = .ok (.putfield 128, 3) := by decide +kernel
theorem dX9_whole_37 : decode cX9_whole 37 = .ok (.aload_n 0, 1) := by decide +kernel
theorem dX9_whole_38 : decode cX9_whole 38 = .ok (.dup, 1) := by decide +kernel
theorem dX9_whole_39 : decode cX9_whole 39 = .ok (.getfield 135, 3) := by decide +kernel
theorem dX9_whole_42 : decode cX9_whole 42 = .ok (.iconst 1, 1) := by decide +kernel
theorem dX9_whole_43 : decode cX9_whole 43 = .ok (.isub, 1) := by decide +kernel
theorem dX9_whole_44 : decode cX9_whole 44 = .ok (.putfield 135, 3) := by decide +kernel
theorem dX9_whole_47 : decode cX9_whole 47 = .ok (.aload_n 0, 1) := by decide +kernel
theorem dX9_whole_48 : decode cX9_whole 48 = .ok (.iconst 2, 1) := by decide +kernel
theorem dX9_whole_49 : decode cX9_whole 49 = .ok (.iconst 0, 1) := by decide +kernel
theorem dX9_whole_50 : decode cX9_whole 50 = .ok (.invokevirtual 138, 3) := by decide +kernel
theorem dX9_whole_53 : decode cX9_whole 53 = .ok (.goto (-48), 3) := by decide +kernel
theorem dX9_whole_56 : decode cX9_whole 56 = .ok (.return_, 1) := by decide +kernel
theorem dX9_behindOne_0 : decode cX9_behindOne 0 = .ok (.aload_n 0, 1) := by decide +kernel
theorem dX9_behindOne_1 : decode cX9_behindOne 1 = .ok (.getfield 97, 3) := by decide +kernel
theorem dX9_behindOne_4 : decode cX9_behindOne 4 = .ok (.istore_n 1, 1) := by decide +kernel
theorem dX9_behindOne_5 : decode cX9_behindOne 5 = .ok (.iload_n 1, 1) := by decide +kernel
theorem dX9_behindOne_6 : decode cX9_behindOne 6 = .ok (.bipush 43, 2) := by decide +kernel
theorem dX9_behindOne_8 : decode cX9_behindOne 8 = .ok (.if_icmp .eq 9, 3) := by decide +kernel
theorem dX9_behindOne_11 : decode cX9_behindOne 11 = .ok (.iload_n 1, 1) := by decide +kernel
theorem dX9_behindOne_12 : decode cX9_behindOne 12 = .ok (.bipush 45, 2) := by decide +kernel
theorem dX9_behindOne_14 : decode cX9_behindOne 14 = .ok (.if_icmp .ne 31, 3) := by decide +kernel
theorem dX9_behindOne_17 : decode cX9_behindOne 17 = .ok (.aload_n 0, 1) := by decide +kernel
theorem dX9_behindOne_18 : decode cX9_behindOne 18 = .ok (.iconst 3, 1) := by decide +kernel
theorem dX9_behindOne_19 : decode cX9_behindOne 19 = .ok (.invokevirtual 167, 3) := by decide +kernel
theorem dX9_behindOne_22 : decode cX9_behindOne 22 = .ok (.aload_n 0, 1) := by decide +kernel
theorem dX9_behindOne_23 : decode cX9_behindOne 23 = .ok (.iload_n 1, 1) := by decide +kernel
theorem dX9_behindOne_24 : decode cX9_behindOne 24 = .ok (.bipush 43, 2) := by decide +kernel
theorem dX9_behindOne_26 : decode cX9_behindOne 26 = .ok (.if_icmp .ne 7, 3) := by decide +kernel
theorem dX9_behindOne_29 : decode cX9_behindOne 29 = .ok (.iconst 3, 1) := by decide +kernel
theorem dX9_behindOne_30 : decode cX9_behindOne 30 = .ok (.goto 4, 3) := by decide +kernel
theorem dX9_behindOne_33 : decode cX9_behindOne 33 = .ok (.iconst 4, 1) := by decide +kernel
theorem dX9_behindOne_34 : decode cX9_behindOne 34 = .ok (.invokevirtual 160, 3) := by decide +kernel
theorem dX9_behindOne_37 : decode cX9_behindOne 37 = .ok (.aload_n 0, 1) := by decide +kernel
theorem dX9_behindOne_38 : decode cX9_behindOne 38 = .ok (.iconst 0, 1) := by decide +kernel
theorem dX9_behindOne_39 : decode cX9_behindOne 39 = .ok (.putfield 131, 3) := by decide +kernel
theorem dX9_behindOne_42 : decode cX9_behindOne 42 = .ok (.goto 73, 3) := by decide +kernel
theorem dX9_behindOne_45 : decode cX9_behindOne 45 = .ok (.iload_n 1, 1) := by decide +kernel
theorem dX9_behindOne_46 : decode cX9_behindOne 46 = .ok (.bipush 42, 2) := by decide +kernel
theorem dX9_behindOne_48 : decode cX9_behindOne 48 = .ok (.if_icmp .eq 9, 3) := by decide +kernel
theorem dX9_behindOne_51 : decode cX9_behindOne 51 = .ok (.iload_n 1, 1) := by decide +kernel
theorem dX9_behindOne_52 : decode cX9_behindOne 52 = .ok (.bipush 47, 2) := by decide +kernel
theorem dX9_behindOne_54 : decode cX9_behindOne 54 = .ok (.if_icmp .ne 32, 3) := by decide +kernel
theorem dX9_behindOne_57 : decode cX9_behindOne 57 = .ok (.aload_n 0, 1) := by decide +kernel
theorem dX9_behindOne_58 : decode cX9_behindOne 58 = .ok (.iconst 5, 1) := by decide +kernel
theorem dX9_behindOne_59 : decode cX9_behindOne 59 = .ok (.invokevirtual 167, 3) := by decide +kernel
theorem dX9_behindOne_62 : decode cX9_behindOne 62 = .ok (.aload_n 0, 1) := by decide +kernel
theorem dX9_behindOne_63 : decode cX9_behindOne 63 = .ok (.iload_n 1, 1) := by decide +kernel
theorem dX9_behindOne_64 : decode cX9_behindOne 64 = .ok (.bipush 42, 2) := by decide +kernel
theorem dX9_behindOne_66 : decode cX9_behindOne 66 = .ok (.if_icmp .ne 7, 3) := by decide +kernel
theorem dX9_behindOne_69 : decode cX9_behindOne 69 = .ok (.iconst 5, 1) := by decide +kernel
theorem dX9_behindOne_70 : decode cX9_behindOne 70 = .ok (.goto 5, 3) := by decide +kernel
theorem dX9_behindOne_73 : decode cX9_behindOne 73 = .ok (.bipush 6, 2) := by decide +kernel
theorem dX9_behindOne_75 : decode cX9_behindOne 75 = .ok (.invokevirtual 160, 3) := by decide +kernel
theorem dX9_behindOne_78 : decode cX9_behindOne 78 = .ok (.aload_n 0, 1) := by decide +kernel
theorem dX9_behindOne_79 : decode cX9_behindOne 79 = .ok (.iconst 0, 1) := by decide +kernel
theorem dX9_behindOne_80 : decode cX9_behindOne 80 = .ok (.putfield 131, 3) := by decide +kernel
theorem dX9_behindOne_83 : decode cX9_behindOne 83 = .ok (.goto 32, 3) := by decide +kernel
theorem dX9_behindOne_86 : decode cX9_behindOne 86 = .ok (.aload_n 0, 1) := by decide +kernel
theorem dX9_behindOne_87 : decode cX9_behindOne 87 = .ok (.iconst 3, 1) := by decide +kernel
theorem dX9_behindOne_88 : decode cX9_behindOne 88 = .ok (.invokevirtual 167, 3) := by decide +kernel
theorem dX9_behindOne_91 : decode cX9_behindOne 91 = .ok (.aload_n 0, 1) := by decide +kernel
theorem dX9_behindOne_92 : decode cX9_behindOne 92 = .ok (.dup, 1) := by decide +kernel
theorem dX9_behindOne_93 : decode cX9_behindOne 93 = .ok (.getfield 128, 3) := by decide +kernel
theorem dX9_behindOne_96 : decode cX9_behindOne 96 = .ok (.iconst 1, 1) := by decide +kernel
theorem dX9_behindOne_97 : decode cX9_behindOne 97 = .ok (.isub, 1) := by decide +kernel
theorem dX9_behindOne_98 : decode cX9_behindOne 98 = .ok (.putfield 128, 3) := by decide +kernel
theorem dX9_behindOne_101 : decode cX9_behindOne 101 = .ok (.aload_n 0, 1) := by decide +kernel
theorem dX9_behindOne_102 : decode cX9_behindOne 102 = .ok (.dup, 1) := by decide +kernel
theorem dX9_behindOne_103 : decode cX9_behindOne 103 = .ok (.getfield 135, 3) := by decide +kernel
theorem dX9_behindOne_106 : decode cX9_behindOne 106 = .ok (.iconst 1, 1) := by decide +kernel
theorem dX9_behindOne_107 : decode cX9_behindOne 107 = .ok (.isub, 1) := by decide +kernel
theorem dX9_behindOne_108 : decode cX9_behindOne 108 = .ok (.putfield 135, 3) := by decide +kernel
theorem dX9_behindOne_111 : decode cX9_behindOne 111 = .ok (.aload_n 0, 1) := by decide +kernel
theorem dX9_behindOne_112 : decode cX9_behindOne 112 = .ok (.invokevirtual 153, 3) := by decide +kernel
theorem dX9_behindOne_115 : decode cX9_behindOne 115 = .ok (.aload_n 0, 1) := by decide +kernel
theorem dX9_behindOne_116 : decode cX9_behindOne 116 = .ok (.invokevirtual 150, 3) := by decide +kernel
theorem dX9_behindOne_119 : decode cX9_behindOne 119 = .ok (.iconst 0, 1) := by decide +kernel
theorem dX9_behindOne_120 : decode cX9_behindOne 120 = .ok (.ireturn, 1) := by decide +kernel
theorem dX9_w6_0 : decode cX9_w6 0 = .ok (.iload_n 0, 1) := by decide +kernel
theorem dX9_w6_1 : decode cX9_w6 1 = .ok (.iload_n 1, 1) := by decide +kernel
theorem dX9_w6_2 : decode cX9_w6 2 = .ok (.iload_n 2, 1) := by decide +kernel
theorem dX9_w6_3 : decode cX9_w6 3 = .ok (.iload_n 3, 1) := by decide +kernel
theorem dX9_w6_4 : decode cX9_w6 4 = .ok (.iload 4, 2) := by decide +kernel
theorem dX9_w6_6 : decode cX9_w6 6 = .ok (.invokestatic 118, 3) := by decide +kernel
theorem dX9_w6_9 : decode cX9_w6 9 = .ok (.bipush 8, 2) := by decide +kernel
theorem dX9_w6_11 : decode cX9_w6 11 = .ok (.lshl, 1) := by decide +kernel
theorem dX9_w6_12 : decode cX9_w6 12 = .ok (.iload 5, 2) := by decide +kernel
theorem dX9_w6_14 : decode cX9_w6 14 = .ok (.i2l, 1) := by decide +kernel
theorem dX9_w6_15 : decode cX9_w6 15 = .ok (.lor, 1) := by decide +kernel
theorem dX9_w6_16 : decode cX9_w6 16 = .ok (.lreturn, 1) := by decide +kernel
theorem dX9_nameOf_0 : decode cX9_nameOf 0 = .ok (.aload_n 0, 1) := by decide +kernel
theorem dX9_nameOf_1 : decode cX9_nameOf 1 = .ok (.getfield 97, 3) := by decide +kernel
theorem dX9_nameOf_4 : decode cX9_nameOf 4 = .ok (.iconst 2, 1) := by decide +kernel
theorem dX9_nameOf_5 : decode cX9_nameOf 5 = .ok (.if_icmp .eq 5, 3) := by decide +kernel
theorem dX9_nameOf_8 : decode cX9_nameOf 8 = .ok (.iconst (-1), 1) := by decide +kernel
theorem dX9_nameOf_9 : decode cX9_nameOf 9 = .ok (.ireturn, 1) := by decide +kernel
theorem dX9_nameOf_10 : decode cX9_nameOf 10 = .ok (.aload_n 0, 1) := by decide +kernel
theorem dX9_nameOf_11 : decode cX9_nameOf 11 = .ok (.getfield 110, 3) := by decide +kernel
theorem dX9_nameOf_14 : decode cX9_nameOf 14 = .ok (.bipush 100, 2) := by decide +kernel
theorem dX9_nameOf_16 : decode cX9_nameOf 16 = .ok (.bipush 111, 2) := by decide +kernel
theorem dX9_nameOf_18 : decode cX9_nameOf 18 = .ok (.bipush 111, 2) := by decide +kernel
theorem dX9_nameOf_20 : decode cX9_nameOf 20 = .ok (.bipush 114, 2) := by decide +kernel
theorem dX9_nameOf_22 : decode cX9_nameOf 22 = .ok (.invokestatic 142, 3) := by decide +kernel
theorem dX9_nameOf_25 : decode cX9_nameOf 25 = .ok (.lcmp, 1) := by decide +kernel
theorem dX9_nameOf_26 : decode cX9_nameOf 26 = .ok (.ifCond .ne 5, 3) := by decide +kernel
theorem dX9_nameOf_29 : decode cX9_nameOf 29 = .ok (.iconst 0, 1) := by decide +kernel
theorem dX9_nameOf_30 : decode cX9_nameOf 30 = .ok (.ireturn, 1) := by decide +kernel
theorem dX9_nameOf_31 : decode cX9_nameOf 31 = .ok (.aload_n 0, 1) := by decide +kernel
theorem dX9_nameOf_32 : decode cX9_nameOf 32 = .ok (.getfield 110, 3) := by decide +kernel
theorem dX9_nameOf_35 : decode cX9_nameOf 35 = .ok (.bipush 104, 2) := by decide +kernel
theorem dX9_nameOf_37 : decode cX9_nameOf 37 = .ok (.bipush 111, 2) := by decide +kernel
theorem dX9_nameOf_39 : decode cX9_nameOf 39 = .ok (.bipush 117, 2) := by decide +kernel
theorem dX9_nameOf_41 : decode cX9_nameOf 41 = .ok (.bipush 114, 2) := by decide +kernel
theorem dX9_nameOf_43 : decode cX9_nameOf 43 = .ok (.invokestatic 142, 3) := by decide +kernel
theorem dX9_nameOf_46 : decode cX9_nameOf 46 = .ok (.lcmp, 1) := by decide +kernel
theorem dX9_nameOf_47 : decode cX9_nameOf 47 = .ok (.ifCond .ne 5, 3) := by decide +kernel
theorem dX9_nameOf_50 : decode cX9_nameOf 50 = .ok (.iconst 1, 1) := by decide +kernel
theorem dX9_nameOf_51 : decode cX9_nameOf 51 = .ok (.ireturn, 1) := by decide +kernel
theorem dX9_nameOf_52 : decode cX9_nameOf 52 = .ok (.aload_n 0, 1) := by decide +kernel
theorem dX9_nameOf_53 : decode cX9_nameOf 53 = .ok (.getfield 110, 3) := by decide +kernel
theorem dX9_nameOf_56 : decode cX9_nameOf 56 = .ok (.bipush 114, 2) := by decide +kernel
theorem dX9_nameOf_58 : decode cX9_nameOf 58 = .ok (.bipush 97, 2) := by decide +kernel
theorem dX9_nameOf_60 : decode cX9_nameOf 60 = .ok (.bipush 105, 2) := by decide +kernel
theorem dX9_nameOf_62 : decode cX9_nameOf 62 = .ok (.bipush 110, 2) := by decide +kernel
theorem dX9_nameOf_64 : decode cX9_nameOf 64 = .ok (.invokestatic 142, 3) := by decide +kernel
theorem dX9_nameOf_67 : decode cX9_nameOf 67 = .ok (.lcmp, 1) := by decide +kernel
theorem dX9_nameOf_68 : decode cX9_nameOf 68 = .ok (.ifCond .ne 5, 3) := by decide +kernel
theorem dX9_nameOf_71 : decode cX9_nameOf 71 = .ok (.iconst 2, 1) := by decide +kernel
theorem dX9_nameOf_72 : decode cX9_nameOf 72 = .ok (.ireturn, 1) := by decide +kernel
theorem dX9_nameOf_73 : decode cX9_nameOf 73 = .ok (.aload_n 0, 1) := by decide +kernel
theorem dX9_nameOf_74 : decode cX9_nameOf 74 = .ok (.getfield 110, 3) := by decide +kernel
theorem dX9_nameOf_77 : decode cX9_nameOf 77 = .ok (.bipush 109, 2) := by decide +kernel
theorem dX9_nameOf_79 : decode cX9_nameOf 79 = .ok (.bipush 111, 2) := by decide +kernel
theorem dX9_nameOf_81 : decode cX9_nameOf 81 = .ok (.bipush 111, 2) := by decide +kernel
theorem dX9_nameOf_83 : decode cX9_nameOf 83 = .ok (.bipush 100, 2) := by decide +kernel
theorem dX9_nameOf_85 : decode cX9_nameOf 85 = .ok (.invokestatic 142, 3) := by decide +kernel
theorem dX9_nameOf_88 : decode cX9_nameOf 88 = .ok (.lcmp, 1) := by decide +kernel
theorem dX9_nameOf_89 : decode cX9_nameOf 89 = .ok (.ifCond .ne 5, 3) := by decide +kernel
theorem dX9_nameOf_92 : decode cX9_nameOf 92 = .ok (.iconst 3, 1) := by decide +kernel
theorem dX9_nameOf_93 : decode cX9_nameOf 93 = .ok (.ireturn, 1) := by decide +kernel
theorem dX9_nameOf_94 : decode cX9_nameOf 94 = .ok (.aload_n 0, 1) := by decide +kernel
theorem dX9_nameOf_95 : decode cX9_nameOf 95 = .ok (.getfield 110, 3) := by decide +kernel
theorem dX9_nameOf_98 : decode cX9_nameOf 98 = .ok (.bipush 103, 2) := by decide +kernel
theorem dX9_nameOf_100 : decode cX9_nameOf 100 = .ok (.bipush 105, 2) := by decide +kernel
theorem dX9_nameOf_102 : decode cX9_nameOf 102 = .ok (.bipush 102, 2) := by decide +kernel
theorem dX9_nameOf_104 : decode cX9_nameOf 104 = .ok (.bipush 116, 2) := by decide +kernel
theorem dX9_nameOf_106 : decode cX9_nameOf 106 = .ok (.invokestatic 142, 3) := by decide +kernel
theorem dX9_nameOf_109 : decode cX9_nameOf 109 = .ok (.lcmp, 1) := by decide +kernel
theorem dX9_nameOf_110 : decode cX9_nameOf 110 = .ok (.ifCond .ne 5, 3) := by decide +kernel
theorem dX9_nameOf_113 : decode cX9_nameOf 113 = .ok (.iconst 4, 1) := by decide +kernel
theorem dX9_nameOf_114 : decode cX9_nameOf 114 = .ok (.ireturn, 1) := by decide +kernel
theorem dX9_nameOf_115 : decode cX9_nameOf 115 = .ok (.aload_n 0, 1) := by decide +kernel
theorem dX9_nameOf_116 : decode cX9_nameOf 116 = .ok (.getfield 110, 3) := by decide +kernel
theorem dX9_nameOf_119 : decode cX9_nameOf 119 = .ok (.bipush 107, 2) := by decide +kernel
theorem dX9_nameOf_121 : decode cX9_nameOf 121 = .ok (.bipush 110, 2) := by decide +kernel
theorem dX9_nameOf_123 : decode cX9_nameOf 123 = .ok (.bipush 111, 2) := by decide +kernel
theorem dX9_nameOf_125 : decode cX9_nameOf 125 = .ok (.bipush 99, 2) := by decide +kernel
theorem dX9_nameOf_127 : decode cX9_nameOf 127 = .ok (.bipush 107, 2) := by decide +kernel
theorem dX9_nameOf_129 : decode cX9_nameOf 129 = .ok (.bipush 115, 2) := by decide +kernel
theorem dX9_nameOf_131 : decode cX9_nameOf 131 = .ok (.invokestatic 146, 3) := by decide +kernel
theorem dX9_nameOf_134 : decode cX9_nameOf 134 = .ok (.lcmp, 1) := by decide +kernel
theorem dX9_nameOf_135 : decode cX9_nameOf 135 = .ok (.ifCond .ne 5, 3) := by decide +kernel
theorem dX9_nameOf_138 : decode cX9_nameOf 138 = .ok (.iconst 5, 1) := by decide +kernel
theorem dX9_nameOf_139 : decode cX9_nameOf 139 = .ok (.ireturn, 1) := by decide +kernel
theorem dX9_nameOf_140 : decode cX9_nameOf 140 = .ok (.aload_n 0, 1) := by decide +kernel
theorem dX9_nameOf_141 : decode cX9_nameOf 141 = .ok (.getfield 110, 3) := by decide +kernel
theorem dX9_nameOf_144 : decode cX9_nameOf 144 = .ok (.bipush 119, 2) := by decide +kernel
theorem dX9_nameOf_146 : decode cX9_nameOf 146 = .ok (.bipush 97, 2) := by decide +kernel
theorem dX9_nameOf_148 : decode cX9_nameOf 148 = .ok (.bipush 105, 2) := by decide +kernel
theorem dX9_nameOf_150 : decode cX9_nameOf 150 = .ok (.bipush 116, 2) := by decide +kernel
theorem dX9_nameOf_152 : decode cX9_nameOf 152 = .ok (.bipush 101, 2) := by decide +kernel
theorem dX9_nameOf_154 : decode cX9_nameOf 154 = .ok (.bipush 100, 2) := by decide +kernel
theorem dX9_nameOf_156 : decode cX9_nameOf 156 = .ok (.invokestatic 146, 3) := by decide +kernel
theorem dX9_nameOf_159 : decode cX9_nameOf 159 = .ok (.lcmp, 1) := by decide +kernel
theorem dX9_nameOf_160 : decode cX9_nameOf 160 = .ok (.ifCond .ne 8, 3) := by decide +kernel
theorem dX9_nameOf_163 : decode cX9_nameOf 163 = .ok (.bipush 6, 2) := by decide +kernel
theorem dX9_nameOf_165 : decode cX9_nameOf 165 = .ok (.goto 28, 3) := by decide +kernel
theorem dX9_nameOf_168 : decode cX9_nameOf 168 = .ok (.aload_n 0, 1) := by decide +kernel
theorem dX9_nameOf_169 : decode cX9_nameOf 169 = .ok (.getfield 110, 3) := by decide +kernel
theorem dX9_nameOf_172 : decode cX9_nameOf 172 = .ok (.bipush 108, 2) := by decide +kernel
theorem dX9_nameOf_174 : decode cX9_nameOf 174 = .ok (.bipush 111, 2) := by decide +kernel
theorem dX9_nameOf_176 : decode cX9_nameOf 176 = .ok (.bipush 97, 2) := by decide +kernel
theorem dX9_nameOf_178 : decode cX9_nameOf 178 = .ok (.bipush 100, 2) := by decide +kernel
theorem dX9_nameOf_180 : decode cX9_nameOf 180 = .ok (.invokestatic 142, 3) := by decide +kernel
theorem dX9_nameOf_183 : decode cX9_nameOf 183 = .ok (.lcmp, 1) := by decide +kernel
theorem dX9_nameOf_184 : decode cX9_nameOf 184 = .ok (.ifCond .ne 8, 3) := by decide +kernel
theorem dX9_nameOf_187 : decode cX9_nameOf 187 = .ok (.bipush 7, 2) := by decide +kernel
theorem dX9_nameOf_189 : decode cX9_nameOf 189 = .ok (.goto 4, 3) := by decide +kernel
theorem dX9_nameOf_192 : decode cX9_nameOf 192 = .ok (.iconst (-1), 1) := by decide +kernel
theorem dX9_nameOf_193 : decode cX9_nameOf 193 = .ok (.ireturn, 1) := by decide +kernel
-- X9_hasParen
def B_X9_hasParen_2 (n : Nat) (s : jS) (q : Int32) : Option (Int32 ⊕ ((Int32) ⊕ Bool)) :=
  (if (s.1 0 18) ≤ q then some (.inr (.inl q)) else (if jin q 160 = true then (if (s.1 5 (Int32.toNatClampNeg q)) = 40 then some (.inr (.inr true)) else some (.inl (q + 1))) else none))
def F_X9_hasParen (n : Nat) (s : jS) : Option Bool :=
  ((lp (B_X9_hasParen_2 n s) n 0).bind fun e => Sum.elim (fun e2 => some false) (fun r2 => some r2) e)
def rm_X9_hasParen : Room := { frames := 0, cells := 0, slots := 0, locals := 0 }
set_option maxHeartbeats 4000000 in
set_option maxRecDepth 100000 in
theorem m_X9_hasParen {l : Launch} {D : va_G} {G : Nat → ClassId} {KV : jV} {ad : Nat → Nat} (n : Nat) (s : jS) {p : Bool} (h : F_X9_hasParen n s = some p) : jM l D G KV yX9_hasParen cX9_hasParen 2 (some .boolean) rm_X9_hasParen [.ref (ad 0)] (jw 15 (cellM G) ad s) 0 0 (fun v u => v = some (.int (jb p)) ∧ u = jw 15 (cellM G) ad s) := by
  refine jM.of (by decide) (Nat.le_of_ble_eq_true rfl) ?_
  intro K C
  unfold F_X9_hasParen at h
  have lo2 : ∀ (k : Nat) (q : Int32) (e : (Int32) ⊕ Bool), lp (B_X9_hasParen_2 n s) k q = some e → Sum.elim (fun e => K 0 0 (jw 15 (cellM G) ad s) 29 [] []) (fun r => some r = some p) e → K 0 0 (jw 15 (cellM G) ad s) 2 [(0, .ref (ad 0)), (1, .int q)] [] := by
    intro k q e he hE
    refine jlp (KH := fun q => K 0 0 (jw 15 (cellM G) ad s) 2 [(0, .ref (ad 0)), (1, .int q)] []) (KE := fun e => Sum.elim (fun e => K 0 0 (jw 15 (cellM G) ad s) 29 [] []) (fun r => some r = some p) e) ?_ k q e he hE
    intro q o hb hin hout
    unfold B_X9_hasParen_2 at hb
    show K 0 0 (jw 15 (cellM G) ad s) 2 [(0, .ref (ad 0)), (1, .int q)] []
    refine j_iload_n C dX9_hasParen_2 1 rfl ?_
    refine j_aload_n C dX9_hasParen_3 0 rfl ?_
    refine j_getW C dX9_hasParen_4 inX9 rfl (by decide) rfl 18 (by decide) w_939 rfl rfl ?_
    refine j_icmp_ge C dX9_hasParen_7 (tgt := 29) (by decide) (fun cq => ?_) (fun cq => ?_)
    · have hb := jite_t hb cq
      refine j_loc C [] rfl ?_
      have hx := hout _ (jinr hb)
      exact hx
    · have hb := jite_f hb cq
      refine j_aload_n C dX9_hasParen_10 0 rfl ?_
      refine j_getW C dX9_hasParen_11 inX9 rfl (by decide) rfl 17 (by decide) w_938 rfl rfl ?_
      refine j_iload_n C dX9_hasParen_14 1 rfl ?_
      obtain ⟨c15_1, hb⟩ := jchk hb
      refine j_ialdW C dX9_hasParen_15 (by decide) rfl (jin_vp c15_1) ?_
      refine j_bipush C dX9_hasParen_16 (v := 40) (by decide) ?_
      refine j_icmp_ne C dX9_hasParen_18 (tgt := 23) (by decide) (fun cq => ?_) (fun cq => ?_)
      · have hb := jite_f hb cq
        refine j_iinc C dX9_hasParen_23 1 rfl (v := (q + 1)) rfl (by decide) rfl ?_
        refine j_goto C dX9_hasParen_26 (tgt := 2) (by decide) ?_
        refine j_loc C [1, 0] rfl ?_
        have hx := hin _ (jinl hb)
        exact hx
      · have hb := jite_t hb cq
        refine j_iconst C dX9_hasParen_21 (v := 1) (by decide) ?_
        exact j_iret C dX9_hasParen_22 rfl (jb_nar true) (Nat.zero_le _) (Nat.zero_le _) (jretPB (jretL hb hout))
  show K 0 0 (jw 15 (cellM G) ad s) 0 [(0, .ref (ad 0))] []
  refine j_iconst C dX9_hasParen_0 (v := 0) (by decide) ?_
  refine j_istore_n C dX9_hasParen_1 (by decide) rfl ?_
  refine j_loc C [1, 0] rfl ?_
  obtain ⟨e2, he2, h⟩ := jbind h
  refine lo2    n 0 e2 he2 ?_
  rcases e2 with e2 | r2
  · show K _ _ _ _ _ _
    refine j_iconst C dX9_hasParen_29 (v := 0) (by decide) ?_
    exact j_iret C dX9_hasParen_30 rfl (jb_nar false) (Nat.zero_le _) (Nat.zero_le _) (jretPB h)
  · exact h
-- X9_goesOn
def F_X9_goesOn (n : Nat) (s : jS) : Option Bool :=
  (if (s.1 0 10) = 43 then some true else (if (s.1 0 10) = 45 then some true else (if (s.1 0 10) = 42 then some true else (if (s.1 0 10) = 47 then some true else (if (s.1 0 10) = 41 then ((F_X9_hasParen n s).bind fun p46 => (if p46 = true then some true else some false)) else some false)))))
def rm_X9_goesOn : Room := { frames := 1, cells := 0, slots := 0, locals := 21 }
set_option maxHeartbeats 4000000 in
set_option maxRecDepth 100000 in
theorem m_X9_goesOn {l : Launch} {D : va_G} {G : Nat → ClassId} {KV : jV} {ad : Nat → Nat} (n : Nat) (s : jS) {p : Bool} (h : F_X9_goesOn n s = some p) : jM l D G KV yX9_goesOn cX9_goesOn 1 (some .boolean) rm_X9_goesOn [.ref (ad 0)] (jw 15 (cellM G) ad s) 0 0 (fun v u => v = some (.int (jb p)) ∧ u = jw 15 (cellM G) ad s) := by
  refine jM.of (by decide) (Nat.le_of_ble_eq_true rfl) ?_
  intro K C
  unfold F_X9_goesOn at h
  show K 0 0 (jw 15 (cellM G) ad s) 0 [(0, .ref (ad 0))] []
  refine j_aload_n C dX9_goesOn_0 0 rfl ?_
  refine j_getW C dX9_goesOn_1 inX9 rfl (by decide) rfl 10 (by decide) w_933 rfl rfl ?_
  refine j_bipush C dX9_goesOn_4 (v := 43) (by decide) ?_
  refine j_icmp_eq C dX9_goesOn_6 (tgt := 52) (by decide) (fun cq => ?_) (fun cq => ?_)
  · have h := jite_t h cq
    refine j_iconst C dX9_goesOn_52 (v := 1) (by decide) ?_
    refine j_goto C dX9_goesOn_53 (tgt := 57) (by decide) ?_
    exact j_iret C dX9_goesOn_57 rfl (jb_nar true) (Nat.zero_le _) (Nat.zero_le _) (jretPB h)
  · have h := jite_f h cq
    refine j_aload_n C dX9_goesOn_9 0 rfl ?_
    refine j_getW C dX9_goesOn_10 inX9 rfl (by decide) rfl 10 (by decide) w_933 rfl rfl ?_
    refine j_bipush C dX9_goesOn_13 (v := 45) (by decide) ?_
    refine j_icmp_eq C dX9_goesOn_15 (tgt := 52) (by decide) (fun cq => ?_) (fun cq => ?_)
    · have h := jite_t h cq
      refine j_iconst C dX9_goesOn_52 (v := 1) (by decide) ?_
      refine j_goto C dX9_goesOn_53 (tgt := 57) (by decide) ?_
      exact j_iret C dX9_goesOn_57 rfl (jb_nar true) (Nat.zero_le _) (Nat.zero_le _) (jretPB h)
    · have h := jite_f h cq
      refine j_aload_n C dX9_goesOn_18 0 rfl ?_
      refine j_getW C dX9_goesOn_19 inX9 rfl (by decide) rfl 10 (by decide) w_933 rfl rfl ?_
      refine j_bipush C dX9_goesOn_22 (v := 42) (by decide) ?_
      refine j_icmp_eq C dX9_goesOn_24 (tgt := 52) (by decide) (fun cq => ?_) (fun cq => ?_)
      · have h := jite_t h cq
        refine j_iconst C dX9_goesOn_52 (v := 1) (by decide) ?_
        refine j_goto C dX9_goesOn_53 (tgt := 57) (by decide) ?_
        exact j_iret C dX9_goesOn_57 rfl (jb_nar true) (Nat.zero_le _) (Nat.zero_le _) (jretPB h)
      · have h := jite_f h cq
        refine j_aload_n C dX9_goesOn_27 0 rfl ?_
        refine j_getW C dX9_goesOn_28 inX9 rfl (by decide) rfl 10 (by decide) w_933 rfl rfl ?_
        refine j_bipush C dX9_goesOn_31 (v := 47) (by decide) ?_
        refine j_icmp_eq C dX9_goesOn_33 (tgt := 52) (by decide) (fun cq => ?_) (fun cq => ?_)
        · have h := jite_t h cq
          refine j_iconst C dX9_goesOn_52 (v := 1) (by decide) ?_
          refine j_goto C dX9_goesOn_53 (tgt := 57) (by decide) ?_
          exact j_iret C dX9_goesOn_57 rfl (jb_nar true) (Nat.zero_le _) (Nat.zero_le _) (jretPB h)
        · have h := jite_f h cq
          refine j_aload_n C dX9_goesOn_36 0 rfl ?_
          refine j_getW C dX9_goesOn_37 inX9 rfl (by decide) rfl 10 (by decide) w_933 rfl rfl ?_
          refine j_bipush C dX9_goesOn_40 (v := 41) (by decide) ?_
          refine j_icmp_ne C dX9_goesOn_42 (tgt := 56) (by decide) (fun cq => ?_) (fun cq => ?_)
          · have h := jite_f h cq
            refine j_iconst C dX9_goesOn_56 (v := 0) (by decide) ?_
            exact j_iret C dX9_goesOn_57 rfl (jb_nar false) (Nat.zero_le _) (Nat.zero_le _) (jretPB h)
          · have h := jite_t h cq
            refine j_aload_n C dX9_goesOn_45 0 rfl ?_
            obtain ⟨p46, he46, h⟩ := jbind h
            refine j_cV1 C dX9_goesOn_46 (m_X9_hasParen n s he46) kc_X9_hasParen w_1116 w_1118 wp_56 w_11 jy_X9_hasParen ⟨⟨Nat.le_of_ble_eq_true rfl, Nat.le_of_ble_eq_true rfl⟩, ⟨rfl, rfl⟩, ⟨Nat.zero_le _, Nat.zero_le _⟩⟩ (Nat.le_of_ble_eq_true rfl) (by decide) rfl (r := (RX9, TX9, 32)) rfl rfl rfl (fun _ _ h => h) ?_
            refine j_if_eq C dX9_goesOn_49 (tgt := 56) (by decide) (fun cq => ?_) (fun cq => ?_)
            · have h := jite_f h (jb_f cq)
              refine j_iconst C dX9_goesOn_56 (v := 0) (by decide) ?_
              exact j_iret C dX9_goesOn_57 rfl (jb_nar false) (Nat.zero_le _) (Nat.zero_le _) (jretPB h)
            · have h := jite_t h (jb_t cq)
              refine j_iconst C dX9_goesOn_52 (v := 1) (by decide) ?_
              refine j_goto C dX9_goesOn_53 (tgt := 57) (by decide) ?_
              exact j_iret C dX9_goesOn_57 rfl (jb_nar true) (Nat.zero_le _) (Nat.zero_le _) (jretPB h)
-- X9_emit
def F_X9_emit (v1 : Int32) (v2 : Int32) (s : jS) : Option jS :=
  (if jin (((s.1 0 13) + 75) + (2 * (s.1 0 15))) 2720 = true then (jl (upI s 3 (Int32.toNatClampNeg (((s.1 0 13) + 75) + (2 * (s.1 0 15)))) v1) fun s19_2 => (if jin ((((s19_2.1 0 13) + 75) + (2 * (s19_2.1 0 15))) + 1) 2720 = true then (jl (upI s19_2 3 (Int32.toNatClampNeg ((((s19_2.1 0 13) + 75) + (2 * (s19_2.1 0 15))) + 1)) v2) fun s41_4 => (jl (upI s41_4 0 15 ((s41_4.1 0 15) + 1)) fun s49_5 => some s49_5)) else none)) else none)
def rm_X9_emit : Room := { frames := 0, cells := 0, slots := 0, locals := 0 }
set_option maxHeartbeats 4000000 in
set_option maxRecDepth 100000 in
theorem m_X9_emit {l : Launch} {D : va_G} {G : Nat → ClassId} {KV : jV} {ad : Nat → Nat} (v1 : Int32) (v2 : Int32) (s : jS) {p : jS} (h : F_X9_emit v1 v2 s = some p) : jM l D G KV yX9_emit cX9_emit 3 none rm_X9_emit [.ref (ad 0), .int v1, .int v2] (jw 15 (cellM G) ad s) 0 0 (fun v u => v = none ∧ u = jw 15 (cellM G) ad p) := by
  refine jM.of (by decide) (Nat.le_of_ble_eq_true rfl) ?_
  intro K C
  unfold F_X9_emit at h
  show K 0 0 (jw 15 (cellM G) ad s) 0 [(0, .ref (ad 0)), (1, .int v1), (2, .int v2)] []
  refine j_aload_n C dX9_emit_0 0 rfl ?_
  refine j_getW C dX9_emit_1 inX9 rfl (by decide) rfl 3 (by decide) w_926 rfl rfl ?_
  refine j_aload_n C dX9_emit_4 0 rfl ?_
  refine j_getW C dX9_emit_5 inX9 rfl (by decide) rfl 13 (by decide) w_936 rfl rfl ?_
  refine j_bipush C dX9_emit_8 (v := 75) (by decide) ?_
  refine j_iadd C dX9_emit_10 ?_
  refine j_iconst C dX9_emit_11 (v := 2) (by decide) ?_
  refine j_aload_n C dX9_emit_12 0 rfl ?_
  refine j_getW C dX9_emit_13 inX9 rfl (by decide) rfl 15 (by decide) w_937 rfl rfl ?_
  refine j_imul C dX9_emit_16 ?_
  refine j_iadd C dX9_emit_17 ?_
  refine j_iload_n C dX9_emit_18 1 rfl ?_
  obtain ⟨c19_1, h⟩ := jchk h
  refine j_iastW C dX9_emit_19 (by decide) (fun _ => rfl) (jin_vp c19_1) (fun s19_2 hs19_2 => ?_)
  have h := jlet h hs19_2
  refine j_aload_n C dX9_emit_20 0 rfl ?_
  refine j_getW C dX9_emit_21 inX9 rfl (by decide) rfl 3 (by decide) w_926 rfl rfl ?_
  refine j_aload_n C dX9_emit_24 0 rfl ?_
  refine j_getW C dX9_emit_25 inX9 rfl (by decide) rfl 13 (by decide) w_936 rfl rfl ?_
  refine j_bipush C dX9_emit_28 (v := 75) (by decide) ?_
  refine j_iadd C dX9_emit_30 ?_
  refine j_iconst C dX9_emit_31 (v := 2) (by decide) ?_
  refine j_aload_n C dX9_emit_32 0 rfl ?_
  refine j_getW C dX9_emit_33 inX9 rfl (by decide) rfl 15 (by decide) w_937 rfl rfl ?_
  refine j_imul C dX9_emit_36 ?_
  refine j_iadd C dX9_emit_37 ?_
  refine j_iconst C dX9_emit_38 (v := 1) (by decide) ?_
  refine j_iadd C dX9_emit_39 ?_
  refine j_iload_n C dX9_emit_40 2 rfl ?_
  obtain ⟨c41_3, h⟩ := jchk h
  refine j_iastW C dX9_emit_41 (by decide) (fun _ => rfl) (jin_vp c41_3) (fun s41_4 hs41_4 => ?_)
  have h := jlet h hs41_4
  refine j_aload_n C dX9_emit_42 0 rfl ?_
  refine j_dup C dX9_emit_43 rfl ?_
  refine j_getW C dX9_emit_44 inX9 rfl (by decide) rfl 15 (by decide) w_937 rfl rfl ?_
  refine j_iconst C dX9_emit_47 (v := 1) (by decide) ?_
  refine j_iadd C dX9_emit_48 ?_
  refine j_putI C dX9_emit_49 inX9 tyX9 tyX9_ok nmX9 rfl (by decide) 15 rfl rfl (by decide) w_937 rfl rfl rfl rfl (Nat.le_of_ble_eq_true rfl) (fun s49_5 hs49_5 => ?_)
  have h := jlet h hs49_5
  exact j_vret C dX9_emit_52 rfl (Nat.zero_le _) (Nat.zero_le _) (jretWV h)
-- X9_settle
def B_X9_settle_0 (n : Nat) (v1 : Int32) (q : jS) : Option (jS ⊕ jS) :=
  (if (q.1 0 18) ≤ 0 then some (.inr q) else (if jin ((q.1 0 18) - 1) 160 = true then (if 40 ≤ (q.1 5 (Int32.toNatClampNeg ((q.1 0 18) - 1))) then some (.inr q) else (if (q.1 5 (Int32.toNatClampNeg ((q.1 0 18) - 1))) < v1 then some (.inr q) else (jl (upI q 0 18 ((q.1 0 18) - 1)) fun s45_2 => (if jin (s45_2.1 0 18) 160 = true then ((F_X9_emit (s45_2.1 5 (Int32.toNatClampNeg (s45_2.1 0 18))) 0 s45_2).bind fun p59 => some (.inl p59)) else none)))) else none))
def F_X9_settle (n : Nat) (v1 : Int32) (s : jS) : Option jS :=
  ((lp (B_X9_settle_0 n v1) n s).bind fun e0 => some e0)
def rm_X9_settle : Room := { frames := 1, cells := 0, slots := 0, locals := 22 }
set_option maxHeartbeats 4000000 in
set_option maxRecDepth 100000 in
theorem m_X9_settle {l : Launch} {D : va_G} {G : Nat → ClassId} {KV : jV} {ad : Nat → Nat} (n : Nat) (v1 : Int32) (s : jS) {p : jS} (h : F_X9_settle n v1 s = some p) : jM l D G KV yX9_settle cX9_settle 2 none rm_X9_settle [.ref (ad 0), .int v1] (jw 15 (cellM G) ad s) 0 0 (fun v u => v = none ∧ u = jw 15 (cellM G) ad p) := by
  refine jM.of (by decide) (Nat.le_of_ble_eq_true rfl) ?_
  intro K C
  unfold F_X9_settle at h
  have lo0 : ∀ (v1 : Int32) (s : jS) (k : Nat) (q : jS) (e : jS), lp (B_X9_settle_0 n v1) k q = some e → K 0 0 (jw 15 (cellM G) ad e) 65 [] [] → K 0 0 (jw 15 (cellM G) ad q) 0 [(0, .ref (ad 0)), (1, .int v1)] [] := by
    intro v1 s k q e he hE
    refine jlp (KH := fun q => K 0 0 (jw 15 (cellM G) ad q) 0 [(0, .ref (ad 0)), (1, .int v1)] []) (KE := fun e => K 0 0 (jw 15 (cellM G) ad e) 65 [] []) ?_ k q e he hE
    intro q o hb hin hout
    unfold B_X9_settle_0 at hb
    show K 0 0 (jw 15 (cellM G) ad q) 0 [(0, .ref (ad 0)), (1, .int v1)] []
    refine j_aload_n C dX9_settle_0 0 rfl ?_
    refine j_getW C dX9_settle_1 inX9 rfl (by decide) rfl 18 (by decide) w_939 rfl rfl ?_
    refine j_if_le C dX9_settle_4 (tgt := 65) (by decide) (fun cq => ?_) (fun cq => ?_)
    · have hb := jite_t hb cq
      refine j_loc C [] rfl ?_
      have hx := hout _ (jinr hb)
      exact hx
    · have hb := jite_f hb cq
      refine j_aload_n C dX9_settle_7 0 rfl ?_
      refine j_getW C dX9_settle_8 inX9 rfl (by decide) rfl 17 (by decide) w_938 rfl rfl ?_
      refine j_aload_n C dX9_settle_11 0 rfl ?_
      refine j_getW C dX9_settle_12 inX9 rfl (by decide) rfl 18 (by decide) w_939 rfl rfl ?_
      refine j_iconst C dX9_settle_15 (v := 1) (by decide) ?_
      refine j_isub C dX9_settle_16 ?_
      obtain ⟨c17_1, hb⟩ := jchk hb
      refine j_ialdW C dX9_settle_17 (by decide) rfl (jin_vp c17_1) ?_
      refine j_bipush C dX9_settle_18 (v := 40) (by decide) ?_
      refine j_icmp_ge C dX9_settle_20 (tgt := 65) (by decide) (fun cq => ?_) (fun cq => ?_)
      · have hb := jite_t hb cq
        refine j_loc C [] rfl ?_
        have hx := hout _ (jinr hb)
        exact hx
      · have hb := jite_f hb cq
        refine j_aload_n C dX9_settle_23 0 rfl ?_
        refine j_getW C dX9_settle_24 inX9 rfl (by decide) rfl 17 (by decide) w_938 rfl rfl ?_
        refine j_aload_n C dX9_settle_27 0 rfl ?_
        refine j_getW C dX9_settle_28 inX9 rfl (by decide) rfl 18 (by decide) w_939 rfl rfl ?_
        refine j_iconst C dX9_settle_31 (v := 1) (by decide) ?_
        refine j_isub C dX9_settle_32 ?_
        refine j_ialdW C dX9_settle_33 (by decide) rfl (jin_vp c17_1) ?_
        refine j_iload_n C dX9_settle_34 1 rfl ?_
        refine j_icmp_lt C dX9_settle_35 (tgt := 65) (by decide) (fun cq => ?_) (fun cq => ?_)
        · have hb := jite_t hb cq
          refine j_loc C [] rfl ?_
          have hx := hout _ (jinr hb)
          exact hx
        · have hb := jite_f hb cq
          refine j_aload_n C dX9_settle_38 0 rfl ?_
          refine j_dup C dX9_settle_39 rfl ?_
          refine j_getW C dX9_settle_40 inX9 rfl (by decide) rfl 18 (by decide) w_939 rfl rfl ?_
          refine j_iconst C dX9_settle_43 (v := 1) (by decide) ?_
          refine j_isub C dX9_settle_44 ?_
          refine j_putI C dX9_settle_45 inX9 tyX9 tyX9_ok nmX9 rfl (by decide) 18 rfl rfl (by decide) w_939 rfl rfl rfl rfl (Nat.le_of_ble_eq_true rfl) (fun s45_2 hs45_2 => ?_)
          have hb := jlet hb hs45_2
          refine j_aload_n C dX9_settle_48 0 rfl ?_
          refine j_aload_n C dX9_settle_49 0 rfl ?_
          refine j_getW C dX9_settle_50 inX9 rfl (by decide) rfl 17 (by decide) w_938 rfl rfl ?_
          refine j_aload_n C dX9_settle_53 0 rfl ?_
          refine j_getW C dX9_settle_54 inX9 rfl (by decide) rfl 18 (by decide) w_939 rfl rfl ?_
          obtain ⟨c57_3, hb⟩ := jchk hb
          refine j_ialdW C dX9_settle_57 (by decide) rfl (jin_vp c57_3) ?_
          refine j_iconst C dX9_settle_58 (v := 0) (by decide) ?_
          obtain ⟨p59, he59, hb⟩ := jbind hb
          refine j_cV0 C dX9_settle_59 (m_X9_emit (s45_2.1 5 (Int32.toNatClampNeg (s45_2.1 0 18))) 0 s45_2 he59) kc_X9_emit w_1128 w_1130 wp_59 w_11 jy_X9_emit ⟨⟨Nat.le_of_ble_eq_true rfl, Nat.le_of_ble_eq_true rfl⟩, ⟨rfl, rfl⟩, ⟨Nat.zero_le _, Nat.zero_le _⟩⟩ (Nat.le_of_ble_eq_true rfl) (by decide) rfl (r := (RX9, TX9, 32)) rfl rfl rfl (fun _ _ h => h) ?_
          refine j_goto C dX9_settle_62 (tgt := 0) (by decide) ?_
          refine j_loc C [0, 1] rfl ?_
          have hx := hin _ (jinl hb)
          exact hx
  show K 0 0 (jw 15 (cellM G) ad s) 0 [(0, .ref (ad 0)), (1, .int v1)] []
  refine j_loc C [0, 1] rfl ?_
  obtain ⟨e0, he0, h⟩ := jbind h
  refine lo0 v1 s  n s e0 he0 ?_
  exact j_vret C dX9_settle_65 rfl (Nat.zero_le _) (Nat.zero_le _) (jretWV h)
-- X9_push
def F_X9_push (v1 : Int32) (s : jS) : Option jS :=
  (if jin (s.1 0 18) 160 = true then (jl (upI s 5 (Int32.toNatClampNeg (s.1 0 18)) v1) fun s9_2 => (jl (upI s9_2 0 18 ((s9_2.1 0 18) + 1)) fun s17_3 => some s17_3)) else none)
def rm_X9_push : Room := { frames := 0, cells := 0, slots := 0, locals := 0 }
set_option maxHeartbeats 4000000 in
set_option maxRecDepth 100000 in
theorem m_X9_push {l : Launch} {D : va_G} {G : Nat → ClassId} {KV : jV} {ad : Nat → Nat} (v1 : Int32) (s : jS) {p : jS} (h : F_X9_push v1 s = some p) : jM l D G KV yX9_push cX9_push 2 none rm_X9_push [.ref (ad 0), .int v1] (jw 15 (cellM G) ad s) 0 0 (fun v u => v = none ∧ u = jw 15 (cellM G) ad p) := by
  refine jM.of (by decide) (Nat.le_of_ble_eq_true rfl) ?_
  intro K C
  unfold F_X9_push at h
  show K 0 0 (jw 15 (cellM G) ad s) 0 [(0, .ref (ad 0)), (1, .int v1)] []
  refine j_aload_n C dX9_push_0 0 rfl ?_
  refine j_getW C dX9_push_1 inX9 rfl (by decide) rfl 17 (by decide) w_938 rfl rfl ?_
  refine j_aload_n C dX9_push_4 0 rfl ?_
  refine j_getW C dX9_push_5 inX9 rfl (by decide) rfl 18 (by decide) w_939 rfl rfl ?_
  refine j_iload_n C dX9_push_8 1 rfl ?_
  obtain ⟨c9_1, h⟩ := jchk h
  refine j_iastW C dX9_push_9 (by decide) (fun _ => rfl) (jin_vp c9_1) (fun s9_2 hs9_2 => ?_)
  have h := jlet h hs9_2
  refine j_aload_n C dX9_push_10 0 rfl ?_
  refine j_dup C dX9_push_11 rfl ?_
  refine j_getW C dX9_push_12 inX9 rfl (by decide) rfl 18 (by decide) w_939 rfl rfl ?_
  refine j_iconst C dX9_push_15 (v := 1) (by decide) ?_
  refine j_iadd C dX9_push_16 ?_
  refine j_putI C dX9_push_17 inX9 tyX9 tyX9_ok nmX9 rfl (by decide) 18 rfl rfl (by decide) w_939 rfl rfl rfl rfl (Nat.le_of_ble_eq_true rfl) (fun s17_3 hs17_3 => ?_)
  have h := jlet h hs17_3
  exact j_vret C dX9_push_20 rfl (Nat.zero_le _) (Nat.zero_le _) (jretWV h)
-- X9_whole
def B_X9_whole_5 (n : Nat) (q : jS) : Option (jS ⊕ jS) :=
  (if (q.1 0 18) ≤ 0 then some (.inr q) else (if jin ((q.1 0 18) - 1) 160 = true then (if (q.1 5 (Int32.toNatClampNeg ((q.1 0 18) - 1))) = 2 then (jl (upI q 0 18 ((q.1 0 18) - 1)) fun s34_3 => (jl (upI s34_3 0 19 ((s34_3.1 0 19) - 1)) fun s44_4 => ((F_X9_emit 2 0 s44_4).bind fun p50 => some (.inl p50)))) else some (.inr q)) else none))
def F_X9_whole (n : Nat) (s : jS) : Option jS :=
  (jl (upI s 0 20 (jb true)) fun s2_1 => ((lp (B_X9_whole_5 n) n s2_1).bind fun e5 => some e5))
def rm_X9_whole : Room := { frames := 1, cells := 0, slots := 0, locals := 22 }
set_option maxHeartbeats 4000000 in
set_option maxRecDepth 100000 in
theorem m_X9_whole {l : Launch} {D : va_G} {G : Nat → ClassId} {KV : jV} {ad : Nat → Nat} (n : Nat) (s : jS) {p : jS} (h : F_X9_whole n s = some p) : jM l D G KV yX9_whole cX9_whole 1 none rm_X9_whole [.ref (ad 0)] (jw 15 (cellM G) ad s) 0 0 (fun v u => v = none ∧ u = jw 15 (cellM G) ad p) := by
  refine jM.of (by decide) (Nat.le_of_ble_eq_true rfl) ?_
  intro K C
  unfold F_X9_whole at h
  have lo5 : ∀ (s : jS) (k : Nat) (q : jS) (e : jS), lp (B_X9_whole_5 n) k q = some e → K 0 0 (jw 15 (cellM G) ad e) 56 [] [] → K 0 0 (jw 15 (cellM G) ad q) 5 [(0, .ref (ad 0))] [] := by
    intro s k q e he hE
    refine jlp (KH := fun q => K 0 0 (jw 15 (cellM G) ad q) 5 [(0, .ref (ad 0))] []) (KE := fun e => K 0 0 (jw 15 (cellM G) ad e) 56 [] []) ?_ k q e he hE
    intro q o hb hin hout
    unfold B_X9_whole_5 at hb
    show K 0 0 (jw 15 (cellM G) ad q) 5 [(0, .ref (ad 0))] []
    refine j_aload_n C dX9_whole_5 0 rfl ?_
    refine j_getW C dX9_whole_6 inX9 rfl (by decide) rfl 18 (by decide) w_939 rfl rfl ?_
    refine j_if_le C dX9_whole_9 (tgt := 56) (by decide) (fun cq => ?_) (fun cq => ?_)
    · have hb := jite_t hb cq
      refine j_loc C [] rfl ?_
      have hx := hout _ (jinr hb)
      exact hx
    · have hb := jite_f hb cq
      refine j_aload_n C dX9_whole_12 0 rfl ?_
      refine j_getW C dX9_whole_13 inX9 rfl (by decide) rfl 17 (by decide) w_938 rfl rfl ?_
      refine j_aload_n C dX9_whole_16 0 rfl ?_
      refine j_getW C dX9_whole_17 inX9 rfl (by decide) rfl 18 (by decide) w_939 rfl rfl ?_
      refine j_iconst C dX9_whole_20 (v := 1) (by decide) ?_
      refine j_isub C dX9_whole_21 ?_
      obtain ⟨c22_2, hb⟩ := jchk hb
      refine j_ialdW C dX9_whole_22 (by decide) rfl (jin_vp c22_2) ?_
      refine j_iconst C dX9_whole_23 (v := 2) (by decide) ?_
      refine j_icmp_ne C dX9_whole_24 (tgt := 56) (by decide) (fun cq => ?_) (fun cq => ?_)
      · have hb := jite_f hb cq
        refine j_loc C [] rfl ?_
        have hx := hout _ (jinr hb)
        exact hx
      · have hb := jite_t hb cq
        refine j_aload_n C dX9_whole_27 0 rfl ?_
        refine j_dup C dX9_whole_28 rfl ?_
        refine j_getW C dX9_whole_29 inX9 rfl (by decide) rfl 18 (by decide) w_939 rfl rfl ?_
        refine j_iconst C dX9_whole_32 (v := 1) (by decide) ?_
        refine j_isub C dX9_whole_33 ?_
        refine j_putI C dX9_whole_34 inX9 tyX9 tyX9_ok nmX9 rfl (by decide) 18 rfl rfl (by decide) w_939 rfl rfl rfl rfl (Nat.le_of_ble_eq_true rfl) (fun s34_3 hs34_3 => ?_)
        have hb := jlet hb hs34_3
        refine j_aload_n C dX9_whole_37 0 rfl ?_
        refine j_dup C dX9_whole_38 rfl ?_
        refine j_getW C dX9_whole_39 inX9 rfl (by decide) rfl 19 (by decide) w_940 rfl rfl ?_
        refine j_iconst C dX9_whole_42 (v := 1) (by decide) ?_
        refine j_isub C dX9_whole_43 ?_
        refine j_putI C dX9_whole_44 inX9 tyX9 tyX9_ok nmX9 rfl (by decide) 19 rfl rfl (by decide) w_940 rfl rfl rfl rfl (Nat.le_of_ble_eq_true rfl) (fun s44_4 hs44_4 => ?_)
        have hb := jlet hb hs44_4
        refine j_aload_n C dX9_whole_47 0 rfl ?_
        refine j_iconst C dX9_whole_48 (v := 2) (by decide) ?_
        refine j_iconst C dX9_whole_49 (v := 0) (by decide) ?_
        obtain ⟨p50, he50, hb⟩ := jbind hb
        refine j_cV0 C dX9_whole_50 (m_X9_emit 2 0 s44_4 he50) kc_X9_emit w_1128 w_1130 wp_59 w_11 jy_X9_emit ⟨⟨Nat.le_of_ble_eq_true rfl, Nat.le_of_ble_eq_true rfl⟩, ⟨rfl, rfl⟩, ⟨Nat.zero_le _, Nat.zero_le _⟩⟩ (Nat.le_of_ble_eq_true rfl) (by decide) rfl (r := (RX9, TX9, 32)) rfl rfl rfl (fun _ _ h => h) ?_
        refine j_goto C dX9_whole_53 (tgt := 5) (by decide) ?_
        refine j_loc C [0] rfl ?_
        have hx := hin _ (jinl hb)
        exact hx
  show K 0 0 (jw 15 (cellM G) ad s) 0 [(0, .ref (ad 0))] []
  refine j_aload_n C dX9_whole_0 0 rfl ?_
  refine j_iconst C dX9_whole_1 (v := 1) (by decide) ?_
  refine j_putI C dX9_whole_2 inX9 tyX9 tyX9_ok nmX9 rfl (by decide) 20 (x := jb true) rfl rfl (by decide) w_941 rfl rfl (jb_nar true) (jb_fit true) (Nat.le_of_ble_eq_true rfl) (fun s2_1 hs2_1 => ?_)
  have h := jlet h hs2_1
  refine j_loc C [0] rfl ?_
  obtain ⟨e5, he5, h⟩ := jbind h
  refine lo5  s2_1  n s2_1 e5 he5 ?_
  exact j_vret C dX9_whole_56 rfl (Nat.zero_le _) (Nat.zero_le _) (jretWV h)
-- X9_behindOne
def J_X9_behindOne_17 (n : Nat) (v1 : Int32) (s : jS) : Option (Int32 × jS) :=
  ((F_X9_settle n 3 s).bind fun p19 => (if v1 = 43 then ((F_X9_push 3 p19).bind fun p34 => (jl (upI p34 0 20 (jb false)) fun s39_2 => ((F_X9_nextToken n s39_2).bind fun p116 => some (0, p116)))) else ((F_X9_push 4 p19).bind fun p34 => (jl (upI p34 0 20 (jb false)) fun s39_1 => ((F_X9_nextToken n s39_1).bind fun p116 => some (0, p116))))))
def J_X9_behindOne_57 (n : Nat) (v1 : Int32) (s : jS) : Option (Int32 × jS) :=
  ((F_X9_settle n 5 s).bind fun p59 => (if v1 = 42 then ((F_X9_push 5 p59).bind fun p75 => (jl (upI p75 0 20 (jb false)) fun s80_4 => ((F_X9_nextToken n s80_4).bind fun p116 => some (0, p116)))) else ((F_X9_push 6 p59).bind fun p75 => (jl (upI p75 0 20 (jb false)) fun s80_3 => ((F_X9_nextToken n s80_3).bind fun p116 => some (0, p116))))))
def F_X9_behindOne (n : Nat) (s : jS) : Option (Int32 × jS) :=
  (if (s.1 0 10) = 43 then J_X9_behindOne_17 n (s.1 0 10) s else (if (s.1 0 10) = 45 then J_X9_behindOne_17 n (s.1 0 10) s else (if (s.1 0 10) = 42 then J_X9_behindOne_57 n (s.1 0 10) s else (if (s.1 0 10) = 47 then J_X9_behindOne_57 n (s.1 0 10) s else ((F_X9_settle n 3 s).bind fun p88 => (jl (upI p88 0 18 ((p88.1 0 18) - 1)) fun s98_5 => (jl (upI s98_5 0 19 ((s98_5.1 0 19) - 1)) fun s108_6 => ((F_X9_whole n s108_6).bind fun p112 => ((F_X9_nextToken n p112).bind fun p116 => some (0, p116))))))))))
def rm_X9_behindOne : Room := { frames := 3, cells := 0, slots := 0, locals := 64 }
set_option maxHeartbeats 4000000 in
set_option maxRecDepth 100000 in
theorem m_X9_behindOne {l : Launch} {D : va_G} {G : Nat → ClassId} {KV : jV} {ad : Nat → Nat} (n : Nat) (s : jS) {p : Int32 × jS} (h : F_X9_behindOne n s = some p) : jM l D G KV yX9_behindOne cX9_behindOne 2 (some .int) rm_X9_behindOne [.ref (ad 0)] (jw 15 (cellM G) ad s) 0 0 (fun v u => v = some (.int p.1) ∧ u = jw 15 (cellM G) ad p.2) := by
  refine jM.of (by decide) (Nat.le_of_ble_eq_true rfl) ?_
  intro K C
  unfold F_X9_behindOne at h
  have jn17 : ∀ (v1 : Int32) (s : jS) (_ : J_X9_behindOne_17 n v1 s = some p), K 0 0 (jw 15 (cellM G) ad s) 17 [(0, .ref (ad 0)), (1, .int v1)] [] := by
    intro v1 s h
    unfold J_X9_behindOne_17 at h
    refine j_aload_n C dX9_behindOne_17 0 rfl ?_
    refine j_iconst C dX9_behindOne_18 (v := 3) (by decide) ?_
    obtain ⟨p19, he19, h⟩ := jbind h
    refine j_cV0 C dX9_behindOne_19 (m_X9_settle n 3 s he19) kc_X9_settle w_1124 w_1126 wp_58 w_11 jy_X9_settle ⟨⟨Nat.le_of_ble_eq_true rfl, Nat.le_of_ble_eq_true rfl⟩, ⟨rfl, rfl⟩, ⟨Nat.zero_le _, Nat.zero_le _⟩⟩ (Nat.le_of_ble_eq_true rfl) (by decide) rfl (r := (RX9, TX9, 32)) rfl rfl rfl (fun _ _ h => h) ?_
    refine j_aload_n C dX9_behindOne_22 0 rfl ?_
    refine j_iload_n C dX9_behindOne_23 1 rfl ?_
    refine j_bipush C dX9_behindOne_24 (v := 43) (by decide) ?_
    refine j_icmp_ne C dX9_behindOne_26 (tgt := 33) (by decide) (fun cq => ?_) (fun cq => ?_)
    · have h := jite_f h cq
      refine j_iconst C dX9_behindOne_33 (v := 4) (by decide) ?_
      obtain ⟨p34, he34, h⟩ := jbind h
      refine j_cV0 C dX9_behindOne_34 (m_X9_push 4 p19 he34) kc_X9_push w_1132 w_1134 wp_60 w_11 jy_X9_push ⟨⟨Nat.le_of_ble_eq_true rfl, Nat.le_of_ble_eq_true rfl⟩, ⟨rfl, rfl⟩, ⟨Nat.zero_le _, Nat.zero_le _⟩⟩ (Nat.le_of_ble_eq_true rfl) (by decide) rfl (r := (RX9, TX9, 32)) rfl rfl rfl (fun _ _ h => h) ?_
      refine j_aload_n C dX9_behindOne_37 0 rfl ?_
      refine j_iconst C dX9_behindOne_38 (v := 0) (by decide) ?_
      refine j_putI C dX9_behindOne_39 inX9 tyX9 tyX9_ok nmX9 rfl (by decide) 20 (x := jb false) rfl rfl (by decide) w_941 rfl rfl (jb_nar false) (jb_fit false) (Nat.le_of_ble_eq_true rfl) (fun s39_1 hs39_1 => ?_)
      have h := jlet h hs39_1
      refine j_goto C dX9_behindOne_42 (tgt := 115) (by decide) ?_
      refine j_aload_n C dX9_behindOne_115 0 rfl ?_
      obtain ⟨p116, he116, h⟩ := jbind h
      refine j_cV0 C dX9_behindOne_116 (m_X9_nextToken n s39_1 he116) kc_X9_nextToken w_1064 w_1066 wp_47 w_11 jy_X9_nextToken ⟨⟨Nat.le_of_ble_eq_true rfl, Nat.le_of_ble_eq_true rfl⟩, ⟨rfl, rfl⟩, ⟨Nat.zero_le _, Nat.zero_le _⟩⟩ (Nat.le_of_ble_eq_true rfl) (by decide) rfl (r := (RX9, TX9, 32)) rfl rfl rfl (fun _ _ h => h) ?_
      refine j_iconst C dX9_behindOne_119 (v := 0) (by decide) ?_
      exact j_iret C dX9_behindOne_120 rfl rfl (Nat.zero_le _) (Nat.zero_le _) (jretWI h)
    · have h := jite_t h cq
      refine j_iconst C dX9_behindOne_29 (v := 3) (by decide) ?_
      refine j_goto C dX9_behindOne_30 (tgt := 34) (by decide) ?_
      obtain ⟨p34, he34, h⟩ := jbind h
      refine j_cV0 C dX9_behindOne_34 (m_X9_push 3 p19 he34) kc_X9_push w_1132 w_1134 wp_60 w_11 jy_X9_push ⟨⟨Nat.le_of_ble_eq_true rfl, Nat.le_of_ble_eq_true rfl⟩, ⟨rfl, rfl⟩, ⟨Nat.zero_le _, Nat.zero_le _⟩⟩ (Nat.le_of_ble_eq_true rfl) (by decide) rfl (r := (RX9, TX9, 32)) rfl rfl rfl (fun _ _ h => h) ?_
      refine j_aload_n C dX9_behindOne_37 0 rfl ?_
      refine j_iconst C dX9_behindOne_38 (v := 0) (by decide) ?_
      refine j_putI C dX9_behindOne_39 inX9 tyX9 tyX9_ok nmX9 rfl (by decide) 20 (x := jb false) rfl rfl (by decide) w_941 rfl rfl (jb_nar false) (jb_fit false) (Nat.le_of_ble_eq_true rfl) (fun s39_2 hs39_2 => ?_)
      have h := jlet h hs39_2
      refine j_goto C dX9_behindOne_42 (tgt := 115) (by decide) ?_
      refine j_aload_n C dX9_behindOne_115 0 rfl ?_
      obtain ⟨p116, he116, h⟩ := jbind h
      refine j_cV0 C dX9_behindOne_116 (m_X9_nextToken n s39_2 he116) kc_X9_nextToken w_1064 w_1066 wp_47 w_11 jy_X9_nextToken ⟨⟨Nat.le_of_ble_eq_true rfl, Nat.le_of_ble_eq_true rfl⟩, ⟨rfl, rfl⟩, ⟨Nat.zero_le _, Nat.zero_le _⟩⟩ (Nat.le_of_ble_eq_true rfl) (by decide) rfl (r := (RX9, TX9, 32)) rfl rfl rfl (fun _ _ h => h) ?_
      refine j_iconst C dX9_behindOne_119 (v := 0) (by decide) ?_
      exact j_iret C dX9_behindOne_120 rfl rfl (Nat.zero_le _) (Nat.zero_le _) (jretWI h)
  have jn57 : ∀ (v1 : Int32) (s : jS) (_ : J_X9_behindOne_57 n v1 s = some p), K 0 0 (jw 15 (cellM G) ad s) 57 [(0, .ref (ad 0)), (1, .int v1)] [] := by
    intro v1 s h
    unfold J_X9_behindOne_57 at h
    refine j_aload_n C dX9_behindOne_57 0 rfl ?_
    refine j_iconst C dX9_behindOne_58 (v := 5) (by decide) ?_
    obtain ⟨p59, he59, h⟩ := jbind h
    refine j_cV0 C dX9_behindOne_59 (m_X9_settle n 5 s he59) kc_X9_settle w_1124 w_1126 wp_58 w_11 jy_X9_settle ⟨⟨Nat.le_of_ble_eq_true rfl, Nat.le_of_ble_eq_true rfl⟩, ⟨rfl, rfl⟩, ⟨Nat.zero_le _, Nat.zero_le _⟩⟩ (Nat.le_of_ble_eq_true rfl) (by decide) rfl (r := (RX9, TX9, 32)) rfl rfl rfl (fun _ _ h => h) ?_
    refine j_aload_n C dX9_behindOne_62 0 rfl ?_
    refine j_iload_n C dX9_behindOne_63 1 rfl ?_
    refine j_bipush C dX9_behindOne_64 (v := 42) (by decide) ?_
    refine j_icmp_ne C dX9_behindOne_66 (tgt := 73) (by decide) (fun cq => ?_) (fun cq => ?_)
    · have h := jite_f h cq
      refine j_bipush C dX9_behindOne_73 (v := 6) (by decide) ?_
      obtain ⟨p75, he75, h⟩ := jbind h
      refine j_cV0 C dX9_behindOne_75 (m_X9_push 6 p59 he75) kc_X9_push w_1132 w_1134 wp_60 w_11 jy_X9_push ⟨⟨Nat.le_of_ble_eq_true rfl, Nat.le_of_ble_eq_true rfl⟩, ⟨rfl, rfl⟩, ⟨Nat.zero_le _, Nat.zero_le _⟩⟩ (Nat.le_of_ble_eq_true rfl) (by decide) rfl (r := (RX9, TX9, 32)) rfl rfl rfl (fun _ _ h => h) ?_
      refine j_aload_n C dX9_behindOne_78 0 rfl ?_
      refine j_iconst C dX9_behindOne_79 (v := 0) (by decide) ?_
      refine j_putI C dX9_behindOne_80 inX9 tyX9 tyX9_ok nmX9 rfl (by decide) 20 (x := jb false) rfl rfl (by decide) w_941 rfl rfl (jb_nar false) (jb_fit false) (Nat.le_of_ble_eq_true rfl) (fun s80_3 hs80_3 => ?_)
      have h := jlet h hs80_3
      refine j_goto C dX9_behindOne_83 (tgt := 115) (by decide) ?_
      refine j_aload_n C dX9_behindOne_115 0 rfl ?_
      obtain ⟨p116, he116, h⟩ := jbind h
      refine j_cV0 C dX9_behindOne_116 (m_X9_nextToken n s80_3 he116) kc_X9_nextToken w_1064 w_1066 wp_47 w_11 jy_X9_nextToken ⟨⟨Nat.le_of_ble_eq_true rfl, Nat.le_of_ble_eq_true rfl⟩, ⟨rfl, rfl⟩, ⟨Nat.zero_le _, Nat.zero_le _⟩⟩ (Nat.le_of_ble_eq_true rfl) (by decide) rfl (r := (RX9, TX9, 32)) rfl rfl rfl (fun _ _ h => h) ?_
      refine j_iconst C dX9_behindOne_119 (v := 0) (by decide) ?_
      exact j_iret C dX9_behindOne_120 rfl rfl (Nat.zero_le _) (Nat.zero_le _) (jretWI h)
    · have h := jite_t h cq
      refine j_iconst C dX9_behindOne_69 (v := 5) (by decide) ?_
      refine j_goto C dX9_behindOne_70 (tgt := 75) (by decide) ?_
      obtain ⟨p75, he75, h⟩ := jbind h
      refine j_cV0 C dX9_behindOne_75 (m_X9_push 5 p59 he75) kc_X9_push w_1132 w_1134 wp_60 w_11 jy_X9_push ⟨⟨Nat.le_of_ble_eq_true rfl, Nat.le_of_ble_eq_true rfl⟩, ⟨rfl, rfl⟩, ⟨Nat.zero_le _, Nat.zero_le _⟩⟩ (Nat.le_of_ble_eq_true rfl) (by decide) rfl (r := (RX9, TX9, 32)) rfl rfl rfl (fun _ _ h => h) ?_
      refine j_aload_n C dX9_behindOne_78 0 rfl ?_
      refine j_iconst C dX9_behindOne_79 (v := 0) (by decide) ?_
      refine j_putI C dX9_behindOne_80 inX9 tyX9 tyX9_ok nmX9 rfl (by decide) 20 (x := jb false) rfl rfl (by decide) w_941 rfl rfl (jb_nar false) (jb_fit false) (Nat.le_of_ble_eq_true rfl) (fun s80_4 hs80_4 => ?_)
      have h := jlet h hs80_4
      refine j_goto C dX9_behindOne_83 (tgt := 115) (by decide) ?_
      refine j_aload_n C dX9_behindOne_115 0 rfl ?_
      obtain ⟨p116, he116, h⟩ := jbind h
      refine j_cV0 C dX9_behindOne_116 (m_X9_nextToken n s80_4 he116) kc_X9_nextToken w_1064 w_1066 wp_47 w_11 jy_X9_nextToken ⟨⟨Nat.le_of_ble_eq_true rfl, Nat.le_of_ble_eq_true rfl⟩, ⟨rfl, rfl⟩, ⟨Nat.zero_le _, Nat.zero_le _⟩⟩ (Nat.le_of_ble_eq_true rfl) (by decide) rfl (r := (RX9, TX9, 32)) rfl rfl rfl (fun _ _ h => h) ?_
      refine j_iconst C dX9_behindOne_119 (v := 0) (by decide) ?_
      exact j_iret C dX9_behindOne_120 rfl rfl (Nat.zero_le _) (Nat.zero_le _) (jretWI h)
  show K 0 0 (jw 15 (cellM G) ad s) 0 [(0, .ref (ad 0))] []
  refine j_aload_n C dX9_behindOne_0 0 rfl ?_
  refine j_getW C dX9_behindOne_1 inX9 rfl (by decide) rfl 10 (by decide) w_933 rfl rfl ?_
  refine j_istore_n C dX9_behindOne_4 (by decide) rfl ?_
  refine j_iload_n C dX9_behindOne_5 0 rfl ?_
  refine j_bipush C dX9_behindOne_6 (v := 43) (by decide) ?_
  refine j_icmp_eq C dX9_behindOne_8 (tgt := 17) (by decide) (fun cq => ?_) (fun cq => ?_)
  · have h := jite_t h cq
    refine j_loc C [1, 0] rfl ?_
    exact jn17 (s.1 0 10) s  h
  · have h := jite_f h cq
    refine j_iload_n C dX9_behindOne_11 0 rfl ?_
    refine j_bipush C dX9_behindOne_12 (v := 45) (by decide) ?_
    refine j_icmp_ne C dX9_behindOne_14 (tgt := 45) (by decide) (fun cq => ?_) (fun cq => ?_)
    · have h := jite_f h cq
      refine j_iload_n C dX9_behindOne_45 0 rfl ?_
      refine j_bipush C dX9_behindOne_46 (v := 42) (by decide) ?_
      refine j_icmp_eq C dX9_behindOne_48 (tgt := 57) (by decide) (fun cq => ?_) (fun cq => ?_)
      · have h := jite_t h cq
        refine j_loc C [1, 0] rfl ?_
        exact jn57 (s.1 0 10) s  h
      · have h := jite_f h cq
        refine j_iload_n C dX9_behindOne_51 0 rfl ?_
        refine j_bipush C dX9_behindOne_52 (v := 47) (by decide) ?_
        refine j_icmp_ne C dX9_behindOne_54 (tgt := 86) (by decide) (fun cq => ?_) (fun cq => ?_)
        · have h := jite_f h cq
          refine j_aload_n C dX9_behindOne_86 1 rfl ?_
          refine j_iconst C dX9_behindOne_87 (v := 3) (by decide) ?_
          obtain ⟨p88, he88, h⟩ := jbind h
          refine j_cV0 C dX9_behindOne_88 (m_X9_settle n 3 s he88) kc_X9_settle w_1124 w_1126 wp_58 w_11 jy_X9_settle ⟨⟨Nat.le_of_ble_eq_true rfl, Nat.le_of_ble_eq_true rfl⟩, ⟨rfl, rfl⟩, ⟨Nat.zero_le _, Nat.zero_le _⟩⟩ (Nat.le_of_ble_eq_true rfl) (by decide) rfl (r := (RX9, TX9, 32)) rfl rfl rfl (fun _ _ h => h) ?_
          refine j_aload_n C dX9_behindOne_91 1 rfl ?_
          refine j_dup C dX9_behindOne_92 rfl ?_
          refine j_getW C dX9_behindOne_93 inX9 rfl (by decide) rfl 18 (by decide) w_939 rfl rfl ?_
          refine j_iconst C dX9_behindOne_96 (v := 1) (by decide) ?_
          refine j_isub C dX9_behindOne_97 ?_
          refine j_putI C dX9_behindOne_98 inX9 tyX9 tyX9_ok nmX9 rfl (by decide) 18 rfl rfl (by decide) w_939 rfl rfl rfl rfl (Nat.le_of_ble_eq_true rfl) (fun s98_5 hs98_5 => ?_)
          have h := jlet h hs98_5
          refine j_aload_n C dX9_behindOne_101 1 rfl ?_
          refine j_dup C dX9_behindOne_102 rfl ?_
          refine j_getW C dX9_behindOne_103 inX9 rfl (by decide) rfl 19 (by decide) w_940 rfl rfl ?_
          refine j_iconst C dX9_behindOne_106 (v := 1) (by decide) ?_
          refine j_isub C dX9_behindOne_107 ?_
          refine j_putI C dX9_behindOne_108 inX9 tyX9 tyX9_ok nmX9 rfl (by decide) 19 rfl rfl (by decide) w_940 rfl rfl rfl rfl (Nat.le_of_ble_eq_true rfl) (fun s108_6 hs108_6 => ?_)
          have h := jlet h hs108_6
          refine j_aload_n C dX9_behindOne_111 1 rfl ?_
          obtain ⟨p112, he112, h⟩ := jbind h
          refine j_cV0 C dX9_behindOne_112 (m_X9_whole n s108_6 he112) kc_X9_whole w_1136 w_1138 wp_61 w_11 jy_X9_whole ⟨⟨Nat.le_of_ble_eq_true rfl, Nat.le_of_ble_eq_true rfl⟩, ⟨rfl, rfl⟩, ⟨Nat.zero_le _, Nat.zero_le _⟩⟩ (Nat.le_of_ble_eq_true rfl) (by decide) rfl (r := (RX9, TX9, 32)) rfl rfl rfl (fun _ _ h => h) ?_
          refine j_aload_n C dX9_behindOne_115 1 rfl ?_
          obtain ⟨p116, he116, h⟩ := jbind h
          refine j_cV0 C dX9_behindOne_116 (m_X9_nextToken n p112 he116) kc_X9_nextToken w_1064 w_1066 wp_47 w_11 jy_X9_nextToken ⟨⟨Nat.le_of_ble_eq_true rfl, Nat.le_of_ble_eq_true rfl⟩, ⟨rfl, rfl⟩, ⟨Nat.zero_le _, Nat.zero_le _⟩⟩ (Nat.le_of_ble_eq_true rfl) (by decide) rfl (r := (RX9, TX9, 32)) rfl rfl rfl (fun _ _ h => h) ?_
          refine j_iconst C dX9_behindOne_119 (v := 0) (by decide) ?_
          exact j_iret C dX9_behindOne_120 rfl rfl (Nat.zero_le _) (Nat.zero_le _) (jretWI h)
        · have h := jite_t h cq
          refine j_loc C [1, 0] rfl ?_
          exact jn57 (s.1 0 10) s  h
    · have h := jite_t h cq
      refine j_loc C [1, 0] rfl ?_
      exact jn17 (s.1 0 10) s  h
-- X9_w6
def F_X9_w6 (v0 : Int32) (v1 : Int32) (v2 : Int32) (v3 : Int32) (v4 : Int32) (v5 : Int32) : Int64 :=
  (((F_X9_w5 v0 v1 v2 v3 v4) <<< ((8 : Int32).toInt64 &&& 63)) ||| (Int32.toInt64 v5))
def rm_X9_w6 : Room := { frames := 2, cells := 0, slots := 0, locals := 46 }
set_option maxHeartbeats 4000000 in
set_option maxRecDepth 100000 in
theorem m_X9_w6 {l : Launch} {D : va_G} {G : Nat → ClassId} {KV : jV} {ad : Nat → Nat} {s : jS} (v0 : Int32) (v1 : Int32) (v2 : Int32) (v3 : Int32) (v4 : Int32) (v5 : Int32) {p : Int64} (h : F_X9_w6 v0 v1 v2 v3 v4 v5 = p) : jM l D G KV yX9_w6 cX9_w6 6 (some .long) rm_X9_w6 [.int v0, .int v1, .int v2, .int v3, .int v4, .int v5] (jw 15 (cellM G) ad s) 0 0 (fun v u => v = some (.long p) ∧ u = jw 15 (cellM G) ad s) := by
  refine jM.of (by decide) (Nat.le_of_ble_eq_true rfl) ?_
  intro K C
  unfold F_X9_w6 at h
  show K 0 0 (jw 15 (cellM G) ad s) 0 [(0, .int v0), (1, .int v1), (2, .int v2), (3, .int v3), (4, .int v4), (5, .int v5)] []
  refine j_iload_n C dX9_w6_0 0 rfl ?_
  refine j_iload_n C dX9_w6_1 1 rfl ?_
  refine j_iload_n C dX9_w6_2 2 rfl ?_
  refine j_iload_n C dX9_w6_3 3 rfl ?_
  refine j_iload C dX9_w6_4 4 rfl ?_
  refine j_cS1 C dX9_w6_6 (m_X9_w5 v0 v1 v2 v3 v4 rfl) kc_X9_w5 w_1087 w_1088 w_11 jy_X9_w5 ⟨⟨Nat.le_of_ble_eq_true rfl, Nat.le_of_ble_eq_true rfl⟩, ⟨rfl, rfl⟩, ⟨Nat.zero_le _, Nat.zero_le _⟩⟩ (Nat.le_of_ble_eq_true rfl) rfl (fun _ _ h => h) ?_
  refine j_bipush C dX9_w6_9 (v := 8) (by decide) ?_
  refine j_lshl C dX9_w6_11 ?_
  refine j_iload C dX9_w6_12 5 rfl ?_
  refine j_i2l C dX9_w6_14 ?_
  refine j_lor C dX9_w6_15 ?_
  exact j_lret C dX9_w6_16 rfl (Nat.zero_le _) (Nat.zero_le _) (jretTL h)
-- X9_nameOf
def F_X9_nameOf (s : jS) : Int32 :=
  (if (s.1 0 10) = 2 then (if (lg_cmp (s.2 0 12) (F_X9_w4 100 111 111 114)) = 0 then 0 else (if (lg_cmp (s.2 0 12) (F_X9_w4 104 111 117 114)) = 0 then 1 else (if (lg_cmp (s.2 0 12) (F_X9_w4 114 97 105 110)) = 0 then 2 else (if (lg_cmp (s.2 0 12) (F_X9_w4 109 111 111 100)) = 0 then 3 else (if (lg_cmp (s.2 0 12) (F_X9_w4 103 105 102 116)) = 0 then 4 else (if (lg_cmp (s.2 0 12) (F_X9_w6 107 110 111 99 107 115)) = 0 then 5 else (if (lg_cmp (s.2 0 12) (F_X9_w6 119 97 105 116 101 100)) = 0 then 6 else (if (lg_cmp (s.2 0 12) (F_X9_w4 108 111 97 100)) = 0 then 7 else (-1))))))))) else (-1))
def rm_X9_nameOf : Room := { frames := 3, cells := 0, slots := 0, locals := 71 }
set_option maxHeartbeats 4000000 in
set_option maxRecDepth 100000 in
theorem m_X9_nameOf {l : Launch} {D : va_G} {G : Nat → ClassId} {KV : jV} {ad : Nat → Nat} (s : jS) {p : Int32} (h : F_X9_nameOf s = p) : jM l D G KV yX9_nameOf cX9_nameOf 1 (some .int) rm_X9_nameOf [.ref (ad 0)] (jw 15 (cellM G) ad s) 0 0 (fun v u => v = some (.int p) ∧ u = jw 15 (cellM G) ad s) := by
  refine jM.of (by decide) (Nat.le_of_ble_eq_true rfl) ?_
  intro K C
  unfold F_X9_nameOf at h
  show K 0 0 (jw 15 (cellM G) ad s) 0 [(0, .ref (ad 0))] []
  refine j_aload_n C dX9_nameOf_0 0 rfl ?_
  refine j_getW C dX9_nameOf_1 inX9 rfl (by decide) rfl 10 (by decide) w_933 rfl rfl ?_
  refine j_iconst C dX9_nameOf_4 (v := 2) (by decide) ?_
  refine j_icmp_eq C dX9_nameOf_5 (tgt := 10) (by decide) (fun cq => ?_) (fun cq => ?_)
  · have h := jite_t h cq
    refine j_aload_n C dX9_nameOf_10 0 rfl ?_
    refine j_getW C dX9_nameOf_11 inX9 rfl (by decide) rfl 12 (by decide) w_935 rfl rfl ?_
    refine j_bipush C dX9_nameOf_14 (v := 100) (by decide) ?_
    refine j_bipush C dX9_nameOf_16 (v := 111) (by decide) ?_
    refine j_bipush C dX9_nameOf_18 (v := 111) (by decide) ?_
    refine j_bipush C dX9_nameOf_20 (v := 114) (by decide) ?_
    refine j_cS1 C dX9_nameOf_22 (m_X9_w4 100 111 111 114 rfl) kc_X9_w4 w_1097 w_1098 w_11 jy_X9_w4 ⟨⟨Nat.le_of_ble_eq_true rfl, Nat.le_of_ble_eq_true rfl⟩, ⟨rfl, rfl⟩, ⟨Nat.zero_le _, Nat.zero_le _⟩⟩ (Nat.le_of_ble_eq_true rfl) rfl (fun _ _ h => h) ?_
    refine j_lcmp C dX9_nameOf_25 ?_
    refine j_if_ne C dX9_nameOf_26 (tgt := 31) (by decide) (fun cq => ?_) (fun cq => ?_)
    · have h := jite_f h cq
      refine j_aload_n C dX9_nameOf_31 0 rfl ?_
      refine j_getW C dX9_nameOf_32 inX9 rfl (by decide) rfl 12 (by decide) w_935 rfl rfl ?_
      refine j_bipush C dX9_nameOf_35 (v := 104) (by decide) ?_
      refine j_bipush C dX9_nameOf_37 (v := 111) (by decide) ?_
      refine j_bipush C dX9_nameOf_39 (v := 117) (by decide) ?_
      refine j_bipush C dX9_nameOf_41 (v := 114) (by decide) ?_
      refine j_cS1 C dX9_nameOf_43 (m_X9_w4 104 111 117 114 rfl) kc_X9_w4 w_1097 w_1098 w_11 jy_X9_w4 ⟨⟨Nat.le_of_ble_eq_true rfl, Nat.le_of_ble_eq_true rfl⟩, ⟨rfl, rfl⟩, ⟨Nat.zero_le _, Nat.zero_le _⟩⟩ (Nat.le_of_ble_eq_true rfl) rfl (fun _ _ h => h) ?_
      refine j_lcmp C dX9_nameOf_46 ?_
      refine j_if_ne C dX9_nameOf_47 (tgt := 52) (by decide) (fun cq => ?_) (fun cq => ?_)
      · have h := jite_f h cq
        refine j_aload_n C dX9_nameOf_52 0 rfl ?_
        refine j_getW C dX9_nameOf_53 inX9 rfl (by decide) rfl 12 (by decide) w_935 rfl rfl ?_
        refine j_bipush C dX9_nameOf_56 (v := 114) (by decide) ?_
        refine j_bipush C dX9_nameOf_58 (v := 97) (by decide) ?_
        refine j_bipush C dX9_nameOf_60 (v := 105) (by decide) ?_
        refine j_bipush C dX9_nameOf_62 (v := 110) (by decide) ?_
        refine j_cS1 C dX9_nameOf_64 (m_X9_w4 114 97 105 110 rfl) kc_X9_w4 w_1097 w_1098 w_11 jy_X9_w4 ⟨⟨Nat.le_of_ble_eq_true rfl, Nat.le_of_ble_eq_true rfl⟩, ⟨rfl, rfl⟩, ⟨Nat.zero_le _, Nat.zero_le _⟩⟩ (Nat.le_of_ble_eq_true rfl) rfl (fun _ _ h => h) ?_
        refine j_lcmp C dX9_nameOf_67 ?_
        refine j_if_ne C dX9_nameOf_68 (tgt := 73) (by decide) (fun cq => ?_) (fun cq => ?_)
        · have h := jite_f h cq
          refine j_aload_n C dX9_nameOf_73 0 rfl ?_
          refine j_getW C dX9_nameOf_74 inX9 rfl (by decide) rfl 12 (by decide) w_935 rfl rfl ?_
          refine j_bipush C dX9_nameOf_77 (v := 109) (by decide) ?_
          refine j_bipush C dX9_nameOf_79 (v := 111) (by decide) ?_
          refine j_bipush C dX9_nameOf_81 (v := 111) (by decide) ?_
          refine j_bipush C dX9_nameOf_83 (v := 100) (by decide) ?_
          refine j_cS1 C dX9_nameOf_85 (m_X9_w4 109 111 111 100 rfl) kc_X9_w4 w_1097 w_1098 w_11 jy_X9_w4 ⟨⟨Nat.le_of_ble_eq_true rfl, Nat.le_of_ble_eq_true rfl⟩, ⟨rfl, rfl⟩, ⟨Nat.zero_le _, Nat.zero_le _⟩⟩ (Nat.le_of_ble_eq_true rfl) rfl (fun _ _ h => h) ?_
          refine j_lcmp C dX9_nameOf_88 ?_
          refine j_if_ne C dX9_nameOf_89 (tgt := 94) (by decide) (fun cq => ?_) (fun cq => ?_)
          · have h := jite_f h cq
            refine j_aload_n C dX9_nameOf_94 0 rfl ?_
            refine j_getW C dX9_nameOf_95 inX9 rfl (by decide) rfl 12 (by decide) w_935 rfl rfl ?_
            refine j_bipush C dX9_nameOf_98 (v := 103) (by decide) ?_
            refine j_bipush C dX9_nameOf_100 (v := 105) (by decide) ?_
            refine j_bipush C dX9_nameOf_102 (v := 102) (by decide) ?_
            refine j_bipush C dX9_nameOf_104 (v := 116) (by decide) ?_
            refine j_cS1 C dX9_nameOf_106 (m_X9_w4 103 105 102 116 rfl) kc_X9_w4 w_1097 w_1098 w_11 jy_X9_w4 ⟨⟨Nat.le_of_ble_eq_true rfl, Nat.le_of_ble_eq_true rfl⟩, ⟨rfl, rfl⟩, ⟨Nat.zero_le _, Nat.zero_le _⟩⟩ (Nat.le_of_ble_eq_true rfl) rfl (fun _ _ h => h) ?_
            refine j_lcmp C dX9_nameOf_109 ?_
            refine j_if_ne C dX9_nameOf_110 (tgt := 115) (by decide) (fun cq => ?_) (fun cq => ?_)
            · have h := jite_f h cq
              refine j_aload_n C dX9_nameOf_115 0 rfl ?_
              refine j_getW C dX9_nameOf_116 inX9 rfl (by decide) rfl 12 (by decide) w_935 rfl rfl ?_
              refine j_bipush C dX9_nameOf_119 (v := 107) (by decide) ?_
              refine j_bipush C dX9_nameOf_121 (v := 110) (by decide) ?_
              refine j_bipush C dX9_nameOf_123 (v := 111) (by decide) ?_
              refine j_bipush C dX9_nameOf_125 (v := 99) (by decide) ?_
              refine j_bipush C dX9_nameOf_127 (v := 107) (by decide) ?_
              refine j_bipush C dX9_nameOf_129 (v := 115) (by decide) ?_
              refine j_cS1 C dX9_nameOf_131 (m_X9_w6 107 110 111 99 107 115 rfl) kc_X9_w6 w_1148 w_1149 w_11 jy_X9_w6 ⟨⟨Nat.le_of_ble_eq_true rfl, Nat.le_of_ble_eq_true rfl⟩, ⟨rfl, rfl⟩, ⟨Nat.zero_le _, Nat.zero_le _⟩⟩ (Nat.le_of_ble_eq_true rfl) rfl (fun _ _ h => h) ?_
              refine j_lcmp C dX9_nameOf_134 ?_
              refine j_if_ne C dX9_nameOf_135 (tgt := 140) (by decide) (fun cq => ?_) (fun cq => ?_)
              · have h := jite_f h cq
                refine j_aload_n C dX9_nameOf_140 0 rfl ?_
                refine j_getW C dX9_nameOf_141 inX9 rfl (by decide) rfl 12 (by decide) w_935 rfl rfl ?_
                refine j_bipush C dX9_nameOf_144 (v := 119) (by decide) ?_
                refine j_bipush C dX9_nameOf_146 (v := 97) (by decide) ?_
                refine j_bipush C dX9_nameOf_148 (v := 105) (by decide) ?_
                refine j_bipush C dX9_nameOf_150 (v := 116) (by decide) ?_
                refine j_bipush C dX9_nameOf_152 (v := 101) (by decide) ?_
                refine j_bipush C dX9_nameOf_154 (v := 100) (by decide) ?_
                refine j_cS1 C dX9_nameOf_156 (m_X9_w6 119 97 105 116 101 100 rfl) kc_X9_w6 w_1148 w_1149 w_11 jy_X9_w6 ⟨⟨Nat.le_of_ble_eq_true rfl, Nat.le_of_ble_eq_true rfl⟩, ⟨rfl, rfl⟩, ⟨Nat.zero_le _, Nat.zero_le _⟩⟩ (Nat.le_of_ble_eq_true rfl) rfl (fun _ _ h => h) ?_
                refine j_lcmp C dX9_nameOf_159 ?_
                refine j_if_ne C dX9_nameOf_160 (tgt := 168) (by decide) (fun cq => ?_) (fun cq => ?_)
                · have h := jite_f h cq
                  refine j_aload_n C dX9_nameOf_168 0 rfl ?_
                  refine j_getW C dX9_nameOf_169 inX9 rfl (by decide) rfl 12 (by decide) w_935 rfl rfl ?_
                  refine j_bipush C dX9_nameOf_172 (v := 108) (by decide) ?_
                  refine j_bipush C dX9_nameOf_174 (v := 111) (by decide) ?_
                  refine j_bipush C dX9_nameOf_176 (v := 97) (by decide) ?_
                  refine j_bipush C dX9_nameOf_178 (v := 100) (by decide) ?_
                  refine j_cS1 C dX9_nameOf_180 (m_X9_w4 108 111 97 100 rfl) kc_X9_w4 w_1097 w_1098 w_11 jy_X9_w4 ⟨⟨Nat.le_of_ble_eq_true rfl, Nat.le_of_ble_eq_true rfl⟩, ⟨rfl, rfl⟩, ⟨Nat.zero_le _, Nat.zero_le _⟩⟩ (Nat.le_of_ble_eq_true rfl) rfl (fun _ _ h => h) ?_
                  refine j_lcmp C dX9_nameOf_183 ?_
                  refine j_if_ne C dX9_nameOf_184 (tgt := 192) (by decide) (fun cq => ?_) (fun cq => ?_)
                  · have h := jite_f h cq
                    refine j_iconst C dX9_nameOf_192 (v := (-1)) (by decide) ?_
                    exact j_iret C dX9_nameOf_193 rfl rfl (Nat.zero_le _) (Nat.zero_le _) (jretTI h)
                  · have h := jite_t h cq
                    refine j_bipush C dX9_nameOf_187 (v := 7) (by decide) ?_
                    refine j_goto C dX9_nameOf_189 (tgt := 193) (by decide) ?_
                    exact j_iret C dX9_nameOf_193 rfl rfl (Nat.zero_le _) (Nat.zero_le _) (jretTI h)
                · have h := jite_t h cq
                  refine j_bipush C dX9_nameOf_163 (v := 6) (by decide) ?_
                  refine j_goto C dX9_nameOf_165 (tgt := 193) (by decide) ?_
                  exact j_iret C dX9_nameOf_193 rfl rfl (Nat.zero_le _) (Nat.zero_le _) (jretTI h)
              · have h := jite_t h cq
                refine j_iconst C dX9_nameOf_138 (v := 5) (by decide) ?_
                exact j_iret C dX9_nameOf_139 rfl rfl (Nat.zero_le _) (Nat.zero_le _) (jretTI h)
            · have h := jite_t h cq
              refine j_iconst C dX9_nameOf_113 (v := 4) (by decide) ?_
              exact j_iret C dX9_nameOf_114 rfl rfl (Nat.zero_le _) (Nat.zero_le _) (jretTI h)
          · have h := jite_t h cq
            refine j_iconst C dX9_nameOf_92 (v := 3) (by decide) ?_
            exact j_iret C dX9_nameOf_93 rfl rfl (Nat.zero_le _) (Nat.zero_le _) (jretTI h)
        · have h := jite_t h cq
          refine j_iconst C dX9_nameOf_71 (v := 2) (by decide) ?_
          exact j_iret C dX9_nameOf_72 rfl rfl (Nat.zero_le _) (Nat.zero_le _) (jretTI h)
      · have h := jite_t h cq
        refine j_iconst C dX9_nameOf_50 (v := 1) (by decide) ?_
        exact j_iret C dX9_nameOf_51 rfl rfl (Nat.zero_le _) (Nat.zero_le _) (jretTI h)
    · have h := jite_t h cq
      refine j_iconst C dX9_nameOf_29 (v := 0) (by decide) ?_
      exact j_iret C dX9_nameOf_30 rfl rfl (Nat.zero_le _) (Nat.zero_le _) (jretTI h)
  · have h := jite_f h cq
    refine j_iconst C dX9_nameOf_8 (v := (-1)) (by decide) ?_
    exact j_iret C dX9_nameOf_9 rfl rfl (Nat.zero_le _) (Nat.zero_le _) (jretTI h)
