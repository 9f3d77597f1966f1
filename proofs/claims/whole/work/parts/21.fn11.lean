theorem dX0_roundsChanged_0 : decode cX0_roundsChanged 0 = .ok (.aload_n 0, 1) := by decide +kernel
theorem dX0_roundsChanged_1 : decode cX0_roundsChanged 1 = .ok (.getfield 34, 3) := by decide +kernel
theorem dX0_roundsChanged_4 : decode cX0_roundsChanged 4 = .ok (.ifCond .eq 8, 3) := by decide +kernel
theorem dX0_roundsChanged_7 : decode cX0_roundsChanged 7 = .ok (.aload_n 0, 1) := by decide +kernel
theorem dX0_roundsChanged_8 : decode cX0_roundsChanged 8 = .ok (.getfield 49, 3) := by decide +kernel
theorem dX0_roundsChanged_11 : decode cX0_roundsChanged 11 = .ok (.ireturn, 1) := by decide +kernel
theorem dX0_roundsChanged_12 : decode cX0_roundsChanged 12 = .ok (.aload_n 0, 1) := by decide +kernel
theorem dX0_roundsChanged_13 : decode cX0_roundsChanged 13 = .ok (.iconst 1, 1) := by decide +kernel
theorem dX0_roundsChanged_14 : decode cX0_roundsChanged 14 = .ok (.invokevirtual 38, 3) := by decide +kernel
theorem dX0_roundsChanged_17 : decode cX0_roundsChanged 17 = .ok (.aload_n 0, 1) := by decide +kernel
theorem dX0_roundsChanged_18 : decode cX0_roundsChanged 18 = .ok (.bipush (-2), 2) := by decide +kernel
theorem dX0_roundsChanged_20 : decode cX0_roundsChanged 20 = .ok (.putfield 49, 3) := by decide +kernel
theorem dX0_roundsChanged_23 : decode cX0_roundsChanged 23 = .ok (.iconst 1, 1) := by decide +kernel
theorem dX0_roundsChanged_24 : decode cX0_roundsChanged 24 = .ok (.istore_n 1, 1) := by decide +kernel
theorem dX0_roundsChanged_25 : decode cX0_roundsChanged 25 = .ok (.iconst 0, 1) := by decide +kernel
theorem dX0_roundsChanged_26 : decode cX0_roundsChanged 26 = .ok (.istore_n 2, 1) := by decide +kernel
theorem dX0_roundsChanged_27 : decode cX0_roundsChanged 27 = .ok (.iload_n 2, 1) := by decide +kernel
theorem dX0_roundsChanged_28 : decode cX0_roundsChanged 28 = .ok (.bipush 20, 2) := by decide +kernel
theorem dX0_roundsChanged_30 : decode cX0_roundsChanged 30 = .ok (.if_icmp .gt 97, 3) := by decide +kernel
theorem dX0_roundsChanged_33 : decode cX0_roundsChanged 33 = .ok (.iload_n 1, 1) := by decide +kernel
theorem dX0_roundsChanged_34 : decode cX0_roundsChanged 34 = .ok (.ifCond .eq 93, 3) := by decide +kernel
theorem dX0_roundsChanged_37 : decode cX0_roundsChanged 37 = .ok (.iconst 0, 1) := by decide +kernel
theorem dX0_roundsChanged_38 : decode cX0_roundsChanged 38 = .ok (.istore_n 1, 1) := by decide +kernel
theorem dX0_roundsChanged_39 : decode cX0_roundsChanged 39 = .ok (.aload_n 0, 1) := by decide +kernel
theorem dX0_roundsChanged_40 : decode cX0_roundsChanged 40 = .ok (.getfield 15, 3) := by decide +kernel
theorem dX0_roundsChanged_43 : decode cX0_roundsChanged 43 = .ok (.iload_n 2, 1) := by decide +kernel
theorem dX0_roundsChanged_44 : decode cX0_roundsChanged 44 = .ok (.aload_n 0, 1) := by decide +kernel
theorem dX0_roundsChanged_45 : decode cX0_roundsChanged 45 = .ok (.invokevirtual 52, 3) := by decide +kernel
theorem dX0_roundsChanged_48 : decode cX0_roundsChanged 48 = .ok (.iastore, 1) := by decide +kernel
theorem dX0_roundsChanged_49 : decode cX0_roundsChanged 49 = .ok (.aload_n 0, 1) := by decide +kernel
theorem dX0_roundsChanged_50 : decode cX0_roundsChanged 50 = .ok (.iload_n 2, 1) := by decide +kernel
theorem dX0_roundsChanged_51 : decode cX0_roundsChanged 51 = .ok (.invokevirtual 56, 3) := by decide +kernel
theorem dX0_roundsChanged_54 : decode cX0_roundsChanged 54 = .ok (.ifCond .ne 67, 3) := by decide +kernel
theorem dX0_roundsChanged_57 : decode cX0_roundsChanged 57 = .ok (.iconst 0, 1) := by decide +kernel
theorem dX0_roundsChanged_58 : decode cX0_roundsChanged 58 = .ok (.istore_n 3, 1) := by decide +kernel
theorem dX0_roundsChanged_59 : decode cX0_roundsChanged 59 = .ok (.iload_n 3, 1) := by decide +kernel
theorem dX0_roundsChanged_60 : decode cX0_roundsChanged 60 = .ok (.aload_n 0, 1) := by decide +kernel
theorem dX0_roundsChanged_61 : decode cX0_roundsChanged 61 = .ok (.getfield 18, 3) := by decide +kernel
theorem dX0_roundsChanged_64 : decode cX0_roundsChanged 64 = .ok (.if_icmp .ge 43, 3) := by decide +kernel
theorem dX0_roundsChanged_67 : decode cX0_roundsChanged 67 = .ok (.aload_n 0, 1) := by decide +kernel
theorem dX0_roundsChanged_68 : decode cX0_roundsChanged 68 = .ok (.iload_n 3, 1) := by decide +kernel
theorem dX0_roundsChanged_69 : decode cX0_roundsChanged 69 = .ok (.invokevirtual 46, 3) := by decide +kernel
theorem dX0_roundsChanged_72 : decode cX0_roundsChanged 72 = .ok (.istore 4, 2) := by decide +kernel
theorem dX0_roundsChanged_74 : decode cX0_roundsChanged 74 = .ok (.iload_n 1, 1) := by decide +kernel
theorem dX0_roundsChanged_75 : decode cX0_roundsChanged 75 = .ok (.iload 4, 2) := by decide +kernel
theorem dX0_roundsChanged_77 : decode cX0_roundsChanged 77 = .ok (.aload_n 0, 1) := by decide +kernel
theorem dX0_roundsChanged_78 : decode cX0_roundsChanged 78 = .ok (.getfield 9, 3) := by decide +kernel
theorem dX0_roundsChanged_81 : decode cX0_roundsChanged 81 = .ok (.iload_n 3, 1) := by decide +kernel
theorem dX0_roundsChanged_82 : decode cX0_roundsChanged 82 = .ok (.iaload, 1) := by decide +kernel
theorem dX0_roundsChanged_83 : decode cX0_roundsChanged 83 = .ok (.if_icmp .eq 7, 3) := by decide +kernel
theorem dX0_roundsChanged_86 : decode cX0_roundsChanged 86 = .ok (.iconst 1, 1) := by decide +kernel
theorem dX0_roundsChanged_87 : decode cX0_roundsChanged 87 = .ok (.goto 4, 3) := by decide +kernel
theorem dX0_roundsChanged_90 : decode cX0_roundsChanged 90 = .ok (.iconst 0, 1) := by decide +kernel
theorem dX0_roundsChanged_91 : decode cX0_roundsChanged 91 = .ok (.ior, 1) := by decide +kernel
theorem dX0_roundsChanged_92 : decode cX0_roundsChanged 92 = .ok (.istore_n 1, 1) := by decide +kernel
theorem dX0_roundsChanged_93 : decode cX0_roundsChanged 93 = .ok (.aload_n 0, 1) := by decide +kernel
theorem dX0_roundsChanged_94 : decode cX0_roundsChanged 94 = .ok (.getfield 9, 3) := by decide +kernel
theorem dX0_roundsChanged_97 : decode cX0_roundsChanged 97 = .ok (.iload_n 3, 1) := by decide +kernel
theorem dX0_roundsChanged_98 : decode cX0_roundsChanged 98 = .ok (.iload 4, 2) := by decide +kernel
theorem dX0_roundsChanged_100 : decode cX0_roundsChanged 100 = .ok (.iastore, 1) := by decide +kernel
theorem dX0_roundsChanged_101 : decode cX0_roundsChanged 101 = .ok (.iinc 3 1, 3) := by decide +kernel
theorem dX0_roundsChanged_104 : decode cX0_roundsChanged 104 = .ok (.goto (-45), 3) := by decide +kernel
theorem dX0_roundsChanged_107 : decode cX0_roundsChanged 107 = .ok (.aload_n 0, 1) := by decide +kernel
theorem dX0_roundsChanged_108 : decode cX0_roundsChanged 108 = .ok (.iload_n 1, 1) := by decide +kernel
theorem dX0_roundsChanged_109 : decode cX0_roundsChanged 109 = .ok (.ifCond .eq 8, 3) := by decide +kernel
theorem dX0_roundsChanged_112 : decode cX0_roundsChanged 112 = .ok (.bipush (-2), 2) := by decide +kernel
theorem dX0_roundsChanged_114 : decode cX0_roundsChanged 114 = .ok (.goto 4, 3) := by decide +kernel
theorem dX0_roundsChanged_117 : decode cX0_roundsChanged 117 = .ok (.iload_n 2, 1) := by decide +kernel
theorem dX0_roundsChanged_118 : decode cX0_roundsChanged 118 = .ok (.putfield 49, 3) := by decide +kernel
theorem dX0_roundsChanged_121 : decode cX0_roundsChanged 121 = .ok (.iinc 2 1, 3) := by decide +kernel
theorem dX0_roundsChanged_124 : decode cX0_roundsChanged 124 = .ok (.goto (-97), 3) := by decide +kernel
theorem dX0_roundsChanged_127 : decode cX0_roundsChanged 127 = .ok (.aload_n 0, 1) := by decide +kernel
theorem dX0_roundsChanged_128 : decode cX0_roundsChanged 128 = .ok (.iconst 1, 1) := by decide +kernel
theorem dX0_roundsChanged_129 : decode cX0_roundsChanged 129 = .ok (.putfield 34, 3) := by decide +kernel
theorem dX0_roundsChanged_132 : decode cX0_roundsChanged 132 = .ok (.aload_n 0, 1) := by decide +kernel
theorem dX0_roundsChanged_133 : decode cX0_roundsChanged 133 = .ok (.getfield 49, 3) := by decide +kernel
theorem dX0_roundsChanged_136 : decode cX0_roundsChanged 136 = .ok (.ireturn, 1) := by decide +kernel
theorem dX8_rounds_0 : decode cX8_rounds 0 = .ok (.iload_n 1, 1) := by decide +kernel
theorem dX8_rounds_1 : decode cX8_rounds 1 = .ok (.iconst (-1), 1) := by decide +kernel
theorem dX8_rounds_2 : decode cX8_rounds 2 = .ok (.if_icmp .eq 14, 3) := by decide +kernel
theorem dX8_rounds_5 : decode cX8_rounds 5 = .ok (.aload_n 0, 1) := by decide +kernel
theorem dX8_rounds_6 : decode cX8_rounds 6 = .ok (.iload_n 1, 1) := by decide +kernel
theorem dX8_rounds_7 : decode cX8_rounds 7 = .ok (.invokevirtual 97, 3) := by decide +kernel
theorem dX8_rounds_10 : decode cX8_rounds 10 = .ok (.ifCond .ne 6, 3) := by decide +kernel
theorem dX8_rounds_13 : decode cX8_rounds 13 = .ok (.bipush (-2), 2) := by decide +kernel
theorem dX8_rounds_15 : decode cX8_rounds 15 = .ok (.ireturn, 1) := by decide +kernel
theorem dX8_rounds_16 : decode cX8_rounds 16 = .ok (.aload_n 0, 1) := by decide +kernel
theorem dX8_rounds_17 : decode cX8_rounds 17 = .ok (.getfield 78, 3) := by decide +kernel
theorem dX8_rounds_20 : decode cX8_rounds 20 = .ok (.invokevirtual 241, 3) := by decide +kernel
theorem dX8_rounds_23 : decode cX8_rounds 23 = .ok (.istore_n 2, 1) := by decide +kernel
theorem dX8_rounds_24 : decode cX8_rounds 24 = .ok (.iload_n 1, 1) := by decide +kernel
theorem dX8_rounds_25 : decode cX8_rounds 25 = .ok (.iconst (-1), 1) := by decide +kernel
theorem dX8_rounds_26 : decode cX8_rounds 26 = .ok (.if_icmp .eq 9, 3) := by decide +kernel
theorem dX8_rounds_29 : decode cX8_rounds 29 = .ok (.iload_n 2, 1) := by decide +kernel
theorem dX8_rounds_30 : decode cX8_rounds 30 = .ok (.bipush (-2), 2) := by decide +kernel
theorem dX8_rounds_32 : decode cX8_rounds 32 = .ok (.if_icmp .ne 7, 3) := by decide +kernel
theorem dX8_rounds_35 : decode cX8_rounds 35 = .ok (.iload_n 2, 1) := by decide +kernel
theorem dX8_rounds_36 : decode cX8_rounds 36 = .ok (.goto 12, 3) := by decide +kernel
theorem dX8_rounds_39 : decode cX8_rounds 39 = .ok (.aload_n 0, 1) := by decide +kernel
theorem dX8_rounds_40 : decode cX8_rounds 40 = .ok (.getfield 78, 3) := by decide +kernel
theorem dX8_rounds_43 : decode cX8_rounds 43 = .ok (.getfield 244, 3) := by decide +kernel
theorem dX8_rounds_46 : decode cX8_rounds 46 = .ok (.iload_n 1, 1) := by decide +kernel
theorem dX8_rounds_47 : decode cX8_rounds 47 = .ok (.iaload, 1) := by decide +kernel
theorem dX8_rounds_48 : decode cX8_rounds 48 = .ok (.ireturn, 1) := by decide +kernel
theorem dX8_seen_0 : decode cX8_seen 0 = .ok (.aload_n 0, 1) := by decide +kernel
theorem dX8_seen_1 : decode cX8_seen 1 = .ok (.iload_n 1, 1) := by decide +kernel
theorem dX8_seen_2 : decode cX8_seen 2 = .ok (.iload_n 2, 1) := by decide +kernel
theorem dX8_seen_3 : decode cX8_seen 3 = .ok (.iload_n 3, 1) := by decide +kernel
theorem dX8_seen_4 : decode cX8_seen 4 = .ok (.iload 4, 2) := by decide +kernel
theorem dX8_seen_6 : decode cX8_seen 6 = .ok (.iload 5, 2) := by decide +kernel
theorem dX8_seen_8 : decode cX8_seen 8 = .ok (.invokevirtual 133, 3) := by decide +kernel
theorem dX8_seen_11 : decode cX8_seen 11 = .ok (.ifCond .eq 15, 3) := by decide +kernel
theorem dX8_seen_14 : decode cX8_seen 14 = .ok (.aload_n 0, 1) := by decide +kernel
theorem dX8_seen_15 : decode cX8_seen 15 = .ok (.getfield 41, 3) := by decide +kernel
theorem dX8_seen_18 : decode cX8_seen 18 = .ok (.getfield 247, 3) := by decide +kernel
theorem dX8_seen_21 : decode cX8_seen 21 = .ok (.bipush 20, 2) := by decide +kernel
theorem dX8_seen_23 : decode cX8_seen 23 = .ok (.if_icmp .lt 5, 3) := by decide +kernel
theorem dX8_seen_26 : decode cX8_seen 26 = .ok (.iconst (-1), 1) := by decide +kernel
theorem dX8_seen_27 : decode cX8_seen 27 = .ok (.ireturn, 1) := by decide +kernel
theorem dX8_seen_28 : decode cX8_seen 28 = .ok (.aload_n 0, 1) := by decide +kernel
theorem dX8_seen_29 : decode cX8_seen 29 = .ok (.getfield 41, 3) := by decide +kernel
theorem dX8_seen_32 : decode cX8_seen 32 = .ok (.getfield 247, 3) := by decide +kernel
theorem dX8_seen_35 : decode cX8_seen 35 = .ok (.bipush 6, 2) := by decide +kernel
theorem dX8_seen_37 : decode cX8_seen 37 = .ok (.imul, 1) := by decide +kernel
theorem dX8_seen_38 : decode cX8_seen 38 = .ok (.istore 7, 2) := by decide +kernel
theorem dX8_seen_40 : decode cX8_seen 40 = .ok (.aload_n 0, 1) := by decide +kernel
theorem dX8_seen_41 : decode cX8_seen 41 = .ok (.getfield 41, 3) := by decide +kernel
theorem dX8_seen_44 : decode cX8_seen 44 = .ok (.getfield 250, 3) := by decide +kernel
theorem dX8_seen_47 : decode cX8_seen 47 = .ok (.iload 7, 2) := by decide +kernel
theorem dX8_seen_49 : decode cX8_seen 49 = .ok (.iload_n 1, 1) := by decide +kernel
theorem dX8_seen_50 : decode cX8_seen 50 = .ok (.iastore, 1) := by decide +kernel
theorem dX8_seen_51 : decode cX8_seen 51 = .ok (.aload_n 0, 1) := by decide +kernel
theorem dX8_seen_52 : decode cX8_seen 52 = .ok (.getfield 41, 3) := by decide +kernel
theorem dX8_seen_55 : decode cX8_seen 55 = .ok (.getfield 250, 3) := by decide +kernel
theorem dX8_seen_58 : decode cX8_seen 58 = .ok (.iload 7, 2) := by decide +kernel
theorem dX8_seen_60 : decode cX8_seen 60 = .ok (.iconst 1, 1) := by decide +kernel
theorem dX8_seen_61 : decode cX8_seen 61 = .ok (.iadd, 1) := by decide +kernel
theorem dX8_seen_62 : decode cX8_seen 62 = .ok (.iload_n 2, 1) := by decide +kernel
theorem dX8_seen_63 : decode cX8_seen 63 = .ok (.iastore, 1) := by decide +kernel
theorem dX8_seen_64 : decode cX8_seen 64 = .ok (.aload_n 0, 1) := by decide +kernel
theorem dX8_seen_65 : decode cX8_seen 65 = .ok (.getfield 41, 3) := by decide +kernel
theorem dX8_seen_68 : decode cX8_seen 68 = .ok (.getfield 250, 3) := by decide +kernel
theorem dX8_seen_71 : decode cX8_seen 71 = .ok (.iload 7, 2) := by decide +kernel
theorem dX8_seen_73 : decode cX8_seen 73 = .ok (.iconst 2, 1) := by decide +kernel
theorem dX8_seen_74 : decode cX8_seen 74 = .ok (.iadd, 1) := by decide +kernel
theorem dX8_seen_75 : decode cX8_seen 75 = .ok (.iload_n 3, 1) := by decide +kernel
theorem dX8_seen_76 : decode cX8_seen 76 = .ok (.iastore, 1) := by decide +kernel
theorem dX8_seen_77 : decode cX8_seen 77 = .ok (.aload_n 0, 1) := by decide +kernel
theorem dX8_seen_78 : decode cX8_seen 78 = .ok (.getfield 41, 3) := by decide +kernel
theorem dX8_seen_81 : decode cX8_seen 81 = .ok (.getfield 250, 3) := by decide +kernel
theorem dX8_seen_84 : decode cX8_seen 84 = .ok (.iload 7, 2) := by decide +kernel
theorem dX8_seen_86 : decode cX8_seen 86 = .ok (.iconst 3, 1) := by decide +kernel
theorem dX8_seen_87 : decode cX8_seen 87 = .ok (.iadd, 1) := by decide +kernel
theorem dX8_seen_88 : decode cX8_seen 88 = .ok (.iload 4, 2) := by decide +kernel
theorem dX8_seen_90 : decode cX8_seen 90 = .ok (.iastore, 1) := by decide +kernel
theorem dX8_seen_91 : decode cX8_seen 91 = .ok (.aload_n 0, 1) := by decide +kernel
theorem dX8_seen_92 : decode cX8_seen 92 = .ok (.getfield 41, 3) := by decide +kernel
theorem dX8_seen_95 : decode cX8_seen 95 = .ok (.getfield 250, 3) := by decide +kernel
theorem dX8_seen_98 : decode cX8_seen 98 = .ok (.iload 7, 2) := by decide +kernel
theorem dX8_seen_100 : decode cX8_seen 100 = .ok (.iconst 4, 1) := by decide +kernel
theorem dX8_seen_101 : decode cX8_seen 101 = .ok (.iadd, 1) := by decide +kernel
theorem dX8_seen_102 : decode cX8_seen 102 = .ok (.iload 5, 2) := by decide +kernel
theorem dX8_seen_104 : decode cX8_seen 104 = .ok (.iastore, 1) := by decide +kernel
theorem dX8_seen_105 : decode cX8_seen 105 = .ok (.aload_n 0, 1) := by decide +kernel
theorem dX8_seen_106 : decode cX8_seen 106 = .ok (.getfield 41, 3) := by decide +kernel
theorem dX8_seen_109 : decode cX8_seen 109 = .ok (.getfield 250, 3) := by decide +kernel
theorem dX8_seen_112 : decode cX8_seen 112 = .ok (.iload 7, 2) := by decide +kernel
theorem dX8_seen_114 : decode cX8_seen 114 = .ok (.iconst 5, 1) := by decide +kernel
theorem dX8_seen_115 : decode cX8_seen 115 = .ok (.iadd, 1) := by decide +kernel
theorem dX8_seen_116 : decode cX8_seen 116 = .ok (.iload 6, 2) := by decide +kernel
theorem dX8_seen_118 : decode cX8_seen 118 = .ok (.ifCond .eq 7, 3) := by decide +kernel
theorem dX8_seen_121 : decode cX8_seen 121 = .ok (.iconst 1, 1) := by decide +kernel
theorem dX8_seen_122 : decode cX8_seen 122 = .ok (.goto 4, 3) := by decide +kernel
theorem dX8_seen_125 : decode cX8_seen 125 = .ok (.iconst 0, 1) := by decide +kernel
theorem dX8_seen_126 : decode cX8_seen 126 = .ok (.iastore, 1) := by decide +kernel
theorem dX8_seen_127 : decode cX8_seen 127 = .ok (.aload_n 0, 1) := by decide +kernel
theorem dX8_seen_128 : decode cX8_seen 128 = .ok (.getfield 41, 3) := by decide +kernel
theorem dX8_seen_131 : decode cX8_seen 131 = .ok (.dup, 1) := by decide +kernel
theorem dX8_seen_132 : decode cX8_seen 132 = .ok (.getfield 247, 3) := by decide +kernel
theorem dX8_seen_135 : decode cX8_seen 135 = .ok (.iconst 1, 1) := by decide +kernel
theorem dX8_seen_136 : decode cX8_seen 136 = .ok (.iadd, 1) := by decide +kernel
theorem dX8_seen_137 : decode cX8_seen 137 = .ok (.putfield 247, 3) := by decide +kernel
theorem dX8_seen_140 : decode cX8_seen 140 = .ok (.aload_n 0, 1) := by decide +kernel
theorem dX8_seen_141 : decode cX8_seen 141 = .ok (.getfield 41, 3) := by decide +kernel
theorem dX8_seen_144 : decode cX8_seen 144 = .ok (.getfield 247, 3) := by decide +kernel
theorem dX8_seen_147 : decode cX8_seen 147 = .ok (.ireturn, 1) := by decide +kernel
theorem dX8_agrees_0 : decode cX8_agrees 0 = .ok (.aload_n 0, 1) := by decide +kernel
theorem dX8_agrees_1 : decode cX8_agrees 1 = .ok (.getfield 41, 3) := by decide +kernel
theorem dX8_agrees_4 : decode cX8_agrees 4 = .ok (.getfield 250, 3) := by decide +kernel
theorem dX8_agrees_7 : decode cX8_agrees 7 = .ok (.astore 4, 2) := by decide +kernel
theorem dX8_agrees_9 : decode cX8_agrees 9 = .ok (.iconst 0, 1) := by decide +kernel
theorem dX8_agrees_10 : decode cX8_agrees 10 = .ok (.istore 5, 2) := by decide +kernel
theorem dX8_agrees_12 : decode cX8_agrees 12 = .ok (.iload 5, 2) := by decide +kernel
theorem dX8_agrees_14 : decode cX8_agrees 14 = .ok (.aload_n 0, 1) := by decide +kernel
theorem dX8_agrees_15 : decode cX8_agrees 15 = .ok (.getfield 41, 3) := by decide +kernel
theorem dX8_agrees_18 : decode cX8_agrees 18 = .ok (.getfield 247, 3) := by decide +kernel
theorem dX8_agrees_21 : decode cX8_agrees 21 = .ok (.if_icmp .ge 95, 3) := by decide +kernel
theorem dX8_agrees_24 : decode cX8_agrees 24 = .ok (.iload 5, 2) := by decide +kernel
theorem dX8_agrees_26 : decode cX8_agrees 26 = .ok (.bipush 20, 2) := by decide +kernel
theorem dX8_agrees_28 : decode cX8_agrees 28 = .ok (.if_icmp .ge 88, 3) := by decide +kernel
theorem dX8_agrees_31 : decode cX8_agrees 31 = .ok (.iload 5, 2) := by decide +kernel
theorem dX8_agrees_33 : decode cX8_agrees 33 = .ok (.bipush 6, 2) := by decide +kernel
theorem dX8_agrees_35 : decode cX8_agrees 35 = .ok (.imul, 1) := by decide +kernel
theorem dX8_agrees_36 : decode cX8_agrees 36 = .ok (.istore 6, 2) := by decide +kernel
theorem dX8_agrees_38 : decode cX8_agrees 38 = .ok (.aload 4, 2) := by decide +kernel
theorem dX8_agrees_40 : decode cX8_agrees 40 = .ok (.iload 6, 2) := by decide +kernel
theorem dX8_agrees_42 : decode cX8_agrees 42 = .ok (.iaload, 1) := by decide +kernel
theorem dX8_agrees_43 : decode cX8_agrees 43 = .ok (.iload_n 2, 1) := by decide +kernel
theorem dX8_agrees_44 : decode cX8_agrees 44 = .ok (.if_icmp .ne 66, 3) := by decide +kernel
theorem dX8_agrees_47 : decode cX8_agrees 47 = .ok (.aload_n 0, 1) := by decide +kernel
theorem dX8_agrees_48 : decode cX8_agrees 48 = .ok (.getfield 65, 3) := by decide +kernel
theorem dX8_agrees_51 : decode cX8_agrees 51 = .ok (.iload_n 1, 1) := by decide +kernel
theorem dX8_agrees_52 : decode cX8_agrees 52 = .ok (.iload_n 2, 1) := by decide +kernel
theorem dX8_agrees_53 : decode cX8_agrees 53 = .ok (.aload 4, 2) := by decide +kernel
theorem dX8_agrees_55 : decode cX8_agrees 55 = .ok (.iload 6, 2) := by decide +kernel
theorem dX8_agrees_57 : decode cX8_agrees 57 = .ok (.iconst 1, 1) := by decide +kernel
theorem dX8_agrees_58 : decode cX8_agrees 58 = .ok (.iadd, 1) := by decide +kernel
theorem dX8_agrees_59 : decode cX8_agrees 59 = .ok (.iaload, 1) := by decide +kernel
theorem dX8_agrees_60 : decode cX8_agrees 60 = .ok (.aload 4, 2) := by decide +kernel
theorem dX8_agrees_62 : decode cX8_agrees 62 = .ok (.iload 6, 2) := by decide +kernel
theorem dX8_agrees_64 : decode cX8_agrees 64 = .ok (.iconst 2, 1) := by decide +kernel
theorem dX8_agrees_65 : decode cX8_agrees 65 = .ok (.iadd, 1) := by decide +kernel
theorem dX8_agrees_66 : decode cX8_agrees 66 = .ok (.iaload, 1) := by decide +kernel
theorem dX8_agrees_67 : decode cX8_agrees 67 = .ok (.aload 4, 2) := by decide +kernel
theorem dX8_agrees_69 : decode cX8_agrees 69 = .ok (.iload 6, 2) := by decide +kernel
theorem dX8_agrees_71 : decode cX8_agrees 71 = .ok (.iconst 3, 1) := by decide +kernel
theorem dX8_agrees_72 : decode cX8_agrees 72 = .ok (.iadd, 1) := by decide +kernel
theorem dX8_agrees_73 : decode cX8_agrees 73 = .ok (.iaload, 1) := by decide +kernel
theorem dX8_agrees_74 : decode cX8_agrees 74 = .ok (.aload 4, 2) := by decide +kernel
theorem dX8_agrees_76 : decode cX8_agrees 76 = .ok (.iload 6, 2) := by decide +kernel
theorem dX8_agrees_78 : decode cX8_agrees 78 = .ok (.iconst 4, 1) := by decide +kernel
theorem dX8_agrees_79 : decode cX8_agrees 79 = .ok (.iadd, 1) := by decide +kernel
theorem dX8_agrees_80 : decode cX8_agrees 80 = .ok (.iaload, 1) := by decide +kernel
theorem dX8_agrees_81 : decode cX8_agrees 81 = .ok (.iload_n 3, 1) := by decide +kernel
theorem dX8_agrees_82 : decode cX8_agrees 82 = .ok (.invokevirtual 137, 3) := by decide +kernel
theorem dX8_agrees_85 : decode cX8_agrees 85 = .ok (.istore 7, 2) := by decide +kernel
theorem dX8_agrees_87 : decode cX8_agrees 87 = .ok (.iload 7, 2) := by decide +kernel
theorem dX8_agrees_89 : decode cX8_agrees 89 = .ok (.aload 4, 2) := by decide +kernel
theorem dX8_agrees_91 : decode cX8_agrees 91 = .ok (.iload 6, 2) := by decide +kernel
theorem dX8_agrees_93 : decode cX8_agrees 93 = .ok (.iconst 5, 1) := by decide +kernel
theorem dX8_agrees_94 : decode cX8_agrees 94 = .ok (.iadd, 1) := by decide +kernel
theorem dX8_agrees_95 : decode cX8_agrees 95 = .ok (.iaload, 1) := by decide +kernel
theorem dX8_agrees_96 : decode cX8_agrees 96 = .ok (.iconst 1, 1) := by decide +kernel
theorem dX8_agrees_97 : decode cX8_agrees 97 = .ok (.if_icmp .ne 7, 3) := by decide +kernel
theorem dX8_agrees_100 : decode cX8_agrees 100 = .ok (.iconst 1, 1) := by decide +kernel
theorem dX8_agrees_101 : decode cX8_agrees 101 = .ok (.goto 4, 3) := by decide +kernel
theorem dX8_agrees_104 : decode cX8_agrees 104 = .ok (.iconst 0, 1) := by decide +kernel
theorem dX8_agrees_105 : decode cX8_agrees 105 = .ok (.if_icmp .eq 5, 3) := by decide +kernel
theorem dX8_agrees_108 : decode cX8_agrees 108 = .ok (.iconst 0, 1) := by decide +kernel
theorem dX8_agrees_109 : decode cX8_agrees 109 = .ok (.ireturn, 1) := by decide +kernel
theorem dX8_agrees_110 : decode cX8_agrees 110 = .ok (.iinc 5 1, 3) := by decide +kernel
theorem dX8_agrees_113 : decode cX8_agrees 113 = .ok (.goto (-101), 3) := by decide +kernel
theorem dX8_agrees_116 : decode cX8_agrees 116 = .ok (.iconst 1, 1) := by decide +kernel
theorem dX8_agrees_117 : decode cX8_agrees 117 = .ok (.ireturn, 1) := by decide +kernel
theorem dX8_kept_0 : decode cX8_kept 0 = .ok (.aload_n 0, 1) := by decide +kernel
theorem dX8_kept_1 : decode cX8_kept 1 = .ok (.iload_n 1, 1) := by decide +kernel
theorem dX8_kept_2 : decode cX8_kept 2 = .ok (.invokevirtual 97, 3) := by decide +kernel
theorem dX8_kept_5 : decode cX8_kept 5 = .ok (.ifCond .eq 13, 3) := by decide +kernel
theorem dX8_kept_8 : decode cX8_kept 8 = .ok (.iload_n 2, 1) := by decide +kernel
theorem dX8_kept_9 : decode cX8_kept 9 = .ok (.iconst 0, 1) := by decide +kernel
theorem dX8_kept_10 : decode cX8_kept 10 = .ok (.bipush 9, 2) := by decide +kernel
theorem dX8_kept_12 : decode cX8_kept 12 = .ok (.invokestatic 86, 3) := by decide +kernel
theorem dX8_kept_15 : decode cX8_kept 15 = .ok (.ifCond .ne 5, 3) := by decide +kernel
theorem dX8_kept_18 : decode cX8_kept 18 = .ok (.iconst (-1), 1) := by decide +kernel
theorem dX8_kept_19 : decode cX8_kept 19 = .ok (.ireturn, 1) := by decide +kernel
theorem dX8_kept_20 : decode cX8_kept 20 = .ok (.aload_n 0, 1) := by decide +kernel
theorem dX8_kept_21 : decode cX8_kept 21 = .ok (.iconst (-1), 1) := by decide +kernel
theorem dX8_kept_22 : decode cX8_kept 22 = .ok (.iload_n 1, 1) := by decide +kernel
theorem dX8_kept_23 : decode cX8_kept 23 = .ok (.iload_n 2, 1) := by decide +kernel
theorem dX8_kept_24 : decode cX8_kept 24 = .ok (.invokevirtual 253, 3) := by decide +kernel
theorem dX8_kept_27 : decode cX8_kept 27 = .ok (.ifCond .eq 8, 3) := by decide +kernel
theorem dX8_kept_30 : decode cX8_kept 30 = .ok (.bipush 16, 2) := by decide +kernel
theorem dX8_kept_32 : decode cX8_kept 32 = .ok (.goto 4, 3) := by decide +kernel
theorem dX8_kept_35 : decode cX8_kept 35 = .ok (.iconst 0, 1) := by decide +kernel
theorem dX8_kept_36 : decode cX8_kept 36 = .ok (.istore_n 3, 1) := by decide +kernel
theorem dX8_kept_37 : decode cX8_kept 37 = .ok (.iconst 0, 1) := by decide +kernel
theorem dX8_kept_38 : decode cX8_kept 38 = .ok (.istore 4, 2) := by decide +kernel
theorem dX8_kept_40 : decode cX8_kept 40 = .ok (.iload 4, 2) := by decide +kernel
theorem dX8_kept_42 : decode cX8_kept 42 = .ok (.aload_n 0, 1) := by decide +kernel
theorem dX8_kept_43 : decode cX8_kept 43 = .ok (.getfield 41, 3) := by decide +kernel
theorem dX8_kept_46 : decode cX8_kept 46 = .ok (.getfield 117, 3) := by decide +kernel
theorem dX8_kept_49 : decode cX8_kept 49 = .ok (.if_icmp .ge 27, 3) := by decide +kernel
theorem dX8_kept_52 : decode cX8_kept 52 = .ok (.aload_n 0, 1) := by decide +kernel
theorem dX8_kept_53 : decode cX8_kept 53 = .ok (.iload 4, 2) := by decide +kernel
theorem dX8_kept_55 : decode cX8_kept 55 = .ok (.iload_n 1, 1) := by decide +kernel
theorem dX8_kept_56 : decode cX8_kept 56 = .ok (.iload_n 2, 1) := by decide +kernel
theorem dX8_kept_57 : decode cX8_kept 57 = .ok (.invokevirtual 253, 3) := by decide +kernel
theorem dX8_kept_60 : decode cX8_kept 60 = .ok (.ifCond .eq 10, 3) := by decide +kernel
theorem dX8_kept_63 : decode cX8_kept 63 = .ok (.iload_n 3, 1) := by decide +kernel
theorem dX8_kept_64 : decode cX8_kept 64 = .ok (.iconst 1, 1) := by decide +kernel
theorem dX8_kept_65 : decode cX8_kept 65 = .ok (.iload 4, 2) := by decide +kernel
theorem dX8_kept_67 : decode cX8_kept 67 = .ok (.ishl, 1) := by decide +kernel
theorem dX8_kept_68 : decode cX8_kept 68 = .ok (.ior, 1) := by decide +kernel
theorem dX8_kept_69 : decode cX8_kept 69 = .ok (.istore_n 3, 1) := by decide +kernel
theorem dX8_kept_70 : decode cX8_kept 70 = .ok (.iinc 4 1, 3) := by decide +kernel
theorem dX8_kept_73 : decode cX8_kept 73 = .ok (.goto (-33), 3) := by decide +kernel
theorem dX8_kept_76 : decode cX8_kept 76 = .ok (.iload_n 3, 1) := by decide +kernel
theorem dX8_kept_77 : decode cX8_kept 77 = .ok (.ireturn, 1) := by decide +kernel
theorem dX6_becomes_0 : decode cX6_becomes 0 = .ok (.aload_n 0, 1) := by decide +kernel
theorem dX6_becomes_1 : decode cX6_becomes 1 = .ok (.aload_n 1, 1) := by decide +kernel
theorem dX6_becomes_2 : decode cX6_becomes 2 = .ok (.getfield 15, 3) := by decide +kernel
theorem dX6_becomes_5 : decode cX6_becomes 5 = .ok (.putfield 15, 3) := by decide +kernel
theorem dX6_becomes_8 : decode cX6_becomes 8 = .ok (.aload_n 0, 1) := by decide +kernel
theorem dX6_becomes_9 : decode cX6_becomes 9 = .ok (.aload_n 1, 1) := by decide +kernel
theorem dX6_becomes_10 : decode cX6_becomes 10 = .ok (.getfield 19, 3) := by decide +kernel
theorem dX6_becomes_13 : decode cX6_becomes 13 = .ok (.putfield 19, 3) := by decide +kernel
theorem dX6_becomes_16 : decode cX6_becomes 16 = .ok (.aload_n 0, 1) := by decide +kernel
theorem dX6_becomes_17 : decode cX6_becomes 17 = .ok (.aload_n 1, 1) := by decide +kernel
theorem dX6_becomes_18 : decode cX6_becomes 18 = .ok (.getfield 25, 3) := by decide +kernel
theorem dX6_becomes_21 : decode cX6_becomes 21 = .ok (.putfield 25, 3) := by decide +kernel
theorem dX6_becomes_24 : decode cX6_becomes 24 = .ok (.aload_n 0, 1) := by decide +kernel
theorem dX6_becomes_25 : decode cX6_becomes 25 = .ok (.aload_n 1, 1) := by decide +kernel
theorem dX6_becomes_26 : decode cX6_becomes 26 = .ok (.getfield 22, 3) := by decide +kernel
theorem dX6_becomes_29 : decode cX6_becomes 29 = .ok (.putfield 22, 3) := by decide +kernel
theorem dX6_becomes_32 : decode cX6_becomes 32 = .ok (.aload_n 0, 1) := by decide +kernel
theorem dX6_becomes_33 : decode cX6_becomes 33 = .ok (.aload_n 1, 1) := by decide +kernel
theorem dX6_becomes_34 : decode cX6_becomes 34 = .ok (.getfield 28, 3) := by decide +kernel
theorem dX6_becomes_37 : decode cX6_becomes 37 = .ok (.putfield 28, 3) := by decide +kernel
theorem dX6_becomes_40 : decode cX6_becomes 40 = .ok (.aload_n 0, 1) := by decide +kernel
theorem dX6_becomes_41 : decode cX6_becomes 41 = .ok (.aload_n 1, 1) := by decide +kernel
theorem dX6_becomes_42 : decode cX6_becomes 42 = .ok (.getfield 31, 3) := by decide +kernel
theorem dX6_becomes_45 : decode cX6_becomes 45 = .ok (.putfield 31, 3) := by decide +kernel
theorem dX6_becomes_48 : decode cX6_becomes 48 = .ok (.aload_n 0, 1) := by decide +kernel
theorem dX6_becomes_49 : decode cX6_becomes 49 = .ok (.aload_n 1, 1) := by decide +kernel
theorem dX6_becomes_50 : decode cX6_becomes 50 = .ok (.getfield 34, 3) := by decide +kernel
theorem dX6_becomes_53 : decode cX6_becomes 53 = .ok (.putfield 34, 3) := by decide +kernel
theorem dX6_becomes_56 : decode cX6_becomes 56 = .ok (.aload_n 1, 1) := by decide +kernel
theorem dX6_becomes_57 : decode cX6_becomes 57 = .ok (.getfield 9, 3) := by decide +kernel
theorem dX6_becomes_60 : decode cX6_becomes 60 = .ok (.iconst 0, 1) := by decide +kernel
theorem dX6_becomes_61 : decode cX6_becomes 61 = .ok (.aload_n 0, 1) := by decide +kernel
theorem dX6_becomes_62 : decode cX6_becomes 62 = .ok (.getfield 9, 3) := by decide +kernel
theorem dX6_becomes_65 : decode cX6_becomes 65 = .ok (.iconst 0, 1) := by decide +kernel
theorem dX6_becomes_66 : decode cX6_becomes 66 = .ok (.bipush 30, 2) := by decide +kernel
theorem dX6_becomes_68 : decode cX6_becomes 68 = .ok (.invokestatic 43, 3) := by decide +kernel
theorem dX6_becomes_71 : decode cX6_becomes 71 = .ok (.return_, 1) := by decide +kernel
-- X0_roundsChanged
def J_X0_roundsChanged_91 (nd : Nat) (n : Nat) (v2 : Int32) (v3 : Int32) (v4 : Int32) (k0 : Bool) (k1 : Bool) (s : jS) : Option ((Bool × Int32 × jS) ⊕ (Bool × Int32 × jS)) :=
  (if jin v3 8 = true then (jl (upI s 52 (Int32.toNatClampNeg v3) v4) fun s100_6 => some (.inl ((k0 || k1), (v3 + 1), s100_6))) else none)
def B_X0_roundsChanged_59 (nd : Nat) (n : Nat) (v2 : Int32) (q : Bool × Int32 × jS) : Option ((Bool × Int32 × jS) ⊕ (Bool × Int32 × jS)) :=
  (if (q.2.2.1 51 1) ≤ q.2.1 then some (.inr (q.1, q.2.1, q.2.2)) else ((F_X0_bestRule nd n q.2.1 q.2.2).bind fun p69 => (if jin q.2.1 8 = true then (if p69.1 = (p69.2.1 52 (Int32.toNatClampNeg q.2.1)) then J_X0_roundsChanged_91 nd n v2 q.2.1 p69.1 q.1 false p69.2 else J_X0_roundsChanged_91 nd n v2 q.2.1 p69.1 q.1 true p69.2) else none)))
def B_X0_roundsChanged_27 (nd : Nat) (n : Nat) (q : Bool × Int32 × jS) : Option ((Bool × Int32 × jS) ⊕ (Bool × Int32 × jS)) :=
  (if 20 < q.2.1 then some (.inr (q.1, q.2.1, q.2.2)) else (if q.1 = true then ((F_X0_trialNumber n q.2.2).bind fun p45 => (if jin q.2.1 21 = true then (jl (upI q.2.2 53 (Int32.toNatClampNeg q.2.1) p45) fun s48_3 => ((F_X0_isPast n q.2.1 s48_3).bind fun p51 => (if p51 = true then some (.inl (false, (q.2.1 + 1), s48_3)) else ((lp (B_X0_roundsChanged_59 nd n q.2.1) n (false, 0, s48_3)).bind fun e59 => (if e59.1 = true then (jl (upI e59.2.2 51 6 (-2)) fun s118_8 => some (.inl (e59.1, (q.2.1 + 1), s118_8))) else (jl (upI e59.2.2 51 6 q.2.1) fun s118_7 => some (.inl (e59.1, (q.2.1 + 1), s118_7)))))))) else none)) else some (.inr (q.1, q.2.1, q.2.2))))
def F_X0_roundsChanged (nd : Nat) (n : Nat) (s : jS) : Option (Int32 × jS) :=
  (if (jz (s.1 51 7)) = true then some ((s.1 51 6), s) else ((F_X0_startTrial nd n true s).bind fun p14 => (jl (upI p14 51 6 (-2)) fun s20_1 => ((lp (B_X0_roundsChanged_27 nd n) n (true, 0, s20_1)).bind fun e27 => (jl (upI e27.2.2 51 7 (jb true)) fun s129_9 => some ((s129_9.1 51 6), s129_9))))))
def rm_X0_roundsChanged : Room := { frames := 6, cells := 0, slots := 0, locals := 150 }
set_option maxHeartbeats 4000000 in
set_option maxRecDepth 100000 in
theorem m_X0_roundsChanged {l : Launch} {D : va_G} {G : Nat → ClassId} {KV : jV} {ad : Nat → Nat} (nd : Nat) (n : Nat) (s : jS) {p : Int32 × jS} (h : F_X0_roundsChanged nd n s = some p) : jM l D G KV yX0_roundsChanged cX0_roundsChanged 5 (some .int) rm_X0_roundsChanged [.ref (ad 51)] (jw 54 (cellC G nd) ad s) 0 0 (fun v u => v = some (.int p.1) ∧ u = jw 54 (cellC G nd) ad p.2) := by
  refine jM.of (by decide) (Nat.le_of_ble_eq_true rfl) ?_
  intro K C
  unfold F_X0_roundsChanged at h
  have jn91_59 : ∀ (v2 : Int32) (v3 : Int32) (v4 : Int32) (k0 : Bool) (k1 : Bool) (s : jS) (o : (Bool × Int32 × jS) ⊕ (Bool × Int32 × jS)), J_X0_roundsChanged_91 nd n v2 v3 v4 k0 k1 s = some o → (∀ q, o = .inl q → K 0 0 (jw 54 (cellC G nd) ad q.2.2) 59 [(0, .ref (ad 51)), (1, .int (jb q.1)), (2, .int v2), (3, .int q.2.1)] []) → (∀ e, o = .inr e → K 0 0 (jw 54 (cellC G nd) ad e.2.2) 107 [(0, .ref (ad 51)), (1, .int (jb e.1)), (2, .int v2)] []) → K 0 0 (jw 54 (cellC G nd) ad s) 91 [(0, .ref (ad 51)), (2, .int v2), (3, .int v3), (4, .int v4)] [.int (jb k1), .int (jb k0)] := by
    intro v2 v3 v4 k0 k1 s o hb hin hout
    unfold J_X0_roundsChanged_91 at hb
    refine j_ior C dX0_roundsChanged_91 ?_
    rw [jb_or]
    refine j_istore_n C dX0_roundsChanged_92 (by decide) rfl ?_
    refine j_aload_n C dX0_roundsChanged_93 1 rfl ?_
    refine j_getW C dX0_roundsChanged_94 inX0 rfl (by decide) rfl 0 (by decide) w_316 rfl rfl ?_
    refine j_iload_n C dX0_roundsChanged_97 3 rfl ?_
    refine j_iload C dX0_roundsChanged_98 4 rfl ?_
    obtain ⟨c100_5, hb⟩ := jchk hb
    refine j_iastW C dX0_roundsChanged_100 (by decide) (fun _ => rfl) (jin_vp c100_5) (fun s100_6 hs100_6 => ?_)
    have hb := jlet hb hs100_6
    refine j_iinc C dX0_roundsChanged_101 3 rfl (v := (v3 + 1)) rfl (by decide) rfl ?_
    refine j_goto C dX0_roundsChanged_104 (tgt := 59) (by decide) ?_
    refine j_loc C [2, 1, 3, 0] rfl ?_
    have hx := hin _ (jinl hb)
    exact hx
  have lo59 : ∀ (v2 : Int32) (s : jS) (k : Nat) (q : Bool × Int32 × jS) (e : Bool × Int32 × jS), lp (B_X0_roundsChanged_59 nd n v2) k q = some e → K 0 0 (jw 54 (cellC G nd) ad e.2.2) 107 [(0, .ref (ad 51)), (1, .int (jb e.1)), (2, .int v2)] [] → K 0 0 (jw 54 (cellC G nd) ad q.2.2) 59 [(0, .ref (ad 51)), (1, .int (jb q.1)), (2, .int v2), (3, .int q.2.1)] [] := by
    intro v2 s k q e he hE
    refine jlp (KH := fun q => K 0 0 (jw 54 (cellC G nd) ad q.2.2) 59 [(0, .ref (ad 51)), (1, .int (jb q.1)), (2, .int v2), (3, .int q.2.1)] []) (KE := fun e => K 0 0 (jw 54 (cellC G nd) ad e.2.2) 107 [(0, .ref (ad 51)), (1, .int (jb e.1)), (2, .int v2)] []) ?_ k q e he hE
    intro q o hb hin hout
    unfold B_X0_roundsChanged_59 at hb
    show K 0 0 (jw 54 (cellC G nd) ad q.2.2) 59 [(0, .ref (ad 51)), (1, .int (jb q.1)), (2, .int v2), (3, .int q.2.1)] []
    refine j_iload_n C dX0_roundsChanged_59 3 rfl ?_
    refine j_aload_n C dX0_roundsChanged_60 0 rfl ?_
    refine j_getW C dX0_roundsChanged_61 inX0 rfl (by decide) rfl 1 (by decide) w_318 rfl rfl ?_
    refine j_icmp_ge C dX0_roundsChanged_64 (tgt := 107) (by decide) (fun cq => ?_) (fun cq => ?_)
    · have hb := jite_t hb cq
      refine j_loc C [0, 1, 2] rfl ?_
      have hx := hout _ (jinr hb)
      exact hx
    · have hb := jite_f hb cq
      refine j_aload_n C dX0_roundsChanged_67 0 rfl ?_
      refine j_iload_n C dX0_roundsChanged_68 3 rfl ?_
      obtain ⟨p69, he69, hb⟩ := jbind hb
      refine j_cV1 C dX0_roundsChanged_69 (m_X0_bestRule nd n q.2.1 q.2.2 he69) kc_X0_bestRule w_853 w_855 wp_39 w_10 jy_X0_bestRule ⟨⟨Nat.le_of_ble_eq_true rfl, Nat.le_of_ble_eq_true rfl⟩, ⟨rfl, rfl⟩, ⟨Nat.zero_le _, Nat.zero_le _⟩⟩ (Nat.le_of_ble_eq_true rfl) (by decide) rfl (r := (RX0, TX0, 8)) rfl rfl rfl (fun _ _ h => h) ?_
      refine j_istore C dX0_roundsChanged_72 (by decide) rfl ?_
      refine j_iload_n C dX0_roundsChanged_74 2 rfl ?_
      refine j_iload C dX0_roundsChanged_75 0 rfl ?_
      refine j_aload_n C dX0_roundsChanged_77 1 rfl ?_
      refine j_getW C dX0_roundsChanged_78 inX0 rfl (by decide) rfl 0 (by decide) w_316 rfl rfl ?_
      refine j_iload_n C dX0_roundsChanged_81 4 rfl ?_
      obtain ⟨c82_4, hb⟩ := jchk hb
      refine j_ialdW C dX0_roundsChanged_82 (by decide) rfl (jin_vp c82_4) ?_
      refine j_icmp_eq C dX0_roundsChanged_83 (tgt := 90) (by decide) (fun cq => ?_) (fun cq => ?_)
      · have hb := jite_t hb cq
        refine j_iconst C dX0_roundsChanged_90 (v := 0) (by decide) ?_
        refine j_loc C [1, 3, 4, 0] rfl ?_
        exact jn91_59 v2 q.2.1 p69.1 q.1 false p69.2   _ hb hin hout
      · have hb := jite_f hb cq
        refine j_iconst C dX0_roundsChanged_86 (v := 1) (by decide) ?_
        refine j_goto C dX0_roundsChanged_87 (tgt := 91) (by decide) ?_
        refine j_loc C [1, 3, 4, 0] rfl ?_
        exact jn91_59 v2 q.2.1 p69.1 q.1 true p69.2   _ hb hin hout
  have lo27 : ∀ (s : jS) (k : Nat) (q : Bool × Int32 × jS) (e : Bool × Int32 × jS), lp (B_X0_roundsChanged_27 nd n) k q = some e → K 0 0 (jw 54 (cellC G nd) ad e.2.2) 127 [(0, .ref (ad 51))] [] → K 0 0 (jw 54 (cellC G nd) ad q.2.2) 27 [(0, .ref (ad 51)), (1, .int (jb q.1)), (2, .int q.2.1)] [] := by
    intro s k q e he hE
    refine jlp (KH := fun q => K 0 0 (jw 54 (cellC G nd) ad q.2.2) 27 [(0, .ref (ad 51)), (1, .int (jb q.1)), (2, .int q.2.1)] []) (KE := fun e => K 0 0 (jw 54 (cellC G nd) ad e.2.2) 127 [(0, .ref (ad 51))] []) ?_ k q e he hE
    intro q o hb hin hout
    unfold B_X0_roundsChanged_27 at hb
    show K 0 0 (jw 54 (cellC G nd) ad q.2.2) 27 [(0, .ref (ad 51)), (1, .int (jb q.1)), (2, .int q.2.1)] []
    refine j_iload_n C dX0_roundsChanged_27 2 rfl ?_
    refine j_bipush C dX0_roundsChanged_28 (v := 20) (by decide) ?_
    refine j_icmp_gt C dX0_roundsChanged_30 (tgt := 127) (by decide) (fun cq => ?_) (fun cq => ?_)
    · have hb := jite_t hb cq
      refine j_loc C [0] rfl ?_
      have hx := hout _ (jinr hb)
      exact hx
    · have hb := jite_f hb cq
      refine j_iload_n C dX0_roundsChanged_33 1 rfl ?_
      refine j_if_eq C dX0_roundsChanged_34 (tgt := 127) (by decide) (fun cq => ?_) (fun cq => ?_)
      · have hb := jite_f hb (jb_f cq)
        refine j_loc C [0] rfl ?_
        have hx := hout _ (jinr hb)
        exact hx
      · have hb := jite_t hb (jb_t cq)
        refine j_iconst C dX0_roundsChanged_37 (v := 0) (by decide) ?_
        refine j_istore_n C dX0_roundsChanged_38 (by decide) rfl ?_
        refine j_aload_n C dX0_roundsChanged_39 1 rfl ?_
        refine j_getW C dX0_roundsChanged_40 inX0 rfl (by decide) rfl 5 (by decide) w_322 rfl rfl ?_
        refine j_iload_n C dX0_roundsChanged_43 2 rfl ?_
        refine j_aload_n C dX0_roundsChanged_44 1 rfl ?_
        obtain ⟨p45, he45, hb⟩ := jbind hb
        refine j_cV1 C dX0_roundsChanged_45 (m_X0_trialNumber n q.2.2 he45) kc_X0_trialNumber w_865 w_867 wp_40 w_10 jy_X0_trialNumber ⟨⟨Nat.le_of_ble_eq_true rfl, Nat.le_of_ble_eq_true rfl⟩, ⟨rfl, rfl⟩, ⟨Nat.zero_le _, Nat.zero_le _⟩⟩ (Nat.le_of_ble_eq_true rfl) (by decide) rfl (r := (RX0, TX0, 8)) rfl rfl rfl (fun _ _ h => h) ?_
        obtain ⟨c48_2, hb⟩ := jchk hb
        refine j_iastW C dX0_roundsChanged_48 (by decide) (fun _ => rfl) (jin_vp c48_2) (fun s48_3 hs48_3 => ?_)
        have hb := jlet hb hs48_3
        refine j_aload_n C dX0_roundsChanged_49 1 rfl ?_
        refine j_iload_n C dX0_roundsChanged_50 2 rfl ?_
        obtain ⟨p51, he51, hb⟩ := jbind hb
        refine j_cV1 C dX0_roundsChanged_51 (m_X0_isPast n q.2.1 s48_3 he51) kc_X0_isPast w_869 w_871 wp_41 w_10 jy_X0_isPast ⟨⟨Nat.le_of_ble_eq_true rfl, Nat.le_of_ble_eq_true rfl⟩, ⟨rfl, rfl⟩, ⟨Nat.zero_le _, Nat.zero_le _⟩⟩ (Nat.le_of_ble_eq_true rfl) (by decide) rfl (r := (RX0, TX0, 8)) rfl rfl rfl (fun _ _ h => h) ?_
        refine j_if_ne C dX0_roundsChanged_54 (tgt := 121) (by decide) (fun cq => ?_) (fun cq => ?_)
        · have hb := jite_t hb (jb_t cq)
          refine j_iinc C dX0_roundsChanged_121 2 rfl (v := (q.2.1 + 1)) rfl (by decide) rfl ?_
          refine j_goto C dX0_roundsChanged_124 (tgt := 27) (by decide) ?_
          refine j_loc C [2, 1, 0] rfl ?_
          have hx := hin _ (jinl hb)
          exact hx
        · have hb := jite_f hb (jb_f cq)
          refine j_iconst C dX0_roundsChanged_57 (v := 0) (by decide) ?_
          refine j_istore_n C dX0_roundsChanged_58 (by decide) rfl ?_
          refine j_loc C [2, 1, 3, 0] rfl ?_
          obtain ⟨e59, he59, hb⟩ := jbind hb
          refine lo59 q.2.1 s48_3  n (false, 0, s48_3) e59 he59 ?_
          refine j_aload_n C dX0_roundsChanged_107 0 rfl ?_
          refine j_iload_n C dX0_roundsChanged_108 1 rfl ?_
          refine j_if_eq C dX0_roundsChanged_109 (tgt := 117) (by decide) (fun cq => ?_) (fun cq => ?_)
          · have hb := jite_f hb (jb_f cq)
            refine j_iload_n C dX0_roundsChanged_117 2 rfl ?_
            refine j_putI C dX0_roundsChanged_118 inX0 tyX0 tyX0_ok nmX0 rfl (by decide) 6 rfl rfl (by decide) w_323 rfl rfl rfl rfl (Nat.le_of_ble_eq_true rfl) (fun s118_7 hs118_7 => ?_)
            have hb := jlet hb hs118_7
            refine j_iinc C dX0_roundsChanged_121 2 rfl (v := (q.2.1 + 1)) rfl (by decide) rfl ?_
            refine j_goto C dX0_roundsChanged_124 (tgt := 27) (by decide) ?_
            refine j_loc C [1, 2, 0] rfl ?_
            have hx := hin _ (jinl hb)
            exact hx
          · have hb := jite_t hb (jb_t cq)
            refine j_bipush C dX0_roundsChanged_112 (v := (-2)) (by decide) ?_
            refine j_goto C dX0_roundsChanged_114 (tgt := 118) (by decide) ?_
            refine j_putI C dX0_roundsChanged_118 inX0 tyX0 tyX0_ok nmX0 rfl (by decide) 6 rfl rfl (by decide) w_323 rfl rfl rfl rfl (Nat.le_of_ble_eq_true rfl) (fun s118_8 hs118_8 => ?_)
            have hb := jlet hb hs118_8
            refine j_iinc C dX0_roundsChanged_121 2 rfl (v := (q.2.1 + 1)) rfl (by decide) rfl ?_
            refine j_goto C dX0_roundsChanged_124 (tgt := 27) (by decide) ?_
            refine j_loc C [1, 2, 0] rfl ?_
            have hx := hin _ (jinl hb)
            exact hx
  show K 0 0 (jw 54 (cellC G nd) ad s) 0 [(0, .ref (ad 51))] []
  refine j_aload_n C dX0_roundsChanged_0 0 rfl ?_
  refine j_getW C dX0_roundsChanged_1 inX0 rfl (by decide) rfl 7 (by decide) w_324 rfl rfl ?_
  refine j_if_eq C dX0_roundsChanged_4 (tgt := 12) (by decide) (fun cq => ?_) (fun cq => ?_)
  · have h := jite_f h (jb_f cq)
    refine j_aload_n C dX0_roundsChanged_12 0 rfl ?_
    refine j_iconst C dX0_roundsChanged_13 (v := 1) (by decide) ?_
    obtain ⟨p14, he14, h⟩ := jbind h
    refine j_cV0 C dX0_roundsChanged_14 (m_X0_startTrial nd n true s he14) kc_X0_startTrial w_832 w_834 wp_37 w_10 jy_X0_startTrial ⟨⟨Nat.le_of_ble_eq_true rfl, Nat.le_of_ble_eq_true rfl⟩, ⟨rfl, rfl⟩, ⟨Nat.zero_le _, Nat.zero_le _⟩⟩ (Nat.le_of_ble_eq_true rfl) (by decide) rfl (r := (RX0, TX0, 8)) rfl rfl rfl (fun _ _ h => h) ?_
    refine j_aload_n C dX0_roundsChanged_17 0 rfl ?_
    refine j_bipush C dX0_roundsChanged_18 (v := (-2)) (by decide) ?_
    refine j_putI C dX0_roundsChanged_20 inX0 tyX0 tyX0_ok nmX0 rfl (by decide) 6 rfl rfl (by decide) w_323 rfl rfl rfl rfl (Nat.le_of_ble_eq_true rfl) (fun s20_1 hs20_1 => ?_)
    have h := jlet h hs20_1
    refine j_iconst C dX0_roundsChanged_23 (v := 1) (by decide) ?_
    refine j_istore_n C dX0_roundsChanged_24 (by decide) rfl ?_
    refine j_iconst C dX0_roundsChanged_25 (v := 0) (by decide) ?_
    refine j_istore_n C dX0_roundsChanged_26 (by decide) rfl ?_
    refine j_loc C [2, 1, 0] rfl ?_
    obtain ⟨e27, he27, h⟩ := jbind h
    refine lo27  s20_1  n (true, 0, s20_1) e27 he27 ?_
    refine j_aload_n C dX0_roundsChanged_127 0 rfl ?_
    refine j_iconst C dX0_roundsChanged_128 (v := 1) (by decide) ?_
    refine j_putI C dX0_roundsChanged_129 inX0 tyX0 tyX0_ok nmX0 rfl (by decide) 7 (x := jb true) rfl rfl (by decide) w_324 rfl rfl (jb_nar true) (jb_fit true) (Nat.le_of_ble_eq_true rfl) (fun s129_9 hs129_9 => ?_)
    have h := jlet h hs129_9
    refine j_aload_n C dX0_roundsChanged_132 0 rfl ?_
    refine j_getW C dX0_roundsChanged_133 inX0 rfl (by decide) rfl 6 (by decide) w_323 rfl rfl ?_
    exact j_iret C dX0_roundsChanged_136 rfl rfl (Nat.zero_le _) (Nat.zero_le _) (jretWI h)
  · have h := jite_t h (jb_t cq)
    refine j_aload_n C dX0_roundsChanged_7 0 rfl ?_
    refine j_getW C dX0_roundsChanged_8 inX0 rfl (by decide) rfl 6 (by decide) w_323 rfl rfl ?_
    exact j_iret C dX0_roundsChanged_11 rfl rfl (Nat.zero_le _) (Nat.zero_le _) (jretWI h)
-- X8_rounds
def J_X8_rounds_16 (nd : Nat) (n : Nat) (v1 : Int32) (s : jS) : Option (Int32 × jS) :=
  ((F_X0_roundsChanged nd n s).bind fun p20 => (if v1 = (-1) then some (p20.1, p20.2) else (if p20.1 = (-2) then some (p20.1, p20.2) else (if jin v1 8 = true then some ((p20.2.1 52 (Int32.toNatClampNeg v1)), p20.2) else none))))
def F_X8_rounds (nd : Nat) (n : Nat) (v1 : Int32) (s : jS) : Option (Int32 × jS) :=
  (if v1 = (-1) then J_X8_rounds_16 nd n v1 s else (if (F_X8_isDoor v1 s) = true then J_X8_rounds_16 nd n v1 s else some ((-2), s)))
def rm_X8_rounds : Room := { frames := 7, cells := 0, slots := 0, locals := 174 }
set_option maxHeartbeats 4000000 in
set_option maxRecDepth 100000 in
theorem m_X8_rounds {l : Launch} {D : va_G} {G : Nat → ClassId} {KV : jV} {ad : Nat → Nat} (nd : Nat) (n : Nat) (v1 : Int32) (s : jS) {p : Int32 × jS} (h : F_X8_rounds nd n v1 s = some p) : jM l D G KV yX8_rounds cX8_rounds 3 (some .int) rm_X8_rounds [.ref (ad 0), .int v1] (jw 54 (cellC G nd) ad s) 0 0 (fun v u => v = some (.int p.1) ∧ u = jw 54 (cellC G nd) ad p.2) := by
  refine jM.of (by decide) (Nat.le_of_ble_eq_true rfl) ?_
  intro K C
  unfold F_X8_rounds at h
  have jn16 : ∀ (v1 : Int32) (s : jS) (_ : J_X8_rounds_16 nd n v1 s = some p), K 0 0 (jw 54 (cellC G nd) ad s) 16 [(0, .ref (ad 0)), (1, .int v1)] [] := by
    intro v1 s h
    unfold J_X8_rounds_16 at h
    refine j_aload_n C dX8_rounds_16 0 rfl ?_
    refine j_getW C dX8_rounds_17 inX8 rfl (by decide) rfl 8 (by decide) w_350 rfl rfl ?_
    obtain ⟨p20, he20, h⟩ := jbind h
    refine j_cV1 C dX8_rounds_20 (m_X0_roundsChanged nd n s he20) kc_X0_roundsChanged w_861 w_862 w_863 w_10 jy_X0_roundsChanged ⟨⟨Nat.le_of_ble_eq_true rfl, Nat.le_of_ble_eq_true rfl⟩, ⟨rfl, rfl⟩, ⟨Nat.zero_le _, Nat.zero_le _⟩⟩ (Nat.le_of_ble_eq_true rfl) (by decide) rfl (r := (RX0, TX0, 8)) rfl rfl rfl (fun _ _ h => h) ?_
    refine j_istore_n C dX8_rounds_23 (by decide) rfl ?_
    refine j_iload_n C dX8_rounds_24 2 rfl ?_
    refine j_iconst C dX8_rounds_25 (v := (-1)) (by decide) ?_
    refine j_icmp_eq C dX8_rounds_26 (tgt := 35) (by decide) (fun cq => ?_) (fun cq => ?_)
    · have h := jite_t h cq
      refine j_iload_n C dX8_rounds_35 0 rfl ?_
      refine j_goto C dX8_rounds_36 (tgt := 48) (by decide) ?_
      exact j_iret C dX8_rounds_48 rfl rfl (Nat.zero_le _) (Nat.zero_le _) (jretWI h)
    · have h := jite_f h cq
      refine j_iload_n C dX8_rounds_29 0 rfl ?_
      refine j_bipush C dX8_rounds_30 (v := (-2)) (by decide) ?_
      refine j_icmp_ne C dX8_rounds_32 (tgt := 39) (by decide) (fun cq => ?_) (fun cq => ?_)
      · have h := jite_f h cq
        refine j_aload_n C dX8_rounds_39 1 rfl ?_
        refine j_getW C dX8_rounds_40 inX8 rfl (by decide) rfl 8 (by decide) w_350 rfl rfl ?_
        refine j_getW C dX8_rounds_43 inX0 rfl (by decide) rfl 0 (by decide) w_317 rfl rfl ?_
        refine j_iload_n C dX8_rounds_46 2 rfl ?_
        obtain ⟨c47_1, h⟩ := jchk h
        refine j_ialdW C dX8_rounds_47 (by decide) rfl (jin_vp c47_1) ?_
        exact j_iret C dX8_rounds_48 rfl rfl (Nat.zero_le _) (Nat.zero_le _) (jretWI h)
      · have h := jite_t h cq
        refine j_iload_n C dX8_rounds_35 0 rfl ?_
        refine j_goto C dX8_rounds_36 (tgt := 48) (by decide) ?_
        exact j_iret C dX8_rounds_48 rfl rfl (Nat.zero_le _) (Nat.zero_le _) (jretWI h)
  show K 0 0 (jw 54 (cellC G nd) ad s) 0 [(0, .ref (ad 0)), (1, .int v1)] []
  refine j_iload_n C dX8_rounds_0 1 rfl ?_
  refine j_iconst C dX8_rounds_1 (v := (-1)) (by decide) ?_
  refine j_icmp_eq C dX8_rounds_2 (tgt := 16) (by decide) (fun cq => ?_) (fun cq => ?_)
  · have h := jite_t h cq
    refine j_loc C [0, 1] rfl ?_
    exact jn16 v1 s  h
  · have h := jite_f h cq
    refine j_aload_n C dX8_rounds_5 0 rfl ?_
    refine j_iload_n C dX8_rounds_6 1 rfl ?_
    refine j_cV1 C dX8_rounds_7 (m_X8_isDoor v1 s rfl) kc_X8_isDoor w_396 w_398 wp_1 w_1 jy_X8_isDoor ⟨⟨Nat.le_of_ble_eq_true rfl, Nat.le_of_ble_eq_true rfl⟩, ⟨rfl, rfl⟩, ⟨Nat.zero_le _, Nat.zero_le _⟩⟩ (Nat.le_of_ble_eq_true rfl) (by decide) rfl (r := (RX8, TX8, 9)) rfl rfl rfl (fun _ _ h => h) ?_
    refine j_if_ne C dX8_rounds_10 (tgt := 16) (by decide) (fun cq => ?_) (fun cq => ?_)
    · have h := jite_t h (jb_t cq)
      refine j_loc C [0, 1] rfl ?_
      exact jn16 v1 s  h
    · have h := jite_f h (jb_f cq)
      refine j_bipush C dX8_rounds_13 (v := (-2)) (by decide) ?_
      exact j_iret C dX8_rounds_15 rfl rfl (Nat.zero_le _) (Nat.zero_le _) (jretWI h)
-- X8_seen
def J_X8_seen_126 (k1 : Int32) (k2 : Bool) (s : jS) : Option (Int32 × jS) :=
  (if jin k1 120 = true then (jl (upI s 24 (Int32.toNatClampNeg k1) (jb k2)) fun s126_12 => (jl (upI s126_12 18 9 ((s126_12.1 18 9) + 1)) fun s137_13 => some ((s137_13.1 18 9), s137_13))) else none)
def F_X8_seen (v1 : Int32) (v2 : Int32) (v3 : Int32) (v4 : Int32) (v5 : Int32) (v6 : Bool) (s : jS) : Option (Int32 × jS) :=
  (if (F_X8_isKnock v1 v2 v3 v4 v5 s) = true then (if (s.1 18 9) < 20 then (if jin ((s.1 18 9) * 6) 120 = true then (jl (upI s 24 (Int32.toNatClampNeg ((s.1 18 9) * 6)) v1) fun s50_2 => (if jin (((s.1 18 9) * 6) + 1) 120 = true then (jl (upI s50_2 24 (Int32.toNatClampNeg (((s.1 18 9) * 6) + 1)) v2) fun s63_4 => (if jin (((s.1 18 9) * 6) + 2) 120 = true then (jl (upI s63_4 24 (Int32.toNatClampNeg (((s.1 18 9) * 6) + 2)) v3) fun s76_6 => (if jin (((s.1 18 9) * 6) + 3) 120 = true then (jl (upI s76_6 24 (Int32.toNatClampNeg (((s.1 18 9) * 6) + 3)) v4) fun s90_8 => (if jin (((s.1 18 9) * 6) + 4) 120 = true then (jl (upI s90_8 24 (Int32.toNatClampNeg (((s.1 18 9) * 6) + 4)) v5) fun s104_10 => (if v6 = true then J_X8_seen_126 (((s.1 18 9) * 6) + 5) true s104_10 else J_X8_seen_126 (((s.1 18 9) * 6) + 5) false s104_10)) else none)) else none)) else none)) else none)) else none) else some ((-1), s)) else some ((-1), s))
def rm_X8_seen : Room := { frames := 3, cells := 0, slots := 0, locals := 68 }
set_option maxHeartbeats 4000000 in
set_option maxRecDepth 100000 in
theorem m_X8_seen {l : Launch} {D : va_G} {G : Nat → ClassId} {KV : jV} {ad : Nat → Nat} {nd : Nat} (v1 : Int32) (v2 : Int32) (v3 : Int32) (v4 : Int32) (v5 : Int32) (v6 : Bool) (s : jS) {p : Int32 × jS} (h : F_X8_seen v1 v2 v3 v4 v5 v6 s = some p) : jM l D G KV yX8_seen cX8_seen 8 (some .int) rm_X8_seen [.ref (ad 0), .int v1, .int v2, .int v3, .int v4, .int v5, .int (jb v6)] (jw 54 (cellC G nd) ad s) 0 0 (fun v u => v = some (.int p.1) ∧ u = jw 54 (cellC G nd) ad p.2) := by
  refine jM.of (by decide) (Nat.le_of_ble_eq_true rfl) ?_
  intro K C
  unfold F_X8_seen at h
  have jn126 : ∀ (k1 : Int32) (k2 : Bool) (s : jS) (_ : J_X8_seen_126 k1 k2 s = some p), K 0 0 (jw 54 (cellC G nd) ad s) 126 [(0, .ref (ad 0))] [.int (jb k2), .int k1, .ref (ad 24)] := by
    intro k1 k2 s h
    unfold J_X8_seen_126 at h
    obtain ⟨c126_11, h⟩ := jchk h
    refine j_iastW C dX8_seen_126 (by decide) (fun _ => rfl) (jin_vp c126_11) (fun s126_12 hs126_12 => ?_)
    have h := jlet h hs126_12
    refine j_aload_n C dX8_seen_127 0 rfl ?_
    refine j_getW C dX8_seen_128 inX8 rfl (by decide) rfl 1 (by decide) w_343 rfl rfl ?_
    refine j_dup C dX8_seen_131 rfl ?_
    refine j_getW C dX8_seen_132 inX2 rfl (by decide) rfl 9 (by decide) w_143 rfl rfl ?_
    refine j_iconst C dX8_seen_135 (v := 1) (by decide) ?_
    refine j_iadd C dX8_seen_136 ?_
    refine j_putI C dX8_seen_137 inX2 tyX2 tyX2_ok nmX2 rfl (by decide) 9 rfl rfl (by decide) w_143 rfl rfl rfl rfl (Nat.le_of_ble_eq_true rfl) (fun s137_13 hs137_13 => ?_)
    have h := jlet h hs137_13
    refine j_aload_n C dX8_seen_140 0 rfl ?_
    refine j_getW C dX8_seen_141 inX8 rfl (by decide) rfl 1 (by decide) w_343 rfl rfl ?_
    refine j_getW C dX8_seen_144 inX2 rfl (by decide) rfl 9 (by decide) w_143 rfl rfl ?_
    exact j_iret C dX8_seen_147 rfl rfl (Nat.zero_le _) (Nat.zero_le _) (jretWI h)
  show K 0 0 (jw 54 (cellC G nd) ad s) 0 [(0, .ref (ad 0)), (1, .int v1), (2, .int v2), (3, .int v3), (4, .int v4), (5, .int v5), (6, .int (jb v6))] []
  refine j_aload_n C dX8_seen_0 0 rfl ?_
  refine j_iload_n C dX8_seen_1 1 rfl ?_
  refine j_iload_n C dX8_seen_2 2 rfl ?_
  refine j_iload_n C dX8_seen_3 3 rfl ?_
  refine j_iload C dX8_seen_4 4 rfl ?_
  refine j_iload C dX8_seen_6 5 rfl ?_
  refine j_cV1 C dX8_seen_8 (m_X8_isKnock v1 v2 v3 v4 v5 s rfl) kc_X8_isKnock w_642 w_644 wp_23 w_1 jy_X8_isKnock ⟨⟨Nat.le_of_ble_eq_true rfl, Nat.le_of_ble_eq_true rfl⟩, ⟨rfl, rfl⟩, ⟨Nat.zero_le _, Nat.zero_le _⟩⟩ (Nat.le_of_ble_eq_true rfl) (by decide) rfl (r := (RX8, TX8, 9)) rfl rfl rfl (fun _ _ h => h) ?_
  refine j_if_eq C dX8_seen_11 (tgt := 26) (by decide) (fun cq => ?_) (fun cq => ?_)
  · have h := jite_f h (jb_f cq)
    refine j_iconst C dX8_seen_26 (v := (-1)) (by decide) ?_
    exact j_iret C dX8_seen_27 rfl rfl (Nat.zero_le _) (Nat.zero_le _) (jretWI h)
  · have h := jite_t h (jb_t cq)
    refine j_aload_n C dX8_seen_14 0 rfl ?_
    refine j_getW C dX8_seen_15 inX8 rfl (by decide) rfl 1 (by decide) w_343 rfl rfl ?_
    refine j_getW C dX8_seen_18 inX2 rfl (by decide) rfl 9 (by decide) w_143 rfl rfl ?_
    refine j_bipush C dX8_seen_21 (v := 20) (by decide) ?_
    refine j_icmp_lt C dX8_seen_23 (tgt := 28) (by decide) (fun cq => ?_) (fun cq => ?_)
    · have h := jite_t h cq
      refine j_aload_n C dX8_seen_28 0 rfl ?_
      refine j_getW C dX8_seen_29 inX8 rfl (by decide) rfl 1 (by decide) w_343 rfl rfl ?_
      refine j_getW C dX8_seen_32 inX2 rfl (by decide) rfl 9 (by decide) w_143 rfl rfl ?_
      refine j_bipush C dX8_seen_35 (v := 6) (by decide) ?_
      refine j_imul C dX8_seen_37 ?_
      refine j_istore C dX8_seen_38 (by decide) rfl ?_
      refine j_aload_n C dX8_seen_40 1 rfl ?_
      refine j_getW C dX8_seen_41 inX8 rfl (by decide) rfl 1 (by decide) w_343 rfl rfl ?_
      refine j_getW C dX8_seen_44 inX2 rfl (by decide) rfl 5 (by decide) w_132 rfl rfl ?_
      refine j_iload C dX8_seen_47 0 rfl ?_
      refine j_iload_n C dX8_seen_49 2 rfl ?_
      obtain ⟨c50_1, h⟩ := jchk h
      refine j_iastW C dX8_seen_50 (by decide) (fun _ => rfl) (jin_vp c50_1) (fun s50_2 hs50_2 => ?_)
      have h := jlet h hs50_2
      refine j_aload_n C dX8_seen_51 1 rfl ?_
      refine j_getW C dX8_seen_52 inX8 rfl (by decide) rfl 1 (by decide) w_343 rfl rfl ?_
      refine j_getW C dX8_seen_55 inX2 rfl (by decide) rfl 5 (by decide) w_132 rfl rfl ?_
      refine j_iload C dX8_seen_58 0 rfl ?_
      refine j_iconst C dX8_seen_60 (v := 1) (by decide) ?_
      refine j_iadd C dX8_seen_61 ?_
      refine j_iload_n C dX8_seen_62 3 rfl ?_
      obtain ⟨c63_3, h⟩ := jchk h
      refine j_iastW C dX8_seen_63 (by decide) (fun _ => rfl) (jin_vp c63_3) (fun s63_4 hs63_4 => ?_)
      have h := jlet h hs63_4
      refine j_aload_n C dX8_seen_64 1 rfl ?_
      refine j_getW C dX8_seen_65 inX8 rfl (by decide) rfl 1 (by decide) w_343 rfl rfl ?_
      refine j_getW C dX8_seen_68 inX2 rfl (by decide) rfl 5 (by decide) w_132 rfl rfl ?_
      refine j_iload C dX8_seen_71 0 rfl ?_
      refine j_iconst C dX8_seen_73 (v := 2) (by decide) ?_
      refine j_iadd C dX8_seen_74 ?_
      refine j_iload_n C dX8_seen_75 4 rfl ?_
      obtain ⟨c76_5, h⟩ := jchk h
      refine j_iastW C dX8_seen_76 (by decide) (fun _ => rfl) (jin_vp c76_5) (fun s76_6 hs76_6 => ?_)
      have h := jlet h hs76_6
      refine j_aload_n C dX8_seen_77 1 rfl ?_
      refine j_getW C dX8_seen_78 inX8 rfl (by decide) rfl 1 (by decide) w_343 rfl rfl ?_
      refine j_getW C dX8_seen_81 inX2 rfl (by decide) rfl 5 (by decide) w_132 rfl rfl ?_
      refine j_iload C dX8_seen_84 0 rfl ?_
      refine j_iconst C dX8_seen_86 (v := 3) (by decide) ?_
      refine j_iadd C dX8_seen_87 ?_
      refine j_iload C dX8_seen_88 5 rfl ?_
      obtain ⟨c90_7, h⟩ := jchk h
      refine j_iastW C dX8_seen_90 (by decide) (fun _ => rfl) (jin_vp c90_7) (fun s90_8 hs90_8 => ?_)
      have h := jlet h hs90_8
      refine j_aload_n C dX8_seen_91 1 rfl ?_
      refine j_getW C dX8_seen_92 inX8 rfl (by decide) rfl 1 (by decide) w_343 rfl rfl ?_
      refine j_getW C dX8_seen_95 inX2 rfl (by decide) rfl 5 (by decide) w_132 rfl rfl ?_
      refine j_iload C dX8_seen_98 0 rfl ?_
      refine j_iconst C dX8_seen_100 (v := 4) (by decide) ?_
      refine j_iadd C dX8_seen_101 ?_
      refine j_iload C dX8_seen_102 6 rfl ?_
      obtain ⟨c104_9, h⟩ := jchk h
      refine j_iastW C dX8_seen_104 (by decide) (fun _ => rfl) (jin_vp c104_9) (fun s104_10 hs104_10 => ?_)
      have h := jlet h hs104_10
      refine j_aload_n C dX8_seen_105 1 rfl ?_
      refine j_getW C dX8_seen_106 inX8 rfl (by decide) rfl 1 (by decide) w_343 rfl rfl ?_
      refine j_getW C dX8_seen_109 inX2 rfl (by decide) rfl 5 (by decide) w_132 rfl rfl ?_
      refine j_iload C dX8_seen_112 0 rfl ?_
      refine j_iconst C dX8_seen_114 (v := 5) (by decide) ?_
      refine j_iadd C dX8_seen_115 ?_
      refine j_iload C dX8_seen_116 7 rfl ?_
      refine j_if_eq C dX8_seen_118 (tgt := 125) (by decide) (fun cq => ?_) (fun cq => ?_)
      · have h := jite_f h (jb_f cq)
        refine j_iconst C dX8_seen_125 (v := 0) (by decide) ?_
        refine j_loc C [1] rfl ?_
        exact jn126 (((s.1 18 9) * 6) + 5) false s104_10  h
      · have h := jite_t h (jb_t cq)
        refine j_iconst C dX8_seen_121 (v := 1) (by decide) ?_
        refine j_goto C dX8_seen_122 (tgt := 126) (by decide) ?_
        refine j_loc C [1] rfl ?_
        exact jn126 (((s.1 18 9) * 6) + 5) true s104_10  h
    · have h := jite_f h cq
      refine j_iconst C dX8_seen_26 (v := (-1)) (by decide) ?_
      exact j_iret C dX8_seen_27 rfl rfl (Nat.zero_le _) (Nat.zero_le _) (jretWI h)
-- X8_agrees
def J_X8_agrees_105 (n : Nat) (v1 : Int32) (v2 : Int32) (v3 : Int32) (v5 : Int32) (k0 : Bool) (k1 : Bool) (s : jS) : Option ((Int32 × jS) ⊕ ((Int32 × jS) ⊕ ((Bool × jS)))) :=
  (if (jb k0) = (jb k1) then some (.inl ((v5 + 1), s)) else some (.inr (.inr (false, s))))
def B_X8_agrees_12 (n : Nat) (v1 : Int32) (v2 : Int32) (v3 : Int32) (q : Int32 × jS) : Option ((Int32 × jS) ⊕ ((Int32 × jS) ⊕ ((Bool × jS)))) :=
  (if (q.2.1 18 9) ≤ q.1 then some (.inr (.inl (q.1, q.2))) else (if 20 ≤ q.1 then some (.inr (.inl (q.1, q.2))) else (if jin (q.1 * 6) 120 = true then (if (q.2.1 24 (Int32.toNatClampNeg (q.1 * 6))) = v2 then (if jin ((q.1 * 6) + 1) 120 = true then (if jin ((q.1 * 6) + 2) 120 = true then (if jin ((q.1 * 6) + 3) 120 = true then (if jin ((q.1 * 6) + 4) 120 = true then ((F_X3_opensBy n v1 v2 (q.2.1 24 (Int32.toNatClampNeg ((q.1 * 6) + 1))) (q.2.1 24 (Int32.toNatClampNeg ((q.1 * 6) + 2))) (q.2.1 24 (Int32.toNatClampNeg ((q.1 * 6) + 3))) (q.2.1 24 (Int32.toNatClampNeg ((q.1 * 6) + 4))) v3 q.2).bind fun p82 => (if jin ((q.1 * 6) + 5) 120 = true then (if (p82.2.1 24 (Int32.toNatClampNeg ((q.1 * 6) + 5))) = 1 then J_X8_agrees_105 n v1 v2 v3 q.1 p82.1 true p82.2 else J_X8_agrees_105 n v1 v2 v3 q.1 p82.1 false p82.2) else none)) else none) else none) else none) else none) else some (.inl ((q.1 + 1), q.2))) else none)))
def F_X8_agrees (n : Nat) (v1 : Int32) (v2 : Int32) (v3 : Int32) (s : jS) : Option (Bool × jS) :=
  ((lp (B_X8_agrees_12 n v1 v2 v3) n (0, s)).bind fun e => Sum.elim (fun e12 => some (true, e12.2)) (fun r12 => some r12) e)
def rm_X8_agrees : Room := { frames := 3, cells := 0, slots := 0, locals := 76 }
set_option maxHeartbeats 4000000 in
set_option maxRecDepth 100000 in
theorem m_X8_agrees {l : Launch} {D : va_G} {G : Nat → ClassId} {KV : jV} {ad : Nat → Nat} {nd : Nat} (n : Nat) (v1 : Int32) (v2 : Int32) (v3 : Int32) (s : jS) {p : Bool × jS} (h : F_X8_agrees n v1 v2 v3 s = some p) : jM l D G KV yX8_agrees cX8_agrees 8 (some .boolean) rm_X8_agrees [.ref (ad 0), .int v1, .int v2, .int v3] (jw 54 (cellC G nd) ad s) 0 0 (fun v u => v = some (.int (jb p.1)) ∧ u = jw 54 (cellC G nd) ad p.2) := by
  refine jM.of (by decide) (Nat.le_of_ble_eq_true rfl) ?_
  intro K C
  unfold F_X8_agrees at h
  have jn105_12 : ∀ (v1 : Int32) (v2 : Int32) (v3 : Int32) (v5 : Int32) (k0 : Bool) (k1 : Bool) (s : jS) (o : (Int32 × jS) ⊕ ((Int32 × jS) ⊕ ((Bool × jS)))), J_X8_agrees_105 n v1 v2 v3 v5 k0 k1 s = some o → (∀ q, o = .inl q → K 0 0 (jw 54 (cellC G nd) ad q.2) 12 [(0, .ref (ad 0)), (1, .int v1), (2, .int v2), (3, .int v3), (4, .ref (ad 24)), (5, .int q.1)] []) → (∀ e, o = .inr e → Sum.elim (fun e => K 0 0 (jw 54 (cellC G nd) ad e.2) 116 [] []) (fun r => some r = some p) e) → K 0 0 (jw 54 (cellC G nd) ad s) 105 [(0, .ref (ad 0)), (1, .int v1), (2, .int v2), (3, .int v3), (4, .ref (ad 24)), (5, .int v5)] [.int (jb k1), .int (jb k0)] := by
    intro v1 v2 v3 v5 k0 k1 s o hb hin hout
    unfold J_X8_agrees_105 at hb
    refine j_icmp_eq C dX8_agrees_105 (tgt := 110) (by decide) (fun cq => ?_) (fun cq => ?_)
    · have hb := jite_t hb cq
      refine j_iinc C dX8_agrees_110 5 rfl (v := (v5 + 1)) rfl (by decide) rfl ?_
      refine j_goto C dX8_agrees_113 (tgt := 12) (by decide) ?_
      refine j_loc C [1, 2, 3, 4, 5, 0] rfl ?_
      have hx := hin _ (jinl hb)
      exact hx
    · have hb := jite_f hb cq
      refine j_iconst C dX8_agrees_108 (v := 0) (by decide) ?_
      exact j_iret C dX8_agrees_109 rfl (jb_nar false) (Nat.zero_le _) (Nat.zero_le _) (jretWB (jretL hb hout))
  have lo12 : ∀ (v1 : Int32) (v2 : Int32) (v3 : Int32) (s : jS) (k : Nat) (q : Int32 × jS) (e : (Int32 × jS) ⊕ ((Bool × jS))), lp (B_X8_agrees_12 n v1 v2 v3) k q = some e → Sum.elim (fun e => K 0 0 (jw 54 (cellC G nd) ad e.2) 116 [] []) (fun r => some r = some p) e → K 0 0 (jw 54 (cellC G nd) ad q.2) 12 [(0, .ref (ad 0)), (1, .int v1), (2, .int v2), (3, .int v3), (4, .ref (ad 24)), (5, .int q.1)] [] := by
    intro v1 v2 v3 s k q e he hE
    refine jlp (KH := fun q => K 0 0 (jw 54 (cellC G nd) ad q.2) 12 [(0, .ref (ad 0)), (1, .int v1), (2, .int v2), (3, .int v3), (4, .ref (ad 24)), (5, .int q.1)] []) (KE := fun e => Sum.elim (fun e => K 0 0 (jw 54 (cellC G nd) ad e.2) 116 [] []) (fun r => some r = some p) e) ?_ k q e he hE
    intro q o hb hin hout
    unfold B_X8_agrees_12 at hb
    show K 0 0 (jw 54 (cellC G nd) ad q.2) 12 [(0, .ref (ad 0)), (1, .int v1), (2, .int v2), (3, .int v3), (4, .ref (ad 24)), (5, .int q.1)] []
    refine j_iload C dX8_agrees_12 5 rfl ?_
    refine j_aload_n C dX8_agrees_14 0 rfl ?_
    refine j_getW C dX8_agrees_15 inX8 rfl (by decide) rfl 1 (by decide) w_343 rfl rfl ?_
    refine j_getW C dX8_agrees_18 inX2 rfl (by decide) rfl 9 (by decide) w_143 rfl rfl ?_
    refine j_icmp_ge C dX8_agrees_21 (tgt := 116) (by decide) (fun cq => ?_) (fun cq => ?_)
    · have hb := jite_t hb cq
      refine j_loc C [] rfl ?_
      have hx := hout _ (jinr hb)
      exact hx
    · have hb := jite_f hb cq
      refine j_iload C dX8_agrees_24 5 rfl ?_
      refine j_bipush C dX8_agrees_26 (v := 20) (by decide) ?_
      refine j_icmp_ge C dX8_agrees_28 (tgt := 116) (by decide) (fun cq => ?_) (fun cq => ?_)
      · have hb := jite_t hb cq
        refine j_loc C [] rfl ?_
        have hx := hout _ (jinr hb)
        exact hx
      · have hb := jite_f hb cq
        refine j_iload C dX8_agrees_31 5 rfl ?_
        refine j_bipush C dX8_agrees_33 (v := 6) (by decide) ?_
        refine j_imul C dX8_agrees_35 ?_
        refine j_istore C dX8_agrees_36 (by decide) rfl ?_
        refine j_aload C dX8_agrees_38 5 rfl ?_
        refine j_iload C dX8_agrees_40 0 rfl ?_
        obtain ⟨c42_1, hb⟩ := jchk hb
        refine j_ialdW C dX8_agrees_42 (by decide) rfl (jin_vp c42_1) ?_
        refine j_iload_n C dX8_agrees_43 3 rfl ?_
        refine j_icmp_ne C dX8_agrees_44 (tgt := 110) (by decide) (fun cq => ?_) (fun cq => ?_)
        · have hb := jite_f hb cq
          refine j_iinc C dX8_agrees_110 6 rfl (v := (q.1 + 1)) rfl (by decide) rfl ?_
          refine j_goto C dX8_agrees_113 (tgt := 12) (by decide) ?_
          refine j_loc C [2, 3, 4, 5, 6, 0] rfl ?_
          have hx := hin _ (jinl hb)
          exact hx
        · have hb := jite_t hb cq
          refine j_aload_n C dX8_agrees_47 1 rfl ?_
          refine j_getW C dX8_agrees_48 inX8 rfl (by decide) rfl 6 (by decide) w_348 rfl rfl ?_
          refine j_iload_n C dX8_agrees_51 2 rfl ?_
          refine j_iload_n C dX8_agrees_52 3 rfl ?_
          refine j_aload C dX8_agrees_53 5 rfl ?_
          refine j_iload C dX8_agrees_55 0 rfl ?_
          refine j_iconst C dX8_agrees_57 (v := 1) (by decide) ?_
          refine j_iadd C dX8_agrees_58 ?_
          obtain ⟨c59_2, hb⟩ := jchk hb
          refine j_ialdW C dX8_agrees_59 (by decide) rfl (jin_vp c59_2) ?_
          refine j_aload C dX8_agrees_60 5 rfl ?_
          refine j_iload C dX8_agrees_62 0 rfl ?_
          refine j_iconst C dX8_agrees_64 (v := 2) (by decide) ?_
          refine j_iadd C dX8_agrees_65 ?_
          obtain ⟨c66_3, hb⟩ := jchk hb
          refine j_ialdW C dX8_agrees_66 (by decide) rfl (jin_vp c66_3) ?_
          refine j_aload C dX8_agrees_67 5 rfl ?_
          refine j_iload C dX8_agrees_69 0 rfl ?_
          refine j_iconst C dX8_agrees_71 (v := 3) (by decide) ?_
          refine j_iadd C dX8_agrees_72 ?_
          obtain ⟨c73_4, hb⟩ := jchk hb
          refine j_ialdW C dX8_agrees_73 (by decide) rfl (jin_vp c73_4) ?_
          refine j_aload C dX8_agrees_74 5 rfl ?_
          refine j_iload C dX8_agrees_76 0 rfl ?_
          refine j_iconst C dX8_agrees_78 (v := 4) (by decide) ?_
          refine j_iadd C dX8_agrees_79 ?_
          obtain ⟨c80_5, hb⟩ := jchk hb
          refine j_ialdW C dX8_agrees_80 (by decide) rfl (jin_vp c80_5) ?_
          refine j_iload_n C dX8_agrees_81 4 rfl ?_
          obtain ⟨p82, he82, hb⟩ := jbind hb
          refine j_cV1 C dX8_agrees_82 (m_X3_opensBy n v1 v2 (q.2.1 24 (Int32.toNatClampNeg ((q.1 * 6) + 1))) (q.2.1 24 (Int32.toNatClampNeg ((q.1 * 6) + 2))) (q.2.1 24 (Int32.toNatClampNeg ((q.1 * 6) + 3))) (q.2.1 24 (Int32.toNatClampNeg ((q.1 * 6) + 4))) v3 q.2 he82) kc_X3_opensBy w_646 w_647 w_648 w_7 jy_X3_opensBy ⟨⟨Nat.le_of_ble_eq_true rfl, Nat.le_of_ble_eq_true rfl⟩, ⟨rfl, rfl⟩, ⟨Nat.zero_le _, Nat.zero_le _⟩⟩ (Nat.le_of_ble_eq_true rfl) (by decide) rfl (r := (RX3, TX3, 7)) rfl rfl rfl (fun _ _ h => h) ?_
          refine j_istore C dX8_agrees_85 (by decide) rfl ?_
          refine j_iload C dX8_agrees_87 0 rfl ?_
          refine j_aload C dX8_agrees_89 6 rfl ?_
          refine j_iload C dX8_agrees_91 1 rfl ?_
          refine j_iconst C dX8_agrees_93 (v := 5) (by decide) ?_
          refine j_iadd C dX8_agrees_94 ?_
          obtain ⟨c95_6, hb⟩ := jchk hb
          refine j_ialdW C dX8_agrees_95 (by decide) rfl (jin_vp c95_6) ?_
          refine j_iconst C dX8_agrees_96 (v := 1) (by decide) ?_
          refine j_icmp_ne C dX8_agrees_97 (tgt := 104) (by decide) (fun cq => ?_) (fun cq => ?_)
          · have hb := jite_f hb cq
            refine j_iconst C dX8_agrees_104 (v := 0) (by decide) ?_
            refine j_loc C [2, 3, 4, 5, 6, 7] rfl ?_
            exact jn105_12 v1 v2 v3 q.1 p82.1 false p82.2   _ hb hin hout
          · have hb := jite_t hb cq
            refine j_iconst C dX8_agrees_100 (v := 1) (by decide) ?_
            refine j_goto C dX8_agrees_101 (tgt := 105) (by decide) ?_
            refine j_loc C [2, 3, 4, 5, 6, 7] rfl ?_
            exact jn105_12 v1 v2 v3 q.1 p82.1 true p82.2   _ hb hin hout
  show K 0 0 (jw 54 (cellC G nd) ad s) 0 [(0, .ref (ad 0)), (1, .int v1), (2, .int v2), (3, .int v3)] []
  refine j_aload_n C dX8_agrees_0 0 rfl ?_
  refine j_getW C dX8_agrees_1 inX8 rfl (by decide) rfl 1 (by decide) w_343 rfl rfl ?_
  refine j_getW C dX8_agrees_4 inX2 rfl (by decide) rfl 5 (by decide) w_132 rfl rfl ?_
  refine j_astore C dX8_agrees_7 (by decide) rfl ?_
  refine j_iconst C dX8_agrees_9 (v := 0) (by decide) ?_
  refine j_istore C dX8_agrees_10 (by decide) rfl ?_
  refine j_loc C [2, 3, 4, 5, 1, 0] rfl ?_
  obtain ⟨e12, he12, h⟩ := jbind h
  refine lo12 v1 v2 v3 s  n (0, s) e12 he12 ?_
  rcases e12 with e12 | r12
  · show K _ _ _ _ _ _
    refine j_iconst C dX8_agrees_116 (v := 1) (by decide) ?_
    exact j_iret C dX8_agrees_117 rfl (jb_nar true) (Nat.zero_le _) (Nat.zero_le _) (jretWB h)
  · exact h
-- X8_kept
def B_X8_kept_40 (n : Nat) (v1 : Int32) (v2 : Int32) (q : Int32 × Int32 × jS) : Option ((Int32 × Int32 × jS) ⊕ (Int32 × Int32 × jS)) :=
  (if (q.2.2.1 18 7) ≤ q.2.1 then some (.inr (q.1, q.2.1, q.2.2)) else ((F_X8_agrees n q.2.1 v1 v2 q.2.2).bind fun p57 => (if p57.1 = true then some (.inl ((q.1 ||| ((1 : Int32) <<< (q.2.1 &&& 31))), (q.2.1 + 1), p57.2)) else some (.inl (q.1, (q.2.1 + 1), p57.2)))))
def F_X8_kept (n : Nat) (v1 : Int32) (v2 : Int32) (s : jS) : Option (Int32 × jS) :=
  (if (F_X8_isDoor v1 s) = true then (if (F_X8_within v2 0 9) = true then ((F_X8_agrees n (-1) v1 v2 s).bind fun p24 => (if p24.1 = true then ((lp (B_X8_kept_40 n v1 v2) n (16, 0, p24.2)).bind fun e40 => some (e40.1, e40.2.2)) else ((lp (B_X8_kept_40 n v1 v2) n (0, 0, p24.2)).bind fun e40 => some (e40.1, e40.2.2)))) else some ((-1), s)) else some ((-1), s))
def rm_X8_kept : Room := { frames := 4, cells := 0, slots := 0, locals := 103 }
set_option maxHeartbeats 4000000 in
set_option maxRecDepth 100000 in
theorem m_X8_kept {l : Launch} {D : va_G} {G : Nat → ClassId} {KV : jV} {ad : Nat → Nat} {nd : Nat} (n : Nat) (v1 : Int32) (v2 : Int32) (s : jS) {p : Int32 × jS} (h : F_X8_kept n v1 v2 s = some p) : jM l D G KV yX8_kept cX8_kept 5 (some .int) rm_X8_kept [.ref (ad 0), .int v1, .int v2] (jw 54 (cellC G nd) ad s) 0 0 (fun v u => v = some (.int p.1) ∧ u = jw 54 (cellC G nd) ad p.2) := by
  refine jM.of (by decide) (Nat.le_of_ble_eq_true rfl) ?_
  intro K C
  unfold F_X8_kept at h
  have lo40 : ∀ (v1 : Int32) (v2 : Int32) (s : jS) (k : Nat) (q : Int32 × Int32 × jS) (e : Int32 × Int32 × jS), lp (B_X8_kept_40 n v1 v2) k q = some e → K 0 0 (jw 54 (cellC G nd) ad e.2.2) 76 [(3, .int e.1)] [] → K 0 0 (jw 54 (cellC G nd) ad q.2.2) 40 [(0, .ref (ad 0)), (1, .int v1), (2, .int v2), (3, .int q.1), (4, .int q.2.1)] [] := by
    intro v1 v2 s k q e he hE
    refine jlp (KH := fun q => K 0 0 (jw 54 (cellC G nd) ad q.2.2) 40 [(0, .ref (ad 0)), (1, .int v1), (2, .int v2), (3, .int q.1), (4, .int q.2.1)] []) (KE := fun e => K 0 0 (jw 54 (cellC G nd) ad e.2.2) 76 [(3, .int e.1)] []) ?_ k q e he hE
    intro q o hb hin hout
    unfold B_X8_kept_40 at hb
    show K 0 0 (jw 54 (cellC G nd) ad q.2.2) 40 [(0, .ref (ad 0)), (1, .int v1), (2, .int v2), (3, .int q.1), (4, .int q.2.1)] []
    refine j_iload C dX8_kept_40 4 rfl ?_
    refine j_aload_n C dX8_kept_42 0 rfl ?_
    refine j_getW C dX8_kept_43 inX8 rfl (by decide) rfl 1 (by decide) w_343 rfl rfl ?_
    refine j_getW C dX8_kept_46 inX2 rfl (by decide) rfl 7 (by decide) w_138 rfl rfl ?_
    refine j_icmp_ge C dX8_kept_49 (tgt := 76) (by decide) (fun cq => ?_) (fun cq => ?_)
    · have hb := jite_t hb cq
      refine j_loc C [3] rfl ?_
      have hx := hout _ (jinr hb)
      exact hx
    · have hb := jite_f hb cq
      refine j_aload_n C dX8_kept_52 0 rfl ?_
      refine j_iload C dX8_kept_53 4 rfl ?_
      refine j_iload_n C dX8_kept_55 1 rfl ?_
      refine j_iload_n C dX8_kept_56 2 rfl ?_
      obtain ⟨p57, he57, hb⟩ := jbind hb
      refine j_cV1 C dX8_kept_57 (m_X8_agrees n q.2.1 v1 v2 q.2.2 he57) kc_X8_agrees w_881 w_883 wp_42 w_1 jy_X8_agrees ⟨⟨Nat.le_of_ble_eq_true rfl, Nat.le_of_ble_eq_true rfl⟩, ⟨rfl, rfl⟩, ⟨Nat.zero_le _, Nat.zero_le _⟩⟩ (Nat.le_of_ble_eq_true rfl) (by decide) rfl (r := (RX8, TX8, 9)) rfl rfl rfl (fun _ _ h => h) ?_
      refine j_if_eq C dX8_kept_60 (tgt := 70) (by decide) (fun cq => ?_) (fun cq => ?_)
      · have hb := jite_f hb (jb_f cq)
        refine j_iinc C dX8_kept_70 4 rfl (v := (q.2.1 + 1)) rfl (by decide) rfl ?_
        refine j_goto C dX8_kept_73 (tgt := 40) (by decide) ?_
        refine j_loc C [1, 2, 3, 4, 0] rfl ?_
        have hx := hin _ (jinl hb)
        exact hx
      · have hb := jite_t hb (jb_t cq)
        refine j_iload_n C dX8_kept_63 3 rfl ?_
        refine j_iconst C dX8_kept_64 (v := 1) (by decide) ?_
        refine j_iload C dX8_kept_65 4 rfl ?_
        refine j_ishl C dX8_kept_67 ?_
        refine j_ior C dX8_kept_68 ?_
        refine j_istore_n C dX8_kept_69 (by decide) rfl ?_
        refine j_iinc C dX8_kept_70 4 rfl (v := (q.2.1 + 1)) rfl (by decide) rfl ?_
        refine j_goto C dX8_kept_73 (tgt := 40) (by decide) ?_
        refine j_loc C [2, 3, 4, 1, 0] rfl ?_
        have hx := hin _ (jinl hb)
        exact hx
  show K 0 0 (jw 54 (cellC G nd) ad s) 0 [(0, .ref (ad 0)), (1, .int v1), (2, .int v2)] []
  refine j_aload_n C dX8_kept_0 0 rfl ?_
  refine j_iload_n C dX8_kept_1 1 rfl ?_
  refine j_cV1 C dX8_kept_2 (m_X8_isDoor v1 s rfl) kc_X8_isDoor w_396 w_398 wp_1 w_1 jy_X8_isDoor ⟨⟨Nat.le_of_ble_eq_true rfl, Nat.le_of_ble_eq_true rfl⟩, ⟨rfl, rfl⟩, ⟨Nat.zero_le _, Nat.zero_le _⟩⟩ (Nat.le_of_ble_eq_true rfl) (by decide) rfl (r := (RX8, TX8, 9)) rfl rfl rfl (fun _ _ h => h) ?_
  refine j_if_eq C dX8_kept_5 (tgt := 18) (by decide) (fun cq => ?_) (fun cq => ?_)
  · have h := jite_f h (jb_f cq)
    refine j_iconst C dX8_kept_18 (v := (-1)) (by decide) ?_
    exact j_iret C dX8_kept_19 rfl rfl (Nat.zero_le _) (Nat.zero_le _) (jretWI h)
  · have h := jite_t h (jb_t cq)
    refine j_iload_n C dX8_kept_8 2 rfl ?_
    refine j_iconst C dX8_kept_9 (v := 0) (by decide) ?_
    refine j_bipush C dX8_kept_10 (v := 9) (by decide) ?_
    refine j_cS1 C dX8_kept_12 (m_X8_within v2 0 9 rfl) kc_X8_within w_377 w_378 w_1 jy_X8_within ⟨⟨Nat.le_of_ble_eq_true rfl, Nat.le_of_ble_eq_true rfl⟩, ⟨rfl, rfl⟩, ⟨Nat.zero_le _, Nat.zero_le _⟩⟩ (Nat.le_of_ble_eq_true rfl) rfl (fun _ _ h => h) ?_
    refine j_if_ne C dX8_kept_15 (tgt := 20) (by decide) (fun cq => ?_) (fun cq => ?_)
    · have h := jite_t h (jb_t cq)
      refine j_aload_n C dX8_kept_20 0 rfl ?_
      refine j_iconst C dX8_kept_21 (v := (-1)) (by decide) ?_
      refine j_iload_n C dX8_kept_22 1 rfl ?_
      refine j_iload_n C dX8_kept_23 2 rfl ?_
      obtain ⟨p24, he24, h⟩ := jbind h
      refine j_cV1 C dX8_kept_24 (m_X8_agrees n (-1) v1 v2 s he24) kc_X8_agrees w_881 w_883 wp_42 w_1 jy_X8_agrees ⟨⟨Nat.le_of_ble_eq_true rfl, Nat.le_of_ble_eq_true rfl⟩, ⟨rfl, rfl⟩, ⟨Nat.zero_le _, Nat.zero_le _⟩⟩ (Nat.le_of_ble_eq_true rfl) (by decide) rfl (r := (RX8, TX8, 9)) rfl rfl rfl (fun _ _ h => h) ?_
      refine j_if_eq C dX8_kept_27 (tgt := 35) (by decide) (fun cq => ?_) (fun cq => ?_)
      · have h := jite_f h (jb_f cq)
        refine j_iconst C dX8_kept_35 (v := 0) (by decide) ?_
        refine j_istore_n C dX8_kept_36 (by decide) rfl ?_
        refine j_iconst C dX8_kept_37 (v := 0) (by decide) ?_
        refine j_istore C dX8_kept_38 (by decide) rfl ?_
        refine j_loc C [2, 3, 4, 1, 0] rfl ?_
        obtain ⟨e40, he40, h⟩ := jbind h
        refine lo40 v1 v2 p24.2  n (0, 0, p24.2) e40 he40 ?_
        refine j_iload_n C dX8_kept_76 0 rfl ?_
        exact j_iret C dX8_kept_77 rfl rfl (Nat.zero_le _) (Nat.zero_le _) (jretWI h)
      · have h := jite_t h (jb_t cq)
        refine j_bipush C dX8_kept_30 (v := 16) (by decide) ?_
        refine j_goto C dX8_kept_32 (tgt := 36) (by decide) ?_
        refine j_istore_n C dX8_kept_36 (by decide) rfl ?_
        refine j_iconst C dX8_kept_37 (v := 0) (by decide) ?_
        refine j_istore C dX8_kept_38 (by decide) rfl ?_
        refine j_loc C [2, 3, 4, 1, 0] rfl ?_
        obtain ⟨e40, he40, h⟩ := jbind h
        refine lo40 v1 v2 p24.2  n (16, 0, p24.2) e40 he40 ?_
        refine j_iload_n C dX8_kept_76 0 rfl ?_
        exact j_iret C dX8_kept_77 rfl rfl (Nat.zero_le _) (Nat.zero_le _) (jretWI h)
    · have h := jite_f h (jb_f cq)
      refine j_iconst C dX8_kept_18 (v := (-1)) (by decide) ?_
      exact j_iret C dX8_kept_19 rfl rfl (Nat.zero_le _) (Nat.zero_le _) (jretWI h)
-- X6_becomes_47_25
def F_X6_becomes_47_25 (s : jS) : Option jS :=
  (jl (upI s 47 0 (s.1 25 0)) fun s5_1 => (jl (upI s5_1 47 1 (s5_1.1 25 1)) fun s13_2 => (jl (upI s13_2 47 2 (s13_2.1 25 2)) fun s21_3 => (jl (upI s21_3 47 3 (s21_3.1 25 3)) fun s29_4 => (jl (upI s29_4 47 4 (s29_4.1 25 4)) fun s37_5 => (jl (upI s37_5 47 5 (s37_5.1 25 5)) fun s45_6 => (jl (upI s45_6 47 6 (s45_6.1 25 6)) fun s53_7 => (jl (upR s53_7 48 (va_cpy (s53_7.1 26) (s53_7.1 48) (Int32.toNatClampNeg 0) (Int32.toNatClampNeg 0) (Int32.toNatClampNeg 30))) fun s68_8 => some s68_8))))))))
def rm_X6_becomes_47_25 : Room := { frames := 1, cells := 0, slots := 0, locals := 26 }
set_option maxHeartbeats 4000000 in
set_option maxRecDepth 100000 in
theorem m_X6_becomes_47_25 {l : Launch} {D : va_G} {G : Nat → ClassId} {KV : jV} {ad : Nat → Nat} {nd : Nat} (s : jS) {p : jS} (h : F_X6_becomes_47_25 s = some p) : jM l D G KV yX6_becomes cX6_becomes 2 none rm_X6_becomes_47_25 [.ref (ad 47), .ref (ad 25)] (jw 54 (cellC G nd) ad s) 0 0 (fun v u => v = none ∧ u = jw 54 (cellC G nd) ad p) := by
  refine jM.of (by decide) (Nat.le_of_ble_eq_true rfl) ?_
  intro K C
  unfold F_X6_becomes_47_25 at h
  show K 0 0 (jw 54 (cellC G nd) ad s) 0 [(0, .ref (ad 47)), (1, .ref (ad 25))] []
  refine j_aload_n C dX6_becomes_0 0 rfl ?_
  refine j_aload_n C dX6_becomes_1 1 rfl ?_
  refine j_getW C dX6_becomes_2 inX6 rfl (by decide) rfl 0 (by decide) w_83 rfl rfl ?_
  refine j_putI C dX6_becomes_5 inX6 tyX6 tyX6_ok nmX6 rfl (by decide) 0 rfl rfl (by decide) w_83 rfl rfl rfl rfl (Nat.le_of_ble_eq_true rfl) (fun s5_1 hs5_1 => ?_)
  have h := jlet h hs5_1
  refine j_aload_n C dX6_becomes_8 0 rfl ?_
  refine j_aload_n C dX6_becomes_9 1 rfl ?_
  refine j_getW C dX6_becomes_10 inX6 rfl (by decide) rfl 1 (by decide) w_85 rfl rfl ?_
  refine j_putI C dX6_becomes_13 inX6 tyX6 tyX6_ok nmX6 rfl (by decide) 1 rfl rfl (by decide) w_85 rfl rfl rfl rfl (Nat.le_of_ble_eq_true rfl) (fun s13_2 hs13_2 => ?_)
  have h := jlet h hs13_2
  refine j_aload_n C dX6_becomes_16 0 rfl ?_
  refine j_aload_n C dX6_becomes_17 1 rfl ?_
  refine j_getW C dX6_becomes_18 inX6 rfl (by decide) rfl 2 (by decide) w_87 rfl rfl ?_
  refine j_putI C dX6_becomes_21 inX6 tyX6 tyX6_ok nmX6 rfl (by decide) 2 rfl rfl (by decide) w_87 rfl rfl rfl rfl (Nat.le_of_ble_eq_true rfl) (fun s21_3 hs21_3 => ?_)
  have h := jlet h hs21_3
  refine j_aload_n C dX6_becomes_24 0 rfl ?_
  refine j_aload_n C dX6_becomes_25 1 rfl ?_
  refine j_getW C dX6_becomes_26 inX6 rfl (by decide) rfl 3 (by decide) w_89 rfl rfl ?_
  refine j_putI C dX6_becomes_29 inX6 tyX6 tyX6_ok nmX6 rfl (by decide) 3 rfl rfl (by decide) w_89 rfl rfl rfl rfl (Nat.le_of_ble_eq_true rfl) (fun s29_4 hs29_4 => ?_)
  have h := jlet h hs29_4
  refine j_aload_n C dX6_becomes_32 0 rfl ?_
  refine j_aload_n C dX6_becomes_33 1 rfl ?_
  refine j_getW C dX6_becomes_34 inX6 rfl (by decide) rfl 4 (by decide) w_91 rfl rfl ?_
  refine j_putI C dX6_becomes_37 inX6 tyX6 tyX6_ok nmX6 rfl (by decide) 4 rfl rfl (by decide) w_91 rfl rfl rfl rfl (Nat.le_of_ble_eq_true rfl) (fun s37_5 hs37_5 => ?_)
  have h := jlet h hs37_5
  refine j_aload_n C dX6_becomes_40 0 rfl ?_
  refine j_aload_n C dX6_becomes_41 1 rfl ?_
  refine j_getW C dX6_becomes_42 inX6 rfl (by decide) rfl 5 (by decide) w_93 rfl rfl ?_
  refine j_putI C dX6_becomes_45 inX6 tyX6 tyX6_ok nmX6 rfl (by decide) 5 rfl rfl (by decide) w_93 rfl rfl rfl rfl (Nat.le_of_ble_eq_true rfl) (fun s45_6 hs45_6 => ?_)
  have h := jlet h hs45_6
  refine j_aload_n C dX6_becomes_48 0 rfl ?_
  refine j_aload_n C dX6_becomes_49 1 rfl ?_
  refine j_getW C dX6_becomes_50 inX6 rfl (by decide) rfl 6 (by decide) w_95 rfl rfl ?_
  refine j_putI C dX6_becomes_53 inX6 tyX6 tyX6_ok nmX6 rfl (by decide) 6 rfl rfl (by decide) w_95 rfl rfl rfl rfl (Nat.le_of_ble_eq_true rfl) (fun s53_7 hs53_7 => ?_)
  have h := jlet h hs53_7
  refine j_aload_n C dX6_becomes_56 1 rfl ?_
  refine j_getW C dX6_becomes_57 inX6 rfl (by decide) rfl 7 (by decide) w_97 rfl rfl ?_
  refine j_iconst C dX6_becomes_60 (v := 0) (by decide) ?_
  refine j_aload_n C dX6_becomes_61 0 rfl ?_
  refine j_getW C dX6_becomes_62 inX6 rfl (by decide) rfl 7 (by decide) w_97 rfl rfl ?_
  refine j_iconst C dX6_becomes_65 (v := 0) (by decide) ?_
  refine j_bipush C dX6_becomes_66 (v := 30) (by decide) ?_
  refine j_copyI C dX6_becomes_68 w_700 w_702 w_701 w_16 (by decide) (by decide) (fun _ => rfl) (fun _ => rfl) (by decide) (by decide) (by decide) (by decide) (by decide) (Nat.le_of_ble_eq_true rfl) (Nat.le_of_ble_eq_true rfl) (fun s68_8 hs68_8 => ?_)
  have h := jlet h hs68_8
  exact j_vret C dX6_becomes_71 rfl (Nat.zero_le _) (Nat.zero_le _) (jretWV h)
