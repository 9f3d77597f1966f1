theorem dX9_clause_0 : decode cX9_clause 0 = .ok (.aload_n 0, 1) := by decide +kernel
theorem dX9_clause_1 : decode cX9_clause 1 = .ok (.invokevirtual 198, 3) := by decide +kernel
theorem dX9_clause_4 : decode cX9_clause 4 = .ok (.istore_n 1, 1) := by decide +kernel
theorem dX9_clause_5 : decode cX9_clause 5 = .ok (.iload_n 1, 1) := by decide +kernel
theorem dX9_clause_6 : decode cX9_clause 6 = .ok (.ifCond .ge 5, 3) := by decide +kernel
theorem dX9_clause_9 : decode cX9_clause 9 = .ok (.iconst 1, 1) := by decide +kernel
theorem dX9_clause_10 : decode cX9_clause 10 = .ok (.ireturn, 1) := by decide +kernel
theorem dX9_clause_11 : decode cX9_clause 11 = .ok (.iload_n 1, 1) := by decide +kernel
theorem dX9_clause_12 : decode cX9_clause 12 = .ok (.ifCond .ne 12, 3) := by decide +kernel
theorem dX9_clause_15 : decode cX9_clause 15 = .ok (.aload_n 0, 1) := by decide +kernel
theorem dX9_clause_16 : decode cX9_clause 16 = .ok (.getfield 201, 3) := by decide +kernel
theorem dX9_clause_19 : decode cX9_clause 19 = .ok (.ifCond .eq 5, 3) := by decide +kernel
theorem dX9_clause_22 : decode cX9_clause 22 = .ok (.iconst 4, 1) := by decide +kernel
theorem dX9_clause_23 : decode cX9_clause 23 = .ok (.ireturn, 1) := by decide +kernel
theorem dX9_clause_24 : decode cX9_clause 24 = .ok (.aload_n 0, 1) := by decide +kernel
theorem dX9_clause_25 : decode cX9_clause 25 = .ok (.getfield 16, 3) := by decide +kernel
theorem dX9_clause_28 : decode cX9_clause 28 = .ok (.aload_n 0, 1) := by decide +kernel
theorem dX9_clause_29 : decode cX9_clause 29 = .ok (.getfield 122, 3) := by decide +kernel
theorem dX9_clause_32 : decode cX9_clause 32 = .ok (.iaload, 1) := by decide +kernel
theorem dX9_clause_33 : decode cX9_clause 33 = .ok (.istore_n 2, 1) := by decide +kernel
theorem dX9_clause_34 : decode cX9_clause 34 = .ok (.iload_n 2, 1) := by decide +kernel
theorem dX9_clause_35 : decode cX9_clause 35 = .ok (.bipush 24, 2) := by decide +kernel
theorem dX9_clause_37 : decode cX9_clause 37 = .ok (.if_icmp .ne 5, 3) := by decide +kernel
theorem dX9_clause_40 : decode cX9_clause 40 = .ok (.iconst 5, 1) := by decide +kernel
theorem dX9_clause_41 : decode cX9_clause 41 = .ok (.ireturn, 1) := by decide +kernel
theorem dX9_clause_42 : decode cX9_clause 42 = .ok (.aload_n 0, 1) := by decide +kernel
theorem dX9_clause_43 : decode cX9_clause 43 = .ok (.aload_n 0, 1) := by decide +kernel
theorem dX9_clause_44 : decode cX9_clause 44 = .ok (.getfield 201, 3) := by decide +kernel
theorem dX9_clause_47 : decode cX9_clause 47 = .ok (.ifCond .ne 7, 3) := by decide +kernel
theorem dX9_clause_50 : decode cX9_clause 50 = .ok (.iload_n 1, 1) := by decide +kernel
theorem dX9_clause_51 : decode cX9_clause 51 = .ok (.ifCond .ne 7, 3) := by decide +kernel
theorem dX9_clause_54 : decode cX9_clause 54 = .ok (.iconst 1, 1) := by decide +kernel
theorem dX9_clause_55 : decode cX9_clause 55 = .ok (.goto 4, 3) := by decide +kernel
theorem dX9_clause_58 : decode cX9_clause 58 = .ok (.iconst 0, 1) := by decide +kernel
theorem dX9_clause_59 : decode cX9_clause 59 = .ok (.putfield 201, 3) := by decide +kernel
theorem dX9_clause_62 : decode cX9_clause 62 = .ok (.aload_n 0, 1) := by decide +kernel
theorem dX9_clause_63 : decode cX9_clause 63 = .ok (.invokevirtual 150, 3) := by decide +kernel
theorem dX9_clause_66 : decode cX9_clause 66 = .ok (.aload_n 0, 1) := by decide +kernel
theorem dX9_clause_67 : decode cX9_clause 67 = .ok (.getfield 122, 3) := by decide +kernel
theorem dX9_clause_70 : decode cX9_clause 70 = .ok (.iconst 1, 1) := by decide +kernel
theorem dX9_clause_71 : decode cX9_clause 71 = .ok (.iadd, 1) := by decide +kernel
theorem dX9_clause_72 : decode cX9_clause 72 = .ok (.iconst 3, 1) := by decide +kernel
theorem dX9_clause_73 : decode cX9_clause 73 = .ok (.iload_n 2, 1) := by decide +kernel
theorem dX9_clause_74 : decode cX9_clause 74 = .ok (.imul, 1) := by decide +kernel
theorem dX9_clause_75 : decode cX9_clause 75 = .ok (.iadd, 1) := by decide +kernel
theorem dX9_clause_76 : decode cX9_clause 76 = .ok (.istore_n 3, 1) := by decide +kernel
theorem dX9_clause_77 : decode cX9_clause 77 = .ok (.aload_n 0, 1) := by decide +kernel
theorem dX9_clause_78 : decode cX9_clause 78 = .ok (.getfield 16, 3) := by decide +kernel
theorem dX9_clause_81 : decode cX9_clause 81 = .ok (.iload_n 3, 1) := by decide +kernel
theorem dX9_clause_82 : decode cX9_clause 82 = .ok (.iload_n 1, 1) := by decide +kernel
theorem dX9_clause_83 : decode cX9_clause 83 = .ok (.iastore, 1) := by decide +kernel
theorem dX9_clause_84 : decode cX9_clause 84 = .ok (.aload_n 0, 1) := by decide +kernel
theorem dX9_clause_85 : decode cX9_clause 85 = .ok (.getfield 125, 3) := by decide +kernel
theorem dX9_clause_88 : decode cX9_clause 88 = .ok (.istore 4, 2) := by decide +kernel
theorem dX9_clause_90 : decode cX9_clause 90 = .ok (.iload_n 1, 1) := by decide +kernel
theorem dX9_clause_91 : decode cX9_clause 91 = .ok (.ifCond .ne 10, 3) := by decide +kernel
theorem dX9_clause_94 : decode cX9_clause 94 = .ok (.aload_n 0, 1) := by decide +kernel
theorem dX9_clause_95 : decode cX9_clause 95 = .ok (.invokevirtual 204, 3) := by decide +kernel
theorem dX9_clause_98 : decode cX9_clause 98 = .ok (.goto 26, 3) := by decide +kernel
theorem dX9_clause_101 : decode cX9_clause 101 = .ok (.iload_n 1, 1) := by decide +kernel
theorem dX9_clause_102 : decode cX9_clause 102 = .ok (.iconst 1, 1) := by decide +kernel
theorem dX9_clause_103 : decode cX9_clause 103 = .ok (.if_icmp .ne 11, 3) := by decide +kernel
theorem dX9_clause_106 : decode cX9_clause 106 = .ok (.aload_n 0, 1) := by decide +kernel
theorem dX9_clause_107 : decode cX9_clause 107 = .ok (.iload_n 3, 1) := by decide +kernel
theorem dX9_clause_108 : decode cX9_clause 108 = .ok (.invokevirtual 207, 3) := by decide +kernel
theorem dX9_clause_111 : decode cX9_clause 111 = .ok (.goto 13, 3) := by decide +kernel
theorem dX9_clause_114 : decode cX9_clause 114 = .ok (.aload_n 0, 1) := by decide +kernel
theorem dX9_clause_115 : decode cX9_clause 115 = .ok (.iload_n 3, 1) := by decide +kernel
theorem dX9_clause_116 : decode cX9_clause 116 = .ok (.iconst 1, 1) := by decide +kernel
theorem dX9_clause_117 : decode cX9_clause 117 = .ok (.iadd, 1) := by decide +kernel
theorem dX9_clause_118 : decode cX9_clause 118 = .ok (.iconst 0, 1) := by decide +kernel
theorem dX9_clause_119 : decode cX9_clause 119 = .ok (.bipush 24, 2) := by decide +kernel
theorem dX9_clause_121 : decode cX9_clause 121 = .ok (.invokevirtual 194, 3) := by decide +kernel
theorem dX9_clause_124 : decode cX9_clause 124 = .ok (.istore 5, 2) := by decide +kernel
theorem dX9_clause_126 : decode cX9_clause 126 = .ok (.iload 5, 2) := by decide +kernel
theorem dX9_clause_128 : decode cX9_clause 128 = .ok (.ifCond .eq 6, 3) := by decide +kernel
theorem dX9_clause_131 : decode cX9_clause 131 = .ok (.iload 5, 2) := by decide +kernel
theorem dX9_clause_133 : decode cX9_clause 133 = .ok (.ireturn, 1) := by decide +kernel
theorem dX9_clause_134 : decode cX9_clause 134 = .ok (.iload_n 1, 1) := by decide +kernel
theorem dX9_clause_135 : decode cX9_clause 135 = .ok (.ifCond .ne 25, 3) := by decide +kernel
theorem dX9_clause_138 : decode cX9_clause 138 = .ok (.aload_n 0, 1) := by decide +kernel
theorem dX9_clause_139 : decode cX9_clause 139 = .ok (.getfield 16, 3) := by decide +kernel
theorem dX9_clause_142 : decode cX9_clause 142 = .ok (.iload_n 3, 1) := by decide +kernel
theorem dX9_clause_143 : decode cX9_clause 143 = .ok (.iconst 1, 1) := by decide +kernel
theorem dX9_clause_144 : decode cX9_clause 144 = .ok (.iadd, 1) := by decide +kernel
theorem dX9_clause_145 : decode cX9_clause 145 = .ok (.iload 4, 2) := by decide +kernel
theorem dX9_clause_147 : decode cX9_clause 147 = .ok (.iastore, 1) := by decide +kernel
theorem dX9_clause_148 : decode cX9_clause 148 = .ok (.aload_n 0, 1) := by decide +kernel
theorem dX9_clause_149 : decode cX9_clause 149 = .ok (.getfield 16, 3) := by decide +kernel
theorem dX9_clause_152 : decode cX9_clause 152 = .ok (.iload_n 3, 1) := by decide +kernel
theorem dX9_clause_153 : decode cX9_clause 153 = .ok (.iconst 2, 1) := by decide +kernel
theorem dX9_clause_154 : decode cX9_clause 154 = .ok (.iadd, 1) := by decide +kernel
theorem dX9_clause_155 : decode cX9_clause 155 = .ok (.aload_n 0, 1) := by decide +kernel
theorem dX9_clause_156 : decode cX9_clause 156 = .ok (.getfield 125, 3) := by decide +kernel
theorem dX9_clause_159 : decode cX9_clause 159 = .ok (.iastore, 1) := by decide +kernel
theorem dX9_clause_160 : decode cX9_clause 160 = .ok (.aload_n 0, 1) := by decide +kernel
theorem dX9_clause_161 : decode cX9_clause 161 = .ok (.getfield 16, 3) := by decide +kernel
theorem dX9_clause_164 : decode cX9_clause 164 = .ok (.aload_n 0, 1) := by decide +kernel
theorem dX9_clause_165 : decode cX9_clause 165 = .ok (.getfield 122, 3) := by decide +kernel
theorem dX9_clause_168 : decode cX9_clause 168 = .ok (.dup2, 1) := by decide +kernel
theorem dX9_clause_169 : decode cX9_clause 169 = .ok (.iaload, 1) := by decide +kernel
theorem dX9_clause_170 : decode cX9_clause 170 = .ok (.iconst 1, 1) := by decide +kernel
theorem dX9_clause_171 : decode cX9_clause 171 = .ok (.iadd, 1) := by decide +kernel
theorem dX9_clause_172 : decode cX9_clause 172 = .ok (.iastore, 1) := by decide +kernel
theorem dX9_clause_173 : decode cX9_clause 173 = .ok (.aload_n 0, 1) := by decide +kernel
theorem dX9_clause_174 : decode cX9_clause 174 = .ok (.getfield 97, 3) := by decide +kernel
theorem dX9_clause_177 : decode cX9_clause 177 = .ok (.bipush 59, 2) := by decide +kernel
theorem dX9_clause_179 : decode cX9_clause 179 = .ok (.if_icmp .eq 5, 3) := by decide +kernel
theorem dX9_clause_182 : decode cX9_clause 182 = .ok (.iconst 1, 1) := by decide +kernel
theorem dX9_clause_183 : decode cX9_clause 183 = .ok (.ireturn, 1) := by decide +kernel
theorem dX9_clause_184 : decode cX9_clause 184 = .ok (.aload_n 0, 1) := by decide +kernel
theorem dX9_clause_185 : decode cX9_clause 185 = .ok (.invokevirtual 150, 3) := by decide +kernel
theorem dX9_clause_188 : decode cX9_clause 188 = .ok (.iconst 0, 1) := by decide +kernel
theorem dX9_clause_189 : decode cX9_clause 189 = .ok (.ireturn, 1) := by decide +kernel
theorem dX9_readText_0 : decode cX9_readText 0 = .ok (.aload_n 0, 1) := by decide +kernel
theorem dX9_readText_1 : decode cX9_readText 1 = .ok (.sipush 680, 3) := by decide +kernel
theorem dX9_readText_4 : decode cX9_readText 4 = .ok (.aload_n 0, 1) := by decide +kernel
theorem dX9_readText_5 : decode cX9_readText 5 = .ok (.getfield 7, 3) := by decide +kernel
theorem dX9_readText_8 : decode cX9_readText 8 = .ok (.iconst 0, 1) := by decide +kernel
theorem dX9_readText_9 : decode cX9_readText 9 = .ok (.iaload, 1) := by decide +kernel
theorem dX9_readText_10 : decode cX9_readText 10 = .ok (.imul, 1) := by decide +kernel
theorem dX9_readText_11 : decode cX9_readText 11 = .ok (.putfield 122, 3) := by decide +kernel
theorem dX9_readText_14 : decode cX9_readText 14 = .ok (.aload_n 0, 1) := by decide +kernel
theorem dX9_readText_15 : decode cX9_readText 15 = .ok (.getfield 16, 3) := by decide +kernel
theorem dX9_readText_18 : decode cX9_readText 18 = .ok (.aload_n 0, 1) := by decide +kernel
theorem dX9_readText_19 : decode cX9_readText 19 = .ok (.getfield 122, 3) := by decide +kernel
theorem dX9_readText_22 : decode cX9_readText 22 = .ok (.iconst 0, 1) := by decide +kernel
theorem dX9_readText_23 : decode cX9_readText 23 = .ok (.iastore, 1) := by decide +kernel
theorem dX9_readText_24 : decode cX9_readText 24 = .ok (.aload_n 0, 1) := by decide +kernel
theorem dX9_readText_25 : decode cX9_readText 25 = .ok (.iconst 0, 1) := by decide +kernel
theorem dX9_readText_26 : decode cX9_readText 26 = .ok (.putfield 125, 3) := by decide +kernel
theorem dX9_readText_29 : decode cX9_readText 29 = .ok (.aload_n 0, 1) := by decide +kernel
theorem dX9_readText_30 : decode cX9_readText 30 = .ok (.iconst 0, 1) := by decide +kernel
theorem dX9_readText_31 : decode cX9_readText 31 = .ok (.putfield 135, 3) := by decide +kernel
theorem dX9_readText_34 : decode cX9_readText 34 = .ok (.aload_n 0, 1) := by decide +kernel
theorem dX9_readText_35 : decode cX9_readText 35 = .ok (.iconst 0, 1) := by decide +kernel
theorem dX9_readText_36 : decode cX9_readText 36 = .ok (.putfield 201, 3) := by decide +kernel
theorem dX9_readText_39 : decode cX9_readText 39 = .ok (.aload_n 0, 1) := by decide +kernel
theorem dX9_readText_40 : decode cX9_readText 40 = .ok (.iconst 0, 1) := by decide +kernel
theorem dX9_readText_41 : decode cX9_readText 41 = .ok (.putfield 87, 3) := by decide +kernel
theorem dX9_readText_44 : decode cX9_readText 44 = .ok (.aload_n 0, 1) := by decide +kernel
theorem dX9_readText_45 : decode cX9_readText 45 = .ok (.invokevirtual 150, 3) := by decide +kernel
theorem dX9_readText_48 : decode cX9_readText 48 = .ok (.aload_n 0, 1) := by decide +kernel
theorem dX9_readText_49 : decode cX9_readText 49 = .ok (.getfield 97, 3) := by decide +kernel
theorem dX9_readText_52 : decode cX9_readText 52 = .ok (.ifCond .eq 17, 3) := by decide +kernel
theorem dX9_readText_55 : decode cX9_readText 55 = .ok (.aload_n 0, 1) := by decide +kernel
theorem dX9_readText_56 : decode cX9_readText 56 = .ok (.invokevirtual 210, 3) := by decide +kernel
theorem dX9_readText_59 : decode cX9_readText 59 = .ok (.istore_n 1, 1) := by decide +kernel
theorem dX9_readText_60 : decode cX9_readText 60 = .ok (.iload_n 1, 1) := by decide +kernel
theorem dX9_readText_61 : decode cX9_readText 61 = .ok (.ifCond .eq 5, 3) := by decide +kernel
theorem dX9_readText_64 : decode cX9_readText 64 = .ok (.iload_n 1, 1) := by decide +kernel
theorem dX9_readText_65 : decode cX9_readText 65 = .ok (.ireturn, 1) := by decide +kernel
theorem dX9_readText_66 : decode cX9_readText 66 = .ok (.goto (-18), 3) := by decide +kernel
theorem dX9_readText_69 : decode cX9_readText 69 = .ok (.iconst 0, 1) := by decide +kernel
theorem dX9_readText_70 : decode cX9_readText 70 = .ok (.ireturn, 1) := by decide +kernel
theorem dX9_text_0 : decode cX9_text 0 = .ok (.aload_n 0, 1) := by decide +kernel
theorem dX9_text_1 : decode cX9_text 1 = .ok (.getfield 7, 3) := by decide +kernel
theorem dX9_text_4 : decode cX9_text 4 = .ok (.iconst 0, 1) := by decide +kernel
theorem dX9_text_5 : decode cX9_text 5 = .ok (.iaload, 1) := by decide +kernel
theorem dX9_text_6 : decode cX9_text 6 = .ok (.iconst 4, 1) := by decide +kernel
theorem dX9_text_7 : decode cX9_text 7 = .ok (.if_icmp .ne 5, 3) := by decide +kernel
theorem dX9_text_10 : decode cX9_text 10 = .ok (.iconst (-1), 1) := by decide +kernel
theorem dX9_text_11 : decode cX9_text 11 = .ok (.ireturn, 1) := by decide +kernel
theorem dX9_text_12 : decode cX9_text 12 = .ok (.aload_n 0, 1) := by decide +kernel
theorem dX9_text_13 : decode cX9_text 13 = .ok (.aload_n 0, 1) := by decide +kernel
theorem dX9_text_14 : decode cX9_text 14 = .ok (.invokevirtual 213, 3) := by decide +kernel
theorem dX9_text_17 : decode cX9_text 17 = .ok (.putfield 22, 3) := by decide +kernel
theorem dX9_text_20 : decode cX9_text 20 = .ok (.aload_n 0, 1) := by decide +kernel
theorem dX9_text_21 : decode cX9_text 21 = .ok (.aload_n 0, 1) := by decide +kernel
theorem dX9_text_22 : decode cX9_text 22 = .ok (.getfield 22, 3) := by decide +kernel
theorem dX9_text_25 : decode cX9_text 25 = .ok (.ifCond .ne 7, 3) := by decide +kernel
theorem dX9_text_28 : decode cX9_text 28 = .ok (.iconst (-1), 1) := by decide +kernel
theorem dX9_text_29 : decode cX9_text 29 = .ok (.goto 7, 3) := by decide +kernel
theorem dX9_text_32 : decode cX9_text 32 = .ok (.aload_n 0, 1) := by decide +kernel
theorem dX9_text_33 : decode cX9_text 33 = .ok (.getfield 94, 3) := by decide +kernel
theorem dX9_text_36 : decode cX9_text 36 = .ok (.putfield 26, 3) := by decide +kernel
theorem dX9_text_39 : decode cX9_text 39 = .ok (.aload_n 0, 1) := by decide +kernel
theorem dX9_text_40 : decode cX9_text 40 = .ok (.iconst 0, 1) := by decide +kernel
theorem dX9_text_41 : decode cX9_text 41 = .ok (.putfield 80, 3) := by decide +kernel
theorem dX9_text_44 : decode cX9_text 44 = .ok (.aload_n 0, 1) := by decide +kernel
theorem dX9_text_45 : decode cX9_text 45 = .ok (.getfield 22, 3) := by decide +kernel
theorem dX9_text_48 : decode cX9_text 48 = .ok (.ifCond .eq 5, 3) := by decide +kernel
theorem dX9_text_51 : decode cX9_text 51 = .ok (.iconst (-1), 1) := by decide +kernel
theorem dX9_text_52 : decode cX9_text 52 = .ok (.ireturn, 1) := by decide +kernel
theorem dX9_text_53 : decode cX9_text 53 = .ok (.aload_n 0, 1) := by decide +kernel
theorem dX9_text_54 : decode cX9_text 54 = .ok (.getfield 7, 3) := by decide +kernel
theorem dX9_text_57 : decode cX9_text 57 = .ok (.iconst 0, 1) := by decide +kernel
theorem dX9_text_58 : decode cX9_text 58 = .ok (.dup2, 1) := by decide +kernel
theorem dX9_text_59 : decode cX9_text 59 = .ok (.iaload, 1) := by decide +kernel
theorem dX9_text_60 : decode cX9_text 60 = .ok (.iconst 1, 1) := by decide +kernel
theorem dX9_text_61 : decode cX9_text 61 = .ok (.iadd, 1) := by decide +kernel
theorem dX9_text_62 : decode cX9_text 62 = .ok (.iastore, 1) := by decide +kernel
theorem dX9_text_63 : decode cX9_text 63 = .ok (.aload_n 0, 1) := by decide +kernel
theorem dX9_text_64 : decode cX9_text 64 = .ok (.getfield 7, 3) := by decide +kernel
theorem dX9_text_67 : decode cX9_text 67 = .ok (.iconst 0, 1) := by decide +kernel
theorem dX9_text_68 : decode cX9_text 68 = .ok (.iaload, 1) := by decide +kernel
theorem dX9_text_69 : decode cX9_text 69 = .ok (.iconst 1, 1) := by decide +kernel
theorem dX9_text_70 : decode cX9_text 70 = .ok (.isub, 1) := by decide +kernel
theorem dX9_text_71 : decode cX9_text 71 = .ok (.ireturn, 1) := by decide +kernel
theorem dX9_fault_0 : decode cX9_fault 0 = .ok (.iload_n 1, 1) := by decide +kernel
theorem dX9_fault_1 : decode cX9_fault 1 = .ok (.ifCond .ne 10, 3) := by decide +kernel
theorem dX9_fault_4 : decode cX9_fault 4 = .ok (.aload_n 0, 1) := by decide +kernel
theorem dX9_fault_5 : decode cX9_fault 5 = .ok (.getfield 22, 3) := by decide +kernel
theorem dX9_fault_8 : decode cX9_fault 8 = .ok (.goto 16, 3) := by decide +kernel
theorem dX9_fault_11 : decode cX9_fault 11 = .ok (.iload_n 1, 1) := by decide +kernel
theorem dX9_fault_12 : decode cX9_fault 12 = .ok (.iconst 1, 1) := by decide +kernel
theorem dX9_fault_13 : decode cX9_fault 13 = .ok (.if_icmp .ne 10, 3) := by decide +kernel
theorem dX9_fault_16 : decode cX9_fault 16 = .ok (.aload_n 0, 1) := by decide +kernel
theorem dX9_fault_17 : decode cX9_fault 17 = .ok (.getfield 26, 3) := by decide +kernel
theorem dX9_fault_20 : decode cX9_fault 20 = .ok (.goto 4, 3) := by decide +kernel
theorem dX9_fault_23 : decode cX9_fault 23 = .ok (.iconst (-1), 1) := by decide +kernel
theorem dX9_fault_24 : decode cX9_fault 24 = .ok (.ireturn, 1) := by decide +kernel
theorem dX9_isRule_0 : decode cX9_isRule 0 = .ok (.iload_n 1, 1) := by decide +kernel
theorem dX9_isRule_1 : decode cX9_isRule 1 = .ok (.iconst (-1), 1) := by decide +kernel
theorem dX9_isRule_2 : decode cX9_isRule 2 = .ok (.aload_n 0, 1) := by decide +kernel
theorem dX9_isRule_3 : decode cX9_isRule 3 = .ok (.getfield 7, 3) := by decide +kernel
theorem dX9_isRule_6 : decode cX9_isRule 6 = .ok (.iconst 0, 1) := by decide +kernel
theorem dX9_isRule_7 : decode cX9_isRule 7 = .ok (.iaload, 1) := by decide +kernel
theorem dX9_isRule_8 : decode cX9_isRule 8 = .ok (.iconst 1, 1) := by decide +kernel
theorem dX9_isRule_9 : decode cX9_isRule 9 = .ok (.isub, 1) := by decide +kernel
theorem dX9_isRule_10 : decode cX9_isRule 10 = .ok (.invokestatic 69, 3) := by decide +kernel
theorem dX9_isRule_13 : decode cX9_isRule 13 = .ok (.ireturn, 1) := by decide +kernel
theorem dX9_keep_0 : decode cX9_keep 0 = .ok (.aload_n 0, 1) := by decide +kernel
theorem dX9_keep_1 : decode cX9_keep 1 = .ok (.iload_n 1, 1) := by decide +kernel
theorem dX9_keep_2 : decode cX9_keep 2 = .ok (.invokevirtual 77, 3) := by decide +kernel
theorem dX9_keep_5 : decode cX9_keep 5 = .ok (.ifCond .eq 11, 3) := by decide +kernel
theorem dX9_keep_8 : decode cX9_keep 8 = .ok (.aload_n 0, 1) := by decide +kernel
theorem dX9_keep_9 : decode cX9_keep 9 = .ok (.iload_n 2, 1) := by decide +kernel
theorem dX9_keep_10 : decode cX9_keep 10 = .ok (.invokevirtual 216, 3) := by decide +kernel
theorem dX9_keep_13 : decode cX9_keep 13 = .ok (.ifCond .ne 5, 3) := by decide +kernel
theorem dX9_keep_16 : decode cX9_keep 16 = .ok (.iconst 0, 1) := by decide +kernel
theorem dX9_keep_17 : decode cX9_keep 17 = .ok (.ireturn, 1) := by decide +kernel
theorem dX9_keep_18 : decode cX9_keep 18 = .ok (.aload_n 0, 1) := by decide +kernel
theorem dX9_keep_19 : decode cX9_keep 19 = .ok (.getfield 7, 3) := by decide +kernel
theorem dX9_keep_22 : decode cX9_keep 22 = .ok (.bipush 28, 2) := by decide +kernel
theorem dX9_keep_24 : decode cX9_keep 24 = .ok (.iload_n 1, 1) := by decide +kernel
theorem dX9_keep_25 : decode cX9_keep 25 = .ok (.iadd, 1) := by decide +kernel
theorem dX9_keep_26 : decode cX9_keep 26 = .ok (.iload_n 2, 1) := by decide +kernel
theorem dX9_keep_27 : decode cX9_keep 27 = .ok (.iastore, 1) := by decide +kernel
theorem dX9_keep_28 : decode cX9_keep 28 = .ok (.iconst 1, 1) := by decide +kernel
theorem dX9_keep_29 : decode cX9_keep 29 = .ok (.ireturn, 1) := by decide +kernel
theorem dX9_isKnock_0 : decode cX9_isKnock 0 = .ok (.iload_n 0, 1) := by decide +kernel
theorem dX9_isKnock_1 : decode cX9_isKnock 1 = .ok (.iconst 1, 1) := by decide +kernel
theorem dX9_isKnock_2 : decode cX9_isKnock 2 = .ok (.bipush 7, 2) := by decide +kernel
theorem dX9_isKnock_4 : decode cX9_isKnock 4 = .ok (.invokestatic 69, 3) := by decide +kernel
theorem dX9_isKnock_7 : decode cX9_isKnock 7 = .ok (.ifCond .eq 16, 3) := by decide +kernel
theorem dX9_isKnock_10 : decode cX9_isKnock 10 = .ok (.iload_n 1, 1) := by decide +kernel
theorem dX9_isKnock_11 : decode cX9_isKnock 11 = .ok (.iconst 0, 1) := by decide +kernel
theorem dX9_isKnock_12 : decode cX9_isKnock 12 = .ok (.iconst 5, 1) := by decide +kernel
theorem dX9_isKnock_13 : decode cX9_isKnock 13 = .ok (.invokestatic 69, 3) := by decide +kernel
theorem dX9_isKnock_16 : decode cX9_isKnock 16 = .ok (.ifCond .eq 7, 3) := by decide +kernel
theorem dX9_isKnock_19 : decode cX9_isKnock 19 = .ok (.iconst 1, 1) := by decide +kernel
theorem dX9_isKnock_20 : decode cX9_isKnock 20 = .ok (.goto 4, 3) := by decide +kernel
theorem dX9_isKnock_23 : decode cX9_isKnock 23 = .ok (.iconst 0, 1) := by decide +kernel
theorem dX9_isKnock_24 : decode cX9_isKnock 24 = .ok (.ireturn, 1) := by decide +kernel
theorem dX9_clip_0 : decode cX9_clip 0 = .ok (.lload_n 0, 1) := by decide +kernel
theorem dX9_clip_1 : decode cX9_clip 1 = .ok (.ldc2_w 219, 3) := by decide +kernel
theorem dX9_clip_4 : decode cX9_clip 4 = .ok (.lcmp, 1) := by decide +kernel
theorem dX9_clip_5 : decode cX9_clip 5 = .ok (.ifCond .le 9, 3) := by decide +kernel
theorem dX9_clip_8 : decode cX9_clip 8 = .ok (.ldc2_w 219, 3) := by decide +kernel
theorem dX9_clip_11 : decode cX9_clip 11 = .ok (.goto 18, 3) := by decide +kernel
theorem dX9_clip_14 : decode cX9_clip 14 = .ok (.lload_n 0, 1) := by decide +kernel
theorem dX9_clip_15 : decode cX9_clip 15 = .ok (.ldc2_w 221, 3) := by decide +kernel
theorem dX9_clip_18 : decode cX9_clip 18 = .ok (.lcmp, 1) := by decide +kernel
theorem dX9_clip_19 : decode cX9_clip 19 = .ok (.ifCond .ge 9, 3) := by decide +kernel
theorem dX9_clip_22 : decode cX9_clip 22 = .ok (.ldc2_w 221, 3) := by decide +kernel
theorem dX9_clip_25 : decode cX9_clip 25 = .ok (.goto 4, 3) := by decide +kernel
theorem dX9_clip_28 : decode cX9_clip 28 = .ok (.lload_n 0, 1) := by decide +kernel
theorem dX9_clip_29 : decode cX9_clip 29 = .ok (.lreturn, 1) := by decide +kernel
theorem dX9_two_0 : decode cX9_two 0 = .ok (.iload_n 0, 1) := by decide +kernel
theorem dX9_two_1 : decode cX9_two 1 = .ok (.tableswitch 48 3 5 #[27, 34, 41], 27) := by decide +kernel
theorem dX9_two_28 : decode cX9_two 28 = .ok (.lload_n 1, 1) := by decide +kernel
theorem dX9_two_29 : decode cX9_two 29 = .ok (.lload_n 3, 1) := by decide +kernel
theorem dX9_two_30 : decode cX9_two 30 = .ok (.ladd, 1) := by decide +kernel
theorem dX9_two_31 : decode cX9_two 31 = .ok (.invokestatic 223, 3) := by decide +kernel
theorem dX9_two_34 : decode cX9_two 34 = .ok (.lreturn, 1) := by decide +kernel
theorem dX9_two_35 : decode cX9_two 35 = .ok (.lload_n 1, 1) := by decide +kernel
theorem dX9_two_36 : decode cX9_two 36 = .ok (.lload_n 3, 1) := by decide +kernel
theorem dX9_two_37 : decode cX9_two 37 = .ok (.lsub, 1) := by decide +kernel
theorem dX9_two_38 : decode cX9_two 38 = .ok (.invokestatic 223, 3) := by decide +kernel
theorem dX9_two_41 : decode cX9_two 41 = .ok (.lreturn, 1) := by decide +kernel
theorem dX9_two_42 : decode cX9_two 42 = .ok (.lload_n 1, 1) := by decide +kernel
theorem dX9_two_43 : decode cX9_two 43 = .ok (.lload_n 3, 1) := by decide +kernel
theorem dX9_two_44 : decode cX9_two 44 = .ok (.lmul, 1) := by decide +kernel
theorem dX9_two_45 : decode cX9_two 45 = .ok (.invokestatic 223, 3) := by decide +kernel
theorem dX9_two_48 : decode cX9_two 48 = .ok (.lreturn, 1) := by decide +kernel
theorem dX9_two_49 : decode cX9_two 49 = .ok (.lload_n 3, 1) := by decide +kernel
theorem dX9_two_50 : decode cX9_two 50 = .ok (.lconst 0, 1) := by decide +kernel
theorem dX9_two_51 : decode cX9_two 51 = .ok (.lcmp, 1) := by decide +kernel
theorem dX9_two_52 : decode cX9_two 52 = .ok (.ifCond .ne 7, 3) := by decide +kernel
theorem dX9_two_55 : decode cX9_two 55 = .ok (.lconst 0, 1) := by decide +kernel
theorem dX9_two_56 : decode cX9_two 56 = .ok (.goto 9, 3) := by decide +kernel
theorem dX9_two_59 : decode cX9_two 59 = .ok (.lload_n 1, 1) := by decide +kernel
theorem dX9_two_60 : decode cX9_two 60 = .ok (.lload_n 3, 1) := by decide +kernel
theorem dX9_two_61 : decode cX9_two 61 = .ok (.ldiv, 1) := by decide +kernel
theorem dX9_two_62 : decode cX9_two 62 = .ok (.invokestatic 223, 3) := by decide +kernel
theorem dX9_two_65 : decode cX9_two 65 = .ok (.lreturn, 1) := by decide +kernel
theorem dX9_isAsked_0 : decode cX9_isAsked 0 = .ok (.iload_n 0, 1) := by decide +kernel
theorem dX9_isAsked_1 : decode cX9_isAsked 1 = .ok (.bipush 10, 2) := by decide +kernel
theorem dX9_isAsked_3 : decode cX9_isAsked 3 = .ok (.if_icmp .ne 17, 3) := by decide +kernel
theorem dX9_isAsked_6 : decode cX9_isAsked 6 = .ok (.lload_n 1, 1) := by decide +kernel
theorem dX9_isAsked_7 : decode cX9_isAsked 7 = .ok (.lload_n 3, 1) := by decide +kernel
theorem dX9_isAsked_8 : decode cX9_isAsked 8 = .ok (.lcmp, 1) := by decide +kernel
theorem dX9_isAsked_9 : decode cX9_isAsked 9 = .ok (.ifCond .ge 7, 3) := by decide +kernel
theorem dX9_isAsked_12 : decode cX9_isAsked 12 = .ok (.iconst 1, 1) := by decide +kernel
theorem dX9_isAsked_13 : decode cX9_isAsked 13 = .ok (.goto 98, 3) := by decide +kernel
theorem dX9_isAsked_16 : decode cX9_isAsked 16 = .ok (.iconst 0, 1) := by decide +kernel
theorem dX9_isAsked_17 : decode cX9_isAsked 17 = .ok (.goto 94, 3) := by decide +kernel
theorem dX9_isAsked_20 : decode cX9_isAsked 20 = .ok (.iload_n 0, 1) := by decide +kernel
theorem dX9_isAsked_21 : decode cX9_isAsked 21 = .ok (.bipush 11, 2) := by decide +kernel
theorem dX9_isAsked_23 : decode cX9_isAsked 23 = .ok (.if_icmp .ne 17, 3) := by decide +kernel
theorem dX9_isAsked_26 : decode cX9_isAsked 26 = .ok (.lload_n 1, 1) := by decide +kernel
theorem dX9_isAsked_27 : decode cX9_isAsked 27 = .ok (.lload_n 3, 1) := by decide +kernel
theorem dX9_isAsked_28 : decode cX9_isAsked 28 = .ok (.lcmp, 1) := by decide +kernel
theorem dX9_isAsked_29 : decode cX9_isAsked 29 = .ok (.ifCond .gt 7, 3) := by decide +kernel
theorem dX9_isAsked_32 : decode cX9_isAsked 32 = .ok (.iconst 1, 1) := by decide +kernel
theorem dX9_isAsked_33 : decode cX9_isAsked 33 = .ok (.goto 78, 3) := by decide +kernel
theorem dX9_isAsked_36 : decode cX9_isAsked 36 = .ok (.iconst 0, 1) := by decide +kernel
theorem dX9_isAsked_37 : decode cX9_isAsked 37 = .ok (.goto 74, 3) := by decide +kernel
theorem dX9_isAsked_40 : decode cX9_isAsked 40 = .ok (.iload_n 0, 1) := by decide +kernel
theorem dX9_isAsked_41 : decode cX9_isAsked 41 = .ok (.bipush 12, 2) := by decide +kernel
theorem dX9_isAsked_43 : decode cX9_isAsked 43 = .ok (.if_icmp .ne 17, 3) := by decide +kernel
theorem dX9_isAsked_46 : decode cX9_isAsked 46 = .ok (.lload_n 1, 1) := by decide +kernel
theorem dX9_isAsked_47 : decode cX9_isAsked 47 = .ok (.lload_n 3, 1) := by decide +kernel
theorem dX9_isAsked_48 : decode cX9_isAsked 48 = .ok (.lcmp, 1) := by decide +kernel
theorem dX9_isAsked_49 : decode cX9_isAsked 49 = .ok (.ifCond .le 7, 3) := by decide +kernel
theorem dX9_isAsked_52 : decode cX9_isAsked 52 = .ok (.iconst 1, 1) := by decide +kernel
theorem dX9_isAsked_53 : decode cX9_isAsked 53 = .ok (.goto 58, 3) := by decide +kernel
theorem dX9_isAsked_56 : decode cX9_isAsked 56 = .ok (.iconst 0, 1) := by decide +kernel
theorem dX9_isAsked_57 : decode cX9_isAsked 57 = .ok (.goto 54, 3) := by decide +kernel
theorem dX9_isAsked_60 : decode cX9_isAsked 60 = .ok (.iload_n 0, 1) := by decide +kernel
theorem dX9_isAsked_61 : decode cX9_isAsked 61 = .ok (.bipush 13, 2) := by decide +kernel
theorem dX9_isAsked_63 : decode cX9_isAsked 63 = .ok (.if_icmp .ne 17, 3) := by decide +kernel
theorem dX9_isAsked_66 : decode cX9_isAsked 66 = .ok (.lload_n 1, 1) := by decide +kernel
theorem dX9_isAsked_67 : decode cX9_isAsked 67 = .ok (.lload_n 3, 1) := by decide +kernel
theorem dX9_isAsked_68 : decode cX9_isAsked 68 = .ok (.lcmp, 1) := by decide +kernel
theorem dX9_isAsked_69 : decode cX9_isAsked 69 = .ok (.ifCond .lt 7, 3) := by decide +kernel
theorem dX9_isAsked_72 : decode cX9_isAsked 72 = .ok (.iconst 1, 1) := by decide +kernel
theorem dX9_isAsked_73 : decode cX9_isAsked 73 = .ok (.goto 38, 3) := by decide +kernel
theorem dX9_isAsked_76 : decode cX9_isAsked 76 = .ok (.iconst 0, 1) := by decide +kernel
theorem dX9_isAsked_77 : decode cX9_isAsked 77 = .ok (.goto 34, 3) := by decide +kernel
theorem dX9_isAsked_80 : decode cX9_isAsked 80 = .ok (.iload_n 0, 1) := by decide +kernel
theorem dX9_isAsked_81 : decode cX9_isAsked 81 = .ok (.bipush 14, 2) := by decide +kernel
theorem dX9_isAsked_83 : decode cX9_isAsked 83 = .ok (.if_icmp .ne 17, 3) := by decide +kernel
theorem dX9_isAsked_86 : decode cX9_isAsked 86 = .ok (.lload_n 1, 1) := by decide +kernel
theorem dX9_isAsked_87 : decode cX9_isAsked 87 = .ok (.lload_n 3, 1) := by decide +kernel
theorem dX9_isAsked_88 : decode cX9_isAsked 88 = .ok (.lcmp, 1) := by decide +kernel
theorem dX9_isAsked_89 : decode cX9_isAsked 89 = .ok (.ifCond .ne 7, 3) := by decide +kernel
theorem dX9_isAsked_92 : decode cX9_isAsked 92 = .ok (.iconst 1, 1) := by decide +kernel
theorem dX9_isAsked_93 : decode cX9_isAsked 93 = .ok (.goto 18, 3) := by decide +kernel
theorem dX9_isAsked_96 : decode cX9_isAsked 96 = .ok (.iconst 0, 1) := by decide +kernel
theorem dX9_isAsked_97 : decode cX9_isAsked 97 = .ok (.goto 14, 3) := by decide +kernel
theorem dX9_isAsked_100 : decode cX9_isAsked 100 = .ok (.lload_n 1, 1) := by decide +kernel
theorem dX9_isAsked_101 : decode cX9_isAsked 101 = .ok (.lload_n 3, 1) := by decide +kernel
theorem dX9_isAsked_102 : decode cX9_isAsked 102 = .ok (.lcmp, 1) := by decide +kernel
theorem dX9_isAsked_103 : decode cX9_isAsked 103 = .ok (.ifCond .eq 7, 3) := by decide +kernel
theorem dX9_isAsked_106 : decode cX9_isAsked 106 = .ok (.iconst 1, 1) := by decide +kernel
theorem dX9_isAsked_107 : decode cX9_isAsked 107 = .ok (.goto 4, 3) := by decide +kernel
theorem dX9_isAsked_110 : decode cX9_isAsked 110 = .ok (.iconst 0, 1) := by decide +kernel
theorem dX9_isAsked_111 : decode cX9_isAsked 111 = .ok (.ireturn, 1) := by decide +kernel
-- X9_clause
def J_X9_clause_160 (n : Nat) (s : jS) : Option (Int32 × jS) :=
  (if jin (s.1 0 13) 2720 = true then (jl (upI s 3 (Int32.toNatClampNeg (s.1 0 13)) ((s.1 3 (Int32.toNatClampNeg (s.1 0 13))) + 1)) fun s172_6 => (if (s172_6.1 0 10) = 59 then ((F_X9_nextToken n s172_6).bind fun p185 => some (0, p185)) else some (1, s172_6))) else none)
def J_X9_clause_124 (n : Nat) (v1 : Int32) (v3 : Int32) (v4 : Int32) (k0 : Int32) (s : jS) : Option (Int32 × jS) :=
  (if k0 = 0 then (if v1 = 0 then (if jin (v3 + 1) 2720 = true then (jl (upI s 3 (Int32.toNatClampNeg (v3 + 1)) v4) fun s147_8 => (if jin (v3 + 2) 2720 = true then (jl (upI s147_8 3 (Int32.toNatClampNeg (v3 + 2)) (s147_8.1 0 15)) fun s159_10 => J_X9_clause_160 n s159_10) else none)) else none) else J_X9_clause_160 n s) else some (k0, s))
def J_X9_clause_59 (n : Nat) (v1 : Int32) (v2 : Int32) (k1 : Bool) (s : jS) : Option (Int32 × jS) :=
  (jl (upI s 0 21 (jb k1)) fun s59_2 => ((F_X9_nextToken n s59_2).bind fun p63 => (if jin (((p63.1 0 13) + 1) + (3 * v2)) 2720 = true then (jl (upI p63 3 (Int32.toNatClampNeg (((p63.1 0 13) + 1) + (3 * v2))) v1) fun s83_4 => (if v1 = 0 then ((F_X9_either n s83_4).bind fun p95 => J_X9_clause_124 n v1 (((p63.1 0 13) + 1) + (3 * v2)) (s83_4.1 0 15) p95.1 p95.2) else (if v1 = 1 then ((F_X9_knocked n (((p63.1 0 13) + 1) + (3 * v2)) s83_4).bind fun p108 => J_X9_clause_124 n v1 (((p63.1 0 13) + 1) + (3 * v2)) (s83_4.1 0 15) p108.1 p108.2) else ((F_X9_figure n ((((p63.1 0 13) + 1) + (3 * v2)) + 1) 0 24 s83_4).bind fun p121 => J_X9_clause_124 n v1 (((p63.1 0 13) + 1) + (3 * v2)) (s83_4.1 0 15) p121.1 p121.2)))) else none)))
def J_X9_clause_54 (n : Nat) (v1 : Int32) (v2 : Int32) (s : jS) : Option (Int32 × jS) :=
  J_X9_clause_59 n v1 v2 true s
def J_X9_clause_24 (n : Nat) (v1 : Int32) (s : jS) : Option (Int32 × jS) :=
  (if jin (s.1 0 13) 2720 = true then (if (s.1 3 (Int32.toNatClampNeg (s.1 0 13))) = 24 then some (5, s) else (if (jz (s.1 0 21)) = true then J_X9_clause_54 n v1 (s.1 3 (Int32.toNatClampNeg (s.1 0 13))) s else (if v1 = 0 then J_X9_clause_54 n v1 (s.1 3 (Int32.toNatClampNeg (s.1 0 13))) s else J_X9_clause_59 n v1 (s.1 3 (Int32.toNatClampNeg (s.1 0 13))) false s))) else none)
def F_X9_clause (n : Nat) (s : jS) : Option (Int32 × jS) :=
  (if 0 ≤ (F_X9_sortOf s) then (if (F_X9_sortOf s) = 0 then (if (jz (s.1 0 21)) = true then some (4, s) else J_X9_clause_24 n (F_X9_sortOf s) s) else J_X9_clause_24 n (F_X9_sortOf s) s) else some (1, s))
def rm_X9_clause : Room := { frames := 8, cells := 0, slots := 0, locals := 182 }
set_option maxHeartbeats 4000000 in
set_option maxRecDepth 100000 in
theorem m_X9_clause {l : Launch} {D : va_G} {G : Nat → ClassId} {KV : jV} {ad : Nat → Nat} (n : Nat) (s : jS) {p : Int32 × jS} (h : F_X9_clause n s = some p) : jM l D G KV yX9_clause cX9_clause 6 (some .int) rm_X9_clause [.ref (ad 0)] (jw 15 (cellM G) ad s) 0 0 (fun v u => v = some (.int p.1) ∧ u = jw 15 (cellM G) ad p.2) := by
  refine jM.of (by decide) (Nat.le_of_ble_eq_true rfl) ?_
  intro K C
  unfold F_X9_clause at h
  have jn160 : ∀ (s : jS) (_ : J_X9_clause_160 n s = some p), K 0 0 (jw 15 (cellM G) ad s) 160 [(0, .ref (ad 0))] [] := by
    intro s h
    unfold J_X9_clause_160 at h
    refine j_aload_n C dX9_clause_160 0 rfl ?_
    refine j_getW C dX9_clause_161 inX9 rfl (by decide) rfl 3 (by decide) w_926 rfl rfl ?_
    refine j_aload_n C dX9_clause_164 0 rfl ?_
    refine j_getW C dX9_clause_165 inX9 rfl (by decide) rfl 13 (by decide) w_936 rfl rfl ?_
    refine j_dup2 C dX9_clause_168 rfl rfl ?_
    obtain ⟨c169_5, h⟩ := jchk h
    refine j_ialdW C dX9_clause_169 (by decide) rfl (jin_vp c169_5) ?_
    refine j_iconst C dX9_clause_170 (v := 1) (by decide) ?_
    refine j_iadd C dX9_clause_171 ?_
    refine j_iastW C dX9_clause_172 (by decide) (fun _ => rfl) (jin_vp c169_5) (fun s172_6 hs172_6 => ?_)
    have h := jlet h hs172_6
    refine j_aload_n C dX9_clause_173 0 rfl ?_
    refine j_getW C dX9_clause_174 inX9 rfl (by decide) rfl 10 (by decide) w_933 rfl rfl ?_
    refine j_bipush C dX9_clause_177 (v := 59) (by decide) ?_
    refine j_icmp_eq C dX9_clause_179 (tgt := 184) (by decide) (fun cq => ?_) (fun cq => ?_)
    · have h := jite_t h cq
      refine j_aload_n C dX9_clause_184 0 rfl ?_
      obtain ⟨p185, he185, h⟩ := jbind h
      refine j_cV0 C dX9_clause_185 (m_X9_nextToken n s172_6 he185) kc_X9_nextToken w_1064 w_1066 wp_47 w_11 jy_X9_nextToken ⟨⟨Nat.le_of_ble_eq_true rfl, Nat.le_of_ble_eq_true rfl⟩, ⟨rfl, rfl⟩, ⟨Nat.zero_le _, Nat.zero_le _⟩⟩ (Nat.le_of_ble_eq_true rfl) (by decide) rfl (r := (RX9, TX9, 32)) rfl rfl rfl (fun _ _ h => h) ?_
      refine j_iconst C dX9_clause_188 (v := 0) (by decide) ?_
      exact j_iret C dX9_clause_189 rfl rfl (Nat.zero_le _) (Nat.zero_le _) (jretWI h)
    · have h := jite_f h cq
      refine j_iconst C dX9_clause_182 (v := 1) (by decide) ?_
      exact j_iret C dX9_clause_183 rfl rfl (Nat.zero_le _) (Nat.zero_le _) (jretWI h)
  have jn124 : ∀ (v1 : Int32) (v3 : Int32) (v4 : Int32) (k0 : Int32) (s : jS) (_ : J_X9_clause_124 n v1 v3 v4 k0 s = some p), K 0 0 (jw 15 (cellM G) ad s) 124 [(0, .ref (ad 0)), (1, .int v1), (3, .int v3), (4, .int v4)] [.int k0] := by
    intro v1 v3 v4 k0 s h
    unfold J_X9_clause_124 at h
    refine j_istore C dX9_clause_124 (by decide) rfl ?_
    refine j_iload C dX9_clause_126 0 rfl ?_
    refine j_if_eq C dX9_clause_128 (tgt := 134) (by decide) (fun cq => ?_) (fun cq => ?_)
    · have h := jite_t h cq
      refine j_iload_n C dX9_clause_134 2 rfl ?_
      refine j_if_ne C dX9_clause_135 (tgt := 160) (by decide) (fun cq => ?_) (fun cq => ?_)
      · have h := jite_f h cq
        refine j_loc C [1] rfl ?_
        exact jn160  s  h
      · have h := jite_t h cq
        refine j_aload_n C dX9_clause_138 1 rfl ?_
        refine j_getW C dX9_clause_139 inX9 rfl (by decide) rfl 3 (by decide) w_926 rfl rfl ?_
        refine j_iload_n C dX9_clause_142 3 rfl ?_
        refine j_iconst C dX9_clause_143 (v := 1) (by decide) ?_
        refine j_iadd C dX9_clause_144 ?_
        refine j_iload C dX9_clause_145 4 rfl ?_
        obtain ⟨c147_7, h⟩ := jchk h
        refine j_iastW C dX9_clause_147 (by decide) (fun _ => rfl) (jin_vp c147_7) (fun s147_8 hs147_8 => ?_)
        have h := jlet h hs147_8
        refine j_aload_n C dX9_clause_148 1 rfl ?_
        refine j_getW C dX9_clause_149 inX9 rfl (by decide) rfl 3 (by decide) w_926 rfl rfl ?_
        refine j_iload_n C dX9_clause_152 3 rfl ?_
        refine j_iconst C dX9_clause_153 (v := 2) (by decide) ?_
        refine j_iadd C dX9_clause_154 ?_
        refine j_aload_n C dX9_clause_155 1 rfl ?_
        refine j_getW C dX9_clause_156 inX9 rfl (by decide) rfl 15 (by decide) w_937 rfl rfl ?_
        obtain ⟨c159_9, h⟩ := jchk h
        refine j_iastW C dX9_clause_159 (by decide) (fun _ => rfl) (jin_vp c159_9) (fun s159_10 hs159_10 => ?_)
        have h := jlet h hs159_10
        refine j_loc C [1] rfl ?_
        exact jn160  s159_10  h
    · have h := jite_f h cq
      refine j_iload C dX9_clause_131 0 rfl ?_
      exact j_iret C dX9_clause_133 rfl rfl (Nat.zero_le _) (Nat.zero_le _) (jretWI h)
  have jn59 : ∀ (v1 : Int32) (v2 : Int32) (k1 : Bool) (s : jS) (_ : J_X9_clause_59 n v1 v2 k1 s = some p), K 0 0 (jw 15 (cellM G) ad s) 59 [(0, .ref (ad 0)), (1, .int v1), (2, .int v2)] [.int (jb k1), .ref (ad 0)] := by
    intro v1 v2 k1 s h
    unfold J_X9_clause_59 at h
    refine j_putI C dX9_clause_59 inX9 tyX9 tyX9_ok nmX9 rfl (by decide) 21 (x := jb k1) rfl (by generalize k1 = zb; cases zb <;> rfl) (by decide) w_942 rfl rfl (jb_nar k1) (jb_fit k1) (Nat.le_of_ble_eq_true rfl) (fun s59_2 hs59_2 => ?_)
    have h := jlet h hs59_2
    refine j_aload_n C dX9_clause_62 0 rfl ?_
    obtain ⟨p63, he63, h⟩ := jbind h
    refine j_cV0 C dX9_clause_63 (m_X9_nextToken n s59_2 he63) kc_X9_nextToken w_1064 w_1066 wp_47 w_11 jy_X9_nextToken ⟨⟨Nat.le_of_ble_eq_true rfl, Nat.le_of_ble_eq_true rfl⟩, ⟨rfl, rfl⟩, ⟨Nat.zero_le _, Nat.zero_le _⟩⟩ (Nat.le_of_ble_eq_true rfl) (by decide) rfl (r := (RX9, TX9, 32)) rfl rfl rfl (fun _ _ h => h) ?_
    refine j_aload_n C dX9_clause_66 0 rfl ?_
    refine j_getW C dX9_clause_67 inX9 rfl (by decide) rfl 13 (by decide) w_936 rfl rfl ?_
    refine j_iconst C dX9_clause_70 (v := 1) (by decide) ?_
    refine j_iadd C dX9_clause_71 ?_
    refine j_iconst C dX9_clause_72 (v := 3) (by decide) ?_
    refine j_iload_n C dX9_clause_73 2 rfl ?_
    refine j_imul C dX9_clause_74 ?_
    refine j_iadd C dX9_clause_75 ?_
    refine j_istore_n C dX9_clause_76 (by decide) rfl ?_
    refine j_aload_n C dX9_clause_77 1 rfl ?_
    refine j_getW C dX9_clause_78 inX9 rfl (by decide) rfl 3 (by decide) w_926 rfl rfl ?_
    refine j_iload_n C dX9_clause_81 0 rfl ?_
    refine j_iload_n C dX9_clause_82 2 rfl ?_
    obtain ⟨c83_3, h⟩ := jchk h
    refine j_iastW C dX9_clause_83 (by decide) (fun _ => rfl) (jin_vp c83_3) (fun s83_4 hs83_4 => ?_)
    have h := jlet h hs83_4
    refine j_aload_n C dX9_clause_84 1 rfl ?_
    refine j_getW C dX9_clause_85 inX9 rfl (by decide) rfl 15 (by decide) w_937 rfl rfl ?_
    refine j_istore C dX9_clause_88 (by decide) rfl ?_
    refine j_iload_n C dX9_clause_90 3 rfl ?_
    refine j_if_ne C dX9_clause_91 (tgt := 101) (by decide) (fun cq => ?_) (fun cq => ?_)
    · have h := jite_f h cq
      refine j_iload_n C dX9_clause_101 3 rfl ?_
      refine j_iconst C dX9_clause_102 (v := 1) (by decide) ?_
      refine j_icmp_ne C dX9_clause_103 (tgt := 114) (by decide) (fun cq => ?_) (fun cq => ?_)
      · have h := jite_f h cq
        refine j_aload_n C dX9_clause_114 2 rfl ?_
        refine j_iload_n C dX9_clause_115 1 rfl ?_
        refine j_iconst C dX9_clause_116 (v := 1) (by decide) ?_
        refine j_iadd C dX9_clause_117 ?_
        refine j_iconst C dX9_clause_118 (v := 0) (by decide) ?_
        refine j_bipush C dX9_clause_119 (v := 24) (by decide) ?_
        obtain ⟨p121, he121, h⟩ := jbind h
        refine j_cV1 C dX9_clause_121 (m_X9_figure n ((((p63.1 0 13) + 1) + (3 * v2)) + 1) 0 24 s83_4 he121) kc_X9_figure w_1160 w_1162 wp_66 w_11 jy_X9_figure ⟨⟨Nat.le_of_ble_eq_true rfl, Nat.le_of_ble_eq_true rfl⟩, ⟨rfl, rfl⟩, ⟨Nat.zero_le _, Nat.zero_le _⟩⟩ (Nat.le_of_ble_eq_true rfl) (by decide) rfl (r := (RX9, TX9, 32)) rfl rfl rfl (fun _ _ h => h) ?_
        refine j_loc C [2, 3, 1, 0] rfl ?_
        exact jn124 v1 (((p63.1 0 13) + 1) + (3 * v2)) (s83_4.1 0 15) p121.1 p121.2  h
      · have h := jite_t h cq
        refine j_aload_n C dX9_clause_106 2 rfl ?_
        refine j_iload_n C dX9_clause_107 1 rfl ?_
        obtain ⟨p108, he108, h⟩ := jbind h
        refine j_cV1 C dX9_clause_108 (m_X9_knocked n (((p63.1 0 13) + 1) + (3 * v2)) s83_4 he108) kc_X9_knocked w_1156 w_1158 wp_65 w_11 jy_X9_knocked ⟨⟨Nat.le_of_ble_eq_true rfl, Nat.le_of_ble_eq_true rfl⟩, ⟨rfl, rfl⟩, ⟨Nat.zero_le _, Nat.zero_le _⟩⟩ (Nat.le_of_ble_eq_true rfl) (by decide) rfl (r := (RX9, TX9, 32)) rfl rfl rfl (fun _ _ h => h) ?_
        refine j_goto C dX9_clause_111 (tgt := 124) (by decide) ?_
        refine j_loc C [2, 3, 1, 0] rfl ?_
        exact jn124 v1 (((p63.1 0 13) + 1) + (3 * v2)) (s83_4.1 0 15) p108.1 p108.2  h
    · have h := jite_t h cq
      refine j_aload_n C dX9_clause_94 2 rfl ?_
      obtain ⟨p95, he95, h⟩ := jbind h
      refine j_cV1 C dX9_clause_95 (m_X9_either n s83_4 he95) kc_X9_either w_1100 w_1102 wp_52 w_11 jy_X9_either ⟨⟨Nat.le_of_ble_eq_true rfl, Nat.le_of_ble_eq_true rfl⟩, ⟨rfl, rfl⟩, ⟨Nat.zero_le _, Nat.zero_le _⟩⟩ (Nat.le_of_ble_eq_true rfl) (by decide) rfl (r := (RX9, TX9, 32)) rfl rfl rfl (fun _ _ h => h) ?_
      refine j_goto C dX9_clause_98 (tgt := 124) (by decide) ?_
      refine j_loc C [2, 3, 1, 0] rfl ?_
      exact jn124 v1 (((p63.1 0 13) + 1) + (3 * v2)) (s83_4.1 0 15) p95.1 p95.2  h
  have jn54 : ∀ (v1 : Int32) (v2 : Int32) (s : jS) (_ : J_X9_clause_54 n v1 v2 s = some p), K 0 0 (jw 15 (cellM G) ad s) 54 [(0, .ref (ad 0)), (1, .int v1), (2, .int v2)] [.ref (ad 0)] := by
    intro v1 v2 s h
    unfold J_X9_clause_54 at h
    refine j_iconst C dX9_clause_54 (v := 1) (by decide) ?_
    refine j_goto C dX9_clause_55 (tgt := 59) (by decide) ?_
    refine j_loc C [0, 1, 2] rfl ?_
    exact jn59 v1 v2 true s  h
  have jn24 : ∀ (v1 : Int32) (s : jS) (_ : J_X9_clause_24 n v1 s = some p), K 0 0 (jw 15 (cellM G) ad s) 24 [(0, .ref (ad 0)), (1, .int v1)] [] := by
    intro v1 s h
    unfold J_X9_clause_24 at h
    refine j_aload_n C dX9_clause_24 0 rfl ?_
    refine j_getW C dX9_clause_25 inX9 rfl (by decide) rfl 3 (by decide) w_926 rfl rfl ?_
    refine j_aload_n C dX9_clause_28 0 rfl ?_
    refine j_getW C dX9_clause_29 inX9 rfl (by decide) rfl 13 (by decide) w_936 rfl rfl ?_
    obtain ⟨c32_1, h⟩ := jchk h
    refine j_ialdW C dX9_clause_32 (by decide) rfl (jin_vp c32_1) ?_
    refine j_istore_n C dX9_clause_33 (by decide) rfl ?_
    refine j_iload_n C dX9_clause_34 0 rfl ?_
    refine j_bipush C dX9_clause_35 (v := 24) (by decide) ?_
    refine j_icmp_ne C dX9_clause_37 (tgt := 42) (by decide) (fun cq => ?_) (fun cq => ?_)
    · have h := jite_f h cq
      refine j_aload_n C dX9_clause_42 1 rfl ?_
      refine j_aload_n C dX9_clause_43 1 rfl ?_
      refine j_getW C dX9_clause_44 inX9 rfl (by decide) rfl 21 (by decide) w_942 rfl rfl ?_
      refine j_if_ne C dX9_clause_47 (tgt := 54) (by decide) (fun cq => ?_) (fun cq => ?_)
      · have h := jite_t h (jb_t cq)
        refine j_loc C [1, 2, 0] rfl ?_
        exact jn54 v1 (s.1 3 (Int32.toNatClampNeg (s.1 0 13))) s  h
      · have h := jite_f h (jb_f cq)
        refine j_iload_n C dX9_clause_50 2 rfl ?_
        refine j_if_ne C dX9_clause_51 (tgt := 58) (by decide) (fun cq => ?_) (fun cq => ?_)
        · have h := jite_f h cq
          refine j_iconst C dX9_clause_58 (v := 0) (by decide) ?_
          refine j_loc C [1, 2, 0] rfl ?_
          exact jn59 v1 (s.1 3 (Int32.toNatClampNeg (s.1 0 13))) false s  h
        · have h := jite_t h cq
          refine j_loc C [1, 2, 0] rfl ?_
          exact jn54 v1 (s.1 3 (Int32.toNatClampNeg (s.1 0 13))) s  h
    · have h := jite_t h cq
      refine j_iconst C dX9_clause_40 (v := 5) (by decide) ?_
      exact j_iret C dX9_clause_41 rfl rfl (Nat.zero_le _) (Nat.zero_le _) (jretWI h)
  show K 0 0 (jw 15 (cellM G) ad s) 0 [(0, .ref (ad 0))] []
  refine j_aload_n C dX9_clause_0 0 rfl ?_
  refine j_cV1 C dX9_clause_1 (m_X9_sortOf s rfl) kc_X9_sortOf w_1083 w_1085 wp_50 w_11 jy_X9_sortOf ⟨⟨Nat.le_of_ble_eq_true rfl, Nat.le_of_ble_eq_true rfl⟩, ⟨rfl, rfl⟩, ⟨Nat.zero_le _, Nat.zero_le _⟩⟩ (Nat.le_of_ble_eq_true rfl) (by decide) rfl (r := (RX9, TX9, 32)) rfl rfl rfl (fun _ _ h => h) ?_
  refine j_istore_n C dX9_clause_4 (by decide) rfl ?_
  refine j_iload_n C dX9_clause_5 0 rfl ?_
  refine j_if_ge C dX9_clause_6 (tgt := 11) (by decide) (fun cq => ?_) (fun cq => ?_)
  · have h := jite_t h cq
    refine j_iload_n C dX9_clause_11 0 rfl ?_
    refine j_if_ne C dX9_clause_12 (tgt := 24) (by decide) (fun cq => ?_) (fun cq => ?_)
    · have h := jite_f h cq
      refine j_loc C [1, 0] rfl ?_
      exact jn24 (F_X9_sortOf s) s  h
    · have h := jite_t h cq
      refine j_aload_n C dX9_clause_15 1 rfl ?_
      refine j_getW C dX9_clause_16 inX9 rfl (by decide) rfl 21 (by decide) w_942 rfl rfl ?_
      refine j_if_eq C dX9_clause_19 (tgt := 24) (by decide) (fun cq => ?_) (fun cq => ?_)
      · have h := jite_f h (jb_f cq)
        refine j_loc C [1, 0] rfl ?_
        exact jn24 (F_X9_sortOf s) s  h
      · have h := jite_t h (jb_t cq)
        refine j_iconst C dX9_clause_22 (v := 4) (by decide) ?_
        exact j_iret C dX9_clause_23 rfl rfl (Nat.zero_le _) (Nat.zero_le _) (jretWI h)
  · have h := jite_f h cq
    refine j_iconst C dX9_clause_9 (v := 1) (by decide) ?_
    exact j_iret C dX9_clause_10 rfl rfl (Nat.zero_le _) (Nat.zero_le _) (jretWI h)
-- X9_readText
def B_X9_readText_48 (n : Nat) (q : jS) : Option (jS ⊕ ((jS) ⊕ ((Int32 × jS)))) :=
  (if (q.1 0 10) = 0 then some (.inr (.inl q)) else ((F_X9_clause n q).bind fun p56 => (if p56.1 = 0 then some (.inl p56.2) else some (.inr (.inr (p56.1, p56.2))))))
def F_X9_readText (n : Nat) (s : jS) : Option (Int32 × jS) :=
  (jl (upI s 0 13 (680 * (s.1 1 (Int32.toNatClampNeg 0)))) fun s11_1 => (if jin (s11_1.1 0 13) 2720 = true then (jl (upI s11_1 3 (Int32.toNatClampNeg (s11_1.1 0 13)) 0) fun s23_3 => (jl (upI s23_3 0 15 0) fun s26_4 => (jl (upI s26_4 0 19 0) fun s31_5 => (jl (upI s31_5 0 21 (jb false)) fun s36_6 => (jl (upI s36_6 0 8 0) fun s41_7 => ((F_X9_nextToken n s41_7).bind fun p45 => ((lp (B_X9_readText_48 n) n p45).bind fun e => Sum.elim (fun e48 => some (0, e48)) (fun r48 => some r48) e))))))) else none))
def rm_X9_readText : Room := { frames := 9, cells := 0, slots := 0, locals := 207 }
set_option maxHeartbeats 4000000 in
set_option maxRecDepth 100000 in
theorem m_X9_readText {l : Launch} {D : va_G} {G : Nat → ClassId} {KV : jV} {ad : Nat → Nat} (n : Nat) (s : jS) {p : Int32 × jS} (h : F_X9_readText n s = some p) : jM l D G KV yX9_readText cX9_readText 2 (some .int) rm_X9_readText [.ref (ad 0)] (jw 15 (cellM G) ad s) 0 0 (fun v u => v = some (.int p.1) ∧ u = jw 15 (cellM G) ad p.2) := by
  refine jM.of (by decide) (Nat.le_of_ble_eq_true rfl) ?_
  intro K C
  unfold F_X9_readText at h
  have lo48 : ∀ (s : jS) (k : Nat) (q : jS) (e : (jS) ⊕ ((Int32 × jS))), lp (B_X9_readText_48 n) k q = some e → Sum.elim (fun e => K 0 0 (jw 15 (cellM G) ad e) 69 [] []) (fun r => some r = some p) e → K 0 0 (jw 15 (cellM G) ad q) 48 [(0, .ref (ad 0))] [] := by
    intro s k q e he hE
    refine jlp (KH := fun q => K 0 0 (jw 15 (cellM G) ad q) 48 [(0, .ref (ad 0))] []) (KE := fun e => Sum.elim (fun e => K 0 0 (jw 15 (cellM G) ad e) 69 [] []) (fun r => some r = some p) e) ?_ k q e he hE
    intro q o hb hin hout
    unfold B_X9_readText_48 at hb
    show K 0 0 (jw 15 (cellM G) ad q) 48 [(0, .ref (ad 0))] []
    refine j_aload_n C dX9_readText_48 0 rfl ?_
    refine j_getW C dX9_readText_49 inX9 rfl (by decide) rfl 10 (by decide) w_933 rfl rfl ?_
    refine j_if_eq C dX9_readText_52 (tgt := 69) (by decide) (fun cq => ?_) (fun cq => ?_)
    · have hb := jite_t hb cq
      refine j_loc C [] rfl ?_
      have hx := hout _ (jinr hb)
      exact hx
    · have hb := jite_f hb cq
      refine j_aload_n C dX9_readText_55 0 rfl ?_
      obtain ⟨p56, he56, hb⟩ := jbind hb
      refine j_cV1 C dX9_readText_56 (m_X9_clause n q he56) kc_X9_clause w_1079 w_1081 wp_49 w_11 jy_X9_clause ⟨⟨Nat.le_of_ble_eq_true rfl, Nat.le_of_ble_eq_true rfl⟩, ⟨rfl, rfl⟩, ⟨Nat.zero_le _, Nat.zero_le _⟩⟩ (Nat.le_of_ble_eq_true rfl) (by decide) rfl (r := (RX9, TX9, 32)) rfl rfl rfl (fun _ _ h => h) ?_
      refine j_istore_n C dX9_readText_59 (by decide) rfl ?_
      refine j_iload_n C dX9_readText_60 0 rfl ?_
      refine j_if_eq C dX9_readText_61 (tgt := 66) (by decide) (fun cq => ?_) (fun cq => ?_)
      · have hb := jite_t hb cq
        refine j_goto C dX9_readText_66 (tgt := 48) (by decide) ?_
        refine j_loc C [1] rfl ?_
        have hx := hin _ (jinl hb)
        exact hx
      · have hb := jite_f hb cq
        refine j_iload_n C dX9_readText_64 0 rfl ?_
        exact j_iret C dX9_readText_65 rfl rfl (Nat.zero_le _) (Nat.zero_le _) (jretWI (jretL hb hout))
  show K 0 0 (jw 15 (cellM G) ad s) 0 [(0, .ref (ad 0))] []
  refine j_aload_n C dX9_readText_0 0 rfl ?_
  refine j_sipush C dX9_readText_1 (v := 680) (by decide) ?_
  refine j_aload_n C dX9_readText_4 0 rfl ?_
  refine j_getW C dX9_readText_5 inX9 rfl (by decide) rfl 0 (by decide) w_923 rfl rfl ?_
  refine j_iconst C dX9_readText_8 (v := 0) (by decide) ?_
  refine j_ialdW C dX9_readText_9 (by decide) rfl (jin_vp (i := 0) (n := 324) (by decide)) ?_
  refine j_imul C dX9_readText_10 ?_
  refine j_putI C dX9_readText_11 inX9 tyX9 tyX9_ok nmX9 rfl (by decide) 13 rfl rfl (by decide) w_936 rfl rfl rfl rfl (Nat.le_of_ble_eq_true rfl) (fun s11_1 hs11_1 => ?_)
  have h := jlet h hs11_1
  refine j_aload_n C dX9_readText_14 0 rfl ?_
  refine j_getW C dX9_readText_15 inX9 rfl (by decide) rfl 3 (by decide) w_926 rfl rfl ?_
  refine j_aload_n C dX9_readText_18 0 rfl ?_
  refine j_getW C dX9_readText_19 inX9 rfl (by decide) rfl 13 (by decide) w_936 rfl rfl ?_
  refine j_iconst C dX9_readText_22 (v := 0) (by decide) ?_
  obtain ⟨c23_2, h⟩ := jchk h
  refine j_iastW C dX9_readText_23 (by decide) (fun _ => rfl) (jin_vp c23_2) (fun s23_3 hs23_3 => ?_)
  have h := jlet h hs23_3
  refine j_aload_n C dX9_readText_24 0 rfl ?_
  refine j_iconst C dX9_readText_25 (v := 0) (by decide) ?_
  refine j_putI C dX9_readText_26 inX9 tyX9 tyX9_ok nmX9 rfl (by decide) 15 rfl rfl (by decide) w_937 rfl rfl rfl rfl (Nat.le_of_ble_eq_true rfl) (fun s26_4 hs26_4 => ?_)
  have h := jlet h hs26_4
  refine j_aload_n C dX9_readText_29 0 rfl ?_
  refine j_iconst C dX9_readText_30 (v := 0) (by decide) ?_
  refine j_putI C dX9_readText_31 inX9 tyX9 tyX9_ok nmX9 rfl (by decide) 19 rfl rfl (by decide) w_940 rfl rfl rfl rfl (Nat.le_of_ble_eq_true rfl) (fun s31_5 hs31_5 => ?_)
  have h := jlet h hs31_5
  refine j_aload_n C dX9_readText_34 0 rfl ?_
  refine j_iconst C dX9_readText_35 (v := 0) (by decide) ?_
  refine j_putI C dX9_readText_36 inX9 tyX9 tyX9_ok nmX9 rfl (by decide) 21 (x := jb false) rfl rfl (by decide) w_942 rfl rfl (jb_nar false) (jb_fit false) (Nat.le_of_ble_eq_true rfl) (fun s36_6 hs36_6 => ?_)
  have h := jlet h hs36_6
  refine j_aload_n C dX9_readText_39 0 rfl ?_
  refine j_iconst C dX9_readText_40 (v := 0) (by decide) ?_
  refine j_putI C dX9_readText_41 inX9 tyX9 tyX9_ok nmX9 rfl (by decide) 8 rfl rfl (by decide) w_931 rfl rfl rfl rfl (Nat.le_of_ble_eq_true rfl) (fun s41_7 hs41_7 => ?_)
  have h := jlet h hs41_7
  refine j_aload_n C dX9_readText_44 0 rfl ?_
  obtain ⟨p45, he45, h⟩ := jbind h
  refine j_cV0 C dX9_readText_45 (m_X9_nextToken n s41_7 he45) kc_X9_nextToken w_1064 w_1066 wp_47 w_11 jy_X9_nextToken ⟨⟨Nat.le_of_ble_eq_true rfl, Nat.le_of_ble_eq_true rfl⟩, ⟨rfl, rfl⟩, ⟨Nat.zero_le _, Nat.zero_le _⟩⟩ (Nat.le_of_ble_eq_true rfl) (by decide) rfl (r := (RX9, TX9, 32)) rfl rfl rfl (fun _ _ h => h) ?_
  refine j_loc C [0] rfl ?_
  obtain ⟨e48, he48, h⟩ := jbind h
  refine lo48  p45  n p45 e48 he48 ?_
  rcases e48 with e48 | r48
  · show K _ _ _ _ _ _
    refine j_iconst C dX9_readText_69 (v := 0) (by decide) ?_
    exact j_iret C dX9_readText_70 rfl rfl (Nat.zero_le _) (Nat.zero_le _) (jretWI h)
  · exact h
-- X9_text
def J_X9_text_36 (n : Nat) (k1 : Int32) (s : jS) : Option (Int32 × jS) :=
  (jl (upI s 0 7 k1) fun s36_2 => (jl (upI s36_2 0 5 0) fun s41_3 => (if (s41_3.1 0 6) = 0 then (jl (upI s41_3 1 (Int32.toNatClampNeg 0) ((s41_3.1 1 (Int32.toNatClampNeg 0)) + 1)) fun s62_4 => some (((s62_4.1 1 (Int32.toNatClampNeg 0)) - 1), s62_4)) else some ((-1), s41_3))))
def F_X9_text (n : Nat) (s : jS) : Option (Int32 × jS) :=
  (if (s.1 1 (Int32.toNatClampNeg 0)) = 4 then some ((-1), s) else ((F_X9_readText n s).bind fun p14 => (jl (upI p14.2 0 6 p14.1) fun s17_1 => (if (s17_1.1 0 6) = 0 then J_X9_text_36 n (-1) s17_1 else J_X9_text_36 n (s17_1.1 0 9) s17_1))))
def rm_X9_text : Room := { frames := 10, cells := 0, slots := 0, locals := 228 }
set_option maxHeartbeats 4000000 in
set_option maxRecDepth 100000 in
theorem m_X9_text {l : Launch} {D : va_G} {G : Nat → ClassId} {KV : jV} {ad : Nat → Nat} (n : Nat) (s : jS) {p : Int32 × jS} (h : F_X9_text n s = some p) : jM l D G KV yX9_text cX9_text 1 (some .int) rm_X9_text [.ref (ad 0)] (jw 15 (cellM G) ad s) 0 0 (fun v u => v = some (.int p.1) ∧ u = jw 15 (cellM G) ad p.2) := by
  refine jM.of (by decide) (Nat.le_of_ble_eq_true rfl) ?_
  intro K C
  unfold F_X9_text at h
  have jn36 : ∀ (k1 : Int32) (s : jS) (_ : J_X9_text_36 n k1 s = some p), K 0 0 (jw 15 (cellM G) ad s) 36 [(0, .ref (ad 0))] [.int k1, .ref (ad 0)] := by
    intro k1 s h
    unfold J_X9_text_36 at h
    refine j_putI C dX9_text_36 inX9 tyX9 tyX9_ok nmX9 rfl (by decide) 7 rfl rfl (by decide) w_930 rfl rfl rfl rfl (Nat.le_of_ble_eq_true rfl) (fun s36_2 hs36_2 => ?_)
    have h := jlet h hs36_2
    refine j_aload_n C dX9_text_39 0 rfl ?_
    refine j_iconst C dX9_text_40 (v := 0) (by decide) ?_
    refine j_putI C dX9_text_41 inX9 tyX9 tyX9_ok nmX9 rfl (by decide) 5 rfl rfl (by decide) w_928 rfl rfl rfl rfl (Nat.le_of_ble_eq_true rfl) (fun s41_3 hs41_3 => ?_)
    have h := jlet h hs41_3
    refine j_aload_n C dX9_text_44 0 rfl ?_
    refine j_getW C dX9_text_45 inX9 rfl (by decide) rfl 6 (by decide) w_929 rfl rfl ?_
    refine j_if_eq C dX9_text_48 (tgt := 53) (by decide) (fun cq => ?_) (fun cq => ?_)
    · have h := jite_t h cq
      refine j_aload_n C dX9_text_53 0 rfl ?_
      refine j_getW C dX9_text_54 inX9 rfl (by decide) rfl 0 (by decide) w_923 rfl rfl ?_
      refine j_iconst C dX9_text_57 (v := 0) (by decide) ?_
      refine j_dup2 C dX9_text_58 rfl rfl ?_
      refine j_ialdW C dX9_text_59 (by decide) rfl (jin_vp (i := 0) (n := 324) (by decide)) ?_
      refine j_iconst C dX9_text_60 (v := 1) (by decide) ?_
      refine j_iadd C dX9_text_61 ?_
      refine j_iastW C dX9_text_62 (by decide) (fun _ => rfl) (jin_vp (i := 0) (n := 324) (by decide)) (fun s62_4 hs62_4 => ?_)
      have h := jlet h hs62_4
      refine j_aload_n C dX9_text_63 0 rfl ?_
      refine j_getW C dX9_text_64 inX9 rfl (by decide) rfl 0 (by decide) w_923 rfl rfl ?_
      refine j_iconst C dX9_text_67 (v := 0) (by decide) ?_
      refine j_ialdW C dX9_text_68 (by decide) rfl (jin_vp (i := 0) (n := 324) (by decide)) ?_
      refine j_iconst C dX9_text_69 (v := 1) (by decide) ?_
      refine j_isub C dX9_text_70 ?_
      exact j_iret C dX9_text_71 rfl rfl (Nat.zero_le _) (Nat.zero_le _) (jretWI h)
    · have h := jite_f h cq
      refine j_iconst C dX9_text_51 (v := (-1)) (by decide) ?_
      exact j_iret C dX9_text_52 rfl rfl (Nat.zero_le _) (Nat.zero_le _) (jretWI h)
  show K 0 0 (jw 15 (cellM G) ad s) 0 [(0, .ref (ad 0))] []
  refine j_aload_n C dX9_text_0 0 rfl ?_
  refine j_getW C dX9_text_1 inX9 rfl (by decide) rfl 0 (by decide) w_923 rfl rfl ?_
  refine j_iconst C dX9_text_4 (v := 0) (by decide) ?_
  refine j_ialdW C dX9_text_5 (by decide) rfl (jin_vp (i := 0) (n := 324) (by decide)) ?_
  refine j_iconst C dX9_text_6 (v := 4) (by decide) ?_
  refine j_icmp_ne C dX9_text_7 (tgt := 12) (by decide) (fun cq => ?_) (fun cq => ?_)
  · have h := jite_f h cq
    refine j_aload_n C dX9_text_12 0 rfl ?_
    refine j_aload_n C dX9_text_13 0 rfl ?_
    obtain ⟨p14, he14, h⟩ := jbind h
    refine j_cV1 C dX9_text_14 (m_X9_readText n s he14) kc_X9_readText w_1060 w_1062 wp_46 w_11 jy_X9_readText ⟨⟨Nat.le_of_ble_eq_true rfl, Nat.le_of_ble_eq_true rfl⟩, ⟨rfl, rfl⟩, ⟨Nat.zero_le _, Nat.zero_le _⟩⟩ (Nat.le_of_ble_eq_true rfl) (by decide) rfl (r := (RX9, TX9, 32)) rfl rfl rfl (fun _ _ h => h) ?_
    refine j_putI C dX9_text_17 inX9 tyX9 tyX9_ok nmX9 rfl (by decide) 6 rfl rfl (by decide) w_929 rfl rfl rfl rfl (Nat.le_of_ble_eq_true rfl) (fun s17_1 hs17_1 => ?_)
    have h := jlet h hs17_1
    refine j_aload_n C dX9_text_20 0 rfl ?_
    refine j_aload_n C dX9_text_21 0 rfl ?_
    refine j_getW C dX9_text_22 inX9 rfl (by decide) rfl 6 (by decide) w_929 rfl rfl ?_
    refine j_if_ne C dX9_text_25 (tgt := 32) (by decide) (fun cq => ?_) (fun cq => ?_)
    · have h := jite_f h cq
      refine j_aload_n C dX9_text_32 0 rfl ?_
      refine j_getW C dX9_text_33 inX9 rfl (by decide) rfl 9 (by decide) w_932 rfl rfl ?_
      refine j_loc C [0] rfl ?_
      exact jn36 (s17_1.1 0 9) s17_1  h
    · have h := jite_t h cq
      refine j_iconst C dX9_text_28 (v := (-1)) (by decide) ?_
      refine j_goto C dX9_text_29 (tgt := 36) (by decide) ?_
      refine j_loc C [0] rfl ?_
      exact jn36 (-1) s17_1  h
  · have h := jite_t h cq
    refine j_iconst C dX9_text_10 (v := (-1)) (by decide) ?_
    exact j_iret C dX9_text_11 rfl rfl (Nat.zero_le _) (Nat.zero_le _) (jretWI h)
-- X9_fault
def F_X9_fault (v1 : Int32) (s : jS) : Int32 :=
  (if v1 = 0 then (s.1 0 6) else (if v1 = 1 then (s.1 0 7) else (-1)))
def rm_X9_fault : Room := { frames := 0, cells := 0, slots := 0, locals := 0 }
set_option maxHeartbeats 4000000 in
set_option maxRecDepth 100000 in
theorem m_X9_fault {l : Launch} {D : va_G} {G : Nat → ClassId} {KV : jV} {ad : Nat → Nat} (v1 : Int32) (s : jS) {p : Int32} (h : F_X9_fault v1 s = p) : jM l D G KV yX9_fault cX9_fault 2 (some .int) rm_X9_fault [.ref (ad 0), .int v1] (jw 15 (cellM G) ad s) 0 0 (fun v u => v = some (.int p) ∧ u = jw 15 (cellM G) ad s) := by
  refine jM.of (by decide) (Nat.le_of_ble_eq_true rfl) ?_
  intro K C
  unfold F_X9_fault at h
  show K 0 0 (jw 15 (cellM G) ad s) 0 [(0, .ref (ad 0)), (1, .int v1)] []
  refine j_iload_n C dX9_fault_0 1 rfl ?_
  refine j_if_ne C dX9_fault_1 (tgt := 11) (by decide) (fun cq => ?_) (fun cq => ?_)
  · have h := jite_f h cq
    refine j_iload_n C dX9_fault_11 1 rfl ?_
    refine j_iconst C dX9_fault_12 (v := 1) (by decide) ?_
    refine j_icmp_ne C dX9_fault_13 (tgt := 23) (by decide) (fun cq => ?_) (fun cq => ?_)
    · have h := jite_f h cq
      refine j_iconst C dX9_fault_23 (v := (-1)) (by decide) ?_
      exact j_iret C dX9_fault_24 rfl rfl (Nat.zero_le _) (Nat.zero_le _) (jretTI h)
    · have h := jite_t h cq
      refine j_aload_n C dX9_fault_16 0 rfl ?_
      refine j_getW C dX9_fault_17 inX9 rfl (by decide) rfl 7 (by decide) w_930 rfl rfl ?_
      refine j_goto C dX9_fault_20 (tgt := 24) (by decide) ?_
      exact j_iret C dX9_fault_24 rfl rfl (Nat.zero_le _) (Nat.zero_le _) (jretTI h)
  · have h := jite_t h cq
    refine j_aload_n C dX9_fault_4 0 rfl ?_
    refine j_getW C dX9_fault_5 inX9 rfl (by decide) rfl 6 (by decide) w_929 rfl rfl ?_
    refine j_goto C dX9_fault_8 (tgt := 24) (by decide) ?_
    exact j_iret C dX9_fault_24 rfl rfl (Nat.zero_le _) (Nat.zero_le _) (jretTI h)
-- X9_isRule
def F_X9_isRule (v1 : Int32) (s : jS) : Option Bool :=
  some (F_X9_isIn v1 (-1) ((s.1 1 (Int32.toNatClampNeg 0)) - 1))
def rm_X9_isRule : Room := { frames := 1, cells := 0, slots := 0, locals := 22 }
set_option maxHeartbeats 4000000 in
set_option maxRecDepth 100000 in
theorem m_X9_isRule {l : Launch} {D : va_G} {G : Nat → ClassId} {KV : jV} {ad : Nat → Nat} (v1 : Int32) (s : jS) {p : Bool} (h : F_X9_isRule v1 s = some p) : jM l D G KV yX9_isRule cX9_isRule 2 (some .boolean) rm_X9_isRule [.ref (ad 0), .int v1] (jw 15 (cellM G) ad s) 0 0 (fun v u => v = some (.int (jb p)) ∧ u = jw 15 (cellM G) ad s) := by
  refine jM.of (by decide) (Nat.le_of_ble_eq_true rfl) ?_
  intro K C
  unfold F_X9_isRule at h
  show K 0 0 (jw 15 (cellM G) ad s) 0 [(0, .ref (ad 0)), (1, .int v1)] []
  refine j_iload_n C dX9_isRule_0 1 rfl ?_
  refine j_iconst C dX9_isRule_1 (v := (-1)) (by decide) ?_
  refine j_aload_n C dX9_isRule_2 0 rfl ?_
  refine j_getW C dX9_isRule_3 inX9 rfl (by decide) rfl 0 (by decide) w_923 rfl rfl ?_
  refine j_iconst C dX9_isRule_6 (v := 0) (by decide) ?_
  refine j_ialdW C dX9_isRule_7 (by decide) rfl (jin_vp (i := 0) (n := 324) (by decide)) ?_
  refine j_iconst C dX9_isRule_8 (v := 1) (by decide) ?_
  refine j_isub C dX9_isRule_9 ?_
  refine j_cS1 C dX9_isRule_10 (m_X9_isIn v1 (-1) ((s.1 1 (Int32.toNatClampNeg 0)) - 1) rfl) kc_X9_isIn w_1025 w_1026 w_11 jy_X9_isIn ⟨⟨Nat.le_of_ble_eq_true rfl, Nat.le_of_ble_eq_true rfl⟩, ⟨rfl, rfl⟩, ⟨Nat.zero_le _, Nat.zero_le _⟩⟩ (Nat.le_of_ble_eq_true rfl) rfl (fun _ _ h => h) ?_
  exact j_iret C dX9_isRule_13 rfl (jb_nar (F_X9_isIn v1 (-1) ((s.1 1 (Int32.toNatClampNeg 0)) - 1))) (Nat.zero_le _) (Nat.zero_le _) (jretPB h)
-- X9_keep
def F_X9_keep (v1 : Int32) (v2 : Int32) (s : jS) : Option (Bool × jS) :=
  (if (F_X9_isDoor v1 s) = true then ((F_X9_isRule v2 s).bind fun p10 => (if p10 = true then (if jin (28 + v1) 324 = true then (jl (upI s 1 (Int32.toNatClampNeg (28 + v1)) v2) fun s27_2 => some (true, s27_2)) else none) else some (false, s))) else some (false, s))
def rm_X9_keep : Room := { frames := 2, cells := 0, slots := 0, locals := 43 }
set_option maxHeartbeats 4000000 in
set_option maxRecDepth 100000 in
theorem m_X9_keep {l : Launch} {D : va_G} {G : Nat → ClassId} {KV : jV} {ad : Nat → Nat} (v1 : Int32) (v2 : Int32) (s : jS) {p : Bool × jS} (h : F_X9_keep v1 v2 s = some p) : jM l D G KV yX9_keep cX9_keep 3 (some .boolean) rm_X9_keep [.ref (ad 0), .int v1, .int v2] (jw 15 (cellM G) ad s) 0 0 (fun v u => v = some (.int (jb p.1)) ∧ u = jw 15 (cellM G) ad p.2) := by
  refine jM.of (by decide) (Nat.le_of_ble_eq_true rfl) ?_
  intro K C
  unfold F_X9_keep at h
  show K 0 0 (jw 15 (cellM G) ad s) 0 [(0, .ref (ad 0)), (1, .int v1), (2, .int v2)] []
  refine j_aload_n C dX9_keep_0 0 rfl ?_
  refine j_iload_n C dX9_keep_1 1 rfl ?_
  refine j_cV1 C dX9_keep_2 (m_X9_isDoor v1 s rfl) kc_X9_isDoor w_1032 w_1034 wp_44 w_11 jy_X9_isDoor ⟨⟨Nat.le_of_ble_eq_true rfl, Nat.le_of_ble_eq_true rfl⟩, ⟨rfl, rfl⟩, ⟨Nat.zero_le _, Nat.zero_le _⟩⟩ (Nat.le_of_ble_eq_true rfl) (by decide) rfl (r := (RX9, TX9, 32)) rfl rfl rfl (fun _ _ h => h) ?_
  refine j_if_eq C dX9_keep_5 (tgt := 16) (by decide) (fun cq => ?_) (fun cq => ?_)
  · have h := jite_f h (jb_f cq)
    refine j_iconst C dX9_keep_16 (v := 0) (by decide) ?_
    exact j_iret C dX9_keep_17 rfl (jb_nar false) (Nat.zero_le _) (Nat.zero_le _) (jretWB h)
  · have h := jite_t h (jb_t cq)
    refine j_aload_n C dX9_keep_8 0 rfl ?_
    refine j_iload_n C dX9_keep_9 2 rfl ?_
    obtain ⟨p10, he10, h⟩ := jbind h
    refine j_cV1 C dX9_keep_10 (m_X9_isRule v2 s he10) kc_X9_isRule w_1172 w_1174 wp_67 w_11 jy_X9_isRule ⟨⟨Nat.le_of_ble_eq_true rfl, Nat.le_of_ble_eq_true rfl⟩, ⟨rfl, rfl⟩, ⟨Nat.zero_le _, Nat.zero_le _⟩⟩ (Nat.le_of_ble_eq_true rfl) (by decide) rfl (r := (RX9, TX9, 32)) rfl rfl rfl (fun _ _ h => h) ?_
    refine j_if_ne C dX9_keep_13 (tgt := 18) (by decide) (fun cq => ?_) (fun cq => ?_)
    · have h := jite_t h (jb_t cq)
      refine j_aload_n C dX9_keep_18 0 rfl ?_
      refine j_getW C dX9_keep_19 inX9 rfl (by decide) rfl 0 (by decide) w_923 rfl rfl ?_
      refine j_bipush C dX9_keep_22 (v := 28) (by decide) ?_
      refine j_iload_n C dX9_keep_24 1 rfl ?_
      refine j_iadd C dX9_keep_25 ?_
      refine j_iload_n C dX9_keep_26 2 rfl ?_
      obtain ⟨c27_1, h⟩ := jchk h
      refine j_iastW C dX9_keep_27 (by decide) (fun _ => rfl) (jin_vp c27_1) (fun s27_2 hs27_2 => ?_)
      have h := jlet h hs27_2
      refine j_iconst C dX9_keep_28 (v := 1) (by decide) ?_
      exact j_iret C dX9_keep_29 rfl (jb_nar true) (Nat.zero_le _) (Nat.zero_le _) (jretWB h)
    · have h := jite_f h (jb_f cq)
      refine j_iconst C dX9_keep_16 (v := 0) (by decide) ?_
      exact j_iret C dX9_keep_17 rfl (jb_nar false) (Nat.zero_le _) (Nat.zero_le _) (jretWB h)
-- X9_isKnock
def F_X9_isKnock (v0 : Int32) (v1 : Int32) : Bool :=
  (if (F_X9_isIn v0 1 7) = true then (if (F_X9_isIn v1 0 5) = true then true else false) else false)
def rm_X9_isKnock : Room := { frames := 1, cells := 0, slots := 0, locals := 22 }
set_option maxHeartbeats 4000000 in
set_option maxRecDepth 100000 in
theorem m_X9_isKnock {l : Launch} {D : va_G} {G : Nat → ClassId} {KV : jV} {ad : Nat → Nat} {s : jS} (v0 : Int32) (v1 : Int32) {p : Bool} (h : F_X9_isKnock v0 v1 = p) : jM l D G KV yX9_isKnock cX9_isKnock 2 (some .boolean) rm_X9_isKnock [.int v0, .int v1] (jw 15 (cellM G) ad s) 0 0 (fun v u => v = some (.int (jb p)) ∧ u = jw 15 (cellM G) ad s) := by
  refine jM.of (by decide) (Nat.le_of_ble_eq_true rfl) ?_
  intro K C
  unfold F_X9_isKnock at h
  show K 0 0 (jw 15 (cellM G) ad s) 0 [(0, .int v0), (1, .int v1)] []
  refine j_iload_n C dX9_isKnock_0 0 rfl ?_
  refine j_iconst C dX9_isKnock_1 (v := 1) (by decide) ?_
  refine j_bipush C dX9_isKnock_2 (v := 7) (by decide) ?_
  refine j_cS1 C dX9_isKnock_4 (m_X9_isIn v0 1 7 rfl) kc_X9_isIn w_1025 w_1026 w_11 jy_X9_isIn ⟨⟨Nat.le_of_ble_eq_true rfl, Nat.le_of_ble_eq_true rfl⟩, ⟨rfl, rfl⟩, ⟨Nat.zero_le _, Nat.zero_le _⟩⟩ (Nat.le_of_ble_eq_true rfl) rfl (fun _ _ h => h) ?_
  refine j_if_eq C dX9_isKnock_7 (tgt := 23) (by decide) (fun cq => ?_) (fun cq => ?_)
  · have h := jite_f h (jb_f cq)
    refine j_iconst C dX9_isKnock_23 (v := 0) (by decide) ?_
    exact j_iret C dX9_isKnock_24 rfl (jb_nar false) (Nat.zero_le _) (Nat.zero_le _) (jretTB h)
  · have h := jite_t h (jb_t cq)
    refine j_iload_n C dX9_isKnock_10 1 rfl ?_
    refine j_iconst C dX9_isKnock_11 (v := 0) (by decide) ?_
    refine j_iconst C dX9_isKnock_12 (v := 5) (by decide) ?_
    refine j_cS1 C dX9_isKnock_13 (m_X9_isIn v1 0 5 rfl) kc_X9_isIn w_1025 w_1026 w_11 jy_X9_isIn ⟨⟨Nat.le_of_ble_eq_true rfl, Nat.le_of_ble_eq_true rfl⟩, ⟨rfl, rfl⟩, ⟨Nat.zero_le _, Nat.zero_le _⟩⟩ (Nat.le_of_ble_eq_true rfl) rfl (fun _ _ h => h) ?_
    refine j_if_eq C dX9_isKnock_16 (tgt := 23) (by decide) (fun cq => ?_) (fun cq => ?_)
    · have h := jite_f h (jb_f cq)
      refine j_iconst C dX9_isKnock_23 (v := 0) (by decide) ?_
      exact j_iret C dX9_isKnock_24 rfl (jb_nar false) (Nat.zero_le _) (Nat.zero_le _) (jretTB h)
    · have h := jite_t h (jb_t cq)
      refine j_iconst C dX9_isKnock_19 (v := 1) (by decide) ?_
      refine j_goto C dX9_isKnock_20 (tgt := 24) (by decide) ?_
      exact j_iret C dX9_isKnock_24 rfl (jb_nar true) (Nat.zero_le _) (Nat.zero_le _) (jretTB h)
-- X9_clip
def F_X9_clip (v0 : Int64) : Int64 :=
  (if (lg_cmp v0 1000000) ≤ 0 then (if 0 ≤ (lg_cmp v0 (-1000000)) then v0 else (-1000000)) else 1000000)
def rm_X9_clip : Room := { frames := 0, cells := 0, slots := 0, locals := 0 }
set_option maxHeartbeats 4000000 in
set_option maxRecDepth 100000 in
theorem m_X9_clip {l : Launch} {D : va_G} {G : Nat → ClassId} {KV : jV} {ad : Nat → Nat} {s : jS} (v0 : Int64) {p : Int64} (h : F_X9_clip v0 = p) : jM l D G KV yX9_clip cX9_clip 2 (some .long) rm_X9_clip [.long v0] (jw 15 (cellM G) ad s) 0 0 (fun v u => v = some (.long p) ∧ u = jw 15 (cellM G) ad s) := by
  refine jM.of (by decide) (Nat.le_of_ble_eq_true rfl) ?_
  intro K C
  unfold F_X9_clip at h
  show K 0 0 (jw 15 (cellM G) ad s) 0 [(0, .long v0)] []
  refine j_lload_n C dX9_clip_0 0 rfl ?_
  refine j_ldc2 C dX9_clip_1 (v := 1000000) w_1197 ?_
  refine j_lcmp C dX9_clip_4 ?_
  refine j_if_le C dX9_clip_5 (tgt := 14) (by decide) (fun cq => ?_) (fun cq => ?_)
  · have h := jite_t h cq
    refine j_lload_n C dX9_clip_14 0 rfl ?_
    refine j_ldc2 C dX9_clip_15 (v := (-1000000)) w_1198 ?_
    refine j_lcmp C dX9_clip_18 ?_
    refine j_if_ge C dX9_clip_19 (tgt := 28) (by decide) (fun cq => ?_) (fun cq => ?_)
    · have h := jite_t h cq
      refine j_lload_n C dX9_clip_28 0 rfl ?_
      exact j_lret C dX9_clip_29 rfl (Nat.zero_le _) (Nat.zero_le _) (jretTL h)
    · have h := jite_f h cq
      refine j_ldc2 C dX9_clip_22 (v := (-1000000)) w_1198 ?_
      refine j_goto C dX9_clip_25 (tgt := 29) (by decide) ?_
      exact j_lret C dX9_clip_29 rfl (Nat.zero_le _) (Nat.zero_le _) (jretTL h)
  · have h := jite_f h cq
    refine j_ldc2 C dX9_clip_8 (v := 1000000) w_1197 ?_
    refine j_goto C dX9_clip_11 (tgt := 29) (by decide) ?_
    exact j_lret C dX9_clip_29 rfl (Nat.zero_le _) (Nat.zero_le _) (jretTL h)
-- X9_two
def F_X9_two (v0 : Int32) (v1 : Int64) (v3 : Int64) : Option Int64 :=
  (if v0 = 3 then some (F_X9_clip (v1 + v3)) else (if v0 = 4 then some (F_X9_clip (v1 - v3)) else (if v0 = 5 then some (F_X9_clip (v1 * v3)) else (if (lg_cmp v3 0) = 0 then some 0 else (if ¬ v3 = 0 then some (F_X9_clip (v1 / v3)) else none)))))
def rm_X9_two : Room := { frames := 1, cells := 0, slots := 0, locals := 21 }
set_option maxHeartbeats 4000000 in
set_option maxRecDepth 100000 in
theorem m_X9_two {l : Launch} {D : va_G} {G : Nat → ClassId} {KV : jV} {ad : Nat → Nat} {s : jS} (v0 : Int32) (v1 : Int64) (v3 : Int64) {p : Int64} (h : F_X9_two v0 v1 v3 = some p) : jM l D G KV yX9_two cX9_two 5 (some .long) rm_X9_two [.int v0, .long v1, .long v3] (jw 15 (cellM G) ad s) 0 0 (fun v u => v = some (.long p) ∧ u = jw 15 (cellM G) ad s) := by
  refine jM.of (by decide) (Nat.le_of_ble_eq_true rfl) ?_
  intro K C
  unfold F_X9_two at h
  show K 0 0 (jw 15 (cellM G) ad s) 0 [(0, .int v0), (1, .long v1), (3, .long v3)] []
  refine j_iload_n C dX9_two_0 0 rfl ?_
  by_cases cs3 : v0 = 3
  · have h := jite_t h cs3
    refine j_tinE C dX9_two_1 cs3 (by decide) (by decide) (off := 27) (by decide) (tgt := 28) (by decide) ?_
    refine j_lload_n C dX9_two_28 1 rfl ?_
    refine j_lload_n C dX9_two_29 2 rfl ?_
    refine j_ladd C dX9_two_30 ?_
    refine j_cS1 C dX9_two_31 (m_X9_clip (v1 + v3) rfl) kc_X9_clip w_1194 w_1195 w_11 jy_X9_clip ⟨⟨Nat.le_of_ble_eq_true rfl, Nat.le_of_ble_eq_true rfl⟩, ⟨rfl, rfl⟩, ⟨Nat.zero_le _, Nat.zero_le _⟩⟩ (Nat.le_of_ble_eq_true rfl) rfl (fun _ _ h => h) ?_
    exact j_lret C dX9_two_34 rfl (Nat.zero_le _) (Nat.zero_le _) (jretPL h)
  have h := jite_f h cs3
  by_cases cs4 : v0 = 4
  · have h := jite_t h cs4
    refine j_tinE C dX9_two_1 cs4 (by decide) (by decide) (off := 34) (by decide) (tgt := 35) (by decide) ?_
    refine j_lload_n C dX9_two_35 1 rfl ?_
    refine j_lload_n C dX9_two_36 2 rfl ?_
    refine j_lsub C dX9_two_37 ?_
    refine j_cS1 C dX9_two_38 (m_X9_clip (v1 - v3) rfl) kc_X9_clip w_1194 w_1195 w_11 jy_X9_clip ⟨⟨Nat.le_of_ble_eq_true rfl, Nat.le_of_ble_eq_true rfl⟩, ⟨rfl, rfl⟩, ⟨Nat.zero_le _, Nat.zero_le _⟩⟩ (Nat.le_of_ble_eq_true rfl) rfl (fun _ _ h => h) ?_
    exact j_lret C dX9_two_41 rfl (Nat.zero_le _) (Nat.zero_le _) (jretPL h)
  have h := jite_f h cs4
  by_cases cs5 : v0 = 5
  · have h := jite_t h cs5
    refine j_tinE C dX9_two_1 cs5 (by decide) (by decide) (off := 41) (by decide) (tgt := 42) (by decide) ?_
    refine j_lload_n C dX9_two_42 1 rfl ?_
    refine j_lload_n C dX9_two_43 2 rfl ?_
    refine j_lmul C dX9_two_44 ?_
    refine j_cS1 C dX9_two_45 (m_X9_clip (v1 * v3) rfl) kc_X9_clip w_1194 w_1195 w_11 jy_X9_clip ⟨⟨Nat.le_of_ble_eq_true rfl, Nat.le_of_ble_eq_true rfl⟩, ⟨rfl, rfl⟩, ⟨Nat.zero_le _, Nat.zero_le _⟩⟩ (Nat.le_of_ble_eq_true rfl) rfl (fun _ _ h => h) ?_
    exact j_lret C dX9_two_48 rfl (Nat.zero_le _) (Nat.zero_le _) (jretPL h)
  have h := jite_f h cs5
  refine j_tout C dX9_two_1 (jtsw (by decide) (by decide) (fun z h1 h2 => ?_)) (tgt := 49) (by decide) ?_
  · have hz : z = 3 ∨ z = 4 ∨ z = 5 := by omega
    rcases hz with rfl | rfl | rfl
    all_goals first | exact cs3 | exact cs4 | exact cs5
  refine j_lload_n C dX9_two_49 2 rfl ?_
  refine j_lconst C dX9_two_50 (v := 0) (by decide) ?_
  refine j_lcmp C dX9_two_51 ?_
  refine j_if_ne C dX9_two_52 (tgt := 59) (by decide) (fun cq => ?_) (fun cq => ?_)
  · have h := jite_f h cq
    refine j_lload_n C dX9_two_59 1 rfl ?_
    refine j_lload_n C dX9_two_60 2 rfl ?_
    obtain ⟨z61_1, h⟩ := jchk h
    refine j_ldiv C dX9_two_61 z61_1 ?_
    refine j_cS1 C dX9_two_62 (m_X9_clip (v1 / v3) rfl) kc_X9_clip w_1194 w_1195 w_11 jy_X9_clip ⟨⟨Nat.le_of_ble_eq_true rfl, Nat.le_of_ble_eq_true rfl⟩, ⟨rfl, rfl⟩, ⟨Nat.zero_le _, Nat.zero_le _⟩⟩ (Nat.le_of_ble_eq_true rfl) rfl (fun _ _ h => h) ?_
    exact j_lret C dX9_two_65 rfl (Nat.zero_le _) (Nat.zero_le _) (jretPL h)
  · have h := jite_t h cq
    refine j_lconst C dX9_two_55 (v := 0) (by decide) ?_
    refine j_goto C dX9_two_56 (tgt := 65) (by decide) ?_
    exact j_lret C dX9_two_65 rfl (Nat.zero_le _) (Nat.zero_le _) (jretPL h)
-- X9_isAsked
def F_X9_isAsked (v0 : Int32) (v1 : Int64) (v3 : Int64) : Bool :=
  (if v0 = 10 then (if 0 ≤ (lg_cmp v1 v3) then false else true) else (if v0 = 11 then (if 0 < (lg_cmp v1 v3) then false else true) else (if v0 = 12 then (if (lg_cmp v1 v3) ≤ 0 then false else true) else (if v0 = 13 then (if (lg_cmp v1 v3) < 0 then false else true) else (if v0 = 14 then (if (lg_cmp v1 v3) = 0 then true else false) else (if (lg_cmp v1 v3) = 0 then false else true))))))
def rm_X9_isAsked : Room := { frames := 0, cells := 0, slots := 0, locals := 0 }
set_option maxHeartbeats 4000000 in
set_option maxRecDepth 100000 in
theorem m_X9_isAsked {l : Launch} {D : va_G} {G : Nat → ClassId} {KV : jV} {ad : Nat → Nat} {s : jS} (v0 : Int32) (v1 : Int64) (v3 : Int64) {p : Bool} (h : F_X9_isAsked v0 v1 v3 = p) : jM l D G KV yX9_isAsked cX9_isAsked 5 (some .boolean) rm_X9_isAsked [.int v0, .long v1, .long v3] (jw 15 (cellM G) ad s) 0 0 (fun v u => v = some (.int (jb p)) ∧ u = jw 15 (cellM G) ad s) := by
  refine jM.of (by decide) (Nat.le_of_ble_eq_true rfl) ?_
  intro K C
  unfold F_X9_isAsked at h
  show K 0 0 (jw 15 (cellM G) ad s) 0 [(0, .int v0), (1, .long v1), (3, .long v3)] []
  refine j_iload_n C dX9_isAsked_0 0 rfl ?_
  refine j_bipush C dX9_isAsked_1 (v := 10) (by decide) ?_
  refine j_icmp_ne C dX9_isAsked_3 (tgt := 20) (by decide) (fun cq => ?_) (fun cq => ?_)
  · have h := jite_f h cq
    refine j_iload_n C dX9_isAsked_20 0 rfl ?_
    refine j_bipush C dX9_isAsked_21 (v := 11) (by decide) ?_
    refine j_icmp_ne C dX9_isAsked_23 (tgt := 40) (by decide) (fun cq => ?_) (fun cq => ?_)
    · have h := jite_f h cq
      refine j_iload_n C dX9_isAsked_40 0 rfl ?_
      refine j_bipush C dX9_isAsked_41 (v := 12) (by decide) ?_
      refine j_icmp_ne C dX9_isAsked_43 (tgt := 60) (by decide) (fun cq => ?_) (fun cq => ?_)
      · have h := jite_f h cq
        refine j_iload_n C dX9_isAsked_60 0 rfl ?_
        refine j_bipush C dX9_isAsked_61 (v := 13) (by decide) ?_
        refine j_icmp_ne C dX9_isAsked_63 (tgt := 80) (by decide) (fun cq => ?_) (fun cq => ?_)
        · have h := jite_f h cq
          refine j_iload_n C dX9_isAsked_80 0 rfl ?_
          refine j_bipush C dX9_isAsked_81 (v := 14) (by decide) ?_
          refine j_icmp_ne C dX9_isAsked_83 (tgt := 100) (by decide) (fun cq => ?_) (fun cq => ?_)
          · have h := jite_f h cq
            refine j_lload_n C dX9_isAsked_100 1 rfl ?_
            refine j_lload_n C dX9_isAsked_101 2 rfl ?_
            refine j_lcmp C dX9_isAsked_102 ?_
            refine j_if_eq C dX9_isAsked_103 (tgt := 110) (by decide) (fun cq => ?_) (fun cq => ?_)
            · have h := jite_t h cq
              refine j_iconst C dX9_isAsked_110 (v := 0) (by decide) ?_
              exact j_iret C dX9_isAsked_111 rfl (jb_nar false) (Nat.zero_le _) (Nat.zero_le _) (jretTB h)
            · have h := jite_f h cq
              refine j_iconst C dX9_isAsked_106 (v := 1) (by decide) ?_
              refine j_goto C dX9_isAsked_107 (tgt := 111) (by decide) ?_
              exact j_iret C dX9_isAsked_111 rfl (jb_nar true) (Nat.zero_le _) (Nat.zero_le _) (jretTB h)
          · have h := jite_t h cq
            refine j_lload_n C dX9_isAsked_86 1 rfl ?_
            refine j_lload_n C dX9_isAsked_87 2 rfl ?_
            refine j_lcmp C dX9_isAsked_88 ?_
            refine j_if_ne C dX9_isAsked_89 (tgt := 96) (by decide) (fun cq => ?_) (fun cq => ?_)
            · have h := jite_f h cq
              refine j_iconst C dX9_isAsked_96 (v := 0) (by decide) ?_
              refine j_goto C dX9_isAsked_97 (tgt := 111) (by decide) ?_
              exact j_iret C dX9_isAsked_111 rfl (jb_nar false) (Nat.zero_le _) (Nat.zero_le _) (jretTB h)
            · have h := jite_t h cq
              refine j_iconst C dX9_isAsked_92 (v := 1) (by decide) ?_
              refine j_goto C dX9_isAsked_93 (tgt := 111) (by decide) ?_
              exact j_iret C dX9_isAsked_111 rfl (jb_nar true) (Nat.zero_le _) (Nat.zero_le _) (jretTB h)
        · have h := jite_t h cq
          refine j_lload_n C dX9_isAsked_66 1 rfl ?_
          refine j_lload_n C dX9_isAsked_67 2 rfl ?_
          refine j_lcmp C dX9_isAsked_68 ?_
          refine j_if_lt C dX9_isAsked_69 (tgt := 76) (by decide) (fun cq => ?_) (fun cq => ?_)
          · have h := jite_t h cq
            refine j_iconst C dX9_isAsked_76 (v := 0) (by decide) ?_
            refine j_goto C dX9_isAsked_77 (tgt := 111) (by decide) ?_
            exact j_iret C dX9_isAsked_111 rfl (jb_nar false) (Nat.zero_le _) (Nat.zero_le _) (jretTB h)
          · have h := jite_f h cq
            refine j_iconst C dX9_isAsked_72 (v := 1) (by decide) ?_
            refine j_goto C dX9_isAsked_73 (tgt := 111) (by decide) ?_
            exact j_iret C dX9_isAsked_111 rfl (jb_nar true) (Nat.zero_le _) (Nat.zero_le _) (jretTB h)
      · have h := jite_t h cq
        refine j_lload_n C dX9_isAsked_46 1 rfl ?_
        refine j_lload_n C dX9_isAsked_47 2 rfl ?_
        refine j_lcmp C dX9_isAsked_48 ?_
        refine j_if_le C dX9_isAsked_49 (tgt := 56) (by decide) (fun cq => ?_) (fun cq => ?_)
        · have h := jite_t h cq
          refine j_iconst C dX9_isAsked_56 (v := 0) (by decide) ?_
          refine j_goto C dX9_isAsked_57 (tgt := 111) (by decide) ?_
          exact j_iret C dX9_isAsked_111 rfl (jb_nar false) (Nat.zero_le _) (Nat.zero_le _) (jretTB h)
        · have h := jite_f h cq
          refine j_iconst C dX9_isAsked_52 (v := 1) (by decide) ?_
          refine j_goto C dX9_isAsked_53 (tgt := 111) (by decide) ?_
          exact j_iret C dX9_isAsked_111 rfl (jb_nar true) (Nat.zero_le _) (Nat.zero_le _) (jretTB h)
    · have h := jite_t h cq
      refine j_lload_n C dX9_isAsked_26 1 rfl ?_
      refine j_lload_n C dX9_isAsked_27 2 rfl ?_
      refine j_lcmp C dX9_isAsked_28 ?_
      refine j_if_gt C dX9_isAsked_29 (tgt := 36) (by decide) (fun cq => ?_) (fun cq => ?_)
      · have h := jite_t h cq
        refine j_iconst C dX9_isAsked_36 (v := 0) (by decide) ?_
        refine j_goto C dX9_isAsked_37 (tgt := 111) (by decide) ?_
        exact j_iret C dX9_isAsked_111 rfl (jb_nar false) (Nat.zero_le _) (Nat.zero_le _) (jretTB h)
      · have h := jite_f h cq
        refine j_iconst C dX9_isAsked_32 (v := 1) (by decide) ?_
        refine j_goto C dX9_isAsked_33 (tgt := 111) (by decide) ?_
        exact j_iret C dX9_isAsked_111 rfl (jb_nar true) (Nat.zero_le _) (Nat.zero_le _) (jretTB h)
  · have h := jite_t h cq
    refine j_lload_n C dX9_isAsked_6 1 rfl ?_
    refine j_lload_n C dX9_isAsked_7 2 rfl ?_
    refine j_lcmp C dX9_isAsked_8 ?_
    refine j_if_ge C dX9_isAsked_9 (tgt := 16) (by decide) (fun cq => ?_) (fun cq => ?_)
    · have h := jite_t h cq
      refine j_iconst C dX9_isAsked_16 (v := 0) (by decide) ?_
      refine j_goto C dX9_isAsked_17 (tgt := 111) (by decide) ?_
      exact j_iret C dX9_isAsked_111 rfl (jb_nar false) (Nat.zero_le _) (Nat.zero_le _) (jretTB h)
    · have h := jite_f h cq
      refine j_iconst C dX9_isAsked_12 (v := 1) (by decide) ?_
      refine j_goto C dX9_isAsked_13 (tgt := 111) (by decide) ?_
      exact j_iret C dX9_isAsked_111 rfl (jb_nar true) (Nat.zero_le _) (Nat.zero_le _) (jretTB h)
