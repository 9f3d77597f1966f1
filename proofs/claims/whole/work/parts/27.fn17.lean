theorem dX9_work_0 : decode cX9_work 0 = .ok (.sipush 680, 3) := by decide +kernel
theorem dX9_work_3 : decode cX9_work 3 = .ok (.iload_n 1, 1) := by decide +kernel
theorem dX9_work_4 : decode cX9_work 4 = .ok (.imul, 1) := by decide +kernel
theorem dX9_work_5 : decode cX9_work 5 = .ok (.iconst 1, 1) := by decide +kernel
theorem dX9_work_6 : decode cX9_work 6 = .ok (.iadd, 1) := by decide +kernel
theorem dX9_work_7 : decode cX9_work 7 = .ok (.iconst 3, 1) := by decide +kernel
theorem dX9_work_8 : decode cX9_work 8 = .ok (.iload_n 2, 1) := by decide +kernel
theorem dX9_work_9 : decode cX9_work 9 = .ok (.imul, 1) := by decide +kernel
theorem dX9_work_10 : decode cX9_work 10 = .ok (.iadd, 1) := by decide +kernel
theorem dX9_work_11 : decode cX9_work 11 = .ok (.istore_n 3, 1) := by decide +kernel
theorem dX9_work_12 : decode cX9_work 12 = .ok (.sipush 680, 3) := by decide +kernel
theorem dX9_work_15 : decode cX9_work 15 = .ok (.iload_n 1, 1) := by decide +kernel
theorem dX9_work_16 : decode cX9_work 16 = .ok (.imul, 1) := by decide +kernel
theorem dX9_work_17 : decode cX9_work 17 = .ok (.bipush 75, 2) := by decide +kernel
theorem dX9_work_19 : decode cX9_work 19 = .ok (.iadd, 1) := by decide +kernel
theorem dX9_work_20 : decode cX9_work 20 = .ok (.istore 4, 2) := by decide +kernel
theorem dX9_work_22 : decode cX9_work 22 = .ok (.iconst 0, 1) := by decide +kernel
theorem dX9_work_23 : decode cX9_work 23 = .ok (.istore 5, 2) := by decide +kernel
theorem dX9_work_25 : decode cX9_work 25 = .ok (.iconst 0, 1) := by decide +kernel
theorem dX9_work_26 : decode cX9_work 26 = .ok (.istore 6, 2) := by decide +kernel
theorem dX9_work_28 : decode cX9_work 28 = .ok (.aload_n 0, 1) := by decide +kernel
theorem dX9_work_29 : decode cX9_work 29 = .ok (.getfield 16, 3) := by decide +kernel
theorem dX9_work_32 : decode cX9_work 32 = .ok (.iload_n 3, 1) := by decide +kernel
theorem dX9_work_33 : decode cX9_work 33 = .ok (.iconst 1, 1) := by decide +kernel
theorem dX9_work_34 : decode cX9_work 34 = .ok (.iadd, 1) := by decide +kernel
theorem dX9_work_35 : decode cX9_work 35 = .ok (.iaload, 1) := by decide +kernel
theorem dX9_work_36 : decode cX9_work 36 = .ok (.istore 7, 2) := by decide +kernel
theorem dX9_work_38 : decode cX9_work 38 = .ok (.iload 7, 2) := by decide +kernel
theorem dX9_work_40 : decode cX9_work 40 = .ok (.aload_n 0, 1) := by decide +kernel
theorem dX9_work_41 : decode cX9_work 41 = .ok (.getfield 16, 3) := by decide +kernel
theorem dX9_work_44 : decode cX9_work 44 = .ok (.iload_n 3, 1) := by decide +kernel
theorem dX9_work_45 : decode cX9_work 45 = .ok (.iconst 2, 1) := by decide +kernel
theorem dX9_work_46 : decode cX9_work 46 = .ok (.iadd, 1) := by decide +kernel
theorem dX9_work_47 : decode cX9_work 47 = .ok (.iaload, 1) := by decide +kernel
theorem dX9_work_48 : decode cX9_work 48 = .ok (.if_icmp .ge 304, 3) := by decide +kernel
theorem dX9_work_51 : decode cX9_work 51 = .ok (.aload_n 0, 1) := by decide +kernel
theorem dX9_work_52 : decode cX9_work 52 = .ok (.getfield 16, 3) := by decide +kernel
theorem dX9_work_55 : decode cX9_work 55 = .ok (.iload 4, 2) := by decide +kernel
theorem dX9_work_57 : decode cX9_work 57 = .ok (.iconst 2, 1) := by decide +kernel
theorem dX9_work_58 : decode cX9_work 58 = .ok (.iload 7, 2) := by decide +kernel
theorem dX9_work_60 : decode cX9_work 60 = .ok (.imul, 1) := by decide +kernel
theorem dX9_work_61 : decode cX9_work 61 = .ok (.iadd, 1) := by decide +kernel
theorem dX9_work_62 : decode cX9_work 62 = .ok (.iaload, 1) := by decide +kernel
theorem dX9_work_63 : decode cX9_work 63 = .ok (.istore 8, 2) := by decide +kernel
theorem dX9_work_65 : decode cX9_work 65 = .ok (.aload_n 0, 1) := by decide +kernel
theorem dX9_work_66 : decode cX9_work 66 = .ok (.getfield 16, 3) := by decide +kernel
theorem dX9_work_69 : decode cX9_work 69 = .ok (.iload 4, 2) := by decide +kernel
theorem dX9_work_71 : decode cX9_work 71 = .ok (.iconst 2, 1) := by decide +kernel
theorem dX9_work_72 : decode cX9_work 72 = .ok (.iload 7, 2) := by decide +kernel
theorem dX9_work_74 : decode cX9_work 74 = .ok (.imul, 1) := by decide +kernel
theorem dX9_work_75 : decode cX9_work 75 = .ok (.iadd, 1) := by decide +kernel
theorem dX9_work_76 : decode cX9_work 76 = .ok (.iconst 1, 1) := by decide +kernel
theorem dX9_work_77 : decode cX9_work 77 = .ok (.iadd, 1) := by decide +kernel
theorem dX9_work_78 : decode cX9_work 78 = .ok (.iaload, 1) := by decide +kernel
theorem dX9_work_79 : decode cX9_work 79 = .ok (.istore 9, 2) := by decide +kernel
theorem dX9_work_81 : decode cX9_work 81 = .ok (.iload 8, 2) := by decide +kernel
theorem dX9_work_83 : decode cX9_work 83 = .ok (.iconst 1, 1) := by decide +kernel
theorem dX9_work_84 : decode cX9_work 84 = .ok (.if_icmp .gt 35, 3) := by decide +kernel
theorem dX9_work_87 : decode cX9_work 87 = .ok (.aload_n 0, 1) := by decide +kernel
theorem dX9_work_88 : decode cX9_work 88 = .ok (.getfield 35, 3) := by decide +kernel
theorem dX9_work_91 : decode cX9_work 91 = .ok (.iload 5, 2) := by decide +kernel
theorem dX9_work_93 : decode cX9_work 93 = .ok (.iload 8, 2) := by decide +kernel
theorem dX9_work_95 : decode cX9_work 95 = .ok (.ifCond .ne 9, 3) := by decide +kernel
theorem dX9_work_98 : decode cX9_work 98 = .ok (.iload 9, 2) := by decide +kernel
theorem dX9_work_100 : decode cX9_work 100 = .ok (.i2l, 1) := by decide +kernel
theorem dX9_work_101 : decode cX9_work 101 = .ok (.goto 11, 3) := by decide +kernel
theorem dX9_work_104 : decode cX9_work 104 = .ok (.aload_n 0, 1) := by decide +kernel
theorem dX9_work_105 : decode cX9_work 105 = .ok (.getfield 32, 3) := by decide +kernel
theorem dX9_work_108 : decode cX9_work 108 = .ok (.iload 9, 2) := by decide +kernel
theorem dX9_work_110 : decode cX9_work 110 = .ok (.iaload, 1) := by decide +kernel
theorem dX9_work_111 : decode cX9_work 111 = .ok (.i2l, 1) := by decide +kernel
theorem dX9_work_112 : decode cX9_work 112 = .ok (.lastore, 1) := by decide +kernel
theorem dX9_work_113 : decode cX9_work 113 = .ok (.iinc 5 1, 3) := by decide +kernel
theorem dX9_work_116 : decode cX9_work 116 = .ok (.goto 230, 3) := by decide +kernel
theorem dX9_work_119 : decode cX9_work 119 = .ok (.iload 8, 2) := by decide +kernel
theorem dX9_work_121 : decode cX9_work 121 = .ok (.iconst 2, 1) := by decide +kernel
theorem dX9_work_122 : decode cX9_work 122 = .ok (.if_icmp .ne 25, 3) := by decide +kernel
theorem dX9_work_125 : decode cX9_work 125 = .ok (.aload_n 0, 1) := by decide +kernel
theorem dX9_work_126 : decode cX9_work 126 = .ok (.getfield 35, 3) := by decide +kernel
theorem dX9_work_129 : decode cX9_work 129 = .ok (.iload 5, 2) := by decide +kernel
theorem dX9_work_131 : decode cX9_work 131 = .ok (.iconst 1, 1) := by decide +kernel
theorem dX9_work_132 : decode cX9_work 132 = .ok (.isub, 1) := by decide +kernel
theorem dX9_work_133 : decode cX9_work 133 = .ok (.aload_n 0, 1) := by decide +kernel
theorem dX9_work_134 : decode cX9_work 134 = .ok (.getfield 35, 3) := by decide +kernel
theorem dX9_work_137 : decode cX9_work 137 = .ok (.iload 5, 2) := by decide +kernel
theorem dX9_work_139 : decode cX9_work 139 = .ok (.iconst 1, 1) := by decide +kernel
theorem dX9_work_140 : decode cX9_work 140 = .ok (.isub, 1) := by decide +kernel
theorem dX9_work_141 : decode cX9_work 141 = .ok (.laload, 1) := by decide +kernel
theorem dX9_work_142 : decode cX9_work 142 = .ok (.lneg, 1) := by decide +kernel
theorem dX9_work_143 : decode cX9_work 143 = .ok (.lastore, 1) := by decide +kernel
theorem dX9_work_144 : decode cX9_work 144 = .ok (.goto 202, 3) := by decide +kernel
theorem dX9_work_147 : decode cX9_work 147 = .ok (.iload 8, 2) := by decide +kernel
theorem dX9_work_149 : decode cX9_work 149 = .ok (.bipush 10, 2) := by decide +kernel
theorem dX9_work_151 : decode cX9_work 151 = .ok (.if_icmp .ge 39, 3) := by decide +kernel
theorem dX9_work_154 : decode cX9_work 154 = .ok (.iinc 5 (-1), 3) := by decide +kernel
theorem dX9_work_157 : decode cX9_work 157 = .ok (.aload_n 0, 1) := by decide +kernel
theorem dX9_work_158 : decode cX9_work 158 = .ok (.getfield 35, 3) := by decide +kernel
theorem dX9_work_161 : decode cX9_work 161 = .ok (.iload 5, 2) := by decide +kernel
theorem dX9_work_163 : decode cX9_work 163 = .ok (.iconst 1, 1) := by decide +kernel
theorem dX9_work_164 : decode cX9_work 164 = .ok (.isub, 1) := by decide +kernel
theorem dX9_work_165 : decode cX9_work 165 = .ok (.iload 8, 2) := by decide +kernel
theorem dX9_work_167 : decode cX9_work 167 = .ok (.aload_n 0, 1) := by decide +kernel
theorem dX9_work_168 : decode cX9_work 168 = .ok (.getfield 35, 3) := by decide +kernel
theorem dX9_work_171 : decode cX9_work 171 = .ok (.iload 5, 2) := by decide +kernel
theorem dX9_work_173 : decode cX9_work 173 = .ok (.iconst 1, 1) := by decide +kernel
theorem dX9_work_174 : decode cX9_work 174 = .ok (.isub, 1) := by decide +kernel
theorem dX9_work_175 : decode cX9_work 175 = .ok (.laload, 1) := by decide +kernel
theorem dX9_work_176 : decode cX9_work 176 = .ok (.aload_n 0, 1) := by decide +kernel
theorem dX9_work_177 : decode cX9_work 177 = .ok (.getfield 35, 3) := by decide +kernel
theorem dX9_work_180 : decode cX9_work 180 = .ok (.iload 5, 2) := by decide +kernel
theorem dX9_work_182 : decode cX9_work 182 = .ok (.laload, 1) := by decide +kernel
theorem dX9_work_183 : decode cX9_work 183 = .ok (.invokestatic 227, 3) := by decide +kernel
theorem dX9_work_186 : decode cX9_work 186 = .ok (.lastore, 1) := by decide +kernel
theorem dX9_work_187 : decode cX9_work 187 = .ok (.goto 159, 3) := by decide +kernel
theorem dX9_work_190 : decode cX9_work 190 = .ok (.iload 8, 2) := by decide +kernel
theorem dX9_work_192 : decode cX9_work 192 = .ok (.bipush 20, 2) := by decide +kernel
theorem dX9_work_194 : decode cX9_work 194 = .ok (.if_icmp .ge 40, 3) := by decide +kernel
theorem dX9_work_197 : decode cX9_work 197 = .ok (.iinc 5 (-2), 3) := by decide +kernel
theorem dX9_work_200 : decode cX9_work 200 = .ok (.aload_n 0, 1) := by decide +kernel
theorem dX9_work_201 : decode cX9_work 201 = .ok (.getfield 39, 3) := by decide +kernel
theorem dX9_work_204 : decode cX9_work 204 = .ok (.iload 6, 2) := by decide +kernel
theorem dX9_work_206 : decode cX9_work 206 = .ok (.iload 8, 2) := by decide +kernel
theorem dX9_work_208 : decode cX9_work 208 = .ok (.aload_n 0, 1) := by decide +kernel
theorem dX9_work_209 : decode cX9_work 209 = .ok (.getfield 35, 3) := by decide +kernel
theorem dX9_work_212 : decode cX9_work 212 = .ok (.iload 5, 2) := by decide +kernel
theorem dX9_work_214 : decode cX9_work 214 = .ok (.laload, 1) := by decide +kernel
theorem dX9_work_215 : decode cX9_work 215 = .ok (.aload_n 0, 1) := by decide +kernel
theorem dX9_work_216 : decode cX9_work 216 = .ok (.getfield 35, 3) := by decide +kernel
theorem dX9_work_219 : decode cX9_work 219 = .ok (.iload 5, 2) := by decide +kernel
theorem dX9_work_221 : decode cX9_work 221 = .ok (.iconst 1, 1) := by decide +kernel
theorem dX9_work_222 : decode cX9_work 222 = .ok (.iadd, 1) := by decide +kernel
theorem dX9_work_223 : decode cX9_work 223 = .ok (.laload, 1) := by decide +kernel
theorem dX9_work_224 : decode cX9_work 224 = .ok (.invokestatic 231, 3) := by decide +kernel
theorem dX9_work_227 : decode cX9_work 227 = .ok (.bastore, 1) := by decide +kernel
theorem dX9_work_228 : decode cX9_work 228 = .ok (.iinc 6 1, 3) := by decide +kernel
theorem dX9_work_231 : decode cX9_work 231 = .ok (.goto 115, 3) := by decide +kernel
theorem dX9_work_234 : decode cX9_work 234 = .ok (.iload 8, 2) := by decide +kernel
theorem dX9_work_236 : decode cX9_work 236 = .ok (.bipush 20, 2) := by decide +kernel
theorem dX9_work_238 : decode cX9_work 238 = .ok (.if_icmp .ne 32, 3) := by decide +kernel
theorem dX9_work_241 : decode cX9_work 241 = .ok (.aload_n 0, 1) := by decide +kernel
theorem dX9_work_242 : decode cX9_work 242 = .ok (.getfield 39, 3) := by decide +kernel
theorem dX9_work_245 : decode cX9_work 245 = .ok (.iload 6, 2) := by decide +kernel
theorem dX9_work_247 : decode cX9_work 247 = .ok (.iconst 1, 1) := by decide +kernel
theorem dX9_work_248 : decode cX9_work 248 = .ok (.isub, 1) := by decide +kernel
theorem dX9_work_249 : decode cX9_work 249 = .ok (.aload_n 0, 1) := by decide +kernel
theorem dX9_work_250 : decode cX9_work 250 = .ok (.getfield 39, 3) := by decide +kernel
theorem dX9_work_253 : decode cX9_work 253 = .ok (.iload 6, 2) := by decide +kernel
theorem dX9_work_255 : decode cX9_work 255 = .ok (.iconst 1, 1) := by decide +kernel
theorem dX9_work_256 : decode cX9_work 256 = .ok (.isub, 1) := by decide +kernel
theorem dX9_work_257 : decode cX9_work 257 = .ok (.baload, 1) := by decide +kernel
theorem dX9_work_258 : decode cX9_work 258 = .ok (.ifCond .ne 7, 3) := by decide +kernel
theorem dX9_work_261 : decode cX9_work 261 = .ok (.iconst 1, 1) := by decide +kernel
theorem dX9_work_262 : decode cX9_work 262 = .ok (.goto 4, 3) := by decide +kernel
theorem dX9_work_265 : decode cX9_work 265 = .ok (.iconst 0, 1) := by decide +kernel
theorem dX9_work_266 : decode cX9_work 266 = .ok (.bastore, 1) := by decide +kernel
theorem dX9_work_267 : decode cX9_work 267 = .ok (.goto 79, 3) := by decide +kernel
theorem dX9_work_270 : decode cX9_work 270 = .ok (.iinc 6 (-1), 3) := by decide +kernel
theorem dX9_work_273 : decode cX9_work 273 = .ok (.aload_n 0, 1) := by decide +kernel
theorem dX9_work_274 : decode cX9_work 274 = .ok (.getfield 39, 3) := by decide +kernel
theorem dX9_work_277 : decode cX9_work 277 = .ok (.iload 6, 2) := by decide +kernel
theorem dX9_work_279 : decode cX9_work 279 = .ok (.iconst 1, 1) := by decide +kernel
theorem dX9_work_280 : decode cX9_work 280 = .ok (.isub, 1) := by decide +kernel
theorem dX9_work_281 : decode cX9_work 281 = .ok (.iload 8, 2) := by decide +kernel
theorem dX9_work_283 : decode cX9_work 283 = .ok (.bipush 21, 2) := by decide +kernel
theorem dX9_work_285 : decode cX9_work 285 = .ok (.if_icmp .ne 33, 3) := by decide +kernel
theorem dX9_work_288 : decode cX9_work 288 = .ok (.aload_n 0, 1) := by decide +kernel
theorem dX9_work_289 : decode cX9_work 289 = .ok (.getfield 39, 3) := by decide +kernel
theorem dX9_work_292 : decode cX9_work 292 = .ok (.iload 6, 2) := by decide +kernel
theorem dX9_work_294 : decode cX9_work 294 = .ok (.iconst 1, 1) := by decide +kernel
theorem dX9_work_295 : decode cX9_work 295 = .ok (.isub, 1) := by decide +kernel
theorem dX9_work_296 : decode cX9_work 296 = .ok (.baload, 1) := by decide +kernel
theorem dX9_work_297 : decode cX9_work 297 = .ok (.ifCond .eq 17, 3) := by decide +kernel
theorem dX9_work_300 : decode cX9_work 300 = .ok (.aload_n 0, 1) := by decide +kernel
theorem dX9_work_301 : decode cX9_work 301 = .ok (.getfield 39, 3) := by decide +kernel
theorem dX9_work_304 : decode cX9_work 304 = .ok (.iload 6, 2) := by decide +kernel
theorem dX9_work_306 : decode cX9_work 306 = .ok (.baload, 1) := by decide +kernel
theorem dX9_work_307 : decode cX9_work 307 = .ok (.ifCond .eq 7, 3) := by decide +kernel
theorem dX9_work_310 : decode cX9_work 310 = .ok (.iconst 1, 1) := by decide +kernel
theorem dX9_work_311 : decode cX9_work 311 = .ok (.goto 34, 3) := by decide +kernel
theorem dX9_work_314 : decode cX9_work 314 = .ok (.iconst 0, 1) := by decide +kernel
theorem dX9_work_315 : decode cX9_work 315 = .ok (.goto 30, 3) := by decide +kernel
theorem dX9_work_318 : decode cX9_work 318 = .ok (.aload_n 0, 1) := by decide +kernel
theorem dX9_work_319 : decode cX9_work 319 = .ok (.getfield 39, 3) := by decide +kernel
theorem dX9_work_322 : decode cX9_work 322 = .ok (.iload 6, 2) := by decide +kernel
theorem dX9_work_324 : decode cX9_work 324 = .ok (.iconst 1, 1) := by decide +kernel
theorem dX9_work_325 : decode cX9_work 325 = .ok (.isub, 1) := by decide +kernel
theorem dX9_work_326 : decode cX9_work 326 = .ok (.baload, 1) := by decide +kernel
theorem dX9_work_327 : decode cX9_work 327 = .ok (.ifCond .ne 13, 3) := by decide +kernel
theorem dX9_work_330 : decode cX9_work 330 = .ok (.aload_n 0, 1) := by decide +kernel
theorem dX9_work_331 : decode cX9_work 331 = .ok (.getfield 39, 3) := by decide +kernel
theorem dX9_work_334 : decode cX9_work 334 = .ok (.iload 6, 2) := by decide +kernel
theorem dX9_work_336 : decode cX9_work 336 = .ok (.baload, 1) := by decide +kernel
theorem dX9_work_337 : decode cX9_work 337 = .ok (.ifCond .eq 7, 3) := by decide +kernel
theorem dX9_work_340 : decode cX9_work 340 = .ok (.iconst 1, 1) := by decide +kernel
theorem dX9_work_341 : decode cX9_work 341 = .ok (.goto 4, 3) := by decide +kernel
theorem dX9_work_344 : decode cX9_work 344 = .ok (.iconst 0, 1) := by decide +kernel
theorem dX9_work_345 : decode cX9_work 345 = .ok (.bastore, 1) := by decide +kernel
theorem dX9_work_346 : decode cX9_work 346 = .ok (.iinc 7 1, 3) := by decide +kernel
theorem dX9_work_349 : decode cX9_work 349 = .ok (.goto (-311), 3) := by decide +kernel
theorem dX9_work_352 : decode cX9_work 352 = .ok (.return_, 1) := by decide +kernel
theorem dX9_isOpen_0 : decode cX9_isOpen 0 = .ok (.iload_n 1, 1) := by decide +kernel
theorem dX9_isOpen_1 : decode cX9_isOpen 1 = .ok (.ifCond .ge 5, 3) := by decide +kernel
theorem dX9_isOpen_4 : decode cX9_isOpen 4 = .ok (.iconst 0, 1) := by decide +kernel
theorem dX9_isOpen_5 : decode cX9_isOpen 5 = .ok (.ireturn, 1) := by decide +kernel
theorem dX9_isOpen_6 : decode cX9_isOpen 6 = .ok (.iconst 0, 1) := by decide +kernel
theorem dX9_isOpen_7 : decode cX9_isOpen 7 = .ok (.istore 8, 2) := by decide +kernel
theorem dX9_isOpen_9 : decode cX9_isOpen 9 = .ok (.iload 8, 2) := by decide +kernel
theorem dX9_isOpen_11 : decode cX9_isOpen 11 = .ok (.aload_n 0, 1) := by decide +kernel
theorem dX9_isOpen_12 : decode cX9_isOpen 12 = .ok (.getfield 16, 3) := by decide +kernel
theorem dX9_isOpen_15 : decode cX9_isOpen 15 = .ok (.sipush 680, 3) := by decide +kernel
theorem dX9_isOpen_18 : decode cX9_isOpen 18 = .ok (.iload_n 1, 1) := by decide +kernel
theorem dX9_isOpen_19 : decode cX9_isOpen 19 = .ok (.imul, 1) := by decide +kernel
theorem dX9_isOpen_20 : decode cX9_isOpen 20 = .ok (.iaload, 1) := by decide +kernel
theorem dX9_isOpen_21 : decode cX9_isOpen 21 = .ok (.if_icmp .ge 29, 3) := by decide +kernel
theorem dX9_isOpen_24 : decode cX9_isOpen 24 = .ok (.aload_n 0, 1) := by decide +kernel
theorem dX9_isOpen_25 : decode cX9_isOpen 25 = .ok (.getfield 16, 3) := by decide +kernel
theorem dX9_isOpen_28 : decode cX9_isOpen 28 = .ok (.sipush 680, 3) := by decide +kernel
theorem dX9_isOpen_31 : decode cX9_isOpen 31 = .ok (.iload_n 1, 1) := by decide +kernel
theorem dX9_isOpen_32 : decode cX9_isOpen 32 = .ok (.imul, 1) := by decide +kernel
theorem dX9_isOpen_33 : decode cX9_isOpen 33 = .ok (.iconst 1, 1) := by decide +kernel
theorem dX9_isOpen_34 : decode cX9_isOpen 34 = .ok (.iadd, 1) := by decide +kernel
theorem dX9_isOpen_35 : decode cX9_isOpen 35 = .ok (.iconst 3, 1) := by decide +kernel
theorem dX9_isOpen_36 : decode cX9_isOpen 36 = .ok (.iload 8, 2) := by decide +kernel
theorem dX9_isOpen_38 : decode cX9_isOpen 38 = .ok (.imul, 1) := by decide +kernel
theorem dX9_isOpen_39 : decode cX9_isOpen 39 = .ok (.iadd, 1) := by decide +kernel
theorem dX9_isOpen_40 : decode cX9_isOpen 40 = .ok (.iaload, 1) := by decide +kernel
theorem dX9_isOpen_41 : decode cX9_isOpen 41 = .ok (.ifCond .eq 9, 3) := by decide +kernel
theorem dX9_isOpen_44 : decode cX9_isOpen 44 = .ok (.iinc 8 1, 3) := by decide +kernel
theorem dX9_isOpen_47 : decode cX9_isOpen 47 = .ok (.goto (-38), 3) := by decide +kernel
theorem dX9_isOpen_50 : decode cX9_isOpen 50 = .ok (.iload 8, 2) := by decide +kernel
theorem dX9_isOpen_52 : decode cX9_isOpen 52 = .ok (.aload_n 0, 1) := by decide +kernel
theorem dX9_isOpen_53 : decode cX9_isOpen 53 = .ok (.getfield 16, 3) := by decide +kernel
theorem dX9_isOpen_56 : decode cX9_isOpen 56 = .ok (.sipush 680, 3) := by decide +kernel
theorem dX9_isOpen_59 : decode cX9_isOpen 59 = .ok (.iload_n 1, 1) := by decide +kernel
theorem dX9_isOpen_60 : decode cX9_isOpen 60 = .ok (.imul, 1) := by decide +kernel
theorem dX9_isOpen_61 : decode cX9_isOpen 61 = .ok (.iaload, 1) := by decide +kernel
theorem dX9_isOpen_62 : decode cX9_isOpen 62 = .ok (.if_icmp .ne 5, 3) := by decide +kernel
theorem dX9_isOpen_65 : decode cX9_isOpen 65 = .ok (.iconst 0, 1) := by decide +kernel
theorem dX9_isOpen_66 : decode cX9_isOpen 66 = .ok (.ireturn, 1) := by decide +kernel
theorem dX9_isOpen_67 : decode cX9_isOpen 67 = .ok (.aload_n 0, 1) := by decide +kernel
theorem dX9_isOpen_68 : decode cX9_isOpen 68 = .ok (.getfield 32, 3) := by decide +kernel
theorem dX9_isOpen_71 : decode cX9_isOpen 71 = .ok (.iconst 0, 1) := by decide +kernel
theorem dX9_isOpen_72 : decode cX9_isOpen 72 = .ok (.iload_n 2, 1) := by decide +kernel
theorem dX9_isOpen_73 : decode cX9_isOpen 73 = .ok (.iastore, 1) := by decide +kernel
theorem dX9_isOpen_74 : decode cX9_isOpen 74 = .ok (.aload_n 0, 1) := by decide +kernel
theorem dX9_isOpen_75 : decode cX9_isOpen 75 = .ok (.getfield 32, 3) := by decide +kernel
theorem dX9_isOpen_78 : decode cX9_isOpen 78 = .ok (.iconst 1, 1) := by decide +kernel
theorem dX9_isOpen_79 : decode cX9_isOpen 79 = .ok (.iload_n 3, 1) := by decide +kernel
theorem dX9_isOpen_80 : decode cX9_isOpen 80 = .ok (.iastore, 1) := by decide +kernel
theorem dX9_isOpen_81 : decode cX9_isOpen 81 = .ok (.aload_n 0, 1) := by decide +kernel
theorem dX9_isOpen_82 : decode cX9_isOpen 82 = .ok (.getfield 32, 3) := by decide +kernel
theorem dX9_isOpen_85 : decode cX9_isOpen 85 = .ok (.iconst 2, 1) := by decide +kernel
theorem dX9_isOpen_86 : decode cX9_isOpen 86 = .ok (.aload_n 0, 1) := by decide +kernel
theorem dX9_isOpen_87 : decode cX9_isOpen 87 = .ok (.getfield 7, 3) := by decide +kernel
theorem dX9_isOpen_90 : decode cX9_isOpen 90 = .ok (.bipush 36, 2) := by decide +kernel
theorem dX9_isOpen_92 : decode cX9_isOpen 92 = .ok (.iload_n 3, 1) := by decide +kernel
theorem dX9_isOpen_93 : decode cX9_isOpen 93 = .ok (.iadd, 1) := by decide +kernel
theorem dX9_isOpen_94 : decode cX9_isOpen 94 = .ok (.iaload, 1) := by decide +kernel
theorem dX9_isOpen_95 : decode cX9_isOpen 95 = .ok (.iastore, 1) := by decide +kernel
theorem dX9_isOpen_96 : decode cX9_isOpen 96 = .ok (.aload_n 0, 1) := by decide +kernel
theorem dX9_isOpen_97 : decode cX9_isOpen 97 = .ok (.getfield 32, 3) := by decide +kernel
theorem dX9_isOpen_100 : decode cX9_isOpen 100 = .ok (.iconst 3, 1) := by decide +kernel
theorem dX9_isOpen_101 : decode cX9_isOpen 101 = .ok (.aload_n 0, 1) := by decide +kernel
theorem dX9_isOpen_102 : decode cX9_isOpen 102 = .ok (.getfield 7, 3) := by decide +kernel
theorem dX9_isOpen_105 : decode cX9_isOpen 105 = .ok (.bipush 12, 2) := by decide +kernel
theorem dX9_isOpen_107 : decode cX9_isOpen 107 = .ok (.iload_n 2, 1) := by decide +kernel
theorem dX9_isOpen_108 : decode cX9_isOpen 108 = .ok (.iadd, 1) := by decide +kernel
theorem dX9_isOpen_109 : decode cX9_isOpen 109 = .ok (.iaload, 1) := by decide +kernel
theorem dX9_isOpen_110 : decode cX9_isOpen 110 = .ok (.iastore, 1) := by decide +kernel
theorem dX9_isOpen_111 : decode cX9_isOpen 111 = .ok (.aload_n 0, 1) := by decide +kernel
theorem dX9_isOpen_112 : decode cX9_isOpen 112 = .ok (.getfield 32, 3) := by decide +kernel
theorem dX9_isOpen_115 : decode cX9_isOpen 115 = .ok (.iconst 4, 1) := by decide +kernel
theorem dX9_isOpen_116 : decode cX9_isOpen 116 = .ok (.iload 5, 2) := by decide +kernel
theorem dX9_isOpen_118 : decode cX9_isOpen 118 = .ok (.iastore, 1) := by decide +kernel
theorem dX9_isOpen_119 : decode cX9_isOpen 119 = .ok (.aload_n 0, 1) := by decide +kernel
theorem dX9_isOpen_120 : decode cX9_isOpen 120 = .ok (.getfield 32, 3) := by decide +kernel
theorem dX9_isOpen_123 : decode cX9_isOpen 123 = .ok (.iconst 5, 1) := by decide +kernel
theorem dX9_isOpen_124 : decode cX9_isOpen 124 = .ok (.iload 4, 2) := by decide +kernel
theorem dX9_isOpen_126 : decode cX9_isOpen 126 = .ok (.iastore, 1) := by decide +kernel
theorem dX9_isOpen_127 : decode cX9_isOpen 127 = .ok (.aload_n 0, 1) := by decide +kernel
theorem dX9_isOpen_128 : decode cX9_isOpen 128 = .ok (.getfield 32, 3) := by decide +kernel
theorem dX9_isOpen_131 : decode cX9_isOpen 131 = .ok (.bipush 6, 2) := by decide +kernel
theorem dX9_isOpen_133 : decode cX9_isOpen 133 = .ok (.iload 6, 2) := by decide +kernel
theorem dX9_isOpen_135 : decode cX9_isOpen 135 = .ok (.iastore, 1) := by decide +kernel
theorem dX9_isOpen_136 : decode cX9_isOpen 136 = .ok (.aload_n 0, 1) := by decide +kernel
theorem dX9_isOpen_137 : decode cX9_isOpen 137 = .ok (.getfield 32, 3) := by decide +kernel
theorem dX9_isOpen_140 : decode cX9_isOpen 140 = .ok (.bipush 7, 2) := by decide +kernel
theorem dX9_isOpen_142 : decode cX9_isOpen 142 = .ok (.iload 7, 2) := by decide +kernel
theorem dX9_isOpen_144 : decode cX9_isOpen 144 = .ok (.iastore, 1) := by decide +kernel
theorem dX9_isOpen_145 : decode cX9_isOpen 145 = .ok (.aload_n 0, 1) := by decide +kernel
theorem dX9_isOpen_146 : decode cX9_isOpen 146 = .ok (.iload_n 1, 1) := by decide +kernel
theorem dX9_isOpen_147 : decode cX9_isOpen 147 = .ok (.iload 8, 2) := by decide +kernel
theorem dX9_isOpen_149 : decode cX9_isOpen 149 = .ok (.invokevirtual 235, 3) := by decide +kernel
theorem dX9_isOpen_152 : decode cX9_isOpen 152 = .ok (.aload_n 0, 1) := by decide +kernel
theorem dX9_isOpen_153 : decode cX9_isOpen 153 = .ok (.getfield 39, 3) := by decide +kernel
theorem dX9_isOpen_156 : decode cX9_isOpen 156 = .ok (.iconst 0, 1) := by decide +kernel
theorem dX9_isOpen_157 : decode cX9_isOpen 157 = .ok (.baload, 1) := by decide +kernel
theorem dX9_isOpen_158 : decode cX9_isOpen 158 = .ok (.ireturn, 1) := by decide +kernel
theorem dX9_opens_0 : decode cX9_opens 0 = .ok (.aload_n 0, 1) := by decide +kernel
theorem dX9_opens_1 : decode cX9_opens 1 = .ok (.iload_n 1, 1) := by decide +kernel
theorem dX9_opens_2 : decode cX9_opens 2 = .ok (.invokevirtual 77, 3) := by decide +kernel
theorem dX9_opens_5 : decode cX9_opens 5 = .ok (.ifCond .eq 41, 3) := by decide +kernel
theorem dX9_opens_8 : decode cX9_opens 8 = .ok (.iload_n 2, 1) := by decide +kernel
theorem dX9_opens_9 : decode cX9_opens 9 = .ok (.invokestatic 73, 3) := by decide +kernel
theorem dX9_opens_12 : decode cX9_opens 12 = .ok (.ifCond .eq 34, 3) := by decide +kernel
theorem dX9_opens_15 : decode cX9_opens 15 = .ok (.iload_n 3, 1) := by decide +kernel
theorem dX9_opens_16 : decode cX9_opens 16 = .ok (.iload 4, 2) := by decide +kernel
theorem dX9_opens_18 : decode cX9_opens 18 = .ok (.invokestatic 238, 3) := by decide +kernel
theorem dX9_opens_21 : decode cX9_opens 21 = .ok (.ifCond .eq 25, 3) := by decide +kernel
theorem dX9_opens_24 : decode cX9_opens 24 = .ok (.iload 5, 2) := by decide +kernel
theorem dX9_opens_26 : decode cX9_opens 26 = .ok (.iconst 0, 1) := by decide +kernel
theorem dX9_opens_27 : decode cX9_opens 27 = .ok (.bipush 9, 2) := by decide +kernel
theorem dX9_opens_29 : decode cX9_opens 29 = .ok (.invokestatic 69, 3) := by decide +kernel
theorem dX9_opens_32 : decode cX9_opens 32 = .ok (.ifCond .eq 14, 3) := by decide +kernel
theorem dX9_opens_35 : decode cX9_opens 35 = .ok (.iload 6, 2) := by decide +kernel
theorem dX9_opens_37 : decode cX9_opens 37 = .ok (.iconst 0, 1) := by decide +kernel
theorem dX9_opens_38 : decode cX9_opens 38 = .ok (.bipush 9, 2) := by decide +kernel
theorem dX9_opens_40 : decode cX9_opens 40 = .ok (.invokestatic 69, 3) := by decide +kernel
theorem dX9_opens_43 : decode cX9_opens 43 = .ok (.ifCond .ne 5, 3) := by decide +kernel
theorem dX9_opens_46 : decode cX9_opens 46 = .ok (.iconst 0, 1) := by decide +kernel
theorem dX9_opens_47 : decode cX9_opens 47 = .ok (.ireturn, 1) := by decide +kernel
theorem dX9_opens_48 : decode cX9_opens 48 = .ok (.aload_n 0, 1) := by decide +kernel
theorem dX9_opens_49 : decode cX9_opens 49 = .ok (.getfield 7, 3) := by decide +kernel
theorem dX9_opens_52 : decode cX9_opens 52 = .ok (.bipush 20, 2) := by decide +kernel
theorem dX9_opens_54 : decode cX9_opens 54 = .ok (.iload_n 1, 1) := by decide +kernel
theorem dX9_opens_55 : decode cX9_opens 55 = .ok (.iadd, 1) := by decide +kernel
theorem dX9_opens_56 : decode cX9_opens 56 = .ok (.iaload, 1) := by decide +kernel
theorem dX9_opens_57 : decode cX9_opens 57 = .ok (.ifCond .eq 28, 3) := by decide +kernel
theorem dX9_opens_60 : decode cX9_opens 60 = .ok (.aload_n 0, 1) := by decide +kernel
theorem dX9_opens_61 : decode cX9_opens 61 = .ok (.aload_n 0, 1) := by decide +kernel
theorem dX9_opens_62 : decode cX9_opens 62 = .ok (.getfield 7, 3) := by decide +kernel
theorem dX9_opens_65 : decode cX9_opens 65 = .ok (.bipush 28, 2) := by decide +kernel
theorem dX9_opens_67 : decode cX9_opens 67 = .ok (.iload_n 1, 1) := by decide +kernel
theorem dX9_opens_68 : decode cX9_opens 68 = .ok (.iadd, 1) := by decide +kernel
theorem dX9_opens_69 : decode cX9_opens 69 = .ok (.iaload, 1) := by decide +kernel
theorem dX9_opens_70 : decode cX9_opens 70 = .ok (.iload_n 1, 1) := by decide +kernel
theorem dX9_opens_71 : decode cX9_opens 71 = .ok (.iload_n 2, 1) := by decide +kernel
theorem dX9_opens_72 : decode cX9_opens 72 = .ok (.iload_n 3, 1) := by decide +kernel
theorem dX9_opens_73 : decode cX9_opens 73 = .ok (.iload 4, 2) := by decide +kernel
theorem dX9_opens_75 : decode cX9_opens 75 = .ok (.iload 5, 2) := by decide +kernel
theorem dX9_opens_77 : decode cX9_opens 77 = .ok (.iload 6, 2) := by decide +kernel
theorem dX9_opens_79 : decode cX9_opens 79 = .ok (.invokevirtual 242, 3) := by decide +kernel
theorem dX9_opens_82 : decode cX9_opens 82 = .ok (.ifCond .eq 7, 3) := by decide +kernel
theorem dX9_opens_85 : decode cX9_opens 85 = .ok (.iconst 1, 1) := by decide +kernel
theorem dX9_opens_86 : decode cX9_opens 86 = .ok (.goto 4, 3) := by decide +kernel
theorem dX9_opens_89 : decode cX9_opens 89 = .ok (.iconst 0, 1) := by decide +kernel
theorem dX9_opens_90 : decode cX9_opens 90 = .ok (.ireturn, 1) := by decide +kernel
theorem dX9_isTraveller_0 : decode cX9_isTraveller 0 = .ok (.iload_n 1, 1) := by decide +kernel
theorem dX9_isTraveller_1 : decode cX9_isTraveller 1 = .ok (.iconst 0, 1) := by decide +kernel
theorem dX9_isTraveller_2 : decode cX9_isTraveller 2 = .ok (.bipush 9, 2) := by decide +kernel
theorem dX9_isTraveller_4 : decode cX9_isTraveller 4 = .ok (.invokestatic 69, 3) := by decide +kernel
theorem dX9_isTraveller_7 : decode cX9_isTraveller 7 = .ok (.ifCond .eq 41, 3) := by decide +kernel
theorem dX9_isTraveller_10 : decode cX9_isTraveller 10 = .ok (.iload_n 2, 1) := by decide +kernel
theorem dX9_isTraveller_11 : decode cX9_isTraveller 11 = .ok (.iconst 0, 1) := by decide +kernel
theorem dX9_isTraveller_12 : decode cX9_isTraveller 12 = .ok (.iconst 1, 1) := by decide +kernel
theorem dX9_isTraveller_13 : decode cX9_isTraveller 13 = .ok (.aload_n 0, 1) := by decide +kernel
theorem dX9_isTraveller_14 : decode cX9_isTraveller 14 = .ok (.getfield 62, 3) := by decide +kernel
theorem dX9_isTraveller_17 : decode cX9_isTraveller 17 = .ok (.ishl, 1) := by decide +kernel
theorem dX9_isTraveller_18 : decode cX9_isTraveller 18 = .ok (.iconst 1, 1) := by decide +kernel
theorem dX9_isTraveller_19 : decode cX9_isTraveller 19 = .ok (.isub, 1) := by decide +kernel
theorem dX9_isTraveller_20 : decode cX9_isTraveller 20 = .ok (.invokestatic 69, 3) := by decide +kernel
theorem dX9_isTraveller_23 : decode cX9_isTraveller 23 = .ok (.ifCond .eq 25, 3) := by decide +kernel
theorem dX9_isTraveller_26 : decode cX9_isTraveller 26 = .ok (.iload_n 3, 1) := by decide +kernel
theorem dX9_isTraveller_27 : decode cX9_isTraveller 27 = .ok (.invokestatic 73, 3) := by decide +kernel
theorem dX9_isTraveller_30 : decode cX9_isTraveller 30 = .ok (.ifCond .eq 18, 3) := by decide +kernel
theorem dX9_isTraveller_33 : decode cX9_isTraveller 33 = .ok (.iload 4, 2) := by decide +kernel
theorem dX9_isTraveller_35 : decode cX9_isTraveller 35 = .ok (.iconst 0, 1) := by decide +kernel
theorem dX9_isTraveller_36 : decode cX9_isTraveller 36 = .ok (.bipush 99, 2) := by decide +kernel
theorem dX9_isTraveller_38 : decode cX9_isTraveller 38 = .ok (.invokestatic 69, 3) := by decide +kernel
theorem dX9_isTraveller_41 : decode cX9_isTraveller 41 = .ok (.ifCond .eq 7, 3) := by decide +kernel
theorem dX9_isTraveller_44 : decode cX9_isTraveller 44 = .ok (.iconst 1, 1) := by decide +kernel
theorem dX9_isTraveller_45 : decode cX9_isTraveller 45 = .ok (.goto 4, 3) := by decide +kernel
theorem dX9_isTraveller_48 : decode cX9_isTraveller 48 = .ok (.iconst 0, 1) := by decide +kernel
theorem dX9_isTraveller_49 : decode cX9_isTraveller 49 = .ok (.ireturn, 1) := by decide +kernel
theorem dX9_sets_0 : decode cX9_sets 0 = .ok (.aload_n 0, 1) := by decide +kernel
theorem dX9_sets_1 : decode cX9_sets 1 = .ok (.iload_n 1, 1) := by decide +kernel
theorem dX9_sets_2 : decode cX9_sets 2 = .ok (.iload_n 2, 1) := by decide +kernel
theorem dX9_sets_3 : decode cX9_sets 3 = .ok (.iload_n 3, 1) := by decide +kernel
theorem dX9_sets_4 : decode cX9_sets 4 = .ok (.iload 4, 2) := by decide +kernel
theorem dX9_sets_6 : decode cX9_sets 6 = .ok (.invokevirtual 246, 3) := by decide +kernel
theorem dX9_sets_9 : decode cX9_sets 9 = .ok (.ifCond .ne 5, 3) := by decide +kernel
theorem dX9_sets_12 : decode cX9_sets 12 = .ok (.iconst 0, 1) := by decide +kernel
theorem dX9_sets_13 : decode cX9_sets 13 = .ok (.ireturn, 1) := by decide +kernel
theorem dX9_sets_14 : decode cX9_sets 14 = .ok (.aload_n 0, 1) := by decide +kernel
theorem dX9_sets_15 : decode cX9_sets 15 = .ok (.getfield 7, 3) := by decide +kernel
theorem dX9_sets_18 : decode cX9_sets 18 = .ok (.iconst 5, 1) := by decide +kernel
theorem dX9_sets_19 : decode cX9_sets 19 = .ok (.iconst 0, 1) := by decide +kernel
theorem dX9_sets_20 : decode cX9_sets 20 = .ok (.iastore, 1) := by decide +kernel
theorem dX9_sets_21 : decode cX9_sets 21 = .ok (.aload_n 0, 1) := by decide +kernel
theorem dX9_sets_22 : decode cX9_sets 22 = .ok (.getfield 7, 3) := by decide +kernel
theorem dX9_sets_25 : decode cX9_sets 25 = .ok (.bipush 6, 2) := by decide +kernel
theorem dX9_sets_27 : decode cX9_sets 27 = .ok (.iload_n 3, 1) := by decide +kernel
theorem dX9_sets_28 : decode cX9_sets 28 = .ok (.iastore, 1) := by decide +kernel
theorem dX9_sets_29 : decode cX9_sets 29 = .ok (.aload_n 0, 1) := by decide +kernel
theorem dX9_sets_30 : decode cX9_sets 30 = .ok (.getfield 7, 3) := by decide +kernel
theorem dX9_sets_33 : decode cX9_sets 33 = .ok (.bipush 7, 2) := by decide +kernel
theorem dX9_sets_35 : decode cX9_sets 35 = .ok (.iconst 0, 1) := by decide +kernel
theorem dX9_sets_36 : decode cX9_sets 36 = .ok (.iastore, 1) := by decide +kernel
theorem dX9_sets_37 : decode cX9_sets 37 = .ok (.aload_n 0, 1) := by decide +kernel
theorem dX9_sets_38 : decode cX9_sets 38 = .ok (.getfield 7, 3) := by decide +kernel
theorem dX9_sets_41 : decode cX9_sets 41 = .ok (.bipush 8, 2) := by decide +kernel
theorem dX9_sets_43 : decode cX9_sets 43 = .ok (.iload 4, 2) := by decide +kernel
theorem dX9_sets_45 : decode cX9_sets 45 = .ok (.iastore, 1) := by decide +kernel
theorem dX9_sets_46 : decode cX9_sets 46 = .ok (.aload_n 0, 1) := by decide +kernel
theorem dX9_sets_47 : decode cX9_sets 47 = .ok (.getfield 7, 3) := by decide +kernel
theorem dX9_sets_50 : decode cX9_sets 50 = .ok (.bipush 9, 2) := by decide +kernel
theorem dX9_sets_52 : decode cX9_sets 52 = .ok (.iload_n 1, 1) := by decide +kernel
theorem dX9_sets_53 : decode cX9_sets 53 = .ok (.iastore, 1) := by decide +kernel
theorem dX9_sets_54 : decode cX9_sets 54 = .ok (.aload_n 0, 1) := by decide +kernel
theorem dX9_sets_55 : decode cX9_sets 55 = .ok (.getfield 7, 3) := by decide +kernel
theorem dX9_sets_58 : decode cX9_sets 58 = .ok (.bipush 10, 2) := by decide +kernel
theorem dX9_sets_60 : decode cX9_sets 60 = .ok (.iload_n 2, 1) := by decide +kernel
theorem dX9_sets_61 : decode cX9_sets 61 = .ok (.iastore, 1) := by decide +kernel
theorem dX9_sets_62 : decode cX9_sets 62 = .ok (.aload_n 0, 1) := by decide +kernel
theorem dX9_sets_63 : decode cX9_sets 63 = .ok (.getfield 7, 3) := by decide +kernel
theorem dX9_sets_66 : decode cX9_sets 66 = .ok (.iconst 1, 1) := by decide +kernel
theorem dX9_sets_67 : decode cX9_sets 67 = .ok (.iconst 0, 1) := by decide +kernel
theorem dX9_sets_68 : decode cX9_sets 68 = .ok (.iastore, 1) := by decide +kernel
theorem dX9_sets_69 : decode cX9_sets 69 = .ok (.iconst 1, 1) := by decide +kernel
theorem dX9_sets_70 : decode cX9_sets 70 = .ok (.ireturn, 1) := by decide +kernel
-- X9_work
def B_X9_work_38 (n : Nat) (v3 : Int32) (v4 : Int32) (q : Int32 × Int32 × Int32 × jS) : Option ((Int32 × Int32 × Int32 × jS) ⊕ (Int32 × Int32 × Int32 × jS)) :=
  (if jin (v3 + 2) 2720 = true then (if (q.2.2.2.1 3 (Int32.toNatClampNeg (v3 + 2))) ≤ q.2.2.1 then some (.inr (q.1, q.2.1, q.2.2.1, q.2.2.2)) else (if jin (v4 + (2 * q.2.2.1)) 2720 = true then (if jin ((v4 + (2 * q.2.2.1)) + 1) 2720 = true then (if 1 < (q.2.2.2.1 3 (Int32.toNatClampNeg (v4 + (2 * q.2.2.1)))) then (if (q.2.2.2.1 3 (Int32.toNatClampNeg (v4 + (2 * q.2.2.1)))) = 2 then (if jin (q.1 - 1) 330 = true then (jl (upL q.2.2.2 7 (Int32.toNatClampNeg (q.1 - 1)) (-(q.2.2.2.2 7 (Int32.toNatClampNeg (q.1 - 1))))) fun s143_26 => some (.inl (q.1, q.2.1, (q.2.2.1 + 1), s143_26))) else none) else (if 10 ≤ (q.2.2.2.1 3 (Int32.toNatClampNeg (v4 + (2 * q.2.2.1)))) then (if 20 ≤ (q.2.2.2.1 3 (Int32.toNatClampNeg (v4 + (2 * q.2.2.1)))) then (if (q.2.2.2.1 3 (Int32.toNatClampNeg (v4 + (2 * q.2.2.1)))) = 20 then (if jin (q.2.1 - 1) 330 = true then (if (jz (q.2.2.2.1 8 (Int32.toNatClampNeg (q.2.1 - 1)))) = true then (jl (upI q.2.2.2 8 (Int32.toNatClampNeg (q.2.1 - 1)) (jb false)) fun s266_16 => some (.inl (q.1, q.2.1, (q.2.2.1 + 1), s266_16))) else (jl (upI q.2.2.2 8 (Int32.toNatClampNeg (q.2.1 - 1)) (jb true)) fun s266_17 => some (.inl (q.1, q.2.1, (q.2.2.1 + 1), s266_17)))) else none) else (if (q.2.2.2.1 3 (Int32.toNatClampNeg (v4 + (2 * q.2.2.1)))) = 21 then (if jin ((q.2.1 + (-1)) - 1) 330 = true then (if (jz (q.2.2.2.1 8 (Int32.toNatClampNeg ((q.2.1 + (-1)) - 1)))) = true then (if jin (q.2.1 + (-1)) 330 = true then (if (jz (q.2.2.2.1 8 (Int32.toNatClampNeg (q.2.1 + (-1))))) = true then (jl (upI q.2.2.2 8 (Int32.toNatClampNeg ((q.2.1 + (-1)) - 1)) (jb true)) fun s345_14 => some (.inl (q.1, (q.2.1 + (-1)), (q.2.2.1 + 1), s345_14))) else (jl (upI q.2.2.2 8 (Int32.toNatClampNeg ((q.2.1 + (-1)) - 1)) (jb false)) fun s345_13 => some (.inl (q.1, (q.2.1 + (-1)), (q.2.2.1 + 1), s345_13)))) else none) else (jl (upI q.2.2.2 8 (Int32.toNatClampNeg ((q.2.1 + (-1)) - 1)) (jb false)) fun s345_11 => some (.inl (q.1, (q.2.1 + (-1)), (q.2.2.1 + 1), s345_11)))) else none) else (if jin ((q.2.1 + (-1)) - 1) 330 = true then (if (jz (q.2.2.2.1 8 (Int32.toNatClampNeg ((q.2.1 + (-1)) - 1)))) = true then (jl (upI q.2.2.2 8 (Int32.toNatClampNeg ((q.2.1 + (-1)) - 1)) (jb true)) fun s345_6 => some (.inl (q.1, (q.2.1 + (-1)), (q.2.2.1 + 1), s345_6))) else (if jin (q.2.1 + (-1)) 330 = true then (if (jz (q.2.2.2.1 8 (Int32.toNatClampNeg (q.2.1 + (-1))))) = true then (jl (upI q.2.2.2 8 (Int32.toNatClampNeg ((q.2.1 + (-1)) - 1)) (jb true)) fun s345_9 => some (.inl (q.1, (q.2.1 + (-1)), (q.2.2.1 + 1), s345_9))) else (jl (upI q.2.2.2 8 (Int32.toNatClampNeg ((q.2.1 + (-1)) - 1)) (jb false)) fun s345_8 => some (.inl (q.1, (q.2.1 + (-1)), (q.2.2.1 + 1), s345_8)))) else none)) else none))) else (if jin (q.1 + (-2)) 330 = true then (if jin ((q.1 + (-2)) + 1) 330 = true then (if jin q.2.1 330 = true then (jl (upI q.2.2.2 8 (Int32.toNatClampNeg q.2.1) (jb (F_X9_isAsked (q.2.2.2.1 3 (Int32.toNatClampNeg (v4 + (2 * q.2.2.1)))) (q.2.2.2.2 7 (Int32.toNatClampNeg (q.1 + (-2)))) (q.2.2.2.2 7 (Int32.toNatClampNeg ((q.1 + (-2)) + 1)))))) fun s227_21 => some (.inl ((q.1 + (-2)), (q.2.1 + 1), (q.2.2.1 + 1), s227_21))) else none) else none) else none)) else (if jin ((q.1 + (-1)) - 1) 330 = true then (if jin (q.1 + (-1)) 330 = true then ((F_X9_two (q.2.2.2.1 3 (Int32.toNatClampNeg (v4 + (2 * q.2.2.1)))) (q.2.2.2.2 7 (Int32.toNatClampNeg ((q.1 + (-1)) - 1))) (q.2.2.2.2 7 (Int32.toNatClampNeg (q.1 + (-1))))).bind fun p183 => (jl (upL q.2.2.2 7 (Int32.toNatClampNeg ((q.1 + (-1)) - 1)) p183) fun s186_24 => some (.inl ((q.1 + (-1)), q.2.1, (q.2.2.1 + 1), s186_24)))) else none) else none))) else (if (q.2.2.2.1 3 (Int32.toNatClampNeg (v4 + (2 * q.2.2.1)))) = 0 then (if jin q.1 330 = true then (jl (upL q.2.2.2 7 (Int32.toNatClampNeg q.1) (Int32.toInt64 (q.2.2.2.1 3 (Int32.toNatClampNeg ((v4 + (2 * q.2.2.1)) + 1))))) fun s112_31 => some (.inl ((q.1 + 1), q.2.1, (q.2.2.1 + 1), s112_31))) else none) else (if jin (q.2.2.2.1 3 (Int32.toNatClampNeg ((v4 + (2 * q.2.2.1)) + 1))) 8 = true then (if jin q.1 330 = true then (jl (upL q.2.2.2 7 (Int32.toNatClampNeg q.1) (Int32.toInt64 (q.2.2.2.1 6 (Int32.toNatClampNeg (q.2.2.2.1 3 (Int32.toNatClampNeg ((v4 + (2 * q.2.2.1)) + 1))))))) fun s112_29 => some (.inl ((q.1 + 1), q.2.1, (q.2.2.1 + 1), s112_29))) else none) else none))) else none) else none)) else none)
def F_X9_work (n : Nat) (v1 : Int32) (v2 : Int32) (s : jS) : Option jS :=
  (if jin ((((680 * v1) + 1) + (3 * v2)) + 1) 2720 = true then ((lp (B_X9_work_38 n (((680 * v1) + 1) + (3 * v2)) ((680 * v1) + 75)) n (0, 0, (s.1 3 (Int32.toNatClampNeg ((((680 * v1) + 1) + (3 * v2)) + 1))), s)).bind fun e38 => some e38.2.2.2) else none)
def rm_X9_work : Room := { frames := 2, cells := 0, slots := 0, locals := 45 }
set_option maxHeartbeats 4000000 in
set_option maxRecDepth 100000 in
theorem m_X9_work {l : Launch} {D : va_G} {G : Nat → ClassId} {KV : jV} {ad : Nat → Nat} (n : Nat) (v1 : Int32) (v2 : Int32) (s : jS) {p : jS} (h : F_X9_work n v1 v2 s = some p) : jM l D G KV yX9_work cX9_work 10 none rm_X9_work [.ref (ad 0), .int v1, .int v2] (jw 15 (cellM G) ad s) 0 0 (fun v u => v = none ∧ u = jw 15 (cellM G) ad p) := by
  refine jM.of (by decide) (Nat.le_of_ble_eq_true rfl) ?_
  intro K C
  unfold F_X9_work at h
  have lo38 : ∀ (v3 : Int32) (v4 : Int32) (s : jS) (k : Nat) (q : Int32 × Int32 × Int32 × jS) (e : Int32 × Int32 × Int32 × jS), lp (B_X9_work_38 n v3 v4) k q = some e → K 0 0 (jw 15 (cellM G) ad e.2.2.2) 352 [] [] → K 0 0 (jw 15 (cellM G) ad q.2.2.2) 38 [(0, .ref (ad 0)), (3, .int v3), (4, .int v4), (5, .int q.1), (6, .int q.2.1), (7, .int q.2.2.1)] [] := by
    intro v3 v4 s k q e he hE
    refine jlp (KH := fun q => K 0 0 (jw 15 (cellM G) ad q.2.2.2) 38 [(0, .ref (ad 0)), (3, .int v3), (4, .int v4), (5, .int q.1), (6, .int q.2.1), (7, .int q.2.2.1)] []) (KE := fun e => K 0 0 (jw 15 (cellM G) ad e.2.2.2) 352 [] []) ?_ k q e he hE
    intro q o hb hin hout
    unfold B_X9_work_38 at hb
    show K 0 0 (jw 15 (cellM G) ad q.2.2.2) 38 [(0, .ref (ad 0)), (3, .int v3), (4, .int v4), (5, .int q.1), (6, .int q.2.1), (7, .int q.2.2.1)] []
    refine j_iload C dX9_work_38 5 rfl ?_
    refine j_aload_n C dX9_work_40 0 rfl ?_
    refine j_getW C dX9_work_41 inX9 rfl (by decide) rfl 3 (by decide) w_926 rfl rfl ?_
    refine j_iload_n C dX9_work_44 1 rfl ?_
    refine j_iconst C dX9_work_45 (v := 2) (by decide) ?_
    refine j_iadd C dX9_work_46 ?_
    obtain ⟨c47_2, hb⟩ := jchk hb
    refine j_ialdW C dX9_work_47 (by decide) rfl (jin_vp c47_2) ?_
    refine j_icmp_ge C dX9_work_48 (tgt := 352) (by decide) (fun cq => ?_) (fun cq => ?_)
    · have hb := jite_t hb cq
      refine j_loc C [] rfl ?_
      have hx := hout _ (jinr hb)
      exact hx
    · have hb := jite_f hb cq
      refine j_aload_n C dX9_work_51 0 rfl ?_
      refine j_getW C dX9_work_52 inX9 rfl (by decide) rfl 3 (by decide) w_926 rfl rfl ?_
      refine j_iload C dX9_work_55 2 rfl ?_
      refine j_iconst C dX9_work_57 (v := 2) (by decide) ?_
      refine j_iload C dX9_work_58 5 rfl ?_
      refine j_imul C dX9_work_60 ?_
      refine j_iadd C dX9_work_61 ?_
      obtain ⟨c62_3, hb⟩ := jchk hb
      refine j_ialdW C dX9_work_62 (by decide) rfl (jin_vp c62_3) ?_
      refine j_istore C dX9_work_63 (by decide) rfl ?_
      refine j_aload_n C dX9_work_65 1 rfl ?_
      refine j_getW C dX9_work_66 inX9 rfl (by decide) rfl 3 (by decide) w_926 rfl rfl ?_
      refine j_iload C dX9_work_69 3 rfl ?_
      refine j_iconst C dX9_work_71 (v := 2) (by decide) ?_
      refine j_iload C dX9_work_72 6 rfl ?_
      refine j_imul C dX9_work_74 ?_
      refine j_iadd C dX9_work_75 ?_
      refine j_iconst C dX9_work_76 (v := 1) (by decide) ?_
      refine j_iadd C dX9_work_77 ?_
      obtain ⟨c78_4, hb⟩ := jchk hb
      refine j_ialdW C dX9_work_78 (by decide) rfl (jin_vp c78_4) ?_
      refine j_istore C dX9_work_79 (by decide) rfl ?_
      refine j_iload C dX9_work_81 1 rfl ?_
      refine j_iconst C dX9_work_83 (v := 1) (by decide) ?_
      refine j_icmp_gt C dX9_work_84 (tgt := 119) (by decide) (fun cq => ?_) (fun cq => ?_)
      · have hb := jite_t hb cq
        refine j_iload C dX9_work_119 1 rfl ?_
        refine j_iconst C dX9_work_121 (v := 2) (by decide) ?_
        refine j_icmp_ne C dX9_work_122 (tgt := 147) (by decide) (fun cq => ?_) (fun cq => ?_)
        · have hb := jite_f hb cq
          refine j_iload C dX9_work_147 1 rfl ?_
          refine j_bipush C dX9_work_149 (v := 10) (by decide) ?_
          refine j_icmp_ge C dX9_work_151 (tgt := 190) (by decide) (fun cq => ?_) (fun cq => ?_)
          · have hb := jite_t hb cq
            refine j_iload C dX9_work_190 1 rfl ?_
            refine j_bipush C dX9_work_192 (v := 20) (by decide) ?_
            refine j_icmp_ge C dX9_work_194 (tgt := 234) (by decide) (fun cq => ?_) (fun cq => ?_)
            · have hb := jite_t hb cq
              refine j_iload C dX9_work_234 1 rfl ?_
              refine j_bipush C dX9_work_236 (v := 20) (by decide) ?_
              refine j_icmp_ne C dX9_work_238 (tgt := 270) (by decide) (fun cq => ?_) (fun cq => ?_)
              · have hb := jite_f hb cq
                refine j_iinc C dX9_work_270 6 rfl (v := (q.2.1 + (-1))) rfl (by decide) rfl ?_
                refine j_aload_n C dX9_work_273 3 rfl ?_
                refine j_getW C dX9_work_274 inX9 rfl (by decide) rfl 24 (by decide) w_945 rfl rfl ?_
                refine j_iload C dX9_work_277 0 rfl ?_
                refine j_iconst C dX9_work_279 (v := 1) (by decide) ?_
                refine j_isub C dX9_work_280 ?_
                refine j_iload C dX9_work_281 2 rfl ?_
                refine j_bipush C dX9_work_283 (v := 21) (by decide) ?_
                refine j_icmp_ne C dX9_work_285 (tgt := 318) (by decide) (fun cq => ?_) (fun cq => ?_)
                · have hb := jite_f hb cq
                  refine j_aload_n C dX9_work_318 3 rfl ?_
                  refine j_getW C dX9_work_319 inX9 rfl (by decide) rfl 24 (by decide) w_945 rfl rfl ?_
                  refine j_iload C dX9_work_322 0 rfl ?_
                  refine j_iconst C dX9_work_324 (v := 1) (by decide) ?_
                  refine j_isub C dX9_work_325 ?_
                  obtain ⟨c326_5, hb⟩ := jchk hb
                  refine j_zaldW C dX9_work_326 (by decide) rfl (jin_vp c326_5) ?_
                  refine j_if_ne C dX9_work_327 (tgt := 340) (by decide) (fun cq => ?_) (fun cq => ?_)
                  · have hb := jite_t hb (jb_t cq)
                    refine j_iconst C dX9_work_340 (v := 1) (by decide) ?_
                    refine j_goto C dX9_work_341 (tgt := 345) (by decide) ?_
                    refine j_zastB C (b := true) dX9_work_345 (by decide) (fun _ => rfl) (jin_vp c326_5) (fun s345_6 hs345_6 => ?_)
                    have hb := jlet hb hs345_6
                    refine j_iinc C dX9_work_346 7 rfl (v := (q.2.2.1 + 1)) rfl (by decide) rfl ?_
                    refine j_goto C dX9_work_349 (tgt := 38) (by decide) ?_
                    refine j_loc C [4, 5, 6, 7, 1, 0] rfl ?_
                    have hx := hin _ (jinl hb)
                    exact hx
                  · have hb := jite_f hb (jb_f cq)
                    refine j_aload_n C dX9_work_330 3 rfl ?_
                    refine j_getW C dX9_work_331 inX9 rfl (by decide) rfl 24 (by decide) w_945 rfl rfl ?_
                    refine j_iload C dX9_work_334 0 rfl ?_
                    obtain ⟨c336_7, hb⟩ := jchk hb
                    refine j_zaldW C dX9_work_336 (by decide) rfl (jin_vp c336_7) ?_
                    refine j_if_eq C dX9_work_337 (tgt := 344) (by decide) (fun cq => ?_) (fun cq => ?_)
                    · have hb := jite_f hb (jb_f cq)
                      refine j_iconst C dX9_work_344 (v := 0) (by decide) ?_
                      refine j_zastB C (b := false) dX9_work_345 (by decide) (fun _ => rfl) (jin_vp c326_5) (fun s345_8 hs345_8 => ?_)
                      have hb := jlet hb hs345_8
                      refine j_iinc C dX9_work_346 7 rfl (v := (q.2.2.1 + 1)) rfl (by decide) rfl ?_
                      refine j_goto C dX9_work_349 (tgt := 38) (by decide) ?_
                      refine j_loc C [4, 5, 6, 7, 1, 0] rfl ?_
                      have hx := hin _ (jinl hb)
                      exact hx
                    · have hb := jite_t hb (jb_t cq)
                      refine j_iconst C dX9_work_340 (v := 1) (by decide) ?_
                      refine j_goto C dX9_work_341 (tgt := 345) (by decide) ?_
                      refine j_zastB C (b := true) dX9_work_345 (by decide) (fun _ => rfl) (jin_vp c326_5) (fun s345_9 hs345_9 => ?_)
                      have hb := jlet hb hs345_9
                      refine j_iinc C dX9_work_346 7 rfl (v := (q.2.2.1 + 1)) rfl (by decide) rfl ?_
                      refine j_goto C dX9_work_349 (tgt := 38) (by decide) ?_
                      refine j_loc C [4, 5, 6, 7, 1, 0] rfl ?_
                      have hx := hin _ (jinl hb)
                      exact hx
                · have hb := jite_t hb cq
                  refine j_aload_n C dX9_work_288 3 rfl ?_
                  refine j_getW C dX9_work_289 inX9 rfl (by decide) rfl 24 (by decide) w_945 rfl rfl ?_
                  refine j_iload C dX9_work_292 0 rfl ?_
                  refine j_iconst C dX9_work_294 (v := 1) (by decide) ?_
                  refine j_isub C dX9_work_295 ?_
                  obtain ⟨c296_10, hb⟩ := jchk hb
                  refine j_zaldW C dX9_work_296 (by decide) rfl (jin_vp c296_10) ?_
                  refine j_if_eq C dX9_work_297 (tgt := 314) (by decide) (fun cq => ?_) (fun cq => ?_)
                  · have hb := jite_f hb (jb_f cq)
                    refine j_iconst C dX9_work_314 (v := 0) (by decide) ?_
                    refine j_goto C dX9_work_315 (tgt := 345) (by decide) ?_
                    refine j_zastB C (b := false) dX9_work_345 (by decide) (fun _ => rfl) (jin_vp c296_10) (fun s345_11 hs345_11 => ?_)
                    have hb := jlet hb hs345_11
                    refine j_iinc C dX9_work_346 7 rfl (v := (q.2.2.1 + 1)) rfl (by decide) rfl ?_
                    refine j_goto C dX9_work_349 (tgt := 38) (by decide) ?_
                    refine j_loc C [4, 5, 6, 7, 1, 0] rfl ?_
                    have hx := hin _ (jinl hb)
                    exact hx
                  · have hb := jite_t hb (jb_t cq)
                    refine j_aload_n C dX9_work_300 3 rfl ?_
                    refine j_getW C dX9_work_301 inX9 rfl (by decide) rfl 24 (by decide) w_945 rfl rfl ?_
                    refine j_iload C dX9_work_304 0 rfl ?_
                    obtain ⟨c306_12, hb⟩ := jchk hb
                    refine j_zaldW C dX9_work_306 (by decide) rfl (jin_vp c306_12) ?_
                    refine j_if_eq C dX9_work_307 (tgt := 314) (by decide) (fun cq => ?_) (fun cq => ?_)
                    · have hb := jite_f hb (jb_f cq)
                      refine j_iconst C dX9_work_314 (v := 0) (by decide) ?_
                      refine j_goto C dX9_work_315 (tgt := 345) (by decide) ?_
                      refine j_zastB C (b := false) dX9_work_345 (by decide) (fun _ => rfl) (jin_vp c296_10) (fun s345_13 hs345_13 => ?_)
                      have hb := jlet hb hs345_13
                      refine j_iinc C dX9_work_346 7 rfl (v := (q.2.2.1 + 1)) rfl (by decide) rfl ?_
                      refine j_goto C dX9_work_349 (tgt := 38) (by decide) ?_
                      refine j_loc C [4, 5, 6, 7, 1, 0] rfl ?_
                      have hx := hin _ (jinl hb)
                      exact hx
                    · have hb := jite_t hb (jb_t cq)
                      refine j_iconst C dX9_work_310 (v := 1) (by decide) ?_
                      refine j_goto C dX9_work_311 (tgt := 345) (by decide) ?_
                      refine j_zastB C (b := true) dX9_work_345 (by decide) (fun _ => rfl) (jin_vp c296_10) (fun s345_14 hs345_14 => ?_)
                      have hb := jlet hb hs345_14
                      refine j_iinc C dX9_work_346 7 rfl (v := (q.2.2.1 + 1)) rfl (by decide) rfl ?_
                      refine j_goto C dX9_work_349 (tgt := 38) (by decide) ?_
                      refine j_loc C [4, 5, 6, 7, 1, 0] rfl ?_
                      have hx := hin _ (jinl hb)
                      exact hx
              · have hb := jite_t hb cq
                refine j_aload_n C dX9_work_241 2 rfl ?_
                refine j_getW C dX9_work_242 inX9 rfl (by decide) rfl 24 (by decide) w_945 rfl rfl ?_
                refine j_iload C dX9_work_245 6 rfl ?_
                refine j_iconst C dX9_work_247 (v := 1) (by decide) ?_
                refine j_isub C dX9_work_248 ?_
                refine j_aload_n C dX9_work_249 2 rfl ?_
                refine j_getW C dX9_work_250 inX9 rfl (by decide) rfl 24 (by decide) w_945 rfl rfl ?_
                refine j_iload C dX9_work_253 6 rfl ?_
                refine j_iconst C dX9_work_255 (v := 1) (by decide) ?_
                refine j_isub C dX9_work_256 ?_
                obtain ⟨c257_15, hb⟩ := jchk hb
                refine j_zaldW C dX9_work_257 (by decide) rfl (jin_vp c257_15) ?_
                refine j_if_ne C dX9_work_258 (tgt := 265) (by decide) (fun cq => ?_) (fun cq => ?_)
                · have hb := jite_t hb (jb_t cq)
                  refine j_iconst C dX9_work_265 (v := 0) (by decide) ?_
                  refine j_zastB C (b := false) dX9_work_266 (by decide) (fun _ => rfl) (jin_vp c257_15) (fun s266_16 hs266_16 => ?_)
                  have hb := jlet hb hs266_16
                  refine j_goto C dX9_work_267 (tgt := 346) (by decide) ?_
                  refine j_iinc C dX9_work_346 7 rfl (v := (q.2.2.1 + 1)) rfl (by decide) rfl ?_
                  refine j_goto C dX9_work_349 (tgt := 38) (by decide) ?_
                  refine j_loc C [3, 4, 5, 6, 7, 0] rfl ?_
                  have hx := hin _ (jinl hb)
                  exact hx
                · have hb := jite_f hb (jb_f cq)
                  refine j_iconst C dX9_work_261 (v := 1) (by decide) ?_
                  refine j_goto C dX9_work_262 (tgt := 266) (by decide) ?_
                  refine j_zastB C (b := true) dX9_work_266 (by decide) (fun _ => rfl) (jin_vp c257_15) (fun s266_17 hs266_17 => ?_)
                  have hb := jlet hb hs266_17
                  refine j_goto C dX9_work_267 (tgt := 346) (by decide) ?_
                  refine j_iinc C dX9_work_346 7 rfl (v := (q.2.2.1 + 1)) rfl (by decide) rfl ?_
                  refine j_goto C dX9_work_349 (tgt := 38) (by decide) ?_
                  refine j_loc C [3, 4, 5, 6, 7, 0] rfl ?_
                  have hx := hin _ (jinl hb)
                  exact hx
            · have hb := jite_f hb cq
              refine j_iinc C dX9_work_197 5 rfl (v := (q.1 + (-2))) rfl (by decide) rfl ?_
              refine j_aload_n C dX9_work_200 3 rfl ?_
              refine j_getW C dX9_work_201 inX9 rfl (by decide) rfl 24 (by decide) w_945 rfl rfl ?_
              refine j_iload C dX9_work_204 6 rfl ?_
              refine j_iload C dX9_work_206 2 rfl ?_
              refine j_aload_n C dX9_work_208 3 rfl ?_
              refine j_getW C dX9_work_209 inX9 rfl (by decide) rfl 23 (by decide) w_944 rfl rfl ?_
              refine j_iload C dX9_work_212 0 rfl ?_
              obtain ⟨c214_18, hb⟩ := jchk hb
              refine j_laldW C dX9_work_214 (by decide) rfl (jin_vp c214_18) ?_
              refine j_aload_n C dX9_work_215 3 rfl ?_
              refine j_getW C dX9_work_216 inX9 rfl (by decide) rfl 23 (by decide) w_944 rfl rfl ?_
              refine j_iload C dX9_work_219 0 rfl ?_
              refine j_iconst C dX9_work_221 (v := 1) (by decide) ?_
              refine j_iadd C dX9_work_222 ?_
              obtain ⟨c223_19, hb⟩ := jchk hb
              refine j_laldW C dX9_work_223 (by decide) rfl (jin_vp c223_19) ?_
              refine j_cS1 C dX9_work_224 (m_X9_isAsked (q.2.2.2.1 3 (Int32.toNatClampNeg (v4 + (2 * q.2.2.1)))) (q.2.2.2.2 7 (Int32.toNatClampNeg (q.1 + (-2)))) (q.2.2.2.2 7 (Int32.toNatClampNeg ((q.1 + (-2)) + 1))) rfl) kc_X9_isAsked w_1199 w_1200 w_11 jy_X9_isAsked ⟨⟨Nat.le_of_ble_eq_true rfl, Nat.le_of_ble_eq_true rfl⟩, ⟨rfl, rfl⟩, ⟨Nat.zero_le _, Nat.zero_le _⟩⟩ (Nat.le_of_ble_eq_true rfl) rfl (fun _ _ h => h) ?_
              obtain ⟨c227_20, hb⟩ := jchk hb
              refine j_zastB C (b := (F_X9_isAsked (q.2.2.2.1 3 (Int32.toNatClampNeg (v4 + (2 * q.2.2.1)))) (q.2.2.2.2 7 (Int32.toNatClampNeg (q.1 + (-2)))) (q.2.2.2.2 7 (Int32.toNatClampNeg ((q.1 + (-2)) + 1))))) dX9_work_227 (by decide) (fun _ => rfl) (jin_vp c227_20) (fun s227_21 hs227_21 => ?_)
              have hb := jlet hb hs227_21
              refine j_iinc C dX9_work_228 6 rfl (v := (q.2.1 + 1)) rfl (by decide) rfl ?_
              refine j_goto C dX9_work_231 (tgt := 346) (by decide) ?_
              refine j_iinc C dX9_work_346 7 rfl (v := (q.2.2.1 + 1)) rfl (by decide) rfl ?_
              refine j_goto C dX9_work_349 (tgt := 38) (by decide) ?_
              refine j_loc C [5, 6, 7, 2, 1, 0] rfl ?_
              have hx := hin _ (jinl hb)
              exact hx
          · have hb := jite_f hb cq
            refine j_iinc C dX9_work_154 5 rfl (v := (q.1 + (-1))) rfl (by decide) rfl ?_
            refine j_aload_n C dX9_work_157 3 rfl ?_
            refine j_getW C dX9_work_158 inX9 rfl (by decide) rfl 23 (by decide) w_944 rfl rfl ?_
            refine j_iload C dX9_work_161 0 rfl ?_
            refine j_iconst C dX9_work_163 (v := 1) (by decide) ?_
            refine j_isub C dX9_work_164 ?_
            refine j_iload C dX9_work_165 2 rfl ?_
            refine j_aload_n C dX9_work_167 3 rfl ?_
            refine j_getW C dX9_work_168 inX9 rfl (by decide) rfl 23 (by decide) w_944 rfl rfl ?_
            refine j_iload C dX9_work_171 0 rfl ?_
            refine j_iconst C dX9_work_173 (v := 1) (by decide) ?_
            refine j_isub C dX9_work_174 ?_
            obtain ⟨c175_22, hb⟩ := jchk hb
            refine j_laldW C dX9_work_175 (by decide) rfl (jin_vp c175_22) ?_
            refine j_aload_n C dX9_work_176 3 rfl ?_
            refine j_getW C dX9_work_177 inX9 rfl (by decide) rfl 23 (by decide) w_944 rfl rfl ?_
            refine j_iload C dX9_work_180 0 rfl ?_
            obtain ⟨c182_23, hb⟩ := jchk hb
            refine j_laldW C dX9_work_182 (by decide) rfl (jin_vp c182_23) ?_
            obtain ⟨p183, he183, hb⟩ := jbind hb
            refine j_cS1 C dX9_work_183 (m_X9_two (q.2.2.2.1 3 (Int32.toNatClampNeg (v4 + (2 * q.2.2.1)))) (q.2.2.2.2 7 (Int32.toNatClampNeg ((q.1 + (-1)) - 1))) (q.2.2.2.2 7 (Int32.toNatClampNeg (q.1 + (-1)))) he183) kc_X9_two w_1191 w_1192 w_11 jy_X9_two ⟨⟨Nat.le_of_ble_eq_true rfl, Nat.le_of_ble_eq_true rfl⟩, ⟨rfl, rfl⟩, ⟨Nat.zero_le _, Nat.zero_le _⟩⟩ (Nat.le_of_ble_eq_true rfl) rfl (fun _ _ h => h) ?_
            refine j_lastW C dX9_work_186 (by decide) (fun _ => rfl) (jin_vp c175_22) (fun s186_24 hs186_24 => ?_)
            have hb := jlet hb hs186_24
            refine j_goto C dX9_work_187 (tgt := 346) (by decide) ?_
            refine j_iinc C dX9_work_346 7 rfl (v := (q.2.2.1 + 1)) rfl (by decide) rfl ?_
            refine j_goto C dX9_work_349 (tgt := 38) (by decide) ?_
            refine j_loc C [4, 5, 6, 1, 7, 0] rfl ?_
            have hx := hin _ (jinl hb)
            exact hx
        · have hb := jite_t hb cq
          refine j_aload_n C dX9_work_125 2 rfl ?_
          refine j_getW C dX9_work_126 inX9 rfl (by decide) rfl 23 (by decide) w_944 rfl rfl ?_
          refine j_iload C dX9_work_129 5 rfl ?_
          refine j_iconst C dX9_work_131 (v := 1) (by decide) ?_
          refine j_isub C dX9_work_132 ?_
          refine j_aload_n C dX9_work_133 2 rfl ?_
          refine j_getW C dX9_work_134 inX9 rfl (by decide) rfl 23 (by decide) w_944 rfl rfl ?_
          refine j_iload C dX9_work_137 5 rfl ?_
          refine j_iconst C dX9_work_139 (v := 1) (by decide) ?_
          refine j_isub C dX9_work_140 ?_
          obtain ⟨c141_25, hb⟩ := jchk hb
          refine j_laldW C dX9_work_141 (by decide) rfl (jin_vp c141_25) ?_
          refine j_lneg C dX9_work_142 ?_
          refine j_lastW C dX9_work_143 (by decide) (fun _ => rfl) (jin_vp c141_25) (fun s143_26 hs143_26 => ?_)
          have hb := jlet hb hs143_26
          refine j_goto C dX9_work_144 (tgt := 346) (by decide) ?_
          refine j_iinc C dX9_work_346 7 rfl (v := (q.2.2.1 + 1)) rfl (by decide) rfl ?_
          refine j_goto C dX9_work_349 (tgt := 38) (by decide) ?_
          refine j_loc C [3, 4, 5, 6, 7, 0] rfl ?_
          have hx := hin _ (jinl hb)
          exact hx
      · have hb := jite_f hb cq
        refine j_aload_n C dX9_work_87 2 rfl ?_
        refine j_getW C dX9_work_88 inX9 rfl (by decide) rfl 23 (by decide) w_944 rfl rfl ?_
        refine j_iload C dX9_work_91 5 rfl ?_
        refine j_iload C dX9_work_93 1 rfl ?_
        refine j_if_ne C dX9_work_95 (tgt := 104) (by decide) (fun cq => ?_) (fun cq => ?_)
        · have hb := jite_f hb cq
          refine j_aload_n C dX9_work_104 2 rfl ?_
          refine j_getW C dX9_work_105 inX9 rfl (by decide) rfl 22 (by decide) w_943 rfl rfl ?_
          refine j_iload C dX9_work_108 0 rfl ?_
          obtain ⟨c110_27, hb⟩ := jchk hb
          refine j_ialdW C dX9_work_110 (by decide) rfl (jin_vp c110_27) ?_
          refine j_i2l C dX9_work_111 ?_
          obtain ⟨c112_28, hb⟩ := jchk hb
          refine j_lastW C dX9_work_112 (by decide) (fun _ => rfl) (jin_vp c112_28) (fun s112_29 hs112_29 => ?_)
          have hb := jlet hb hs112_29
          refine j_iinc C dX9_work_113 5 rfl (v := (q.1 + 1)) rfl (by decide) rfl ?_
          refine j_goto C dX9_work_116 (tgt := 346) (by decide) ?_
          refine j_iinc C dX9_work_346 7 rfl (v := (q.2.2.1 + 1)) rfl (by decide) rfl ?_
          refine j_goto C dX9_work_349 (tgt := 38) (by decide) ?_
          refine j_loc C [4, 5, 6, 1, 7, 0] rfl ?_
          have hx := hin _ (jinl hb)
          exact hx
        · have hb := jite_t hb cq
          refine j_iload C dX9_work_98 0 rfl ?_
          refine j_i2l C dX9_work_100 ?_
          refine j_goto C dX9_work_101 (tgt := 112) (by decide) ?_
          obtain ⟨c112_30, hb⟩ := jchk hb
          refine j_lastW C dX9_work_112 (by decide) (fun _ => rfl) (jin_vp c112_30) (fun s112_31 hs112_31 => ?_)
          have hb := jlet hb hs112_31
          refine j_iinc C dX9_work_113 5 rfl (v := (q.1 + 1)) rfl (by decide) rfl ?_
          refine j_goto C dX9_work_116 (tgt := 346) (by decide) ?_
          refine j_iinc C dX9_work_346 7 rfl (v := (q.2.2.1 + 1)) rfl (by decide) rfl ?_
          refine j_goto C dX9_work_349 (tgt := 38) (by decide) ?_
          refine j_loc C [4, 5, 6, 1, 7, 0] rfl ?_
          have hx := hin _ (jinl hb)
          exact hx
  show K 0 0 (jw 15 (cellM G) ad s) 0 [(0, .ref (ad 0)), (1, .int v1), (2, .int v2)] []
  refine j_sipush C dX9_work_0 (v := 680) (by decide) ?_
  refine j_iload_n C dX9_work_3 1 rfl ?_
  refine j_imul C dX9_work_4 ?_
  refine j_iconst C dX9_work_5 (v := 1) (by decide) ?_
  refine j_iadd C dX9_work_6 ?_
  refine j_iconst C dX9_work_7 (v := 3) (by decide) ?_
  refine j_iload_n C dX9_work_8 2 rfl ?_
  refine j_imul C dX9_work_9 ?_
  refine j_iadd C dX9_work_10 ?_
  refine j_istore_n C dX9_work_11 (by decide) rfl ?_
  refine j_sipush C dX9_work_12 (v := 680) (by decide) ?_
  refine j_iload_n C dX9_work_15 2 rfl ?_
  refine j_imul C dX9_work_16 ?_
  refine j_bipush C dX9_work_17 (v := 75) (by decide) ?_
  refine j_iadd C dX9_work_19 ?_
  refine j_istore C dX9_work_20 (by decide) rfl ?_
  refine j_iconst C dX9_work_22 (v := 0) (by decide) ?_
  refine j_istore C dX9_work_23 (by decide) rfl ?_
  refine j_iconst C dX9_work_25 (v := 0) (by decide) ?_
  refine j_istore C dX9_work_26 (by decide) rfl ?_
  refine j_aload_n C dX9_work_28 4 rfl ?_
  refine j_getW C dX9_work_29 inX9 rfl (by decide) rfl 3 (by decide) w_926 rfl rfl ?_
  refine j_iload_n C dX9_work_32 3 rfl ?_
  refine j_iconst C dX9_work_33 (v := 1) (by decide) ?_
  refine j_iadd C dX9_work_34 ?_
  obtain ⟨c35_1, h⟩ := jchk h
  refine j_ialdW C dX9_work_35 (by decide) rfl (jin_vp c35_1) ?_
  refine j_istore C dX9_work_36 (by decide) rfl ?_
  refine j_loc C [5, 4, 3, 2, 1, 0] rfl ?_
  obtain ⟨e38, he38, h⟩ := jbind h
  refine lo38 (((680 * v1) + 1) + (3 * v2)) ((680 * v1) + 75) s  n (0, 0, (s.1 3 (Int32.toNatClampNeg ((((680 * v1) + 1) + (3 * v2)) + 1))), s) e38 he38 ?_
  exact j_vret C dX9_work_352 rfl (Nat.zero_le _) (Nat.zero_le _) (jretWV h)
-- X9_isOpen
def B_X9_isOpen_9 (n : Nat) (v1 : Int32) (v2 : Int32) (v3 : Int32) (v4 : Int32) (v5 : Int32) (v6 : Int32) (v7 : Int32) (s : jS) (q : Int32) : Option (Int32 ⊕ Int32) :=
  (if jin (680 * v1) 2720 = true then (if (s.1 3 (Int32.toNatClampNeg (680 * v1))) ≤ q then some (.inr q) else (if jin (((680 * v1) + 1) + (3 * q)) 2720 = true then (if (s.1 3 (Int32.toNatClampNeg (((680 * v1) + 1) + (3 * q)))) = 0 then some (.inr q) else some (.inl (q + 1))) else none)) else none)
def F_X9_isOpen (n : Nat) (v1 : Int32) (v2 : Int32) (v3 : Int32) (v4 : Int32) (v5 : Int32) (v6 : Int32) (v7 : Int32) (s : jS) : Option (Bool × jS) :=
  (if 0 ≤ v1 then ((lp (B_X9_isOpen_9 n v1 v2 v3 v4 v5 v6 v7 s) n 0).bind fun e9 => (if jin (680 * v1) 2720 = true then (if e9 = (s.1 3 (Int32.toNatClampNeg (680 * v1))) then some (false, s) else (jl (upI s 6 (Int32.toNatClampNeg 0) v2) fun s73_4 => (jl (upI s73_4 6 (Int32.toNatClampNeg 1) v3) fun s80_5 => (if jin (36 + v3) 324 = true then (jl (upI s80_5 6 (Int32.toNatClampNeg 2) (s80_5.1 1 (Int32.toNatClampNeg (36 + v3)))) fun s95_7 => (if jin (12 + v2) 324 = true then (jl (upI s95_7 6 (Int32.toNatClampNeg 3) (s95_7.1 1 (Int32.toNatClampNeg (12 + v2)))) fun s110_9 => (jl (upI s110_9 6 (Int32.toNatClampNeg 4) v5) fun s118_10 => (jl (upI s118_10 6 (Int32.toNatClampNeg 5) v4) fun s126_11 => (jl (upI s126_11 6 (Int32.toNatClampNeg 6) v6) fun s135_12 => (jl (upI s135_12 6 (Int32.toNatClampNeg 7) v7) fun s144_13 => ((F_X9_work n v1 e9 s144_13).bind fun p149 => some ((jz (p149.1 8 (Int32.toNatClampNeg 0))), p149))))))) else none)) else none)))) else none)) else some (false, s))
def rm_X9_isOpen : Room := { frames := 3, cells := 0, slots := 0, locals := 74 }
set_option maxHeartbeats 4000000 in
set_option maxRecDepth 100000 in
theorem m_X9_isOpen {l : Launch} {D : va_G} {G : Nat → ClassId} {KV : jV} {ad : Nat → Nat} (n : Nat) (v1 : Int32) (v2 : Int32) (v3 : Int32) (v4 : Int32) (v5 : Int32) (v6 : Int32) (v7 : Int32) (s : jS) {p : Bool × jS} (h : F_X9_isOpen n v1 v2 v3 v4 v5 v6 v7 s = some p) : jM l D G KV yX9_isOpen cX9_isOpen 9 (some .boolean) rm_X9_isOpen [.ref (ad 0), .int v1, .int v2, .int v3, .int v4, .int v5, .int v6, .int v7] (jw 15 (cellM G) ad s) 0 0 (fun v u => v = some (.int (jb p.1)) ∧ u = jw 15 (cellM G) ad p.2) := by
  refine jM.of (by decide) (Nat.le_of_ble_eq_true rfl) ?_
  intro K C
  unfold F_X9_isOpen at h
  have lo9 : ∀ (v1 : Int32) (v2 : Int32) (v3 : Int32) (v4 : Int32) (v5 : Int32) (v6 : Int32) (v7 : Int32) (s : jS) (k : Nat) (q : Int32) (e : Int32), lp (B_X9_isOpen_9 n v1 v2 v3 v4 v5 v6 v7 s) k q = some e → K 0 0 (jw 15 (cellM G) ad s) 50 [(0, .ref (ad 0)), (1, .int v1), (2, .int v2), (3, .int v3), (4, .int v4), (5, .int v5), (6, .int v6), (7, .int v7), (8, .int e)] [] → K 0 0 (jw 15 (cellM G) ad s) 9 [(0, .ref (ad 0)), (1, .int v1), (2, .int v2), (3, .int v3), (4, .int v4), (5, .int v5), (6, .int v6), (7, .int v7), (8, .int q)] [] := by
    intro v1 v2 v3 v4 v5 v6 v7 s k q e he hE
    refine jlp (KH := fun q => K 0 0 (jw 15 (cellM G) ad s) 9 [(0, .ref (ad 0)), (1, .int v1), (2, .int v2), (3, .int v3), (4, .int v4), (5, .int v5), (6, .int v6), (7, .int v7), (8, .int q)] []) (KE := fun e => K 0 0 (jw 15 (cellM G) ad s) 50 [(0, .ref (ad 0)), (1, .int v1), (2, .int v2), (3, .int v3), (4, .int v4), (5, .int v5), (6, .int v6), (7, .int v7), (8, .int e)] []) ?_ k q e he hE
    intro q o hb hin hout
    unfold B_X9_isOpen_9 at hb
    show K 0 0 (jw 15 (cellM G) ad s) 9 [(0, .ref (ad 0)), (1, .int v1), (2, .int v2), (3, .int v3), (4, .int v4), (5, .int v5), (6, .int v6), (7, .int v7), (8, .int q)] []
    refine j_iload C dX9_isOpen_9 8 rfl ?_
    refine j_aload_n C dX9_isOpen_11 0 rfl ?_
    refine j_getW C dX9_isOpen_12 inX9 rfl (by decide) rfl 3 (by decide) w_926 rfl rfl ?_
    refine j_sipush C dX9_isOpen_15 (v := 680) (by decide) ?_
    refine j_iload_n C dX9_isOpen_18 1 rfl ?_
    refine j_imul C dX9_isOpen_19 ?_
    obtain ⟨c20_1, hb⟩ := jchk hb
    refine j_ialdW C dX9_isOpen_20 (by decide) rfl (jin_vp c20_1) ?_
    refine j_icmp_ge C dX9_isOpen_21 (tgt := 50) (by decide) (fun cq => ?_) (fun cq => ?_)
    · have hb := jite_t hb cq
      refine j_loc C [0, 1, 2, 3, 4, 5, 6, 7, 8] rfl ?_
      have hx := hout _ (jinr hb)
      exact hx
    · have hb := jite_f hb cq
      refine j_aload_n C dX9_isOpen_24 0 rfl ?_
      refine j_getW C dX9_isOpen_25 inX9 rfl (by decide) rfl 3 (by decide) w_926 rfl rfl ?_
      refine j_sipush C dX9_isOpen_28 (v := 680) (by decide) ?_
      refine j_iload_n C dX9_isOpen_31 1 rfl ?_
      refine j_imul C dX9_isOpen_32 ?_
      refine j_iconst C dX9_isOpen_33 (v := 1) (by decide) ?_
      refine j_iadd C dX9_isOpen_34 ?_
      refine j_iconst C dX9_isOpen_35 (v := 3) (by decide) ?_
      refine j_iload C dX9_isOpen_36 8 rfl ?_
      refine j_imul C dX9_isOpen_38 ?_
      refine j_iadd C dX9_isOpen_39 ?_
      obtain ⟨c40_2, hb⟩ := jchk hb
      refine j_ialdW C dX9_isOpen_40 (by decide) rfl (jin_vp c40_2) ?_
      refine j_if_eq C dX9_isOpen_41 (tgt := 50) (by decide) (fun cq => ?_) (fun cq => ?_)
      · have hb := jite_t hb cq
        refine j_loc C [0, 1, 2, 3, 4, 5, 6, 7, 8] rfl ?_
        have hx := hout _ (jinr hb)
        exact hx
      · have hb := jite_f hb cq
        refine j_iinc C dX9_isOpen_44 8 rfl (v := (q + 1)) rfl (by decide) rfl ?_
        refine j_goto C dX9_isOpen_47 (tgt := 9) (by decide) ?_
        refine j_loc C [1, 2, 3, 4, 5, 6, 7, 8, 0] rfl ?_
        have hx := hin _ (jinl hb)
        exact hx
  show K 0 0 (jw 15 (cellM G) ad s) 0 [(0, .ref (ad 0)), (1, .int v1), (2, .int v2), (3, .int v3), (4, .int v4), (5, .int v5), (6, .int v6), (7, .int v7)] []
  refine j_iload_n C dX9_isOpen_0 1 rfl ?_
  refine j_if_ge C dX9_isOpen_1 (tgt := 6) (by decide) (fun cq => ?_) (fun cq => ?_)
  · have h := jite_t h cq
    refine j_iconst C dX9_isOpen_6 (v := 0) (by decide) ?_
    refine j_istore C dX9_isOpen_7 (by decide) rfl ?_
    refine j_loc C [1, 2, 3, 4, 5, 6, 7, 8, 0] rfl ?_
    obtain ⟨e9, he9, h⟩ := jbind h
    refine lo9 v1 v2 v3 v4 v5 v6 v7 s  n 0 e9 he9 ?_
    refine j_iload C dX9_isOpen_50 8 rfl ?_
    refine j_aload_n C dX9_isOpen_52 0 rfl ?_
    refine j_getW C dX9_isOpen_53 inX9 rfl (by decide) rfl 3 (by decide) w_926 rfl rfl ?_
    refine j_sipush C dX9_isOpen_56 (v := 680) (by decide) ?_
    refine j_iload_n C dX9_isOpen_59 1 rfl ?_
    refine j_imul C dX9_isOpen_60 ?_
    obtain ⟨c61_3, h⟩ := jchk h
    refine j_ialdW C dX9_isOpen_61 (by decide) rfl (jin_vp c61_3) ?_
    refine j_icmp_ne C dX9_isOpen_62 (tgt := 67) (by decide) (fun cq => ?_) (fun cq => ?_)
    · have h := jite_f h cq
      refine j_aload_n C dX9_isOpen_67 0 rfl ?_
      refine j_getW C dX9_isOpen_68 inX9 rfl (by decide) rfl 22 (by decide) w_943 rfl rfl ?_
      refine j_iconst C dX9_isOpen_71 (v := 0) (by decide) ?_
      refine j_iload_n C dX9_isOpen_72 2 rfl ?_
      refine j_iastW C dX9_isOpen_73 (by decide) (fun _ => rfl) (jin_vp (i := 0) (n := 8) (by decide)) (fun s73_4 hs73_4 => ?_)
      have h := jlet h hs73_4
      refine j_aload_n C dX9_isOpen_74 0 rfl ?_
      refine j_getW C dX9_isOpen_75 inX9 rfl (by decide) rfl 22 (by decide) w_943 rfl rfl ?_
      refine j_iconst C dX9_isOpen_78 (v := 1) (by decide) ?_
      refine j_iload_n C dX9_isOpen_79 3 rfl ?_
      refine j_iastW C dX9_isOpen_80 (by decide) (fun _ => rfl) (jin_vp (i := 1) (n := 8) (by decide)) (fun s80_5 hs80_5 => ?_)
      have h := jlet h hs80_5
      refine j_aload_n C dX9_isOpen_81 0 rfl ?_
      refine j_getW C dX9_isOpen_82 inX9 rfl (by decide) rfl 22 (by decide) w_943 rfl rfl ?_
      refine j_iconst C dX9_isOpen_85 (v := 2) (by decide) ?_
      refine j_aload_n C dX9_isOpen_86 0 rfl ?_
      refine j_getW C dX9_isOpen_87 inX9 rfl (by decide) rfl 0 (by decide) w_923 rfl rfl ?_
      refine j_bipush C dX9_isOpen_90 (v := 36) (by decide) ?_
      refine j_iload_n C dX9_isOpen_92 3 rfl ?_
      refine j_iadd C dX9_isOpen_93 ?_
      obtain ⟨c94_6, h⟩ := jchk h
      refine j_ialdW C dX9_isOpen_94 (by decide) rfl (jin_vp c94_6) ?_
      refine j_iastW C dX9_isOpen_95 (by decide) (fun _ => rfl) (jin_vp (i := 2) (n := 8) (by decide)) (fun s95_7 hs95_7 => ?_)
      have h := jlet h hs95_7
      refine j_aload_n C dX9_isOpen_96 0 rfl ?_
      refine j_getW C dX9_isOpen_97 inX9 rfl (by decide) rfl 22 (by decide) w_943 rfl rfl ?_
      refine j_iconst C dX9_isOpen_100 (v := 3) (by decide) ?_
      refine j_aload_n C dX9_isOpen_101 0 rfl ?_
      refine j_getW C dX9_isOpen_102 inX9 rfl (by decide) rfl 0 (by decide) w_923 rfl rfl ?_
      refine j_bipush C dX9_isOpen_105 (v := 12) (by decide) ?_
      refine j_iload_n C dX9_isOpen_107 2 rfl ?_
      refine j_iadd C dX9_isOpen_108 ?_
      obtain ⟨c109_8, h⟩ := jchk h
      refine j_ialdW C dX9_isOpen_109 (by decide) rfl (jin_vp c109_8) ?_
      refine j_iastW C dX9_isOpen_110 (by decide) (fun _ => rfl) (jin_vp (i := 3) (n := 8) (by decide)) (fun s110_9 hs110_9 => ?_)
      have h := jlet h hs110_9
      refine j_aload_n C dX9_isOpen_111 0 rfl ?_
      refine j_getW C dX9_isOpen_112 inX9 rfl (by decide) rfl 22 (by decide) w_943 rfl rfl ?_
      refine j_iconst C dX9_isOpen_115 (v := 4) (by decide) ?_
      refine j_iload C dX9_isOpen_116 5 rfl ?_
      refine j_iastW C dX9_isOpen_118 (by decide) (fun _ => rfl) (jin_vp (i := 4) (n := 8) (by decide)) (fun s118_10 hs118_10 => ?_)
      have h := jlet h hs118_10
      refine j_aload_n C dX9_isOpen_119 0 rfl ?_
      refine j_getW C dX9_isOpen_120 inX9 rfl (by decide) rfl 22 (by decide) w_943 rfl rfl ?_
      refine j_iconst C dX9_isOpen_123 (v := 5) (by decide) ?_
      refine j_iload C dX9_isOpen_124 4 rfl ?_
      refine j_iastW C dX9_isOpen_126 (by decide) (fun _ => rfl) (jin_vp (i := 5) (n := 8) (by decide)) (fun s126_11 hs126_11 => ?_)
      have h := jlet h hs126_11
      refine j_aload_n C dX9_isOpen_127 0 rfl ?_
      refine j_getW C dX9_isOpen_128 inX9 rfl (by decide) rfl 22 (by decide) w_943 rfl rfl ?_
      refine j_bipush C dX9_isOpen_131 (v := 6) (by decide) ?_
      refine j_iload C dX9_isOpen_133 6 rfl ?_
      refine j_iastW C dX9_isOpen_135 (by decide) (fun _ => rfl) (jin_vp (i := 6) (n := 8) (by decide)) (fun s135_12 hs135_12 => ?_)
      have h := jlet h hs135_12
      refine j_aload_n C dX9_isOpen_136 0 rfl ?_
      refine j_getW C dX9_isOpen_137 inX9 rfl (by decide) rfl 22 (by decide) w_943 rfl rfl ?_
      refine j_bipush C dX9_isOpen_140 (v := 7) (by decide) ?_
      refine j_iload C dX9_isOpen_142 7 rfl ?_
      refine j_iastW C dX9_isOpen_144 (by decide) (fun _ => rfl) (jin_vp (i := 7) (n := 8) (by decide)) (fun s144_13 hs144_13 => ?_)
      have h := jlet h hs144_13
      refine j_aload_n C dX9_isOpen_145 0 rfl ?_
      refine j_iload_n C dX9_isOpen_146 1 rfl ?_
      refine j_iload C dX9_isOpen_147 8 rfl ?_
      obtain ⟨p149, he149, h⟩ := jbind h
      refine j_cV0 C dX9_isOpen_149 (m_X9_work n v1 e9 s144_13 he149) kc_X9_work w_1187 w_1189 wp_69 w_11 jy_X9_work ⟨⟨Nat.le_of_ble_eq_true rfl, Nat.le_of_ble_eq_true rfl⟩, ⟨rfl, rfl⟩, ⟨Nat.zero_le _, Nat.zero_le _⟩⟩ (Nat.le_of_ble_eq_true rfl) (by decide) rfl (r := (RX9, TX9, 32)) rfl rfl rfl (fun _ _ h => h) ?_
      refine j_aload_n C dX9_isOpen_152 0 rfl ?_
      refine j_getW C dX9_isOpen_153 inX9 rfl (by decide) rfl 24 (by decide) w_945 rfl rfl ?_
      refine j_iconst C dX9_isOpen_156 (v := 0) (by decide) ?_
      refine j_zaldW C dX9_isOpen_157 (by decide) rfl (jin_vp (i := 0) (n := 330) (by decide)) ?_
      exact j_iret C dX9_isOpen_158 rfl (jb_nar (jz (p149.1 8 (Int32.toNatClampNeg 0)))) (Nat.zero_le _) (Nat.zero_le _) (jretWB h)
    · have h := jite_t h cq
      refine j_iconst C dX9_isOpen_65 (v := 0) (by decide) ?_
      exact j_iret C dX9_isOpen_66 rfl (jb_nar false) (Nat.zero_le _) (Nat.zero_le _) (jretWB h)
  · have h := jite_f h cq
    refine j_iconst C dX9_isOpen_4 (v := 0) (by decide) ?_
    exact j_iret C dX9_isOpen_5 rfl (jb_nar false) (Nat.zero_le _) (Nat.zero_le _) (jretWB h)
-- X9_opens
def F_X9_opens (n : Nat) (v1 : Int32) (v2 : Int32) (v3 : Int32) (v4 : Int32) (v5 : Int32) (v6 : Int32) (s : jS) : Option (Bool × jS) :=
  (if (F_X9_isDoor v1 s) = true then (if (F_X9_isHour v2) = true then (if (F_X9_isKnock v3 v4) = true then (if (F_X9_isIn v5 0 9) = true then (if (F_X9_isIn v6 0 9) = true then (if jin (20 + v1) 324 = true then (if (s.1 1 (Int32.toNatClampNeg (20 + v1))) = 0 then some (true, s) else (if jin (28 + v1) 324 = true then ((F_X9_isOpen n (s.1 1 (Int32.toNatClampNeg (28 + v1))) v1 v2 v3 v4 v5 v6 s).bind fun p79 => (if p79.1 = true then some (true, p79.2) else some (false, p79.2))) else none)) else none) else some (false, s)) else some (false, s)) else some (false, s)) else some (false, s)) else some (false, s))
def rm_X9_opens : Room := { frames := 4, cells := 0, slots := 0, locals := 102 }
set_option maxHeartbeats 4000000 in
set_option maxRecDepth 100000 in
theorem m_X9_opens {l : Launch} {D : va_G} {G : Nat → ClassId} {KV : jV} {ad : Nat → Nat} (n : Nat) (v1 : Int32) (v2 : Int32) (v3 : Int32) (v4 : Int32) (v5 : Int32) (v6 : Int32) (s : jS) {p : Bool × jS} (h : F_X9_opens n v1 v2 v3 v4 v5 v6 s = some p) : jM l D G KV yX9_opens cX9_opens 7 (some .boolean) rm_X9_opens [.ref (ad 0), .int v1, .int v2, .int v3, .int v4, .int v5, .int v6] (jw 15 (cellM G) ad s) 0 0 (fun v u => v = some (.int (jb p.1)) ∧ u = jw 15 (cellM G) ad p.2) := by
  refine jM.of (by decide) (Nat.le_of_ble_eq_true rfl) ?_
  intro K C
  unfold F_X9_opens at h
  show K 0 0 (jw 15 (cellM G) ad s) 0 [(0, .ref (ad 0)), (1, .int v1), (2, .int v2), (3, .int v3), (4, .int v4), (5, .int v5), (6, .int v6)] []
  refine j_aload_n C dX9_opens_0 0 rfl ?_
  refine j_iload_n C dX9_opens_1 1 rfl ?_
  refine j_cV1 C dX9_opens_2 (m_X9_isDoor v1 s rfl) kc_X9_isDoor w_1032 w_1034 wp_44 w_11 jy_X9_isDoor ⟨⟨Nat.le_of_ble_eq_true rfl, Nat.le_of_ble_eq_true rfl⟩, ⟨rfl, rfl⟩, ⟨Nat.zero_le _, Nat.zero_le _⟩⟩ (Nat.le_of_ble_eq_true rfl) (by decide) rfl (r := (RX9, TX9, 32)) rfl rfl rfl (fun _ _ h => h) ?_
  refine j_if_eq C dX9_opens_5 (tgt := 46) (by decide) (fun cq => ?_) (fun cq => ?_)
  · have h := jite_f h (jb_f cq)
    refine j_iconst C dX9_opens_46 (v := 0) (by decide) ?_
    exact j_iret C dX9_opens_47 rfl (jb_nar false) (Nat.zero_le _) (Nat.zero_le _) (jretWB h)
  · have h := jite_t h (jb_t cq)
    refine j_iload_n C dX9_opens_8 2 rfl ?_
    refine j_cS1 C dX9_opens_9 (m_X9_isHour v2 rfl) kc_X9_isHour w_1022 w_1023 w_11 jy_X9_isHour ⟨⟨Nat.le_of_ble_eq_true rfl, Nat.le_of_ble_eq_true rfl⟩, ⟨rfl, rfl⟩, ⟨Nat.zero_le _, Nat.zero_le _⟩⟩ (Nat.le_of_ble_eq_true rfl) rfl (fun _ _ h => h) ?_
    refine j_if_eq C dX9_opens_12 (tgt := 46) (by decide) (fun cq => ?_) (fun cq => ?_)
    · have h := jite_f h (jb_f cq)
      refine j_iconst C dX9_opens_46 (v := 0) (by decide) ?_
      exact j_iret C dX9_opens_47 rfl (jb_nar false) (Nat.zero_le _) (Nat.zero_le _) (jretWB h)
    · have h := jite_t h (jb_t cq)
      refine j_iload_n C dX9_opens_15 3 rfl ?_
      refine j_iload C dX9_opens_16 4 rfl ?_
      refine j_cS1 C dX9_opens_18 (m_X9_isKnock v3 v4 rfl) kc_X9_isKnock w_1180 w_1181 w_11 jy_X9_isKnock ⟨⟨Nat.le_of_ble_eq_true rfl, Nat.le_of_ble_eq_true rfl⟩, ⟨rfl, rfl⟩, ⟨Nat.zero_le _, Nat.zero_le _⟩⟩ (Nat.le_of_ble_eq_true rfl) rfl (fun _ _ h => h) ?_
      refine j_if_eq C dX9_opens_21 (tgt := 46) (by decide) (fun cq => ?_) (fun cq => ?_)
      · have h := jite_f h (jb_f cq)
        refine j_iconst C dX9_opens_46 (v := 0) (by decide) ?_
        exact j_iret C dX9_opens_47 rfl (jb_nar false) (Nat.zero_le _) (Nat.zero_le _) (jretWB h)
      · have h := jite_t h (jb_t cq)
        refine j_iload C dX9_opens_24 5 rfl ?_
        refine j_iconst C dX9_opens_26 (v := 0) (by decide) ?_
        refine j_bipush C dX9_opens_27 (v := 9) (by decide) ?_
        refine j_cS1 C dX9_opens_29 (m_X9_isIn v5 0 9 rfl) kc_X9_isIn w_1025 w_1026 w_11 jy_X9_isIn ⟨⟨Nat.le_of_ble_eq_true rfl, Nat.le_of_ble_eq_true rfl⟩, ⟨rfl, rfl⟩, ⟨Nat.zero_le _, Nat.zero_le _⟩⟩ (Nat.le_of_ble_eq_true rfl) rfl (fun _ _ h => h) ?_
        refine j_if_eq C dX9_opens_32 (tgt := 46) (by decide) (fun cq => ?_) (fun cq => ?_)
        · have h := jite_f h (jb_f cq)
          refine j_iconst C dX9_opens_46 (v := 0) (by decide) ?_
          exact j_iret C dX9_opens_47 rfl (jb_nar false) (Nat.zero_le _) (Nat.zero_le _) (jretWB h)
        · have h := jite_t h (jb_t cq)
          refine j_iload C dX9_opens_35 6 rfl ?_
          refine j_iconst C dX9_opens_37 (v := 0) (by decide) ?_
          refine j_bipush C dX9_opens_38 (v := 9) (by decide) ?_
          refine j_cS1 C dX9_opens_40 (m_X9_isIn v6 0 9 rfl) kc_X9_isIn w_1025 w_1026 w_11 jy_X9_isIn ⟨⟨Nat.le_of_ble_eq_true rfl, Nat.le_of_ble_eq_true rfl⟩, ⟨rfl, rfl⟩, ⟨Nat.zero_le _, Nat.zero_le _⟩⟩ (Nat.le_of_ble_eq_true rfl) rfl (fun _ _ h => h) ?_
          refine j_if_ne C dX9_opens_43 (tgt := 48) (by decide) (fun cq => ?_) (fun cq => ?_)
          · have h := jite_t h (jb_t cq)
            refine j_aload_n C dX9_opens_48 0 rfl ?_
            refine j_getW C dX9_opens_49 inX9 rfl (by decide) rfl 0 (by decide) w_923 rfl rfl ?_
            refine j_bipush C dX9_opens_52 (v := 20) (by decide) ?_
            refine j_iload_n C dX9_opens_54 1 rfl ?_
            refine j_iadd C dX9_opens_55 ?_
            obtain ⟨c56_1, h⟩ := jchk h
            refine j_ialdW C dX9_opens_56 (by decide) rfl (jin_vp c56_1) ?_
            refine j_if_eq C dX9_opens_57 (tgt := 85) (by decide) (fun cq => ?_) (fun cq => ?_)
            · have h := jite_t h cq
              refine j_iconst C dX9_opens_85 (v := 1) (by decide) ?_
              refine j_goto C dX9_opens_86 (tgt := 90) (by decide) ?_
              exact j_iret C dX9_opens_90 rfl (jb_nar true) (Nat.zero_le _) (Nat.zero_le _) (jretWB h)
            · have h := jite_f h cq
              refine j_aload_n C dX9_opens_60 0 rfl ?_
              refine j_aload_n C dX9_opens_61 0 rfl ?_
              refine j_getW C dX9_opens_62 inX9 rfl (by decide) rfl 0 (by decide) w_923 rfl rfl ?_
              refine j_bipush C dX9_opens_65 (v := 28) (by decide) ?_
              refine j_iload_n C dX9_opens_67 1 rfl ?_
              refine j_iadd C dX9_opens_68 ?_
              obtain ⟨c69_2, h⟩ := jchk h
              refine j_ialdW C dX9_opens_69 (by decide) rfl (jin_vp c69_2) ?_
              refine j_iload_n C dX9_opens_70 1 rfl ?_
              refine j_iload_n C dX9_opens_71 2 rfl ?_
              refine j_iload_n C dX9_opens_72 3 rfl ?_
              refine j_iload C dX9_opens_73 4 rfl ?_
              refine j_iload C dX9_opens_75 5 rfl ?_
              refine j_iload C dX9_opens_77 6 rfl ?_
              obtain ⟨p79, he79, h⟩ := jbind h
              refine j_cV1 C dX9_opens_79 (m_X9_isOpen n (s.1 1 (Int32.toNatClampNeg (28 + v1))) v1 v2 v3 v4 v5 v6 s he79) kc_X9_isOpen w_1183 w_1185 wp_68 w_11 jy_X9_isOpen ⟨⟨Nat.le_of_ble_eq_true rfl, Nat.le_of_ble_eq_true rfl⟩, ⟨rfl, rfl⟩, ⟨Nat.zero_le _, Nat.zero_le _⟩⟩ (Nat.le_of_ble_eq_true rfl) (by decide) rfl (r := (RX9, TX9, 32)) rfl rfl rfl (fun _ _ h => h) ?_
              refine j_if_eq C dX9_opens_82 (tgt := 89) (by decide) (fun cq => ?_) (fun cq => ?_)
              · have h := jite_f h (jb_f cq)
                refine j_iconst C dX9_opens_89 (v := 0) (by decide) ?_
                exact j_iret C dX9_opens_90 rfl (jb_nar false) (Nat.zero_le _) (Nat.zero_le _) (jretWB h)
              · have h := jite_t h (jb_t cq)
                refine j_iconst C dX9_opens_85 (v := 1) (by decide) ?_
                refine j_goto C dX9_opens_86 (tgt := 90) (by decide) ?_
                exact j_iret C dX9_opens_90 rfl (jb_nar true) (Nat.zero_le _) (Nat.zero_le _) (jretWB h)
          · have h := jite_f h (jb_f cq)
            refine j_iconst C dX9_opens_46 (v := 0) (by decide) ?_
            exact j_iret C dX9_opens_47 rfl (jb_nar false) (Nat.zero_le _) (Nat.zero_le _) (jretWB h)
-- X9_isTraveller
def F_X9_isTraveller (v1 : Int32) (v2 : Int32) (v3 : Int32) (v4 : Int32) (s : jS) : Bool :=
  (if (F_X9_isIn v1 0 9) = true then (if (F_X9_isIn v2 0 (((1 : Int32) <<< ((s.1 0 2) &&& 31)) - 1)) = true then (if (F_X9_isHour v3) = true then (if (F_X9_isIn v4 0 99) = true then true else false) else false) else false) else false)
def rm_X9_isTraveller : Room := { frames := 2, cells := 0, slots := 0, locals := 42 }
set_option maxHeartbeats 4000000 in
set_option maxRecDepth 100000 in
theorem m_X9_isTraveller {l : Launch} {D : va_G} {G : Nat → ClassId} {KV : jV} {ad : Nat → Nat} (v1 : Int32) (v2 : Int32) (v3 : Int32) (v4 : Int32) (s : jS) {p : Bool} (h : F_X9_isTraveller v1 v2 v3 v4 s = p) : jM l D G KV yX9_isTraveller cX9_isTraveller 5 (some .boolean) rm_X9_isTraveller [.ref (ad 0), .int v1, .int v2, .int v3, .int v4] (jw 15 (cellM G) ad s) 0 0 (fun v u => v = some (.int (jb p)) ∧ u = jw 15 (cellM G) ad s) := by
  refine jM.of (by decide) (Nat.le_of_ble_eq_true rfl) ?_
  intro K C
  unfold F_X9_isTraveller at h
  show K 0 0 (jw 15 (cellM G) ad s) 0 [(0, .ref (ad 0)), (1, .int v1), (2, .int v2), (3, .int v3), (4, .int v4)] []
  refine j_iload_n C dX9_isTraveller_0 1 rfl ?_
  refine j_iconst C dX9_isTraveller_1 (v := 0) (by decide) ?_
  refine j_bipush C dX9_isTraveller_2 (v := 9) (by decide) ?_
  refine j_cS1 C dX9_isTraveller_4 (m_X9_isIn v1 0 9 rfl) kc_X9_isIn w_1025 w_1026 w_11 jy_X9_isIn ⟨⟨Nat.le_of_ble_eq_true rfl, Nat.le_of_ble_eq_true rfl⟩, ⟨rfl, rfl⟩, ⟨Nat.zero_le _, Nat.zero_le _⟩⟩ (Nat.le_of_ble_eq_true rfl) rfl (fun _ _ h => h) ?_
  refine j_if_eq C dX9_isTraveller_7 (tgt := 48) (by decide) (fun cq => ?_) (fun cq => ?_)
  · have h := jite_f h (jb_f cq)
    refine j_iconst C dX9_isTraveller_48 (v := 0) (by decide) ?_
    exact j_iret C dX9_isTraveller_49 rfl (jb_nar false) (Nat.zero_le _) (Nat.zero_le _) (jretTB h)
  · have h := jite_t h (jb_t cq)
    refine j_iload_n C dX9_isTraveller_10 2 rfl ?_
    refine j_iconst C dX9_isTraveller_11 (v := 0) (by decide) ?_
    refine j_iconst C dX9_isTraveller_12 (v := 1) (by decide) ?_
    refine j_aload_n C dX9_isTraveller_13 0 rfl ?_
    refine j_getW C dX9_isTraveller_14 inX9 rfl (by decide) rfl 2 (by decide) w_925 rfl rfl ?_
    refine j_ishl C dX9_isTraveller_17 ?_
    refine j_iconst C dX9_isTraveller_18 (v := 1) (by decide) ?_
    refine j_isub C dX9_isTraveller_19 ?_
    refine j_cS1 C dX9_isTraveller_20 (m_X9_isIn v2 0 (((1 : Int32) <<< ((s.1 0 2) &&& 31)) - 1) rfl) kc_X9_isIn w_1025 w_1026 w_11 jy_X9_isIn ⟨⟨Nat.le_of_ble_eq_true rfl, Nat.le_of_ble_eq_true rfl⟩, ⟨rfl, rfl⟩, ⟨Nat.zero_le _, Nat.zero_le _⟩⟩ (Nat.le_of_ble_eq_true rfl) rfl (fun _ _ h => h) ?_
    refine j_if_eq C dX9_isTraveller_23 (tgt := 48) (by decide) (fun cq => ?_) (fun cq => ?_)
    · have h := jite_f h (jb_f cq)
      refine j_iconst C dX9_isTraveller_48 (v := 0) (by decide) ?_
      exact j_iret C dX9_isTraveller_49 rfl (jb_nar false) (Nat.zero_le _) (Nat.zero_le _) (jretTB h)
    · have h := jite_t h (jb_t cq)
      refine j_iload_n C dX9_isTraveller_26 3 rfl ?_
      refine j_cS1 C dX9_isTraveller_27 (m_X9_isHour v3 rfl) kc_X9_isHour w_1022 w_1023 w_11 jy_X9_isHour ⟨⟨Nat.le_of_ble_eq_true rfl, Nat.le_of_ble_eq_true rfl⟩, ⟨rfl, rfl⟩, ⟨Nat.zero_le _, Nat.zero_le _⟩⟩ (Nat.le_of_ble_eq_true rfl) rfl (fun _ _ h => h) ?_
      refine j_if_eq C dX9_isTraveller_30 (tgt := 48) (by decide) (fun cq => ?_) (fun cq => ?_)
      · have h := jite_f h (jb_f cq)
        refine j_iconst C dX9_isTraveller_48 (v := 0) (by decide) ?_
        exact j_iret C dX9_isTraveller_49 rfl (jb_nar false) (Nat.zero_le _) (Nat.zero_le _) (jretTB h)
      · have h := jite_t h (jb_t cq)
        refine j_iload C dX9_isTraveller_33 4 rfl ?_
        refine j_iconst C dX9_isTraveller_35 (v := 0) (by decide) ?_
        refine j_bipush C dX9_isTraveller_36 (v := 99) (by decide) ?_
        refine j_cS1 C dX9_isTraveller_38 (m_X9_isIn v4 0 99 rfl) kc_X9_isIn w_1025 w_1026 w_11 jy_X9_isIn ⟨⟨Nat.le_of_ble_eq_true rfl, Nat.le_of_ble_eq_true rfl⟩, ⟨rfl, rfl⟩, ⟨Nat.zero_le _, Nat.zero_le _⟩⟩ (Nat.le_of_ble_eq_true rfl) rfl (fun _ _ h => h) ?_
        refine j_if_eq C dX9_isTraveller_41 (tgt := 48) (by decide) (fun cq => ?_) (fun cq => ?_)
        · have h := jite_f h (jb_f cq)
          refine j_iconst C dX9_isTraveller_48 (v := 0) (by decide) ?_
          exact j_iret C dX9_isTraveller_49 rfl (jb_nar false) (Nat.zero_le _) (Nat.zero_le _) (jretTB h)
        · have h := jite_t h (jb_t cq)
          refine j_iconst C dX9_isTraveller_44 (v := 1) (by decide) ?_
          refine j_goto C dX9_isTraveller_45 (tgt := 49) (by decide) ?_
          exact j_iret C dX9_isTraveller_49 rfl (jb_nar true) (Nat.zero_le _) (Nat.zero_le _) (jretTB h)
-- X9_sets
def F_X9_sets (v1 : Int32) (v2 : Int32) (v3 : Int32) (v4 : Int32) (s : jS) : Option (Bool × jS) :=
  (if (F_X9_isTraveller v1 v2 v3 v4 s) = true then (jl (upI s 1 (Int32.toNatClampNeg 5) 0) fun s20_1 => (jl (upI s20_1 1 (Int32.toNatClampNeg 6) v3) fun s28_2 => (jl (upI s28_2 1 (Int32.toNatClampNeg 7) 0) fun s36_3 => (jl (upI s36_3 1 (Int32.toNatClampNeg 8) v4) fun s45_4 => (jl (upI s45_4 1 (Int32.toNatClampNeg 9) v1) fun s53_5 => (jl (upI s53_5 1 (Int32.toNatClampNeg 10) v2) fun s61_6 => (jl (upI s61_6 1 (Int32.toNatClampNeg 1) 0) fun s68_7 => some (true, s68_7)))))))) else some (false, s))
def rm_X9_sets : Room := { frames := 3, cells := 0, slots := 0, locals := 66 }
set_option maxHeartbeats 4000000 in
set_option maxRecDepth 100000 in
theorem m_X9_sets {l : Launch} {D : va_G} {G : Nat → ClassId} {KV : jV} {ad : Nat → Nat} (v1 : Int32) (v2 : Int32) (v3 : Int32) (v4 : Int32) (s : jS) {p : Bool × jS} (h : F_X9_sets v1 v2 v3 v4 s = some p) : jM l D G KV yX9_sets cX9_sets 5 (some .boolean) rm_X9_sets [.ref (ad 0), .int v1, .int v2, .int v3, .int v4] (jw 15 (cellM G) ad s) 0 0 (fun v u => v = some (.int (jb p.1)) ∧ u = jw 15 (cellM G) ad p.2) := by
  refine jM.of (by decide) (Nat.le_of_ble_eq_true rfl) ?_
  intro K C
  unfold F_X9_sets at h
  show K 0 0 (jw 15 (cellM G) ad s) 0 [(0, .ref (ad 0)), (1, .int v1), (2, .int v2), (3, .int v3), (4, .int v4)] []
  refine j_aload_n C dX9_sets_0 0 rfl ?_
  refine j_iload_n C dX9_sets_1 1 rfl ?_
  refine j_iload_n C dX9_sets_2 2 rfl ?_
  refine j_iload_n C dX9_sets_3 3 rfl ?_
  refine j_iload C dX9_sets_4 4 rfl ?_
  refine j_cV1 C dX9_sets_6 (m_X9_isTraveller v1 v2 v3 v4 s rfl) kc_X9_isTraveller w_1206 w_1208 wp_70 w_11 jy_X9_isTraveller ⟨⟨Nat.le_of_ble_eq_true rfl, Nat.le_of_ble_eq_true rfl⟩, ⟨rfl, rfl⟩, ⟨Nat.zero_le _, Nat.zero_le _⟩⟩ (Nat.le_of_ble_eq_true rfl) (by decide) rfl (r := (RX9, TX9, 32)) rfl rfl rfl (fun _ _ h => h) ?_
  refine j_if_ne C dX9_sets_9 (tgt := 14) (by decide) (fun cq => ?_) (fun cq => ?_)
  · have h := jite_t h (jb_t cq)
    refine j_aload_n C dX9_sets_14 0 rfl ?_
    refine j_getW C dX9_sets_15 inX9 rfl (by decide) rfl 0 (by decide) w_923 rfl rfl ?_
    refine j_iconst C dX9_sets_18 (v := 5) (by decide) ?_
    refine j_iconst C dX9_sets_19 (v := 0) (by decide) ?_
    refine j_iastW C dX9_sets_20 (by decide) (fun _ => rfl) (jin_vp (i := 5) (n := 324) (by decide)) (fun s20_1 hs20_1 => ?_)
    have h := jlet h hs20_1
    refine j_aload_n C dX9_sets_21 0 rfl ?_
    refine j_getW C dX9_sets_22 inX9 rfl (by decide) rfl 0 (by decide) w_923 rfl rfl ?_
    refine j_bipush C dX9_sets_25 (v := 6) (by decide) ?_
    refine j_iload_n C dX9_sets_27 3 rfl ?_
    refine j_iastW C dX9_sets_28 (by decide) (fun _ => rfl) (jin_vp (i := 6) (n := 324) (by decide)) (fun s28_2 hs28_2 => ?_)
    have h := jlet h hs28_2
    refine j_aload_n C dX9_sets_29 0 rfl ?_
    refine j_getW C dX9_sets_30 inX9 rfl (by decide) rfl 0 (by decide) w_923 rfl rfl ?_
    refine j_bipush C dX9_sets_33 (v := 7) (by decide) ?_
    refine j_iconst C dX9_sets_35 (v := 0) (by decide) ?_
    refine j_iastW C dX9_sets_36 (by decide) (fun _ => rfl) (jin_vp (i := 7) (n := 324) (by decide)) (fun s36_3 hs36_3 => ?_)
    have h := jlet h hs36_3
    refine j_aload_n C dX9_sets_37 0 rfl ?_
    refine j_getW C dX9_sets_38 inX9 rfl (by decide) rfl 0 (by decide) w_923 rfl rfl ?_
    refine j_bipush C dX9_sets_41 (v := 8) (by decide) ?_
    refine j_iload C dX9_sets_43 4 rfl ?_
    refine j_iastW C dX9_sets_45 (by decide) (fun _ => rfl) (jin_vp (i := 8) (n := 324) (by decide)) (fun s45_4 hs45_4 => ?_)
    have h := jlet h hs45_4
    refine j_aload_n C dX9_sets_46 0 rfl ?_
    refine j_getW C dX9_sets_47 inX9 rfl (by decide) rfl 0 (by decide) w_923 rfl rfl ?_
    refine j_bipush C dX9_sets_50 (v := 9) (by decide) ?_
    refine j_iload_n C dX9_sets_52 1 rfl ?_
    refine j_iastW C dX9_sets_53 (by decide) (fun _ => rfl) (jin_vp (i := 9) (n := 324) (by decide)) (fun s53_5 hs53_5 => ?_)
    have h := jlet h hs53_5
    refine j_aload_n C dX9_sets_54 0 rfl ?_
    refine j_getW C dX9_sets_55 inX9 rfl (by decide) rfl 0 (by decide) w_923 rfl rfl ?_
    refine j_bipush C dX9_sets_58 (v := 10) (by decide) ?_
    refine j_iload_n C dX9_sets_60 2 rfl ?_
    refine j_iastW C dX9_sets_61 (by decide) (fun _ => rfl) (jin_vp (i := 10) (n := 324) (by decide)) (fun s61_6 hs61_6 => ?_)
    have h := jlet h hs61_6
    refine j_aload_n C dX9_sets_62 0 rfl ?_
    refine j_getW C dX9_sets_63 inX9 rfl (by decide) rfl 0 (by decide) w_923 rfl rfl ?_
    refine j_iconst C dX9_sets_66 (v := 1) (by decide) ?_
    refine j_iconst C dX9_sets_67 (v := 0) (by decide) ?_
    refine j_iastW C dX9_sets_68 (by decide) (fun _ => rfl) (jin_vp (i := 1) (n := 324) (by decide)) (fun s68_7 hs68_7 => ?_)
    have h := jlet h hs68_7
    refine j_iconst C dX9_sets_69 (v := 1) (by decide) ?_
    exact j_iret C dX9_sets_70 rfl (jb_nar true) (Nat.zero_le _) (Nat.zero_le _) (jretWB h)
  · have h := jite_f h (jb_f cq)
    refine j_iconst C dX9_sets_12 (v := 0) (by decide) ?_
    exact j_iret C dX9_sets_13 rfl (jb_nar false) (Nat.zero_le _) (Nat.zero_le _) (jretWB h)
