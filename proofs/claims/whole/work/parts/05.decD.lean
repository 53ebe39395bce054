theorem dX9_sayReal_0 : decode cX9_sayReal 0 = .ok (.dload_n 1, 1) := by decide +kernel
theorem dX9_sayReal_1 : decode cX9_sayReal 1 = .ok (.invokestatic 245, 3) := by decide +kernel
theorem dX9_sayReal_4 : decode cX9_sayReal 4 = .ok (.ifCond .ne 23, 3) := by decide +kernel
theorem dX9_sayReal_7 : decode cX9_sayReal 7 = .ok (.aload_n 0, 1) := by decide +kernel
theorem dX9_sayReal_8 : decode cX9_sayReal 8 = .ok (.dload_n 1, 1) := by decide +kernel
theorem dX9_sayReal_9 : decode cX9_sayReal 9 = .ok (.dconst 0, 1) := by decide +kernel
theorem dX9_sayReal_10 : decode cX9_sayReal 10 = .ok (.dcmp .l, 1) := by decide +kernel
theorem dX9_sayReal_11 : decode cX9_sayReal 11 = .ok (.ifCond .le 8, 3) := by decide +kernel
theorem dX9_sayReal_14 : decode cX9_sayReal 14 = .ok (.ldc 249, 2) := by decide +kernel
theorem dX9_sayReal_16 : decode cX9_sayReal 16 = .ok (.goto 5, 3) := by decide +kernel
theorem dX9_sayReal_19 : decode cX9_sayReal 19 = .ok (.ldc 251, 2) := by decide +kernel
theorem dX9_sayReal_21 : decode cX9_sayReal 21 = .ok (.invokevirtual 253, 3) := by decide +kernel
theorem dX9_sayReal_24 : decode cX9_sayReal 24 = .ok (.goto 54, 3) := by decide +kernel
theorem dX9_sayReal_27 : decode cX9_sayReal 27 = .ok (.dload_n 1, 1) := by decide +kernel
theorem dX9_sayReal_28 : decode cX9_sayReal 28 = .ok (.dconst 0, 1) := by decide +kernel
theorem dX9_sayReal_29 : decode cX9_sayReal 29 = .ok (.dcmp .g, 1) := by decide +kernel
theorem dX9_sayReal_30 : decode cX9_sayReal 30 = .ok (.ifCond .lt 10, 3) := by decide +kernel
theorem dX9_sayReal_33 : decode cX9_sayReal 33 = .ok (.dload_n 1, 1) := by decide +kernel
theorem dX9_sayReal_34 : decode cX9_sayReal 34 = .ok (.invokestatic 257, 3) := by decide +kernel
theorem dX9_sayReal_37 : decode cX9_sayReal 37 = .ok (.ifCond .eq 9, 3) := by decide +kernel
theorem dX9_sayReal_40 : decode cX9_sayReal 40 = .ok (.aload_n 0, 1) := by decide +kernel
theorem dX9_sayReal_41 : decode cX9_sayReal 41 = .ok (.bipush 45, 2) := by decide +kernel
theorem dX9_sayReal_43 : decode cX9_sayReal 43 = .ok (.invokevirtual 96, 3) := by decide +kernel
theorem dX9_sayReal_46 : decode cX9_sayReal 46 = .ok (.dload_n 1, 1) := by decide +kernel
theorem dX9_sayReal_47 : decode cX9_sayReal 47 = .ok (.dconst 0, 1) := by decide +kernel
theorem dX9_sayReal_48 : decode cX9_sayReal 48 = .ok (.dcmp .l, 1) := by decide +kernel
theorem dX9_sayReal_49 : decode cX9_sayReal 49 = .ok (.ifCond .ne 13, 3) := by decide +kernel
theorem dX9_sayReal_52 : decode cX9_sayReal 52 = .ok (.aload_n 0, 1) := by decide +kernel
theorem dX9_sayReal_53 : decode cX9_sayReal 53 = .ok (.ldc_w 260, 3) := by decide +kernel
theorem dX9_sayReal_56 : decode cX9_sayReal 56 = .ok (.invokevirtual 253, 3) := by decide +kernel
theorem dX9_sayReal_59 : decode cX9_sayReal 59 = .ok (.goto 19, 3) := by decide +kernel
theorem dX9_sayReal_62 : decode cX9_sayReal 62 = .ok (.aload_n 0, 1) := by decide +kernel
theorem dX9_sayReal_63 : decode cX9_sayReal 63 = .ok (.dload_n 1, 1) := by decide +kernel
theorem dX9_sayReal_64 : decode cX9_sayReal 64 = .ok (.dconst 0, 1) := by decide +kernel
theorem dX9_sayReal_65 : decode cX9_sayReal 65 = .ok (.dcmp .g, 1) := by decide +kernel
theorem dX9_sayReal_66 : decode cX9_sayReal 66 = .ok (.ifCond .ge 8, 3) := by decide +kernel
theorem dX9_sayReal_69 : decode cX9_sayReal 69 = .ok (.dload_n 1, 1) := by decide +kernel
theorem dX9_sayReal_70 : decode cX9_sayReal 70 = .ok (.dneg, 1) := by decide +kernel
theorem dX9_sayReal_71 : decode cX9_sayReal 71 = .ok (.goto 4, 3) := by decide +kernel
theorem dX9_sayReal_74 : decode cX9_sayReal 74 = .ok (.dload_n 1, 1) := by decide +kernel
theorem dX9_sayReal_75 : decode cX9_sayReal 75 = .ok (.invokevirtual 262, 3) := by decide +kernel
theorem dX9_sayReal_78 : decode cX9_sayReal 78 = .ok (.return_, 1) := by decide +kernel
theorem dX9_shortest_0 : decode cX9_shortest 0 = .ok (.dload_n 1, 1) := by decide +kernel
theorem dX9_shortest_1 : decode cX9_shortest 1 = .ok (.invokestatic 227, 3) := by decide +kernel
theorem dX9_shortest_4 : decode cX9_shortest 4 = .ok (.lstore_n 3, 1) := by decide +kernel
theorem dX9_shortest_5 : decode cX9_shortest 5 = .ok (.dload_n 1, 1) := by decide +kernel
theorem dX9_shortest_6 : decode cX9_shortest 6 = .ok (.invokestatic 231, 3) := by decide +kernel
theorem dX9_shortest_9 : decode cX9_shortest 9 = .ok (.istore 5, 2) := by decide +kernel
theorem dX9_shortest_11 : decode cX9_shortest 11 = .ok (.lload_n 3, 1) := by decide +kernel
theorem dX9_shortest_12 : decode cX9_shortest 12 = .ok (.ldc2_w 139, 3) := by decide +kernel
theorem dX9_shortest_15 : decode cX9_shortest 15 = .ok (.lcmp, 1) := by decide +kernel
theorem dX9_shortest_16 : decode cX9_shortest 16 = .ok (.ifCond .ge 23, 3) := by decide +kernel
theorem dX9_shortest_19 : decode cX9_shortest 19 = .ok (.iload 5, 2) := by decide +kernel
theorem dX9_shortest_21 : decode cX9_shortest 21 = .ok (.sipush (-1074), 3) := by decide +kernel
theorem dX9_shortest_24 : decode cX9_shortest 24 = .ok (.if_icmp .le 15, 3) := by decide +kernel
theorem dX9_shortest_27 : decode cX9_shortest 27 = .ok (.lload_n 3, 1) := by decide +kernel
theorem dX9_shortest_28 : decode cX9_shortest 28 = .ok (.ldc2_w 145, 3) := by decide +kernel
theorem dX9_shortest_31 : decode cX9_shortest 31 = .ok (.lmul, 1) := by decide +kernel
theorem dX9_shortest_32 : decode cX9_shortest 32 = .ok (.lstore_n 3, 1) := by decide +kernel
theorem dX9_shortest_33 : decode cX9_shortest 33 = .ok (.iinc 5 (-1), 3) := by decide +kernel
theorem dX9_shortest_36 : decode cX9_shortest 36 = .ok (.goto (-25), 3) := by decide +kernel
theorem dX9_shortest_39 : decode cX9_shortest 39 = .ok (.lload_n 3, 1) := by decide +kernel
theorem dX9_shortest_40 : decode cX9_shortest 40 = .ok (.ldc2_w 145, 3) := by decide +kernel
theorem dX9_shortest_43 : decode cX9_shortest 43 = .ok (.lrem, 1) := by decide +kernel
theorem dX9_shortest_44 : decode cX9_shortest 44 = .ok (.lconst 0, 1) := by decide +kernel
theorem dX9_shortest_45 : decode cX9_shortest 45 = .ok (.lcmp, 1) := by decide +kernel
theorem dX9_shortest_46 : decode cX9_shortest 46 = .ok (.ifCond .ne 7, 3) := by decide +kernel
theorem dX9_shortest_49 : decode cX9_shortest 49 = .ok (.iconst 1, 1) := by decide +kernel
theorem dX9_shortest_50 : decode cX9_shortest 50 = .ok (.goto 4, 3) := by decide +kernel
theorem dX9_shortest_53 : decode cX9_shortest 53 = .ok (.iconst 0, 1) := by decide +kernel
theorem dX9_shortest_54 : decode cX9_shortest 54 = .ok (.istore 6, 2) := by decide +kernel
theorem dX9_shortest_56 : decode cX9_shortest 56 = .ok (.lload_n 3, 1) := by decide +kernel
theorem dX9_shortest_57 : decode cX9_shortest 57 = .ok (.ldc2_w 139, 3) := by decide +kernel
theorem dX9_shortest_60 : decode cX9_shortest 60 = .ok (.lcmp, 1) := by decide +kernel
theorem dX9_shortest_61 : decode cX9_shortest 61 = .ok (.ifCond .ne 15, 3) := by decide +kernel
theorem dX9_shortest_64 : decode cX9_shortest 64 = .ok (.iload 5, 2) := by decide +kernel
theorem dX9_shortest_66 : decode cX9_shortest 66 = .ok (.sipush (-1074), 3) := by decide +kernel
theorem dX9_shortest_69 : decode cX9_shortest 69 = .ok (.if_icmp .le 7, 3) := by decide +kernel
theorem dX9_shortest_72 : decode cX9_shortest 72 = .ok (.iconst 1, 1) := by decide +kernel
theorem dX9_shortest_73 : decode cX9_shortest 73 = .ok (.goto 4, 3) := by decide +kernel
theorem dX9_shortest_76 : decode cX9_shortest 76 = .ok (.iconst 0, 1) := by decide +kernel
theorem dX9_shortest_77 : decode cX9_shortest 77 = .ok (.istore 7, 2) := by decide +kernel
theorem dX9_shortest_79 : decode cX9_shortest 79 = .ok (.lload_n 3, 1) := by decide +kernel
theorem dX9_shortest_80 : decode cX9_shortest 80 = .ok (.invokestatic 163, 3) := by decide +kernel
theorem dX9_shortest_83 : decode cX9_shortest 83 = .ok (.astore 8, 2) := by decide +kernel
theorem dX9_shortest_85 : decode cX9_shortest 85 = .ok (.aload 8, 2) := by decide +kernel
theorem dX9_shortest_87 : decode cX9_shortest 87 = .ok (.getfield 104, 3) := by decide +kernel
theorem dX9_shortest_90 : decode cX9_shortest 90 = .ok (.aload_n 0, 1) := by decide +kernel
theorem dX9_shortest_91 : decode cX9_shortest 91 = .ok (.getfield 266, 3) := by decide +kernel
theorem dX9_shortest_94 : decode cX9_shortest 94 = .ok (.aload 8, 2) := by decide +kernel
theorem dX9_shortest_96 : decode cX9_shortest 96 = .ok (.getfield 104, 3) := by decide +kernel
theorem dX9_shortest_99 : decode cX9_shortest 99 = .ok (.arraylength, 1) := by decide +kernel
theorem dX9_shortest_100 : decode cX9_shortest 100 = .ok (.invokestatic 61, 3) := by decide +kernel
theorem dX9_shortest_103 : decode cX9_shortest 103 = .ok (.aload_n 0, 1) := by decide +kernel
theorem dX9_shortest_104 : decode cX9_shortest 104 = .ok (.getfield 125, 3) := by decide +kernel
theorem dX9_shortest_107 : decode cX9_shortest 107 = .ok (.aload_n 0, 1) := by decide +kernel
theorem dX9_shortest_108 : decode cX9_shortest 108 = .ok (.getfield 269, 3) := by decide +kernel
theorem dX9_shortest_111 : decode cX9_shortest 111 = .ok (.iconst 1, 1) := by decide +kernel
theorem dX9_shortest_112 : decode cX9_shortest 112 = .ok (.invokestatic 61, 3) := by decide +kernel
theorem dX9_shortest_115 : decode cX9_shortest 115 = .ok (.aload_n 0, 1) := by decide +kernel
theorem dX9_shortest_116 : decode cX9_shortest 116 = .ok (.getfield 125, 3) := by decide +kernel
theorem dX9_shortest_119 : decode cX9_shortest 119 = .ok (.aload_n 0, 1) := by decide +kernel
theorem dX9_shortest_120 : decode cX9_shortest 120 = .ok (.getfield 272, 3) := by decide +kernel
theorem dX9_shortest_123 : decode cX9_shortest 123 = .ok (.iconst 1, 1) := by decide +kernel
theorem dX9_shortest_124 : decode cX9_shortest 124 = .ok (.invokestatic 61, 3) := by decide +kernel
theorem dX9_shortest_127 : decode cX9_shortest 127 = .ok (.aload_n 0, 1) := by decide +kernel
theorem dX9_shortest_128 : decode cX9_shortest 128 = .ok (.getfield 125, 3) := by decide +kernel
theorem dX9_shortest_131 : decode cX9_shortest 131 = .ok (.aload_n 0, 1) := by decide +kernel
theorem dX9_shortest_132 : decode cX9_shortest 132 = .ok (.getfield 275, 3) := by decide +kernel
theorem dX9_shortest_135 : decode cX9_shortest 135 = .ok (.iconst 1, 1) := by decide +kernel
theorem dX9_shortest_136 : decode cX9_shortest 136 = .ok (.invokestatic 61, 3) := by decide +kernel
theorem dX9_shortest_139 : decode cX9_shortest 139 = .ok (.iload 7, 2) := by decide +kernel
theorem dX9_shortest_141 : decode cX9_shortest 141 = .ok (.ifCond .eq 10, 3) := by decide +kernel
theorem dX9_shortest_144 : decode cX9_shortest 144 = .ok (.aload_n 0, 1) := by decide +kernel
theorem dX9_shortest_145 : decode cX9_shortest 145 = .ok (.getfield 275, 3) := by decide +kernel
theorem dX9_shortest_148 : decode cX9_shortest 148 = .ok (.iconst 0, 1) := by decide +kernel
theorem dX9_shortest_149 : decode cX9_shortest 149 = .ok (.iconst 2, 1) := by decide +kernel
theorem dX9_shortest_150 : decode cX9_shortest 150 = .ok (.iastore, 1) := by decide +kernel
theorem dX9_shortest_151 : decode cX9_shortest 151 = .ok (.aload_n 0, 1) := by decide +kernel
theorem dX9_shortest_152 : decode cX9_shortest 152 = .ok (.getfield 266, 3) := by decide +kernel
theorem dX9_shortest_155 : decode cX9_shortest 155 = .ok (.aload 8, 2) := by decide +kernel
theorem dX9_shortest_157 : decode cX9_shortest 157 = .ok (.getfield 104, 3) := by decide +kernel
theorem dX9_shortest_160 : decode cX9_shortest 160 = .ok (.arraylength, 1) := by decide +kernel
theorem dX9_shortest_161 : decode cX9_shortest 161 = .ok (.iload 5, 2) := by decide +kernel
theorem dX9_shortest_163 : decode cX9_shortest 163 = .ok (.ifCond .le 8, 3) := by decide +kernel
theorem dX9_shortest_166 : decode cX9_shortest 166 = .ok (.iload 5, 2) := by decide +kernel
theorem dX9_shortest_168 : decode cX9_shortest 168 = .ok (.goto 4, 3) := by decide +kernel
theorem dX9_shortest_171 : decode cX9_shortest 171 = .ok (.iconst 0, 1) := by decide +kernel
theorem dX9_shortest_172 : decode cX9_shortest 172 = .ok (.iload 7, 2) := by decide +kernel
theorem dX9_shortest_174 : decode cX9_shortest 174 = .ok (.ifCond .eq 7, 3) := by decide +kernel
theorem dX9_shortest_177 : decode cX9_shortest 177 = .ok (.iconst 2, 1) := by decide +kernel
theorem dX9_shortest_178 : decode cX9_shortest 178 = .ok (.goto 4, 3) := by decide +kernel
theorem dX9_shortest_181 : decode cX9_shortest 181 = .ok (.iconst 1, 1) := by decide +kernel
theorem dX9_shortest_182 : decode cX9_shortest 182 = .ok (.iadd, 1) := by decide +kernel
theorem dX9_shortest_183 : decode cX9_shortest 183 = .ok (.invokestatic 131, 3) := by decide +kernel
theorem dX9_shortest_186 : decode cX9_shortest 186 = .ok (.istore 9, 2) := by decide +kernel
theorem dX9_shortest_188 : decode cX9_shortest 188 = .ok (.aload_n 0, 1) := by decide +kernel
theorem dX9_shortest_189 : decode cX9_shortest 189 = .ok (.getfield 269, 3) := by decide +kernel
theorem dX9_shortest_192 : decode cX9_shortest 192 = .ok (.iconst 1, 1) := by decide +kernel
theorem dX9_shortest_193 : decode cX9_shortest 193 = .ok (.iload 5, 2) := by decide +kernel
theorem dX9_shortest_195 : decode cX9_shortest 195 = .ok (.ifCond .ge 9, 3) := by decide +kernel
theorem dX9_shortest_198 : decode cX9_shortest 198 = .ok (.iload 5, 2) := by decide +kernel
theorem dX9_shortest_200 : decode cX9_shortest 200 = .ok (.ineg, 1) := by decide +kernel
theorem dX9_shortest_201 : decode cX9_shortest 201 = .ok (.goto 4, 3) := by decide +kernel
theorem dX9_shortest_204 : decode cX9_shortest 204 = .ok (.iconst 0, 1) := by decide +kernel
theorem dX9_shortest_205 : decode cX9_shortest 205 = .ok (.iload 7, 2) := by decide +kernel
theorem dX9_shortest_207 : decode cX9_shortest 207 = .ok (.ifCond .eq 7, 3) := by decide +kernel
theorem dX9_shortest_210 : decode cX9_shortest 210 = .ok (.iconst 2, 1) := by decide +kernel
theorem dX9_shortest_211 : decode cX9_shortest 211 = .ok (.goto 4, 3) := by decide +kernel
theorem dX9_shortest_214 : decode cX9_shortest 214 = .ok (.iconst 1, 1) := by decide +kernel
theorem dX9_shortest_215 : decode cX9_shortest 215 = .ok (.iadd, 1) := by decide +kernel
theorem dX9_shortest_216 : decode cX9_shortest 216 = .ok (.invokestatic 131, 3) := by decide +kernel
theorem dX9_shortest_219 : decode cX9_shortest 219 = .ok (.istore 10, 2) := by decide +kernel
theorem dX9_shortest_221 : decode cX9_shortest 221 = .ok (.aload_n 0, 1) := by decide +kernel
theorem dX9_shortest_222 : decode cX9_shortest 222 = .ok (.getfield 272, 3) := by decide +kernel
theorem dX9_shortest_225 : decode cX9_shortest 225 = .ok (.iconst 1, 1) := by decide +kernel
theorem dX9_shortest_226 : decode cX9_shortest 226 = .ok (.iload 5, 2) := by decide +kernel
theorem dX9_shortest_228 : decode cX9_shortest 228 = .ok (.ifCond .le 8, 3) := by decide +kernel
theorem dX9_shortest_231 : decode cX9_shortest 231 = .ok (.iload 5, 2) := by decide +kernel
theorem dX9_shortest_233 : decode cX9_shortest 233 = .ok (.goto 4, 3) := by decide +kernel
theorem dX9_shortest_236 : decode cX9_shortest 236 = .ok (.iconst 0, 1) := by decide +kernel
theorem dX9_shortest_237 : decode cX9_shortest 237 = .ok (.invokestatic 131, 3) := by decide +kernel
theorem dX9_shortest_240 : decode cX9_shortest 240 = .ok (.istore 11, 2) := by decide +kernel
theorem dX9_shortest_242 : decode cX9_shortest 242 = .ok (.aload_n 0, 1) := by decide +kernel
theorem dX9_shortest_243 : decode cX9_shortest 243 = .ok (.getfield 275, 3) := by decide +kernel
theorem dX9_shortest_246 : decode cX9_shortest 246 = .ok (.iconst 1, 1) := by decide +kernel
theorem dX9_shortest_247 : decode cX9_shortest 247 = .ok (.iload 5, 2) := by decide +kernel
theorem dX9_shortest_249 : decode cX9_shortest 249 = .ok (.ifCond .le 8, 3) := by decide +kernel
theorem dX9_shortest_252 : decode cX9_shortest 252 = .ok (.iload 5, 2) := by decide +kernel
theorem dX9_shortest_254 : decode cX9_shortest 254 = .ok (.goto 4, 3) := by decide +kernel
theorem dX9_shortest_257 : decode cX9_shortest 257 = .ok (.iconst 0, 1) := by decide +kernel
theorem dX9_shortest_258 : decode cX9_shortest 258 = .ok (.invokestatic 131, 3) := by decide +kernel
theorem dX9_shortest_261 : decode cX9_shortest 261 = .ok (.istore 12, 2) := by decide +kernel
theorem dX9_shortest_263 : decode cX9_shortest 263 = .ok (.iconst 0, 1) := by decide +kernel
theorem dX9_shortest_264 : decode cX9_shortest 264 = .ok (.istore 13, 2) := by decide +kernel
theorem dX9_shortest_266 : decode cX9_shortest 266 = .ok (.aload_n 0, 1) := by decide +kernel
theorem dX9_shortest_267 : decode cX9_shortest 267 = .ok (.getfield 266, 3) := by decide +kernel
theorem dX9_shortest_270 : decode cX9_shortest 270 = .ok (.iload 9, 2) := by decide +kernel
theorem dX9_shortest_272 : decode cX9_shortest 272 = .ok (.aload_n 0, 1) := by decide +kernel
theorem dX9_shortest_273 : decode cX9_shortest 273 = .ok (.getfield 269, 3) := by decide +kernel
theorem dX9_shortest_276 : decode cX9_shortest 276 = .ok (.iload 10, 2) := by decide +kernel
theorem dX9_shortest_278 : decode cX9_shortest 278 = .ok (.invokestatic 141, 3) := by decide +kernel
theorem dX9_shortest_281 : decode cX9_shortest 281 = .ok (.ifCond .lt 21, 3) := by decide +kernel
theorem dX9_shortest_284 : decode cX9_shortest 284 = .ok (.aload_n 0, 1) := by decide +kernel
theorem dX9_shortest_285 : decode cX9_shortest 285 = .ok (.getfield 269, 3) := by decide +kernel
theorem dX9_shortest_288 : decode cX9_shortest 288 = .ok (.iload 10, 2) := by decide +kernel
theorem dX9_shortest_290 : decode cX9_shortest 290 = .ok (.iconst 1, 1) := by decide +kernel
theorem dX9_shortest_291 : decode cX9_shortest 291 = .ok (.invokestatic 278, 3) := by decide +kernel
theorem dX9_shortest_294 : decode cX9_shortest 294 = .ok (.istore 10, 2) := by decide +kernel
theorem dX9_shortest_296 : decode cX9_shortest 296 = .ok (.iinc 13 1, 3) := by decide +kernel
theorem dX9_shortest_299 : decode cX9_shortest 299 = .ok (.goto (-33), 3) := by decide +kernel
theorem dX9_shortest_302 : decode cX9_shortest 302 = .ok (.iconst 1, 1) := by decide +kernel
theorem dX9_shortest_303 : decode cX9_shortest 303 = .ok (.istore 14, 2) := by decide +kernel
theorem dX9_shortest_305 : decode cX9_shortest 305 = .ok (.iload 14, 2) := by decide +kernel
theorem dX9_shortest_307 : decode cX9_shortest 307 = .ok (.ifCond .eq 100, 3) := by decide +kernel
theorem dX9_shortest_310 : decode cX9_shortest 310 = .ok (.aload_n 0, 1) := by decide +kernel
theorem dX9_shortest_311 : decode cX9_shortest 311 = .ok (.getfield 266, 3) := by decide +kernel
theorem dX9_shortest_314 : decode cX9_shortest 314 = .ok (.aload_n 0, 1) := by decide +kernel
theorem dX9_shortest_315 : decode cX9_shortest 315 = .ok (.getfield 281, 3) := by decide +kernel
theorem dX9_shortest_318 : decode cX9_shortest 318 = .ok (.iload 9, 2) := by decide +kernel
theorem dX9_shortest_320 : decode cX9_shortest 320 = .ok (.invokestatic 61, 3) := by decide +kernel
theorem dX9_shortest_323 : decode cX9_shortest 323 = .ok (.aload_n 0, 1) := by decide +kernel
theorem dX9_shortest_324 : decode cX9_shortest 324 = .ok (.getfield 281, 3) := by decide +kernel
theorem dX9_shortest_327 : decode cX9_shortest 327 = .ok (.iload 9, 2) := by decide +kernel
theorem dX9_shortest_329 : decode cX9_shortest 329 = .ok (.iconst 1, 1) := by decide +kernel
theorem dX9_shortest_330 : decode cX9_shortest 330 = .ok (.invokestatic 278, 3) := by decide +kernel
theorem dX9_shortest_333 : decode cX9_shortest 333 = .ok (.istore 15, 2) := by decide +kernel
theorem dX9_shortest_335 : decode cX9_shortest 335 = .ok (.aload_n 0, 1) := by decide +kernel
theorem dX9_shortest_336 : decode cX9_shortest 336 = .ok (.getfield 281, 3) := by decide +kernel
theorem dX9_shortest_339 : decode cX9_shortest 339 = .ok (.iload 15, 2) := by decide +kernel
theorem dX9_shortest_341 : decode cX9_shortest 341 = .ok (.aload_n 0, 1) := by decide +kernel
theorem dX9_shortest_342 : decode cX9_shortest 342 = .ok (.getfield 269, 3) := by decide +kernel
theorem dX9_shortest_345 : decode cX9_shortest 345 = .ok (.iload 10, 2) := by decide +kernel
theorem dX9_shortest_347 : decode cX9_shortest 347 = .ok (.invokestatic 141, 3) := by decide +kernel
theorem dX9_shortest_350 : decode cX9_shortest 350 = .ok (.ifCond .ge 7, 3) := by decide +kernel
theorem dX9_shortest_353 : decode cX9_shortest 353 = .ok (.iconst 1, 1) := by decide +kernel
theorem dX9_shortest_354 : decode cX9_shortest 354 = .ok (.goto 4, 3) := by decide +kernel
theorem dX9_shortest_357 : decode cX9_shortest 357 = .ok (.iconst 0, 1) := by decide +kernel
theorem dX9_shortest_358 : decode cX9_shortest 358 = .ok (.istore 14, 2) := by decide +kernel
theorem dX9_shortest_360 : decode cX9_shortest 360 = .ok (.iload 14, 2) := by decide +kernel
theorem dX9_shortest_362 : decode cX9_shortest 362 = .ok (.ifCond .eq 42, 3) := by decide +kernel
theorem dX9_shortest_365 : decode cX9_shortest 365 = .ok (.aload_n 0, 1) := by decide +kernel
theorem dX9_shortest_366 : decode cX9_shortest 366 = .ok (.getfield 266, 3) := by decide +kernel
theorem dX9_shortest_369 : decode cX9_shortest 369 = .ok (.iload 9, 2) := by decide +kernel
theorem dX9_shortest_371 : decode cX9_shortest 371 = .ok (.iconst 1, 1) := by decide +kernel
theorem dX9_shortest_372 : decode cX9_shortest 372 = .ok (.invokestatic 278, 3) := by decide +kernel
theorem dX9_shortest_375 : decode cX9_shortest 375 = .ok (.istore 9, 2) := by decide +kernel
theorem dX9_shortest_377 : decode cX9_shortest 377 = .ok (.aload_n 0, 1) := by decide +kernel
theorem dX9_shortest_378 : decode cX9_shortest 378 = .ok (.getfield 272, 3) := by decide +kernel
theorem dX9_shortest_381 : decode cX9_shortest 381 = .ok (.iload 11, 2) := by decide +kernel
theorem dX9_shortest_383 : decode cX9_shortest 383 = .ok (.iconst 1, 1) := by decide +kernel
theorem dX9_shortest_384 : decode cX9_shortest 384 = .ok (.invokestatic 278, 3) := by decide +kernel
theorem dX9_shortest_387 : decode cX9_shortest 387 = .ok (.istore 11, 2) := by decide +kernel
theorem dX9_shortest_389 : decode cX9_shortest 389 = .ok (.aload_n 0, 1) := by decide +kernel
theorem dX9_shortest_390 : decode cX9_shortest 390 = .ok (.getfield 275, 3) := by decide +kernel
theorem dX9_shortest_393 : decode cX9_shortest 393 = .ok (.iload 12, 2) := by decide +kernel
theorem dX9_shortest_395 : decode cX9_shortest 395 = .ok (.iconst 1, 1) := by decide +kernel
theorem dX9_shortest_396 : decode cX9_shortest 396 = .ok (.invokestatic 278, 3) := by decide +kernel
theorem dX9_shortest_399 : decode cX9_shortest 399 = .ok (.istore 12, 2) := by decide +kernel
theorem dX9_shortest_401 : decode cX9_shortest 401 = .ok (.iinc 13 (-1), 3) := by decide +kernel
theorem dX9_shortest_404 : decode cX9_shortest 404 = .ok (.goto (-99), 3) := by decide +kernel
theorem dX9_shortest_407 : decode cX9_shortest 407 = .ok (.aload_n 0, 1) := by decide +kernel
theorem dX9_shortest_408 : decode cX9_shortest 408 = .ok (.iconst 0, 1) := by decide +kernel
theorem dX9_shortest_409 : decode cX9_shortest 409 = .ok (.putfield 284, 3) := by decide +kernel
theorem dX9_shortest_412 : decode cX9_shortest 412 = .ok (.aload_n 0, 1) := by decide +kernel
theorem dX9_shortest_413 : decode cX9_shortest 413 = .ok (.getfield 266, 3) := by decide +kernel
theorem dX9_shortest_416 : decode cX9_shortest 416 = .ok (.iload 9, 2) := by decide +kernel
theorem dX9_shortest_418 : decode cX9_shortest 418 = .ok (.iconst 1, 1) := by decide +kernel
theorem dX9_shortest_419 : decode cX9_shortest 419 = .ok (.invokestatic 278, 3) := by decide +kernel
theorem dX9_shortest_422 : decode cX9_shortest 422 = .ok (.istore 9, 2) := by decide +kernel
theorem dX9_shortest_424 : decode cX9_shortest 424 = .ok (.aload_n 0, 1) := by decide +kernel
theorem dX9_shortest_425 : decode cX9_shortest 425 = .ok (.getfield 272, 3) := by decide +kernel
theorem dX9_shortest_428 : decode cX9_shortest 428 = .ok (.iload 11, 2) := by decide +kernel
theorem dX9_shortest_430 : decode cX9_shortest 430 = .ok (.iconst 1, 1) := by decide +kernel
theorem dX9_shortest_431 : decode cX9_shortest 431 = .ok (.invokestatic 278, 3) := by decide +kernel
theorem dX9_shortest_434 : decode cX9_shortest 434 = .ok (.istore 11, 2) := by decide +kernel
theorem dX9_shortest_436 : decode cX9_shortest 436 = .ok (.aload_n 0, 1) := by decide +kernel
theorem dX9_shortest_437 : decode cX9_shortest 437 = .ok (.getfield 275, 3) := by decide +kernel
theorem dX9_shortest_440 : decode cX9_shortest 440 = .ok (.iload 12, 2) := by decide +kernel
theorem dX9_shortest_442 : decode cX9_shortest 442 = .ok (.iconst 1, 1) := by decide +kernel
theorem dX9_shortest_443 : decode cX9_shortest 443 = .ok (.invokestatic 278, 3) := by decide +kernel
theorem dX9_shortest_446 : decode cX9_shortest 446 = .ok (.istore 12, 2) := by decide +kernel
theorem dX9_shortest_448 : decode cX9_shortest 448 = .ok (.iconst 0, 1) := by decide +kernel
theorem dX9_shortest_449 : decode cX9_shortest 449 = .ok (.istore 15, 2) := by decide +kernel
theorem dX9_shortest_451 : decode cX9_shortest 451 = .ok (.aload_n 0, 1) := by decide +kernel
theorem dX9_shortest_452 : decode cX9_shortest 452 = .ok (.getfield 266, 3) := by decide +kernel
theorem dX9_shortest_455 : decode cX9_shortest 455 = .ok (.iload 9, 2) := by decide +kernel
theorem dX9_shortest_457 : decode cX9_shortest 457 = .ok (.aload_n 0, 1) := by decide +kernel
theorem dX9_shortest_458 : decode cX9_shortest 458 = .ok (.getfield 269, 3) := by decide +kernel
theorem dX9_shortest_461 : decode cX9_shortest 461 = .ok (.iload 10, 2) := by decide +kernel
theorem dX9_shortest_463 : decode cX9_shortest 463 = .ok (.invokestatic 141, 3) := by decide +kernel
theorem dX9_shortest_466 : decode cX9_shortest 466 = .ok (.ifCond .lt 44, 3) := by decide +kernel
theorem dX9_shortest_469 : decode cX9_shortest 469 = .ok (.aload_n 0, 1) := by decide +kernel
theorem dX9_shortest_470 : decode cX9_shortest 470 = .ok (.getfield 266, 3) := by decide +kernel
theorem dX9_shortest_473 : decode cX9_shortest 473 = .ok (.iload 9, 2) := by decide +kernel
theorem dX9_shortest_475 : decode cX9_shortest 475 = .ok (.iconst 0, 1) := by decide +kernel
theorem dX9_shortest_476 : decode cX9_shortest 476 = .ok (.iastore, 1) := by decide +kernel
theorem dX9_shortest_477 : decode cX9_shortest 477 = .ok (.aload_n 0, 1) := by decide +kernel
theorem dX9_shortest_478 : decode cX9_shortest 478 = .ok (.getfield 266, 3) := by decide +kernel
theorem dX9_shortest_481 : decode cX9_shortest 481 = .ok (.iconst 0, 1) := by decide +kernel
theorem dX9_shortest_482 : decode cX9_shortest 482 = .ok (.aload_n 0, 1) := by decide +kernel
theorem dX9_shortest_483 : decode cX9_shortest 483 = .ok (.getfield 269, 3) := by decide +kernel
theorem dX9_shortest_486 : decode cX9_shortest 486 = .ok (.iload 10, 2) := by decide +kernel
theorem dX9_shortest_488 : decode cX9_shortest 488 = .ok (.iconst 1, 1) := by decide +kernel
theorem dX9_shortest_489 : decode cX9_shortest 489 = .ok (.invokestatic 42, 3) := by decide +kernel
theorem dX9_shortest_492 : decode cX9_shortest 492 = .ok (.pop, 1) := by decide +kernel
theorem dX9_shortest_493 : decode cX9_shortest 493 = .ok (.aload_n 0, 1) := by decide +kernel
theorem dX9_shortest_494 : decode cX9_shortest 494 = .ok (.getfield 266, 3) := by decide +kernel
theorem dX9_shortest_497 : decode cX9_shortest 497 = .ok (.iload 9, 2) := by decide +kernel
theorem dX9_shortest_499 : decode cX9_shortest 499 = .ok (.invokestatic 15, 3) := by decide +kernel
theorem dX9_shortest_502 : decode cX9_shortest 502 = .ok (.istore 9, 2) := by decide +kernel
theorem dX9_shortest_504 : decode cX9_shortest 504 = .ok (.iinc 15 1, 3) := by decide +kernel
theorem dX9_shortest_507 : decode cX9_shortest 507 = .ok (.goto (-56), 3) := by decide +kernel
theorem dX9_shortest_510 : decode cX9_shortest 510 = .ok (.aload_n 0, 1) := by decide +kernel
theorem dX9_shortest_511 : decode cX9_shortest 511 = .ok (.getfield 266, 3) := by decide +kernel
theorem dX9_shortest_514 : decode cX9_shortest 514 = .ok (.iload 9, 2) := by decide +kernel
theorem dX9_shortest_516 : decode cX9_shortest 516 = .ok (.aload_n 0, 1) := by decide +kernel
theorem dX9_shortest_517 : decode cX9_shortest 517 = .ok (.getfield 272, 3) := by decide +kernel
theorem dX9_shortest_520 : decode cX9_shortest 520 = .ok (.iload 11, 2) := by decide +kernel
theorem dX9_shortest_522 : decode cX9_shortest 522 = .ok (.invokestatic 141, 3) := by decide +kernel
theorem dX9_shortest_525 : decode cX9_shortest 525 = .ok (.istore 16, 2) := by decide +kernel
theorem dX9_shortest_527 : decode cX9_shortest 527 = .ok (.aload_n 0, 1) := by decide +kernel
theorem dX9_shortest_528 : decode cX9_shortest 528 = .ok (.getfield 269, 3) := by decide +kernel
theorem dX9_shortest_531 : decode cX9_shortest 531 = .ok (.aload_n 0, 1) := by decide +kernel
theorem dX9_shortest_532 : decode cX9_shortest 532 = .ok (.getfield 281, 3) := by decide +kernel
theorem dX9_shortest_535 : decode cX9_shortest 535 = .ok (.iload 10, 2) := by decide +kernel
theorem dX9_shortest_537 : decode cX9_shortest 537 = .ok (.invokestatic 61, 3) := by decide +kernel
theorem dX9_shortest_540 : decode cX9_shortest 540 = .ok (.aload_n 0, 1) := by decide +kernel
theorem dX9_shortest_541 : decode cX9_shortest 541 = .ok (.getfield 281, 3) := by decide +kernel
theorem dX9_shortest_544 : decode cX9_shortest 544 = .ok (.iload 10, 2) := by decide +kernel
theorem dX9_shortest_546 : decode cX9_shortest 546 = .ok (.aload_n 0, 1) := by decide +kernel
theorem dX9_shortest_547 : decode cX9_shortest 547 = .ok (.getfield 266, 3) := by decide +kernel
theorem dX9_shortest_550 : decode cX9_shortest 550 = .ok (.iload 9, 2) := by decide +kernel
theorem dX9_shortest_552 : decode cX9_shortest 552 = .ok (.invokestatic 287, 3) := by decide +kernel
theorem dX9_shortest_555 : decode cX9_shortest 555 = .ok (.aload_n 0, 1) := by decide +kernel
theorem dX9_shortest_556 : decode cX9_shortest 556 = .ok (.getfield 281, 3) := by decide +kernel
theorem dX9_shortest_559 : decode cX9_shortest 559 = .ok (.iload 10, 2) := by decide +kernel
theorem dX9_shortest_561 : decode cX9_shortest 561 = .ok (.invokestatic 15, 3) := by decide +kernel
theorem dX9_shortest_564 : decode cX9_shortest 564 = .ok (.istore 17, 2) := by decide +kernel
theorem dX9_shortest_566 : decode cX9_shortest 566 = .ok (.aload_n 0, 1) := by decide +kernel
theorem dX9_shortest_567 : decode cX9_shortest 567 = .ok (.getfield 281, 3) := by decide +kernel
theorem dX9_shortest_570 : decode cX9_shortest 570 = .ok (.iload 17, 2) := by decide +kernel
theorem dX9_shortest_572 : decode cX9_shortest 572 = .ok (.aload_n 0, 1) := by decide +kernel
theorem dX9_shortest_573 : decode cX9_shortest 573 = .ok (.getfield 275, 3) := by decide +kernel
theorem dX9_shortest_576 : decode cX9_shortest 576 = .ok (.iload 12, 2) := by decide +kernel
theorem dX9_shortest_578 : decode cX9_shortest 578 = .ok (.invokestatic 141, 3) := by decide +kernel
theorem dX9_shortest_581 : decode cX9_shortest 581 = .ok (.istore 18, 2) := by decide +kernel
theorem dX9_shortest_583 : decode cX9_shortest 583 = .ok (.iload 16, 2) := by decide +kernel
theorem dX9_shortest_585 : decode cX9_shortest 585 = .ok (.ifCond .lt 13, 3) := by decide +kernel
theorem dX9_shortest_588 : decode cX9_shortest 588 = .ok (.iload 16, 2) := by decide +kernel
theorem dX9_shortest_590 : decode cX9_shortest 590 = .ok (.ifCond .ne 12, 3) := by decide +kernel
theorem dX9_shortest_593 : decode cX9_shortest 593 = .ok (.iload 6, 2) := by decide +kernel
theorem dX9_shortest_595 : decode cX9_shortest 595 = .ok (.ifCond .eq 7, 3) := by decide +kernel
theorem dX9_shortest_598 : decode cX9_shortest 598 = .ok (.iconst 1, 1) := by decide +kernel
theorem dX9_shortest_599 : decode cX9_shortest 599 = .ok (.goto 4, 3) := by decide +kernel
theorem dX9_shortest_602 : decode cX9_shortest 602 = .ok (.iconst 0, 1) := by decide +kernel
theorem dX9_shortest_603 : decode cX9_shortest 603 = .ok (.istore 19, 2) := by decide +kernel
theorem dX9_shortest_605 : decode cX9_shortest 605 = .ok (.iload 18, 2) := by decide +kernel
theorem dX9_shortest_607 : decode cX9_shortest 607 = .ok (.ifCond .lt 13, 3) := by decide +kernel
theorem dX9_shortest_610 : decode cX9_shortest 610 = .ok (.iload 18, 2) := by decide +kernel
theorem dX9_shortest_612 : decode cX9_shortest 612 = .ok (.ifCond .ne 12, 3) := by decide +kernel
theorem dX9_shortest_615 : decode cX9_shortest 615 = .ok (.iload 6, 2) := by decide +kernel
theorem dX9_shortest_617 : decode cX9_shortest 617 = .ok (.ifCond .eq 7, 3) := by decide +kernel
theorem dX9_shortest_620 : decode cX9_shortest 620 = .ok (.iconst 1, 1) := by decide +kernel
theorem dX9_shortest_621 : decode cX9_shortest 621 = .ok (.goto 4, 3) := by decide +kernel
theorem dX9_shortest_624 : decode cX9_shortest 624 = .ok (.iconst 0, 1) := by decide +kernel
theorem dX9_shortest_625 : decode cX9_shortest 625 = .ok (.istore 20, 2) := by decide +kernel
theorem dX9_shortest_627 : decode cX9_shortest 627 = .ok (.iload 19, 2) := by decide +kernel
theorem dX9_shortest_629 : decode cX9_shortest 629 = .ok (.ifCond .ne 32, 3) := by decide +kernel
theorem dX9_shortest_632 : decode cX9_shortest 632 = .ok (.iload 20, 2) := by decide +kernel
theorem dX9_shortest_634 : decode cX9_shortest 634 = .ok (.ifCond .ne 27, 3) := by decide +kernel
theorem dX9_shortest_637 : decode cX9_shortest 637 = .ok (.aload_n 0, 1) := by decide +kernel
theorem dX9_shortest_638 : decode cX9_shortest 638 = .ok (.getfield 290, 3) := by decide +kernel
theorem dX9_shortest_641 : decode cX9_shortest 641 = .ok (.aload_n 0, 1) := by decide +kernel
theorem dX9_shortest_642 : decode cX9_shortest 642 = .ok (.getfield 284, 3) := by decide +kernel
theorem dX9_shortest_645 : decode cX9_shortest 645 = .ok (.iload 15, 2) := by decide +kernel
theorem dX9_shortest_647 : decode cX9_shortest 647 = .ok (.iastore, 1) := by decide +kernel
theorem dX9_shortest_648 : decode cX9_shortest 648 = .ok (.aload_n 0, 1) := by decide +kernel
theorem dX9_shortest_649 : decode cX9_shortest 649 = .ok (.dup, 1) := by decide +kernel
theorem dX9_shortest_650 : decode cX9_shortest 650 = .ok (.getfield 284, 3) := by decide +kernel
theorem dX9_shortest_653 : decode cX9_shortest 653 = .ok (.iconst 1, 1) := by decide +kernel
theorem dX9_shortest_654 : decode cX9_shortest 654 = .ok (.iadd, 1) := by decide +kernel
theorem dX9_shortest_655 : decode cX9_shortest 655 = .ok (.putfield 284, 3) := by decide +kernel
theorem dX9_shortest_658 : decode cX9_shortest 658 = .ok (.goto (-246), 3) := by decide +kernel
theorem dX9_shortest_661 : decode cX9_shortest 661 = .ok (.aload_n 0, 1) := by decide +kernel
theorem dX9_shortest_662 : decode cX9_shortest 662 = .ok (.getfield 266, 3) := by decide +kernel
theorem dX9_shortest_665 : decode cX9_shortest 665 = .ok (.iload 9, 2) := by decide +kernel
theorem dX9_shortest_667 : decode cX9_shortest 667 = .ok (.aload_n 0, 1) := by decide +kernel
theorem dX9_shortest_668 : decode cX9_shortest 668 = .ok (.getfield 281, 3) := by decide +kernel
theorem dX9_shortest_671 : decode cX9_shortest 671 = .ok (.iload 17, 2) := by decide +kernel
theorem dX9_shortest_673 : decode cX9_shortest 673 = .ok (.invokestatic 141, 3) := by decide +kernel
theorem dX9_shortest_676 : decode cX9_shortest 676 = .ok (.istore 21, 2) := by decide +kernel
theorem dX9_shortest_678 : decode cX9_shortest 678 = .ok (.iload 19, 2) := by decide +kernel
theorem dX9_shortest_680 : decode cX9_shortest 680 = .ok (.ifCond .eq 26, 3) := by decide +kernel
theorem dX9_shortest_683 : decode cX9_shortest 683 = .ok (.iload 20, 2) := by decide +kernel
theorem dX9_shortest_685 : decode cX9_shortest 685 = .ok (.ifCond .eq 25, 3) := by decide +kernel
theorem dX9_shortest_688 : decode cX9_shortest 688 = .ok (.iload 21, 2) := by decide +kernel
theorem dX9_shortest_690 : decode cX9_shortest 690 = .ok (.ifCond .gt 16, 3) := by decide +kernel
theorem dX9_shortest_693 : decode cX9_shortest 693 = .ok (.iload 21, 2) := by decide +kernel
theorem dX9_shortest_695 : decode cX9_shortest 695 = .ok (.ifCond .ne 15, 3) := by decide +kernel
theorem dX9_shortest_698 : decode cX9_shortest 698 = .ok (.iload 15, 2) := by decide +kernel
theorem dX9_shortest_700 : decode cX9_shortest 700 = .ok (.iconst 2, 1) := by decide +kernel
theorem dX9_shortest_701 : decode cX9_shortest 701 = .ok (.irem, 1) := by decide +kernel
theorem dX9_shortest_702 : decode cX9_shortest 702 = .ok (.iconst 1, 1) := by decide +kernel
theorem dX9_shortest_703 : decode cX9_shortest 703 = .ok (.if_icmp .ne 7, 3) := by decide +kernel
theorem dX9_shortest_706 : decode cX9_shortest 706 = .ok (.iconst 1, 1) := by decide +kernel
theorem dX9_shortest_707 : decode cX9_shortest 707 = .ok (.goto 4, 3) := by decide +kernel
theorem dX9_shortest_710 : decode cX9_shortest 710 = .ok (.iconst 0, 1) := by decide +kernel
theorem dX9_shortest_711 : decode cX9_shortest 711 = .ok (.istore 22, 2) := by decide +kernel
theorem dX9_shortest_713 : decode cX9_shortest 713 = .ok (.iload 13, 2) := by decide +kernel
theorem dX9_shortest_715 : decode cX9_shortest 715 = .ok (.aload_n 0, 1) := by decide +kernel
theorem dX9_shortest_716 : decode cX9_shortest 716 = .ok (.iload 22, 2) := by decide +kernel
theorem dX9_shortest_718 : decode cX9_shortest 718 = .ok (.ifCond .eq 10, 3) := by decide +kernel
theorem dX9_shortest_721 : decode cX9_shortest 721 = .ok (.iload 15, 2) := by decide +kernel
theorem dX9_shortest_723 : decode cX9_shortest 723 = .ok (.iconst 1, 1) := by decide +kernel
theorem dX9_shortest_724 : decode cX9_shortest 724 = .ok (.iadd, 1) := by decide +kernel
theorem dX9_shortest_725 : decode cX9_shortest 725 = .ok (.goto 5, 3) := by decide +kernel
theorem dX9_shortest_728 : decode cX9_shortest 728 = .ok (.iload 15, 2) := by decide +kernel
theorem dX9_shortest_730 : decode cX9_shortest 730 = .ok (.invokevirtual 293, 3) := by decide +kernel
theorem dX9_shortest_733 : decode cX9_shortest 733 = .ok (.iadd, 1) := by decide +kernel
theorem dX9_shortest_734 : decode cX9_shortest 734 = .ok (.istore 13, 2) := by decide +kernel
theorem dX9_shortest_736 : decode cX9_shortest 736 = .ok (.aload_n 0, 1) := by decide +kernel
theorem dX9_shortest_737 : decode cX9_shortest 737 = .ok (.iload 13, 2) := by decide +kernel
theorem dX9_shortest_739 : decode cX9_shortest 739 = .ok (.invokevirtual 297, 3) := by decide +kernel
theorem dX9_shortest_742 : decode cX9_shortest 742 = .ok (.return_, 1) := by decide +kernel
theorem dX9_lessen_0 : decode cX9_lessen 0 = .ok (.iconst 0, 1) := by decide +kernel
theorem dX9_lessen_1 : decode cX9_lessen 1 = .ok (.istore 4, 2) := by decide +kernel
theorem dX9_lessen_3 : decode cX9_lessen 3 = .ok (.iconst 0, 1) := by decide +kernel
theorem dX9_lessen_4 : decode cX9_lessen 4 = .ok (.istore 5, 2) := by decide +kernel
theorem dX9_lessen_6 : decode cX9_lessen 6 = .ok (.iload 5, 2) := by decide +kernel
theorem dX9_lessen_8 : decode cX9_lessen 8 = .ok (.iload_n 1, 1) := by decide +kernel
theorem dX9_lessen_9 : decode cX9_lessen 9 = .ok (.if_icmp .ge 58, 3) := by decide +kernel
theorem dX9_lessen_12 : decode cX9_lessen 12 = .ok (.aload_n 0, 1) := by decide +kernel
theorem dX9_lessen_13 : decode cX9_lessen 13 = .ok (.iload 5, 2) := by decide +kernel
theorem dX9_lessen_15 : decode cX9_lessen 15 = .ok (.iaload, 1) := by decide +kernel
theorem dX9_lessen_16 : decode cX9_lessen 16 = .ok (.iload 4, 2) := by decide +kernel
theorem dX9_lessen_18 : decode cX9_lessen 18 = .ok (.isub, 1) := by decide +kernel
theorem dX9_lessen_19 : decode cX9_lessen 19 = .ok (.iload 5, 2) := by decide +kernel
theorem dX9_lessen_21 : decode cX9_lessen 21 = .ok (.iload_n 3, 1) := by decide +kernel
theorem dX9_lessen_22 : decode cX9_lessen 22 = .ok (.if_icmp .ge 10, 3) := by decide +kernel
theorem dX9_lessen_25 : decode cX9_lessen 25 = .ok (.aload_n 2, 1) := by decide +kernel
theorem dX9_lessen_26 : decode cX9_lessen 26 = .ok (.iload 5, 2) := by decide +kernel
theorem dX9_lessen_28 : decode cX9_lessen 28 = .ok (.iaload, 1) := by decide +kernel
theorem dX9_lessen_29 : decode cX9_lessen 29 = .ok (.goto 4, 3) := by decide +kernel
theorem dX9_lessen_32 : decode cX9_lessen 32 = .ok (.iconst 0, 1) := by decide +kernel
theorem dX9_lessen_33 : decode cX9_lessen 33 = .ok (.isub, 1) := by decide +kernel
theorem dX9_lessen_34 : decode cX9_lessen 34 = .ok (.istore 6, 2) := by decide +kernel
theorem dX9_lessen_36 : decode cX9_lessen 36 = .ok (.iload 6, 2) := by decide +kernel
theorem dX9_lessen_38 : decode cX9_lessen 38 = .ok (.ifCond .ge 7, 3) := by decide +kernel
theorem dX9_lessen_41 : decode cX9_lessen 41 = .ok (.iconst 1, 1) := by decide +kernel
theorem dX9_lessen_42 : decode cX9_lessen 42 = .ok (.goto 4, 3) := by decide +kernel
theorem dX9_lessen_45 : decode cX9_lessen 45 = .ok (.iconst 0, 1) := by decide +kernel
theorem dX9_lessen_46 : decode cX9_lessen 46 = .ok (.istore 4, 2) := by decide +kernel
theorem dX9_lessen_48 : decode cX9_lessen 48 = .ok (.aload_n 0, 1) := by decide +kernel
theorem dX9_lessen_49 : decode cX9_lessen 49 = .ok (.iload 5, 2) := by decide +kernel
theorem dX9_lessen_51 : decode cX9_lessen 51 = .ok (.iload 6, 2) := by decide +kernel
theorem dX9_lessen_53 : decode cX9_lessen 53 = .ok (.iload 4, 2) := by decide +kernel
theorem dX9_lessen_55 : decode cX9_lessen 55 = .ok (.sipush 10000, 3) := by decide +kernel
theorem dX9_lessen_58 : decode cX9_lessen 58 = .ok (.imul, 1) := by decide +kernel
theorem dX9_lessen_59 : decode cX9_lessen 59 = .ok (.iadd, 1) := by decide +kernel
theorem dX9_lessen_60 : decode cX9_lessen 60 = .ok (.iastore, 1) := by decide +kernel
theorem dX9_lessen_61 : decode cX9_lessen 61 = .ok (.iinc 5 1, 3) := by decide +kernel
theorem dX9_lessen_64 : decode cX9_lessen 64 = .ok (.goto (-58), 3) := by decide +kernel
theorem dX9_lessen_67 : decode cX9_lessen 67 = .ok (.return_, 1) := by decide +kernel
theorem dX9_put_0 : decode cX9_put 0 = .ok (.iload_n 1, 1) := by decide +kernel
theorem dX9_put_1 : decode cX9_put 1 = .ok (.bipush 10, 2) := by decide +kernel
theorem dX9_put_3 : decode cX9_put 3 = .ok (.if_icmp .ge 25, 3) := by decide +kernel
theorem dX9_put_6 : decode cX9_put 6 = .ok (.aload_n 0, 1) := by decide +kernel
theorem dX9_put_7 : decode cX9_put 7 = .ok (.getfield 290, 3) := by decide +kernel
theorem dX9_put_10 : decode cX9_put 10 = .ok (.aload_n 0, 1) := by decide +kernel
theorem dX9_put_11 : decode cX9_put 11 = .ok (.getfield 284, 3) := by decide +kernel
theorem dX9_put_14 : decode cX9_put 14 = .ok (.iload_n 1, 1) := by decide +kernel
theorem dX9_put_15 : decode cX9_put 15 = .ok (.iastore, 1) := by decide +kernel
theorem dX9_put_16 : decode cX9_put 16 = .ok (.aload_n 0, 1) := by decide +kernel
theorem dX9_put_17 : decode cX9_put 17 = .ok (.dup, 1) := by decide +kernel
theorem dX9_put_18 : decode cX9_put 18 = .ok (.getfield 284, 3) := by decide +kernel
theorem dX9_put_21 : decode cX9_put 21 = .ok (.iconst 1, 1) := by decide +kernel
theorem dX9_put_22 : decode cX9_put 22 = .ok (.iadd, 1) := by decide +kernel
theorem dX9_put_23 : decode cX9_put 23 = .ok (.putfield 284, 3) := by decide +kernel
theorem dX9_put_26 : decode cX9_put 26 = .ok (.iconst 0, 1) := by decide +kernel
theorem dX9_put_27 : decode cX9_put 27 = .ok (.ireturn, 1) := by decide +kernel
theorem dX9_put_28 : decode cX9_put 28 = .ok (.aload_n 0, 1) := by decide +kernel
theorem dX9_put_29 : decode cX9_put 29 = .ok (.getfield 284, 3) := by decide +kernel
theorem dX9_put_32 : decode cX9_put 32 = .ok (.iconst 1, 1) := by decide +kernel
theorem dX9_put_33 : decode cX9_put 33 = .ok (.isub, 1) := by decide +kernel
theorem dX9_put_34 : decode cX9_put 34 = .ok (.istore_n 2, 1) := by decide +kernel
theorem dX9_put_35 : decode cX9_put 35 = .ok (.iload_n 2, 1) := by decide +kernel
theorem dX9_put_36 : decode cX9_put 36 = .ok (.ifCond .lt 20, 3) := by decide +kernel
theorem dX9_put_39 : decode cX9_put 39 = .ok (.aload_n 0, 1) := by decide +kernel
theorem dX9_put_40 : decode cX9_put 40 = .ok (.getfield 290, 3) := by decide +kernel
theorem dX9_put_43 : decode cX9_put 43 = .ok (.iload_n 2, 1) := by decide +kernel
theorem dX9_put_44 : decode cX9_put 44 = .ok (.iaload, 1) := by decide +kernel
theorem dX9_put_45 : decode cX9_put 45 = .ok (.bipush 9, 2) := by decide +kernel
theorem dX9_put_47 : decode cX9_put 47 = .ok (.if_icmp .ne 9, 3) := by decide +kernel
theorem dX9_put_50 : decode cX9_put 50 = .ok (.iinc 2 (-1), 3) := by decide +kernel
theorem dX9_put_53 : decode cX9_put 53 = .ok (.goto (-18), 3) := by decide +kernel
theorem dX9_put_56 : decode cX9_put 56 = .ok (.iload_n 2, 1) := by decide +kernel
theorem dX9_put_57 : decode cX9_put 57 = .ok (.ifCond .ge 17, 3) := by decide +kernel
theorem dX9_put_60 : decode cX9_put 60 = .ok (.aload_n 0, 1) := by decide +kernel
theorem dX9_put_61 : decode cX9_put 61 = .ok (.getfield 290, 3) := by decide +kernel
theorem dX9_put_64 : decode cX9_put 64 = .ok (.iconst 0, 1) := by decide +kernel
theorem dX9_put_65 : decode cX9_put 65 = .ok (.iconst 1, 1) := by decide +kernel
theorem dX9_put_66 : decode cX9_put 66 = .ok (.iastore, 1) := by decide +kernel
theorem dX9_put_67 : decode cX9_put 67 = .ok (.aload_n 0, 1) := by decide +kernel
theorem dX9_put_68 : decode cX9_put 68 = .ok (.iconst 1, 1) := by decide +kernel
theorem dX9_put_69 : decode cX9_put 69 = .ok (.putfield 284, 3) := by decide +kernel
theorem dX9_put_72 : decode cX9_put 72 = .ok (.iconst 1, 1) := by decide +kernel
theorem dX9_put_73 : decode cX9_put 73 = .ok (.ireturn, 1) := by decide +kernel
theorem dX9_put_74 : decode cX9_put 74 = .ok (.aload_n 0, 1) := by decide +kernel
theorem dX9_put_75 : decode cX9_put 75 = .ok (.getfield 290, 3) := by decide +kernel
theorem dX9_put_78 : decode cX9_put 78 = .ok (.iload_n 2, 1) := by decide +kernel
theorem dX9_put_79 : decode cX9_put 79 = .ok (.dup2, 1) := by decide +kernel
theorem dX9_put_80 : decode cX9_put 80 = .ok (.iaload, 1) := by decide +kernel
theorem dX9_put_81 : decode cX9_put 81 = .ok (.iconst 1, 1) := by decide +kernel
theorem dX9_put_82 : decode cX9_put 82 = .ok (.iadd, 1) := by decide +kernel
theorem dX9_put_83 : decode cX9_put 83 = .ok (.iastore, 1) := by decide +kernel
theorem dX9_put_84 : decode cX9_put 84 = .ok (.aload_n 0, 1) := by decide +kernel
theorem dX9_put_85 : decode cX9_put 85 = .ok (.iload_n 2, 1) := by decide +kernel
theorem dX9_put_86 : decode cX9_put 86 = .ok (.iconst 1, 1) := by decide +kernel
theorem dX9_put_87 : decode cX9_put 87 = .ok (.iadd, 1) := by decide +kernel
theorem dX9_put_88 : decode cX9_put 88 = .ok (.putfield 284, 3) := by decide +kernel
theorem dX9_put_91 : decode cX9_put 91 = .ok (.iconst 0, 1) := by decide +kernel
theorem dX9_put_92 : decode cX9_put 92 = .ok (.ireturn, 1) := by decide +kernel
theorem dX9_sayFound_0 : decode cX9_sayFound 0 = .ok (.iload_n 1, 1) := by decide +kernel
theorem dX9_sayFound_1 : decode cX9_sayFound 1 = .ok (.istore_n 3, 1) := by decide +kernel
theorem dX9_sayFound_2 : decode cX9_sayFound 2 = .ok (.iload_n 3, 1) := by decide +kernel
theorem dX9_sayFound_3 : decode cX9_sayFound 3 = .ok (.iload_n 2, 1) := by decide +kernel
theorem dX9_sayFound_4 : decode cX9_sayFound 4 = .ok (.if_icmp .ge 35, 3) := by decide +kernel
theorem dX9_sayFound_7 : decode cX9_sayFound 7 = .ok (.aload_n 0, 1) := by decide +kernel
theorem dX9_sayFound_8 : decode cX9_sayFound 8 = .ok (.iload_n 3, 1) := by decide +kernel
theorem dX9_sayFound_9 : decode cX9_sayFound 9 = .ok (.aload_n 0, 1) := by decide +kernel
theorem dX9_sayFound_10 : decode cX9_sayFound 10 = .ok (.getfield 284, 3) := by decide +kernel
theorem dX9_sayFound_13 : decode cX9_sayFound 13 = .ok (.if_icmp .ge 15, 3) := by decide +kernel
theorem dX9_sayFound_16 : decode cX9_sayFound 16 = .ok (.bipush 48, 2) := by decide +kernel
theorem dX9_sayFound_18 : decode cX9_sayFound 18 = .ok (.aload_n 0, 1) := by decide +kernel
theorem dX9_sayFound_19 : decode cX9_sayFound 19 = .ok (.getfield 290, 3) := by decide +kernel
theorem dX9_sayFound_22 : decode cX9_sayFound 22 = .ok (.iload_n 3, 1) := by decide +kernel
theorem dX9_sayFound_23 : decode cX9_sayFound 23 = .ok (.iaload, 1) := by decide +kernel
theorem dX9_sayFound_24 : decode cX9_sayFound 24 = .ok (.iadd, 1) := by decide +kernel
theorem dX9_sayFound_25 : decode cX9_sayFound 25 = .ok (.goto 5, 3) := by decide +kernel
theorem dX9_sayFound_28 : decode cX9_sayFound 28 = .ok (.bipush 48, 2) := by decide +kernel
theorem dX9_sayFound_30 : decode cX9_sayFound 30 = .ok (.invokevirtual 96, 3) := by decide +kernel
theorem dX9_sayFound_33 : decode cX9_sayFound 33 = .ok (.iinc 3 1, 3) := by decide +kernel
theorem dX9_sayFound_36 : decode cX9_sayFound 36 = .ok (.goto (-34), 3) := by decide +kernel
theorem dX9_sayFound_39 : decode cX9_sayFound 39 = .ok (.return_, 1) := by decide +kernel
theorem dX9_placed_0 : decode cX9_placed 0 = .ok (.aload_n 0, 1) := by decide +kernel
theorem dX9_placed_1 : decode cX9_placed 1 = .ok (.getfield 284, 3) := by decide +kernel
theorem dX9_placed_4 : decode cX9_placed 4 = .ok (.istore_n 2, 1) := by decide +kernel
theorem dX9_placed_5 : decode cX9_placed 5 = .ok (.iload_n 1, 1) := by decide +kernel
theorem dX9_placed_6 : decode cX9_placed 6 = .ok (.ifCond .le 41, 3) := by decide +kernel
theorem dX9_placed_9 : decode cX9_placed 9 = .ok (.iload_n 1, 1) := by decide +kernel
theorem dX9_placed_10 : decode cX9_placed 10 = .ok (.bipush 21, 2) := by decide +kernel
theorem dX9_placed_12 : decode cX9_placed 12 = .ok (.if_icmp .gt 35, 3) := by decide +kernel
theorem dX9_placed_15 : decode cX9_placed 15 = .ok (.aload_n 0, 1) := by decide +kernel
theorem dX9_placed_16 : decode cX9_placed 16 = .ok (.iconst 0, 1) := by decide +kernel
theorem dX9_placed_17 : decode cX9_placed 17 = .ok (.iload_n 1, 1) := by decide +kernel
theorem dX9_placed_18 : decode cX9_placed 18 = .ok (.invokevirtual 300, 3) := by decide +kernel
theorem dX9_placed_21 : decode cX9_placed 21 = .ok (.aload_n 0, 1) := by decide +kernel
theorem dX9_placed_22 : decode cX9_placed 22 = .ok (.bipush 46, 2) := by decide +kernel
theorem dX9_placed_24 : decode cX9_placed 24 = .ok (.invokevirtual 96, 3) := by decide +kernel
theorem dX9_placed_27 : decode cX9_placed 27 = .ok (.iload_n 2, 1) := by decide +kernel
theorem dX9_placed_28 : decode cX9_placed 28 = .ok (.iload_n 1, 1) := by decide +kernel
theorem dX9_placed_29 : decode cX9_placed 29 = .ok (.if_icmp .gt 9, 3) := by decide +kernel
theorem dX9_placed_32 : decode cX9_placed 32 = .ok (.aload_n 0, 1) := by decide +kernel
theorem dX9_placed_33 : decode cX9_placed 33 = .ok (.bipush 48, 2) := by decide +kernel
theorem dX9_placed_35 : decode cX9_placed 35 = .ok (.invokevirtual 96, 3) := by decide +kernel
theorem dX9_placed_38 : decode cX9_placed 38 = .ok (.aload_n 0, 1) := by decide +kernel
theorem dX9_placed_39 : decode cX9_placed 39 = .ok (.iload_n 1, 1) := by decide +kernel
theorem dX9_placed_40 : decode cX9_placed 40 = .ok (.iload_n 2, 1) := by decide +kernel
theorem dX9_placed_41 : decode cX9_placed 41 = .ok (.invokevirtual 300, 3) := by decide +kernel
theorem dX9_placed_44 : decode cX9_placed 44 = .ok (.goto 85, 3) := by decide +kernel
theorem dX9_placed_47 : decode cX9_placed 47 = .ok (.iload_n 1, 1) := by decide +kernel
theorem dX9_placed_48 : decode cX9_placed 48 = .ok (.bipush (-7), 2) := by decide +kernel
theorem dX9_placed_50 : decode cX9_placed 50 = .ok (.if_icmp .le 43, 3) := by decide +kernel
theorem dX9_placed_53 : decode cX9_placed 53 = .ok (.iload_n 1, 1) := by decide +kernel
theorem dX9_placed_54 : decode cX9_placed 54 = .ok (.ifCond .gt 39, 3) := by decide +kernel
theorem dX9_placed_57 : decode cX9_placed 57 = .ok (.aload_n 0, 1) := by decide +kernel
theorem dX9_placed_58 : decode cX9_placed 58 = .ok (.ldc_w 304, 3) := by decide +kernel
theorem dX9_placed_61 : decode cX9_placed 61 = .ok (.invokevirtual 253, 3) := by decide +kernel
theorem dX9_placed_64 : decode cX9_placed 64 = .ok (.iconst 0, 1) := by decide +kernel
theorem dX9_placed_65 : decode cX9_placed 65 = .ok (.istore_n 3, 1) := by decide +kernel
theorem dX9_placed_66 : decode cX9_placed 66 = .ok (.iload_n 3, 1) := by decide +kernel
theorem dX9_placed_67 : decode cX9_placed 67 = .ok (.iload_n 1, 1) := by decide +kernel
theorem dX9_placed_68 : decode cX9_placed 68 = .ok (.ineg, 1) := by decide +kernel
theorem dX9_placed_69 : decode cX9_placed 69 = .ok (.if_icmp .ge 15, 3) := by decide +kernel
theorem dX9_placed_72 : decode cX9_placed 72 = .ok (.aload_n 0, 1) := by decide +kernel
theorem dX9_placed_73 : decode cX9_placed 73 = .ok (.bipush 48, 2) := by decide +kernel
theorem dX9_placed_75 : decode cX9_placed 75 = .ok (.invokevirtual 96, 3) := by decide +kernel
theorem dX9_placed_78 : decode cX9_placed 78 = .ok (.iinc 3 1, 3) := by decide +kernel
theorem dX9_placed_81 : decode cX9_placed 81 = .ok (.goto (-15), 3) := by decide +kernel
theorem dX9_placed_84 : decode cX9_placed 84 = .ok (.aload_n 0, 1) := by decide +kernel
theorem dX9_placed_85 : decode cX9_placed 85 = .ok (.iconst 0, 1) := by decide +kernel
theorem dX9_placed_86 : decode cX9_placed 86 = .ok (.iload_n 2, 1) := by decide +kernel
theorem dX9_placed_87 : decode cX9_placed 87 = .ok (.invokevirtual 300, 3) := by decide +kernel
theorem dX9_placed_90 : decode cX9_placed 90 = .ok (.goto 39, 3) := by decide +kernel
theorem dX9_placed_93 : decode cX9_placed 93 = .ok (.aload_n 0, 1) := by decide +kernel
theorem dX9_placed_94 : decode cX9_placed 94 = .ok (.iconst 0, 1) := by decide +kernel
theorem dX9_placed_95 : decode cX9_placed 95 = .ok (.iconst 1, 1) := by decide +kernel
theorem dX9_placed_96 : decode cX9_placed 96 = .ok (.invokevirtual 300, 3) := by decide +kernel
theorem dX9_placed_99 : decode cX9_placed 99 = .ok (.iload_n 2, 1) := by decide +kernel
theorem dX9_placed_100 : decode cX9_placed 100 = .ok (.iconst 1, 1) := by decide +kernel
theorem dX9_placed_101 : decode cX9_placed 101 = .ok (.if_icmp .le 9, 3) := by decide +kernel
theorem dX9_placed_104 : decode cX9_placed 104 = .ok (.aload_n 0, 1) := by decide +kernel
theorem dX9_placed_105 : decode cX9_placed 105 = .ok (.bipush 46, 2) := by decide +kernel
theorem dX9_placed_107 : decode cX9_placed 107 = .ok (.invokevirtual 96, 3) := by decide +kernel
theorem dX9_placed_110 : decode cX9_placed 110 = .ok (.aload_n 0, 1) := by decide +kernel
theorem dX9_placed_111 : decode cX9_placed 111 = .ok (.iconst 1, 1) := by decide +kernel
theorem dX9_placed_112 : decode cX9_placed 112 = .ok (.iload_n 2, 1) := by decide +kernel
theorem dX9_placed_113 : decode cX9_placed 113 = .ok (.invokevirtual 300, 3) := by decide +kernel
theorem dX9_placed_116 : decode cX9_placed 116 = .ok (.aload_n 0, 1) := by decide +kernel
theorem dX9_placed_117 : decode cX9_placed 117 = .ok (.bipush 101, 2) := by decide +kernel
theorem dX9_placed_119 : decode cX9_placed 119 = .ok (.invokevirtual 96, 3) := by decide +kernel
theorem dX9_placed_122 : decode cX9_placed 122 = .ok (.aload_n 0, 1) := by decide +kernel
theorem dX9_placed_123 : decode cX9_placed 123 = .ok (.iload_n 1, 1) := by decide +kernel
theorem dX9_placed_124 : decode cX9_placed 124 = .ok (.iconst 1, 1) := by decide +kernel
theorem dX9_placed_125 : decode cX9_placed 125 = .ok (.isub, 1) := by decide +kernel
theorem dX9_placed_126 : decode cX9_placed 126 = .ok (.invokevirtual 306, 3) := by decide +kernel
theorem dX9_placed_129 : decode cX9_placed 129 = .ok (.return_, 1) := by decide +kernel
theorem dX9_digitOf_0 : decode cX9_digitOf 0 = .ok (.iload_n 0, 1) := by decide +kernel
theorem dX9_digitOf_1 : decode cX9_digitOf 1 = .ok (.bipush 48, 2) := by decide +kernel
theorem dX9_digitOf_3 : decode cX9_digitOf 3 = .ok (.if_icmp .lt 16, 3) := by decide +kernel
theorem dX9_digitOf_6 : decode cX9_digitOf 6 = .ok (.iload_n 0, 1) := by decide +kernel
theorem dX9_digitOf_7 : decode cX9_digitOf 7 = .ok (.bipush 57, 2) := by decide +kernel
theorem dX9_digitOf_9 : decode cX9_digitOf 9 = .ok (.if_icmp .gt 10, 3) := by decide +kernel
theorem dX9_digitOf_12 : decode cX9_digitOf 12 = .ok (.iload_n 0, 1) := by decide +kernel
theorem dX9_digitOf_13 : decode cX9_digitOf 13 = .ok (.bipush 48, 2) := by decide +kernel
theorem dX9_digitOf_15 : decode cX9_digitOf 15 = .ok (.isub, 1) := by decide +kernel
theorem dX9_digitOf_16 : decode cX9_digitOf 16 = .ok (.goto 49, 3) := by decide +kernel
theorem dX9_digitOf_19 : decode cX9_digitOf 19 = .ok (.iload_n 0, 1) := by decide +kernel
theorem dX9_digitOf_20 : decode cX9_digitOf 20 = .ok (.bipush 97, 2) := by decide +kernel
theorem dX9_digitOf_22 : decode cX9_digitOf 22 = .ok (.if_icmp .lt 19, 3) := by decide +kernel
theorem dX9_digitOf_25 : decode cX9_digitOf 25 = .ok (.iload_n 0, 1) := by decide +kernel
theorem dX9_digitOf_26 : decode cX9_digitOf 26 = .ok (.bipush 102, 2) := by decide +kernel
theorem dX9_digitOf_28 : decode cX9_digitOf 28 = .ok (.if_icmp .gt 13, 3) := by decide +kernel
theorem dX9_digitOf_31 : decode cX9_digitOf 31 = .ok (.iload_n 0, 1) := by decide +kernel
theorem dX9_digitOf_32 : decode cX9_digitOf 32 = .ok (.bipush 97, 2) := by decide +kernel
theorem dX9_digitOf_34 : decode cX9_digitOf 34 = .ok (.isub, 1) := by decide +kernel
theorem dX9_digitOf_35 : decode cX9_digitOf 35 = .ok (.bipush 10, 2) := by decide +kernel
theorem dX9_digitOf_37 : decode cX9_digitOf 37 = .ok (.iadd, 1) := by decide +kernel
theorem dX9_digitOf_38 : decode cX9_digitOf 38 = .ok (.goto 27, 3) := by decide +kernel
theorem dX9_digitOf_41 : decode cX9_digitOf 41 = .ok (.iload_n 0, 1) := by decide +kernel
theorem dX9_digitOf_42 : decode cX9_digitOf 42 = .ok (.bipush 65, 2) := by decide +kernel
theorem dX9_digitOf_44 : decode cX9_digitOf 44 = .ok (.if_icmp .lt 19, 3) := by decide +kernel
theorem dX9_digitOf_47 : decode cX9_digitOf 47 = .ok (.iload_n 0, 1) := by decide +kernel
theorem dX9_digitOf_48 : decode cX9_digitOf 48 = .ok (.bipush 70, 2) := by decide +kernel
theorem dX9_digitOf_50 : decode cX9_digitOf 50 = .ok (.if_icmp .gt 13, 3) := by decide +kernel
theorem dX9_digitOf_53 : decode cX9_digitOf 53 = .ok (.iload_n 0, 1) := by decide +kernel
theorem dX9_digitOf_54 : decode cX9_digitOf 54 = .ok (.bipush 65, 2) := by decide +kernel
theorem dX9_digitOf_56 : decode cX9_digitOf 56 = .ok (.isub, 1) := by decide +kernel
theorem dX9_digitOf_57 : decode cX9_digitOf 57 = .ok (.bipush 10, 2) := by decide +kernel
theorem dX9_digitOf_59 : decode cX9_digitOf 59 = .ok (.iadd, 1) := by decide +kernel
theorem dX9_digitOf_60 : decode cX9_digitOf 60 = .ok (.goto 5, 3) := by decide +kernel
theorem dX9_digitOf_63 : decode cX9_digitOf 63 = .ok (.bipush 99, 2) := by decide +kernel
theorem dX9_digitOf_65 : decode cX9_digitOf 65 = .ok (.istore_n 2, 1) := by decide +kernel
theorem dX9_digitOf_66 : decode cX9_digitOf 66 = .ok (.iload_n 2, 1) := by decide +kernel
theorem dX9_digitOf_67 : decode cX9_digitOf 67 = .ok (.iload_n 1, 1) := by decide +kernel
theorem dX9_digitOf_68 : decode cX9_digitOf 68 = .ok (.if_icmp .ge 7, 3) := by decide +kernel
theorem dX9_digitOf_71 : decode cX9_digitOf 71 = .ok (.iload_n 2, 1) := by decide +kernel
theorem dX9_digitOf_72 : decode cX9_digitOf 72 = .ok (.goto 4, 3) := by decide +kernel
theorem dX9_digitOf_75 : decode cX9_digitOf 75 = .ok (.iconst (-1), 1) := by decide +kernel
theorem dX9_digitOf_76 : decode cX9_digitOf 76 = .ok (.ireturn, 1) := by decide +kernel
theorem dX9_areDigits_0 : decode cX9_areDigits 0 = .ok (.iload_n 1, 1) := by decide +kernel
theorem dX9_areDigits_1 : decode cX9_areDigits 1 = .ok (.iload_n 2, 1) := by decide +kernel
theorem dX9_areDigits_2 : decode cX9_areDigits 2 = .ok (.if_icmp .lt 5, 3) := by decide +kernel
theorem dX9_areDigits_5 : decode cX9_areDigits 5 = .ok (.iconst 0, 1) := by decide +kernel
theorem dX9_areDigits_6 : decode cX9_areDigits 6 = .ok (.ireturn, 1) := by decide +kernel
theorem dX9_areDigits_7 : decode cX9_areDigits 7 = .ok (.iload_n 1, 1) := by decide +kernel
theorem dX9_areDigits_8 : decode cX9_areDigits 8 = .ok (.istore 4, 2) := by decide +kernel
theorem dX9_areDigits_10 : decode cX9_areDigits 10 = .ok (.iload 4, 2) := by decide +kernel
theorem dX9_areDigits_12 : decode cX9_areDigits 12 = .ok (.iload_n 2, 1) := by decide +kernel
theorem dX9_areDigits_13 : decode cX9_areDigits 13 = .ok (.if_icmp .ge 22, 3) := by decide +kernel
theorem dX9_areDigits_16 : decode cX9_areDigits 16 = .ok (.aload_n 0, 1) := by decide +kernel
theorem dX9_areDigits_17 : decode cX9_areDigits 17 = .ok (.iload 4, 2) := by decide +kernel
theorem dX9_areDigits_19 : decode cX9_areDigits 19 = .ok (.iaload, 1) := by decide +kernel
theorem dX9_areDigits_20 : decode cX9_areDigits 20 = .ok (.iload_n 3, 1) := by decide +kernel
theorem dX9_areDigits_21 : decode cX9_areDigits 21 = .ok (.invokestatic 309, 3) := by decide +kernel
theorem dX9_areDigits_24 : decode cX9_areDigits 24 = .ok (.ifCond .ge 5, 3) := by decide +kernel
theorem dX9_areDigits_27 : decode cX9_areDigits 27 = .ok (.iconst 0, 1) := by decide +kernel
theorem dX9_areDigits_28 : decode cX9_areDigits 28 = .ok (.ireturn, 1) := by decide +kernel
theorem dX9_areDigits_29 : decode cX9_areDigits 29 = .ok (.iinc 4 1, 3) := by decide +kernel
theorem dX9_areDigits_32 : decode cX9_areDigits 32 = .ok (.goto (-22), 3) := by decide +kernel
theorem dX9_areDigits_35 : decode cX9_areDigits 35 = .ok (.iconst 1, 1) := by decide +kernel
theorem dX9_areDigits_36 : decode cX9_areDigits 36 = .ok (.ireturn, 1) := by decide +kernel
theorem dX9_digits_0 : decode cX9_digits 0 = .ok (.iload_n 2, 1) := by decide +kernel
theorem dX9_digits_1 : decode cX9_digits 1 = .ok (.istore 5, 2) := by decide +kernel
theorem dX9_digits_3 : decode cX9_digits 3 = .ok (.iload 5, 2) := by decide +kernel
theorem dX9_digits_5 : decode cX9_digits 5 = .ok (.iload_n 3, 1) := by decide +kernel
theorem dX9_digits_6 : decode cX9_digits 6 = .ok (.if_icmp .ge 27, 3) := by decide +kernel
theorem dX9_digits_9 : decode cX9_digits 9 = .ok (.aload_n 1, 1) := by decide +kernel
theorem dX9_digits_10 : decode cX9_digits 10 = .ok (.iload 5, 2) := by decide +kernel
theorem dX9_digits_12 : decode cX9_digits 12 = .ok (.iaload, 1) := by decide +kernel
theorem dX9_digits_13 : decode cX9_digits 13 = .ok (.bipush 48, 2) := by decide +kernel
theorem dX9_digits_15 : decode cX9_digits 15 = .ok (.if_icmp .eq 12, 3) := by decide +kernel
theorem dX9_digits_18 : decode cX9_digits 18 = .ok (.aload_n 1, 1) := by decide +kernel
theorem dX9_digits_19 : decode cX9_digits 19 = .ok (.iload 5, 2) := by decide +kernel
theorem dX9_digits_21 : decode cX9_digits 21 = .ok (.iaload, 1) := by decide +kernel
theorem dX9_digits_22 : decode cX9_digits 22 = .ok (.bipush 46, 2) := by decide +kernel
theorem dX9_digits_24 : decode cX9_digits 24 = .ok (.if_icmp .ne 9, 3) := by decide +kernel
theorem dX9_digits_27 : decode cX9_digits 27 = .ok (.iinc 5 1, 3) := by decide +kernel
theorem dX9_digits_30 : decode cX9_digits 30 = .ok (.goto (-27), 3) := by decide +kernel
theorem dX9_digits_33 : decode cX9_digits 33 = .ok (.iload_n 3, 1) := by decide +kernel
theorem dX9_digits_34 : decode cX9_digits 34 = .ok (.iload 5, 2) := by decide +kernel
theorem dX9_digits_36 : decode cX9_digits 36 = .ok (.isub, 1) := by decide +kernel
theorem dX9_digits_37 : decode cX9_digits 37 = .ok (.bipush 16, 2) := by decide +kernel
theorem dX9_digits_39 : decode cX9_digits 39 = .ok (.if_icmp .ge 56, 3) := by decide +kernel
theorem dX9_digits_42 : decode cX9_digits 42 = .ok (.lconst 0, 1) := by decide +kernel
theorem dX9_digits_43 : decode cX9_digits 43 = .ok (.lstore 6, 2) := by decide +kernel
theorem dX9_digits_45 : decode cX9_digits 45 = .ok (.iload 5, 2) := by decide +kernel
theorem dX9_digits_47 : decode cX9_digits 47 = .ok (.istore 8, 2) := by decide +kernel
theorem dX9_digits_49 : decode cX9_digits 49 = .ok (.iload 8, 2) := by decide +kernel
theorem dX9_digits_51 : decode cX9_digits 51 = .ok (.iload_n 3, 1) := by decide +kernel
theorem dX9_digits_52 : decode cX9_digits 52 = .ok (.if_icmp .ge 37, 3) := by decide +kernel
theorem dX9_digits_55 : decode cX9_digits 55 = .ok (.aload_n 1, 1) := by decide +kernel
theorem dX9_digits_56 : decode cX9_digits 56 = .ok (.iload 8, 2) := by decide +kernel
theorem dX9_digits_58 : decode cX9_digits 58 = .ok (.iaload, 1) := by decide +kernel
theorem dX9_digits_59 : decode cX9_digits 59 = .ok (.bipush 46, 2) := by decide +kernel
theorem dX9_digits_61 : decode cX9_digits 61 = .ok (.if_icmp .eq 22, 3) := by decide +kernel
theorem dX9_digits_64 : decode cX9_digits 64 = .ok (.lload 6, 2) := by decide +kernel
theorem dX9_digits_66 : decode cX9_digits 66 = .ok (.iload 4, 2) := by decide +kernel
theorem dX9_digits_68 : decode cX9_digits 68 = .ok (.i2l, 1) := by decide +kernel
theorem dX9_digits_69 : decode cX9_digits 69 = .ok (.lmul, 1) := by decide +kernel
theorem dX9_digits_70 : decode cX9_digits 70 = .ok (.aload_n 1, 1) := by decide +kernel
theorem dX9_digits_71 : decode cX9_digits 71 = .ok (.iload 8, 2) := by decide +kernel
theorem dX9_digits_73 : decode cX9_digits 73 = .ok (.iaload, 1) := by decide +kernel
theorem dX9_digits_74 : decode cX9_digits 74 = .ok (.iload 4, 2) := by decide +kernel
theorem dX9_digits_76 : decode cX9_digits 76 = .ok (.invokestatic 309, 3) := by decide +kernel
theorem dX9_digits_79 : decode cX9_digits 79 = .ok (.i2l, 1) := by decide +kernel
theorem dX9_digits_80 : decode cX9_digits 80 = .ok (.ladd, 1) := by decide +kernel
theorem dX9_digits_81 : decode cX9_digits 81 = .ok (.lstore 6, 2) := by decide +kernel
theorem dX9_digits_83 : decode cX9_digits 83 = .ok (.iinc 8 1, 3) := by decide +kernel
theorem dX9_digits_86 : decode cX9_digits 86 = .ok (.goto (-37), 3) := by decide +kernel
theorem dX9_digits_89 : decode cX9_digits 89 = .ok (.lload 6, 2) := by decide +kernel
theorem dX9_digits_91 : decode cX9_digits 91 = .ok (.invokestatic 163, 3) := by decide +kernel
theorem dX9_digits_94 : decode cX9_digits 94 = .ok (.areturn, 1) := by decide +kernel
theorem dX9_digits_95 : decode cX9_digits 95 = .ok (.iconst 0, 1) := by decide +kernel
theorem dX9_digits_96 : decode cX9_digits 96 = .ok (.istore 6, 2) := by decide +kernel
theorem dX9_digits_98 : decode cX9_digits 98 = .ok (.iload 5, 2) := by decide +kernel
theorem dX9_digits_100 : decode cX9_digits 100 = .ok (.istore 7, 2) := by decide +kernel
theorem dX9_digits_102 : decode cX9_digits 102 = .ok (.iload 7, 2) := by decide +kernel
theorem dX9_digits_104 : decode cX9_digits 104 = .ok (.iload_n 3, 1) := by decide +kernel
theorem dX9_digits_105 : decode cX9_digits 105 = .ok (.if_icmp .ge 40, 3) := by decide +kernel
theorem dX9_digits_108 : decode cX9_digits 108 = .ok (.aload_n 1, 1) := by decide +kernel
theorem dX9_digits_109 : decode cX9_digits 109 = .ok (.iload 7, 2) := by decide +kernel
theorem dX9_digits_111 : decode cX9_digits 111 = .ok (.iaload, 1) := by decide +kernel
theorem dX9_digits_112 : decode cX9_digits 112 = .ok (.bipush 46, 2) := by decide +kernel
theorem dX9_digits_114 : decode cX9_digits 114 = .ok (.if_icmp .eq 25, 3) := by decide +kernel
theorem dX9_digits_117 : decode cX9_digits 117 = .ok (.aload_n 0, 1) := by decide +kernel
theorem dX9_digits_118 : decode cX9_digits 118 = .ok (.getfield 312, 3) := by decide +kernel
theorem dX9_digits_121 : decode cX9_digits 121 = .ok (.iload 6, 2) := by decide +kernel
theorem dX9_digits_123 : decode cX9_digits 123 = .ok (.iload 4, 2) := by decide +kernel
theorem dX9_digits_125 : decode cX9_digits 125 = .ok (.aload_n 1, 1) := by decide +kernel
theorem dX9_digits_126 : decode cX9_digits 126 = .ok (.iload 7, 2) := by decide +kernel
theorem dX9_digits_128 : decode cX9_digits 128 = .ok (.iaload, 1) := by decide +kernel
theorem dX9_digits_129 : decode cX9_digits 129 = .ok (.iload 4, 2) := by decide +kernel
theorem dX9_digits_131 : decode cX9_digits 131 = .ok (.invokestatic 309, 3) := by decide +kernel
theorem dX9_digits_134 : decode cX9_digits 134 = .ok (.invokestatic 31, 3) := by decide +kernel
theorem dX9_digits_137 : decode cX9_digits 137 = .ok (.istore 6, 2) := by decide +kernel
theorem dX9_digits_139 : decode cX9_digits 139 = .ok (.iinc 7 1, 3) := by decide +kernel
theorem dX9_digits_142 : decode cX9_digits 142 = .ok (.goto (-40), 3) := by decide +kernel
theorem dX9_digits_145 : decode cX9_digits 145 = .ok (.iconst 1, 1) := by decide +kernel
theorem dX9_digits_146 : decode cX9_digits 146 = .ok (.aload_n 0, 1) := by decide +kernel
theorem dX9_digits_147 : decode cX9_digits 147 = .ok (.getfield 312, 3) := by decide +kernel
theorem dX9_digits_150 : decode cX9_digits 150 = .ok (.iload 6, 2) := by decide +kernel
theorem dX9_digits_152 : decode cX9_digits 152 = .ok (.invokestatic 173, 3) := by decide +kernel
theorem dX9_digits_155 : decode cX9_digits 155 = .ok (.areturn, 1) := by decide +kernel
theorem dX9_number_0 : decode cX9_number 0 = .ok (.iconst 0, 1) := by decide +kernel
theorem dX9_number_1 : decode cX9_number 1 = .ok (.istore 5, 2) := by decide +kernel
theorem dX9_number_3 : decode cX9_number 3 = .ok (.iconst 0, 1) := by decide +kernel
theorem dX9_number_4 : decode cX9_number 4 = .ok (.istore 6, 2) := by decide +kernel
theorem dX9_number_6 : decode cX9_number 6 = .ok (.iload_n 2, 1) := by decide +kernel
theorem dX9_number_7 : decode cX9_number 7 = .ok (.istore 7, 2) := by decide +kernel
theorem dX9_number_9 : decode cX9_number 9 = .ok (.iload 7, 2) := by decide +kernel
theorem dX9_number_11 : decode cX9_number 11 = .ok (.iconst 1, 1) := by decide +kernel
theorem dX9_number_12 : decode cX9_number 12 = .ok (.iadd, 1) := by decide +kernel
theorem dX9_number_13 : decode cX9_number 13 = .ok (.iload_n 3, 1) := by decide +kernel
theorem dX9_number_14 : decode cX9_number 14 = .ok (.if_icmp .ge 121, 3) := by decide +kernel
theorem dX9_number_17 : decode cX9_number 17 = .ok (.aload_n 1, 1) := by decide +kernel
theorem dX9_number_18 : decode cX9_number 18 = .ok (.iload 7, 2) := by decide +kernel
theorem dX9_number_20 : decode cX9_number 20 = .ok (.iaload, 1) := by decide +kernel
theorem dX9_number_21 : decode cX9_number 21 = .ok (.bipush 35, 2) := by decide +kernel
theorem dX9_number_23 : decode cX9_number 23 = .ok (.if_icmp .ne 112, 3) := by decide +kernel
theorem dX9_number_26 : decode cX9_number 26 = .ok (.aload_n 1, 1) := by decide +kernel
theorem dX9_number_27 : decode cX9_number 27 = .ok (.iload 7, 2) := by decide +kernel
theorem dX9_number_29 : decode cX9_number 29 = .ok (.iconst 1, 1) := by decide +kernel
theorem dX9_number_30 : decode cX9_number 30 = .ok (.iadd, 1) := by decide +kernel
theorem dX9_number_31 : decode cX9_number 31 = .ok (.iaload, 1) := by decide +kernel
theorem dX9_number_32 : decode cX9_number 32 = .ok (.istore 8, 2) := by decide +kernel
theorem dX9_number_34 : decode cX9_number 34 = .ok (.iload 8, 2) := by decide +kernel
theorem dX9_number_36 : decode cX9_number 36 = .ok (.bipush 120, 2) := by decide +kernel
theorem dX9_number_38 : decode cX9_number 38 = .ok (.if_icmp .ne 8, 3) := by decide +kernel
theorem dX9_number_41 : decode cX9_number 41 = .ok (.bipush 16, 2) := by decide +kernel
theorem dX9_number_43 : decode cX9_number 43 = .ok (.goto 39, 3) := by decide +kernel
theorem dX9_number_46 : decode cX9_number 46 = .ok (.iload 8, 2) := by decide +kernel
theorem dX9_number_48 : decode cX9_number 48 = .ok (.bipush 98, 2) := by decide +kernel
theorem dX9_number_50 : decode cX9_number 50 = .ok (.if_icmp .ne 7, 3) := by decide +kernel
theorem dX9_number_53 : decode cX9_number 53 = .ok (.iconst 2, 1) := by decide +kernel
theorem dX9_number_54 : decode cX9_number 54 = .ok (.goto 28, 3) := by decide +kernel
theorem dX9_number_57 : decode cX9_number 57 = .ok (.iload 8, 2) := by decide +kernel
theorem dX9_number_59 : decode cX9_number 59 = .ok (.bipush 111, 2) := by decide +kernel
theorem dX9_number_61 : decode cX9_number 61 = .ok (.if_icmp .ne 8, 3) := by decide +kernel
theorem dX9_number_64 : decode cX9_number 64 = .ok (.bipush 8, 2) := by decide +kernel
theorem dX9_number_66 : decode cX9_number 66 = .ok (.goto 16, 3) := by decide +kernel
theorem dX9_number_69 : decode cX9_number 69 = .ok (.iload 8, 2) := by decide +kernel
theorem dX9_number_71 : decode cX9_number 71 = .ok (.bipush 100, 2) := by decide +kernel
theorem dX9_number_73 : decode cX9_number 73 = .ok (.if_icmp .ne 8, 3) := by decide +kernel
theorem dX9_number_76 : decode cX9_number 76 = .ok (.bipush 10, 2) := by decide +kernel
theorem dX9_number_78 : decode cX9_number 78 = .ok (.goto 4, 3) := by decide +kernel
theorem dX9_number_81 : decode cX9_number 81 = .ok (.iconst 0, 1) := by decide +kernel
theorem dX9_number_82 : decode cX9_number 82 = .ok (.istore 9, 2) := by decide +kernel
theorem dX9_number_84 : decode cX9_number 84 = .ok (.iload 9, 2) := by decide +kernel
theorem dX9_number_86 : decode cX9_number 86 = .ok (.ifCond .le 15, 3) := by decide +kernel
theorem dX9_number_89 : decode cX9_number 89 = .ok (.iload 5, 2) := by decide +kernel
theorem dX9_number_91 : decode cX9_number 91 = .ok (.ifCond .ne 10, 3) := by decide +kernel
theorem dX9_number_94 : decode cX9_number 94 = .ok (.iload 9, 2) := by decide +kernel
theorem dX9_number_96 : decode cX9_number 96 = .ok (.istore 5, 2) := by decide +kernel
theorem dX9_number_98 : decode cX9_number 98 = .ok (.goto 31, 3) := by decide +kernel
theorem dX9_number_101 : decode cX9_number 101 = .ok (.iload 8, 2) := by decide +kernel
theorem dX9_number_103 : decode cX9_number 103 = .ok (.bipush 101, 2) := by decide +kernel
theorem dX9_number_105 : decode cX9_number 105 = .ok (.if_icmp .eq 10, 3) := by decide +kernel
theorem dX9_number_108 : decode cX9_number 108 = .ok (.iload 8, 2) := by decide +kernel
theorem dX9_number_110 : decode cX9_number 110 = .ok (.bipush 105, 2) := by decide +kernel
theorem dX9_number_112 : decode cX9_number 112 = .ok (.if_icmp .ne 15, 3) := by decide +kernel
theorem dX9_number_115 : decode cX9_number 115 = .ok (.iload 6, 2) := by decide +kernel
theorem dX9_number_117 : decode cX9_number 117 = .ok (.ifCond .ne 10, 3) := by decide +kernel
theorem dX9_number_120 : decode cX9_number 120 = .ok (.iload 8, 2) := by decide +kernel
theorem dX9_number_122 : decode cX9_number 122 = .ok (.istore 6, 2) := by decide +kernel
theorem dX9_number_124 : decode cX9_number 124 = .ok (.goto 5, 3) := by decide +kernel
theorem dX9_number_127 : decode cX9_number 127 = .ok (.aconst_null, 1) := by decide +kernel
theorem dX9_number_128 : decode cX9_number 128 = .ok (.areturn, 1) := by decide +kernel
theorem dX9_number_129 : decode cX9_number 129 = .ok (.iinc 7 2, 3) := by decide +kernel
theorem dX9_number_132 : decode cX9_number 132 = .ok (.goto (-123), 3) := by decide +kernel
theorem dX9_number_135 : decode cX9_number 135 = .ok (.iload 7, 2) := by decide +kernel
theorem dX9_number_137 : decode cX9_number 137 = .ok (.iload_n 3, 1) := by decide +kernel
theorem dX9_number_138 : decode cX9_number 138 = .ok (.if_icmp .ge 25, 3) := by decide +kernel
theorem dX9_number_141 : decode cX9_number 141 = .ok (.aload_n 1, 1) := by decide +kernel
theorem dX9_number_142 : decode cX9_number 142 = .ok (.iload 7, 2) := by decide +kernel
theorem dX9_number_144 : decode cX9_number 144 = .ok (.iaload, 1) := by decide +kernel
theorem dX9_number_145 : decode cX9_number 145 = .ok (.bipush 43, 2) := by decide +kernel
theorem dX9_number_147 : decode cX9_number 147 = .ok (.if_icmp .eq 12, 3) := by decide +kernel
theorem dX9_number_150 : decode cX9_number 150 = .ok (.aload_n 1, 1) := by decide +kernel
theorem dX9_number_151 : decode cX9_number 151 = .ok (.iload 7, 2) := by decide +kernel
theorem dX9_number_153 : decode cX9_number 153 = .ok (.iaload, 1) := by decide +kernel
theorem dX9_number_154 : decode cX9_number 154 = .ok (.bipush 45, 2) := by decide +kernel
theorem dX9_number_156 : decode cX9_number 156 = .ok (.if_icmp .ne 7, 3) := by decide +kernel
theorem dX9_number_159 : decode cX9_number 159 = .ok (.iconst 1, 1) := by decide +kernel
theorem dX9_number_160 : decode cX9_number 160 = .ok (.goto 4, 3) := by decide +kernel
theorem dX9_number_163 : decode cX9_number 163 = .ok (.iconst 0, 1) := by decide +kernel
theorem dX9_number_164 : decode cX9_number 164 = .ok (.istore 8, 2) := by decide +kernel
theorem dX9_number_166 : decode cX9_number 166 = .ok (.iload 8, 2) := by decide +kernel
theorem dX9_number_168 : decode cX9_number 168 = .ok (.ifCond .eq 16, 3) := by decide +kernel
theorem dX9_number_171 : decode cX9_number 171 = .ok (.aload_n 1, 1) := by decide +kernel
theorem dX9_number_172 : decode cX9_number 172 = .ok (.iload 7, 2) := by decide +kernel
theorem dX9_number_174 : decode cX9_number 174 = .ok (.iaload, 1) := by decide +kernel
theorem dX9_number_175 : decode cX9_number 175 = .ok (.bipush 45, 2) := by decide +kernel
theorem dX9_number_177 : decode cX9_number 177 = .ok (.if_icmp .ne 7, 3) := by decide +kernel
theorem dX9_number_180 : decode cX9_number 180 = .ok (.iconst 1, 1) := by decide +kernel
theorem dX9_number_181 : decode cX9_number 181 = .ok (.goto 4, 3) := by decide +kernel
theorem dX9_number_184 : decode cX9_number 184 = .ok (.iconst 0, 1) := by decide +kernel
theorem dX9_number_185 : decode cX9_number 185 = .ok (.istore 9, 2) := by decide +kernel
theorem dX9_number_187 : decode cX9_number 187 = .ok (.iload 8, 2) := by decide +kernel
theorem dX9_number_189 : decode cX9_number 189 = .ok (.ifCond .eq 6, 3) := by decide +kernel
theorem dX9_number_192 : decode cX9_number 192 = .ok (.iinc 7 1, 3) := by decide +kernel
theorem dX9_number_195 : decode cX9_number 195 = .ok (.iload 8, 2) := by decide +kernel
theorem dX9_number_197 : decode cX9_number 197 = .ok (.ifCond .eq 170, 3) := by decide +kernel
theorem dX9_number_200 : decode cX9_number 200 = .ok (.iload_n 3, 1) := by decide +kernel
theorem dX9_number_201 : decode cX9_number 201 = .ok (.iload 7, 2) := by decide +kernel
theorem dX9_number_203 : decode cX9_number 203 = .ok (.isub, 1) := by decide +kernel
theorem dX9_number_204 : decode cX9_number 204 = .ok (.iconst 5, 1) := by decide +kernel
theorem dX9_number_205 : decode cX9_number 205 = .ok (.if_icmp .ne 162, 3) := by decide +kernel
theorem dX9_number_208 : decode cX9_number 208 = .ok (.aload_n 1, 1) := by decide +kernel
theorem dX9_number_209 : decode cX9_number 209 = .ok (.iload 7, 2) := by decide +kernel
theorem dX9_number_211 : decode cX9_number 211 = .ok (.iconst 3, 1) := by decide +kernel
theorem dX9_number_212 : decode cX9_number 212 = .ok (.iadd, 1) := by decide +kernel
theorem dX9_number_213 : decode cX9_number 213 = .ok (.iaload, 1) := by decide +kernel
theorem dX9_number_214 : decode cX9_number 214 = .ok (.bipush 46, 2) := by decide +kernel
theorem dX9_number_216 : decode cX9_number 216 = .ok (.if_icmp .ne 151, 3) := by decide +kernel
theorem dX9_number_219 : decode cX9_number 219 = .ok (.aload_n 1, 1) := by decide +kernel
theorem dX9_number_220 : decode cX9_number 220 = .ok (.iload 7, 2) := by decide +kernel
theorem dX9_number_222 : decode cX9_number 222 = .ok (.iconst 4, 1) := by decide +kernel
theorem dX9_number_223 : decode cX9_number 223 = .ok (.iadd, 1) := by decide +kernel
theorem dX9_number_224 : decode cX9_number 224 = .ok (.iaload, 1) := by decide +kernel
theorem dX9_number_225 : decode cX9_number 225 = .ok (.bipush 48, 2) := by decide +kernel
theorem dX9_number_227 : decode cX9_number 227 = .ok (.if_icmp .ne 140, 3) := by decide +kernel
theorem dX9_number_230 : decode cX9_number 230 = .ok (.aload_n 1, 1) := by decide +kernel
theorem dX9_number_231 : decode cX9_number 231 = .ok (.iload 7, 2) := by decide +kernel
theorem dX9_number_233 : decode cX9_number 233 = .ok (.iaload, 1) := by decide +kernel
theorem dX9_number_234 : decode cX9_number 234 = .ok (.bipush 105, 2) := by decide +kernel
theorem dX9_number_236 : decode cX9_number 236 = .ok (.if_icmp .ne 29, 3) := by decide +kernel
theorem dX9_number_239 : decode cX9_number 239 = .ok (.aload_n 1, 1) := by decide +kernel
theorem dX9_number_240 : decode cX9_number 240 = .ok (.iload 7, 2) := by decide +kernel
theorem dX9_number_242 : decode cX9_number 242 = .ok (.iconst 1, 1) := by decide +kernel
theorem dX9_number_243 : decode cX9_number 243 = .ok (.iadd, 1) := by decide +kernel
theorem dX9_number_244 : decode cX9_number 244 = .ok (.iaload, 1) := by decide +kernel
theorem dX9_number_245 : decode cX9_number 245 = .ok (.bipush 110, 2) := by decide +kernel
theorem dX9_number_247 : decode cX9_number 247 = .ok (.if_icmp .ne 18, 3) := by decide +kernel
theorem dX9_number_250 : decode cX9_number 250 = .ok (.aload_n 1, 1) := by decide +kernel
theorem dX9_number_251 : decode cX9_number 251 = .ok (.iload 7, 2) := by decide +kernel
theorem dX9_number_253 : decode cX9_number 253 = .ok (.iconst 2, 1) := by decide +kernel
theorem dX9_number_254 : decode cX9_number 254 = .ok (.iadd, 1) := by decide +kernel
theorem dX9_number_255 : decode cX9_number 255 = .ok (.iaload, 1) := by decide +kernel
theorem dX9_number_256 : decode cX9_number 256 = .ok (.bipush 102, 2) := by decide +kernel
theorem dX9_number_258 : decode cX9_number 258 = .ok (.if_icmp .ne 7, 3) := by decide +kernel
theorem dX9_number_261 : decode cX9_number 261 = .ok (.iconst 1, 1) := by decide +kernel
theorem dX9_number_262 : decode cX9_number 262 = .ok (.goto 4, 3) := by decide +kernel
theorem dX9_number_265 : decode cX9_number 265 = .ok (.iconst 0, 1) := by decide +kernel
theorem dX9_number_266 : decode cX9_number 266 = .ok (.istore 10, 2) := by decide +kernel
theorem dX9_number_268 : decode cX9_number 268 = .ok (.aload_n 1, 1) := by decide +kernel
theorem dX9_number_269 : decode cX9_number 269 = .ok (.iload 7, 2) := by decide +kernel
theorem dX9_number_271 : decode cX9_number 271 = .ok (.iaload, 1) := by decide +kernel
theorem dX9_number_272 : decode cX9_number 272 = .ok (.bipush 110, 2) := by decide +kernel
theorem dX9_number_274 : decode cX9_number 274 = .ok (.if_icmp .ne 29, 3) := by decide +kernel
theorem dX9_number_277 : decode cX9_number 277 = .ok (.aload_n 1, 1) := by decide +kernel
theorem dX9_number_278 : decode cX9_number 278 = .ok (.iload 7, 2) := by decide +kernel
theorem dX9_number_280 : decode cX9_number 280 = .ok (.iconst 1, 1) := by decide +kernel
theorem dX9_number_281 : decode cX9_number 281 = .ok (.iadd, 1) := by decide +kernel
theorem dX9_number_282 : decode cX9_number 282 = .ok (.iaload, 1) := by decide +kernel
theorem dX9_number_283 : decode cX9_number 283 = .ok (.bipush 97, 2) := by decide +kernel
theorem dX9_number_285 : decode cX9_number 285 = .ok (.if_icmp .ne 18, 3) := by decide +kernel
theorem dX9_number_288 : decode cX9_number 288 = .ok (.aload_n 1, 1) := by decide +kernel
theorem dX9_number_289 : decode cX9_number 289 = .ok (.iload 7, 2) := by decide +kernel
theorem dX9_number_291 : decode cX9_number 291 = .ok (.iconst 2, 1) := by decide +kernel
theorem dX9_number_292 : decode cX9_number 292 = .ok (.iadd, 1) := by decide +kernel
theorem dX9_number_293 : decode cX9_number 293 = .ok (.iaload, 1) := by decide +kernel
theorem dX9_number_294 : decode cX9_number 294 = .ok (.bipush 110, 2) := by decide +kernel
theorem dX9_number_296 : decode cX9_number 296 = .ok (.if_icmp .ne 7, 3) := by decide +kernel
theorem dX9_number_299 : decode cX9_number 299 = .ok (.iconst 1, 1) := by decide +kernel
theorem dX9_number_300 : decode cX9_number 300 = .ok (.goto 4, 3) := by decide +kernel
theorem dX9_number_303 : decode cX9_number 303 = .ok (.iconst 0, 1) := by decide +kernel
theorem dX9_number_304 : decode cX9_number 304 = .ok (.istore 11, 2) := by decide +kernel
theorem dX9_number_306 : decode cX9_number 306 = .ok (.iload 10, 2) := by decide +kernel
theorem dX9_number_308 : decode cX9_number 308 = .ok (.ifCond .ne 8, 3) := by decide +kernel
theorem dX9_number_311 : decode cX9_number 311 = .ok (.iload 11, 2) := by decide +kernel
theorem dX9_number_313 : decode cX9_number 313 = .ok (.ifCond .eq 54, 3) := by decide +kernel
theorem dX9_number_316 : decode cX9_number 316 = .ok (.iload 6, 2) := by decide +kernel
theorem dX9_number_318 : decode cX9_number 318 = .ok (.bipush 101, 2) := by decide +kernel
theorem dX9_number_320 : decode cX9_number 320 = .ok (.if_icmp .ne 7, 3) := by decide +kernel
theorem dX9_number_323 : decode cX9_number 323 = .ok (.aconst_null, 1) := by decide +kernel
theorem dX9_number_324 : decode cX9_number 324 = .ok (.goto 42, 3) := by decide +kernel
theorem dX9_number_327 : decode cX9_number 327 = .ok (.iload 11, 2) := by decide +kernel
theorem dX9_number_329 : decode cX9_number 329 = .ok (.ifCond .eq 15, 3) := by decide +kernel
theorem dX9_number_332 : decode cX9_number 332 = .ok (.new 201, 3) := by decide +kernel
theorem dX9_number_335 : decode cX9_number 335 = .ok (.dup, 1) := by decide +kernel
theorem dX9_number_336 : decode cX9_number 336 = .ok (.dconst 0, 1) := by decide +kernel
theorem dX9_number_337 : decode cX9_number 337 = .ok (.iconst 1, 1) := by decide +kernel
theorem dX9_number_338 : decode cX9_number 338 = .ok (.invokespecial 315, 3) := by decide +kernel
theorem dX9_number_341 : decode cX9_number 341 = .ok (.goto 25, 3) := by decide +kernel
theorem dX9_number_344 : decode cX9_number 344 = .ok (.new 201, 3) := by decide +kernel
theorem dX9_number_347 : decode cX9_number 347 = .ok (.dup, 1) := by decide +kernel
theorem dX9_number_348 : decode cX9_number 348 = .ok (.iload 9, 2) := by decide +kernel
theorem dX9_number_350 : decode cX9_number 350 = .ok (.ifCond .eq 9, 3) := by decide +kernel
theorem dX9_number_353 : decode cX9_number 353 = .ok (.ldc2_w 318, 3) := by decide +kernel
theorem dX9_number_356 : decode cX9_number 356 = .ok (.goto 6, 3) := by decide +kernel
theorem dX9_number_359 : decode cX9_number 359 = .ok (.ldc2_w 117, 3) := by decide +kernel
theorem dX9_number_362 : decode cX9_number 362 = .ok (.iconst 0, 1) := by decide +kernel
theorem dX9_number_363 : decode cX9_number 363 = .ok (.invokespecial 315, 3) := by decide +kernel
theorem dX9_number_366 : decode cX9_number 366 = .ok (.areturn, 1) := by decide +kernel
theorem dX9_number_367 : decode cX9_number 367 = .ok (.aload_n 0, 1) := by decide +kernel
theorem dX9_number_368 : decode cX9_number 368 = .ok (.aload_n 1, 1) := by decide +kernel
theorem dX9_number_369 : decode cX9_number 369 = .ok (.iload 7, 2) := by decide +kernel
theorem dX9_number_371 : decode cX9_number 371 = .ok (.iload_n 3, 1) := by decide +kernel
theorem dX9_number_372 : decode cX9_number 372 = .ok (.iload 5, 2) := by decide +kernel
theorem dX9_number_374 : decode cX9_number 374 = .ok (.ifCond .ne 8, 3) := by decide +kernel
theorem dX9_number_377 : decode cX9_number 377 = .ok (.iload 4, 2) := by decide +kernel
theorem dX9_number_379 : decode cX9_number 379 = .ok (.goto 5, 3) := by decide +kernel
theorem dX9_number_382 : decode cX9_number 382 = .ok (.iload 5, 2) := by decide +kernel
theorem dX9_number_384 : decode cX9_number 384 = .ok (.iload 6, 2) := by decide +kernel
theorem dX9_number_386 : decode cX9_number 386 = .ok (.iload 9, 2) := by decide +kernel
theorem dX9_number_388 : decode cX9_number 388 = .ok (.invokevirtual 320, 3) := by decide +kernel
theorem dX9_number_391 : decode cX9_number 391 = .ok (.areturn, 1) := by decide +kernel
theorem dX9_unsigned_0 : decode cX9_unsigned 0 = .ok (.iload_n 2, 1) := by decide +kernel
theorem dX9_unsigned_1 : decode cX9_unsigned 1 = .ok (.istore 7, 2) := by decide +kernel
theorem dX9_unsigned_3 : decode cX9_unsigned 3 = .ok (.iload 7, 2) := by decide +kernel
theorem dX9_unsigned_5 : decode cX9_unsigned 5 = .ok (.iload_n 3, 1) := by decide +kernel
theorem dX9_unsigned_6 : decode cX9_unsigned 6 = .ok (.if_icmp .ge 18, 3) := by decide +kernel
theorem dX9_unsigned_9 : decode cX9_unsigned 9 = .ok (.aload_n 1, 1) := by decide +kernel
theorem dX9_unsigned_10 : decode cX9_unsigned 10 = .ok (.iload 7, 2) := by decide +kernel
theorem dX9_unsigned_12 : decode cX9_unsigned 12 = .ok (.iaload, 1) := by decide +kernel
theorem dX9_unsigned_13 : decode cX9_unsigned 13 = .ok (.bipush 47, 2) := by decide +kernel
theorem dX9_unsigned_15 : decode cX9_unsigned 15 = .ok (.if_icmp .eq 9, 3) := by decide +kernel
theorem dX9_unsigned_18 : decode cX9_unsigned 18 = .ok (.iinc 7 1, 3) := by decide +kernel
theorem dX9_unsigned_21 : decode cX9_unsigned 21 = .ok (.goto (-18), 3) := by decide +kernel
theorem dX9_unsigned_24 : decode cX9_unsigned 24 = .ok (.iload 7, 2) := by decide +kernel
theorem dX9_unsigned_26 : decode cX9_unsigned 26 = .ok (.iload_n 3, 1) := by decide +kernel
theorem dX9_unsigned_27 : decode cX9_unsigned 27 = .ok (.if_icmp .ge 7, 3) := by decide +kernel
theorem dX9_unsigned_30 : decode cX9_unsigned 30 = .ok (.iconst 1, 1) := by decide +kernel
theorem dX9_unsigned_31 : decode cX9_unsigned 31 = .ok (.goto 4, 3) := by decide +kernel
theorem dX9_unsigned_34 : decode cX9_unsigned 34 = .ok (.iconst 0, 1) := by decide +kernel
theorem dX9_unsigned_35 : decode cX9_unsigned 35 = .ok (.istore 8, 2) := by decide +kernel
theorem dX9_unsigned_37 : decode cX9_unsigned 37 = .ok (.aload_n 1, 1) := by decide +kernel
theorem dX9_unsigned_38 : decode cX9_unsigned 38 = .ok (.iload_n 2, 1) := by decide +kernel
theorem dX9_unsigned_39 : decode cX9_unsigned 39 = .ok (.iload 7, 2) := by decide +kernel
theorem dX9_unsigned_41 : decode cX9_unsigned 41 = .ok (.iload 4, 2) := by decide +kernel
theorem dX9_unsigned_43 : decode cX9_unsigned 43 = .ok (.invokestatic 324, 3) := by decide +kernel
theorem dX9_unsigned_46 : decode cX9_unsigned 46 = .ok (.ifCond .ne 31, 3) := by decide +kernel
theorem dX9_unsigned_49 : decode cX9_unsigned 49 = .ok (.iload 8, 2) := by decide +kernel
theorem dX9_unsigned_51 : decode cX9_unsigned 51 = .ok (.ifCond .ne 10, 3) := by decide +kernel
theorem dX9_unsigned_54 : decode cX9_unsigned 54 = .ok (.iload 4, 2) := by decide +kernel
theorem dX9_unsigned_56 : decode cX9_unsigned 56 = .ok (.bipush 10, 2) := by decide +kernel
theorem dX9_unsigned_58 : decode cX9_unsigned 58 = .ok (.if_icmp .eq 7, 3) := by decide +kernel
theorem dX9_unsigned_61 : decode cX9_unsigned 61 = .ok (.aconst_null, 1) := by decide +kernel
theorem dX9_unsigned_62 : decode cX9_unsigned 62 = .ok (.goto 14, 3) := by decide +kernel
theorem dX9_unsigned_65 : decode cX9_unsigned 65 = .ok (.aload_n 0, 1) := by decide +kernel
theorem dX9_unsigned_66 : decode cX9_unsigned 66 = .ok (.aload_n 1, 1) := by decide +kernel
theorem dX9_unsigned_67 : decode cX9_unsigned 67 = .ok (.iload_n 2, 1) := by decide +kernel
theorem dX9_unsigned_68 : decode cX9_unsigned 68 = .ok (.iload_n 3, 1) := by decide +kernel
theorem dX9_unsigned_69 : decode cX9_unsigned 69 = .ok (.iload 5, 2) := by decide +kernel
theorem dX9_unsigned_71 : decode cX9_unsigned 71 = .ok (.iload 6, 2) := by decide +kernel
theorem dX9_unsigned_73 : decode cX9_unsigned 73 = .ok (.invokevirtual 328, 3) := by decide +kernel
theorem dX9_unsigned_76 : decode cX9_unsigned 76 = .ok (.areturn, 1) := by decide +kernel
theorem dX9_unsigned_77 : decode cX9_unsigned 77 = .ok (.iload 8, 2) := by decide +kernel
theorem dX9_unsigned_79 : decode cX9_unsigned 79 = .ok (.ifCond .eq 19, 3) := by decide +kernel
theorem dX9_unsigned_82 : decode cX9_unsigned 82 = .ok (.aload_n 1, 1) := by decide +kernel
theorem dX9_unsigned_83 : decode cX9_unsigned 83 = .ok (.iload 7, 2) := by decide +kernel
theorem dX9_unsigned_85 : decode cX9_unsigned 85 = .ok (.iconst 1, 1) := by decide +kernel
theorem dX9_unsigned_86 : decode cX9_unsigned 86 = .ok (.iadd, 1) := by decide +kernel
theorem dX9_unsigned_87 : decode cX9_unsigned 87 = .ok (.iload_n 3, 1) := by decide +kernel
theorem dX9_unsigned_88 : decode cX9_unsigned 88 = .ok (.iload 4, 2) := by decide +kernel
theorem dX9_unsigned_90 : decode cX9_unsigned 90 = .ok (.invokestatic 324, 3) := by decide +kernel
theorem dX9_unsigned_93 : decode cX9_unsigned 93 = .ok (.ifCond .ne 5, 3) := by decide +kernel
theorem dX9_unsigned_96 : decode cX9_unsigned 96 = .ok (.aconst_null, 1) := by decide +kernel
theorem dX9_unsigned_97 : decode cX9_unsigned 97 = .ok (.areturn, 1) := by decide +kernel
theorem dX9_unsigned_98 : decode cX9_unsigned 98 = .ok (.aload_n 0, 1) := by decide +kernel
theorem dX9_unsigned_99 : decode cX9_unsigned 99 = .ok (.aload_n 1, 1) := by decide +kernel
theorem dX9_unsigned_100 : decode cX9_unsigned 100 = .ok (.iload_n 2, 1) := by decide +kernel
theorem dX9_unsigned_101 : decode cX9_unsigned 101 = .ok (.iload 7, 2) := by decide +kernel
theorem dX9_unsigned_103 : decode cX9_unsigned 103 = .ok (.iload 4, 2) := by decide +kernel
theorem dX9_unsigned_105 : decode cX9_unsigned 105 = .ok (.invokevirtual 332, 3) := by decide +kernel
theorem dX9_unsigned_108 : decode cX9_unsigned 108 = .ok (.astore 9, 2) := by decide +kernel
theorem dX9_unsigned_110 : decode cX9_unsigned 110 = .ok (.iload 8, 2) := by decide +kernel
theorem dX9_unsigned_112 : decode cX9_unsigned 112 = .ok (.ifCond .eq 18, 3) := by decide +kernel
theorem dX9_unsigned_115 : decode cX9_unsigned 115 = .ok (.aload_n 0, 1) := by decide +kernel
theorem dX9_unsigned_116 : decode cX9_unsigned 116 = .ok (.aload_n 1, 1) := by decide +kernel
theorem dX9_unsigned_117 : decode cX9_unsigned 117 = .ok (.iload 7, 2) := by decide +kernel
theorem dX9_unsigned_119 : decode cX9_unsigned 119 = .ok (.iconst 1, 1) := by decide +kernel
theorem dX9_unsigned_120 : decode cX9_unsigned 120 = .ok (.iadd, 1) := by decide +kernel
theorem dX9_unsigned_121 : decode cX9_unsigned 121 = .ok (.iload_n 3, 1) := by decide +kernel
theorem dX9_unsigned_122 : decode cX9_unsigned 122 = .ok (.iload 4, 2) := by decide +kernel
theorem dX9_unsigned_124 : decode cX9_unsigned 124 = .ok (.invokevirtual 332, 3) := by decide +kernel
theorem dX9_unsigned_127 : decode cX9_unsigned 127 = .ok (.goto 7, 3) := by decide +kernel
theorem dX9_unsigned_130 : decode cX9_unsigned 130 = .ok (.lconst 1, 1) := by decide +kernel
theorem dX9_unsigned_131 : decode cX9_unsigned 131 = .ok (.invokestatic 163, 3) := by decide +kernel
theorem dX9_unsigned_134 : decode cX9_unsigned 134 = .ok (.astore 10, 2) := by decide +kernel
theorem dX9_unsigned_136 : decode cX9_unsigned 136 = .ok (.aload 10, 2) := by decide +kernel
theorem dX9_unsigned_138 : decode cX9_unsigned 138 = .ok (.invokevirtual 100, 3) := by decide +kernel
theorem dX9_unsigned_141 : decode cX9_unsigned 141 = .ok (.ifCond .eq 5, 3) := by decide +kernel
theorem dX9_unsigned_144 : decode cX9_unsigned 144 = .ok (.aconst_null, 1) := by decide +kernel
theorem dX9_unsigned_145 : decode cX9_unsigned 145 = .ok (.areturn, 1) := by decide +kernel
theorem dX9_unsigned_146 : decode cX9_unsigned 146 = .ok (.iload 5, 2) := by decide +kernel
theorem dX9_unsigned_148 : decode cX9_unsigned 148 = .ok (.bipush 105, 2) := by decide +kernel
theorem dX9_unsigned_150 : decode cX9_unsigned 150 = .ok (.if_icmp .ne 30, 3) := by decide +kernel
theorem dX9_unsigned_153 : decode cX9_unsigned 153 = .ok (.aload_n 0, 1) := by decide +kernel
theorem dX9_unsigned_154 : decode cX9_unsigned 154 = .ok (.aload 9, 2) := by decide +kernel
theorem dX9_unsigned_156 : decode cX9_unsigned 156 = .ok (.aload 10, 2) := by decide +kernel
theorem dX9_unsigned_158 : decode cX9_unsigned 158 = .ok (.invokevirtual 212, 3) := by decide +kernel
theorem dX9_unsigned_161 : decode cX9_unsigned 161 = .ok (.dstore 11, 2) := by decide +kernel
theorem dX9_unsigned_163 : decode cX9_unsigned 163 = .ok (.iload 6, 2) := by decide +kernel
theorem dX9_unsigned_165 : decode cX9_unsigned 165 = .ok (.ifCond .eq 9, 3) := by decide +kernel
theorem dX9_unsigned_168 : decode cX9_unsigned 168 = .ok (.dload 11, 2) := by decide +kernel
theorem dX9_unsigned_170 : decode cX9_unsigned 170 = .ok (.dneg, 1) := by decide +kernel
theorem dX9_unsigned_171 : decode cX9_unsigned 171 = .ok (.goto 5, 3) := by decide +kernel
theorem dX9_unsigned_174 : decode cX9_unsigned 174 = .ok (.dload 11, 2) := by decide +kernel
theorem dX9_unsigned_176 : decode cX9_unsigned 176 = .ok (.invokestatic 238, 3) := by decide +kernel
theorem dX9_unsigned_179 : decode cX9_unsigned 179 = .ok (.areturn, 1) := by decide +kernel
theorem dX9_unsigned_180 : decode cX9_unsigned 180 = .ok (.aload_n 0, 1) := by decide +kernel
theorem dX9_unsigned_181 : decode cX9_unsigned 181 = .ok (.aload 9, 2) := by decide +kernel
theorem dX9_unsigned_183 : decode cX9_unsigned 183 = .ok (.getfield 104, 3) := by decide +kernel
theorem dX9_unsigned_186 : decode cX9_unsigned 186 = .ok (.aload 9, 2) := by decide +kernel
theorem dX9_unsigned_188 : decode cX9_unsigned 188 = .ok (.getfield 104, 3) := by decide +kernel
theorem dX9_unsigned_191 : decode cX9_unsigned 191 = .ok (.arraylength, 1) := by decide +kernel
theorem dX9_unsigned_192 : decode cX9_unsigned 192 = .ok (.aload 10, 2) := by decide +kernel
theorem dX9_unsigned_194 : decode cX9_unsigned 194 = .ok (.getfield 104, 3) := by decide +kernel
theorem dX9_unsigned_197 : decode cX9_unsigned 197 = .ok (.aload 10, 2) := by decide +kernel
theorem dX9_unsigned_199 : decode cX9_unsigned 199 = .ok (.getfield 104, 3) := by decide +kernel
theorem dX9_unsigned_202 : decode cX9_unsigned 202 = .ok (.arraylength, 1) := by decide +kernel
theorem dX9_unsigned_203 : decode cX9_unsigned 203 = .ok (.invokevirtual 335, 3) := by decide +kernel
theorem dX9_unsigned_206 : decode cX9_unsigned 206 = .ok (.astore 11, 2) := by decide +kernel
theorem dX9_unsigned_208 : decode cX9_unsigned 208 = .ok (.aload 11, 2) := by decide +kernel
theorem dX9_unsigned_210 : decode cX9_unsigned 210 = .ok (.ifnull 16, 3) := by decide +kernel
theorem dX9_unsigned_213 : decode cX9_unsigned 213 = .ok (.iload 6, 2) := by decide +kernel
theorem dX9_unsigned_215 : decode cX9_unsigned 215 = .ok (.ifCond .eq 11, 3) := by decide +kernel
theorem dX9_unsigned_218 : decode cX9_unsigned 218 = .ok (.aload 11, 2) := by decide +kernel
theorem dX9_unsigned_220 : decode cX9_unsigned 220 = .ok (.invokestatic 339, 3) := by decide +kernel
theorem dX9_unsigned_223 : decode cX9_unsigned 223 = .ok (.goto 5, 3) := by decide +kernel
theorem dX9_unsigned_226 : decode cX9_unsigned 226 = .ok (.aload 11, 2) := by decide +kernel
theorem dX9_unsigned_228 : decode cX9_unsigned 228 = .ok (.areturn, 1) := by decide +kernel
theorem dX9_decimal_0 : decode cX9_decimal 0 = .ok (.iload_n 2, 1) := by decide +kernel
theorem dX9_decimal_1 : decode cX9_decimal 1 = .ok (.istore 6, 2) := by decide +kernel
theorem dX9_decimal_3 : decode cX9_decimal 3 = .ok (.iconst (-1), 1) := by decide +kernel
theorem dX9_decimal_4 : decode cX9_decimal 4 = .ok (.istore 7, 2) := by decide +kernel
theorem dX9_decimal_6 : decode cX9_decimal 6 = .ok (.iconst 0, 1) := by decide +kernel
theorem dX9_decimal_7 : decode cX9_decimal 7 = .ok (.istore 8, 2) := by decide +kernel
theorem dX9_decimal_9 : decode cX9_decimal 9 = .ok (.iload 6, 2) := by decide +kernel
theorem dX9_decimal_11 : decode cX9_decimal 11 = .ok (.iload_n 3, 1) := by decide +kernel
theorem dX9_decimal_12 : decode cX9_decimal 12 = .ok (.if_icmp .ge 65, 3) := by decide +kernel
theorem dX9_decimal_15 : decode cX9_decimal 15 = .ok (.aload_n 1, 1) := by decide +kernel
theorem dX9_decimal_16 : decode cX9_decimal 16 = .ok (.iload 6, 2) := by decide +kernel
theorem dX9_decimal_18 : decode cX9_decimal 18 = .ok (.iaload, 1) := by decide +kernel
theorem dX9_decimal_19 : decode cX9_decimal 19 = .ok (.bipush 101, 2) := by decide +kernel
theorem dX9_decimal_21 : decode cX9_decimal 21 = .ok (.if_icmp .eq 56, 3) := by decide +kernel
theorem dX9_decimal_24 : decode cX9_decimal 24 = .ok (.aload_n 1, 1) := by decide +kernel
theorem dX9_decimal_25 : decode cX9_decimal 25 = .ok (.iload 6, 2) := by decide +kernel
theorem dX9_decimal_27 : decode cX9_decimal 27 = .ok (.iaload, 1) := by decide +kernel
theorem dX9_decimal_28 : decode cX9_decimal 28 = .ok (.bipush 69, 2) := by decide +kernel
theorem dX9_decimal_30 : decode cX9_decimal 30 = .ok (.if_icmp .eq 47, 3) := by decide +kernel
theorem dX9_decimal_33 : decode cX9_decimal 33 = .ok (.aload_n 1, 1) := by decide +kernel
theorem dX9_decimal_34 : decode cX9_decimal 34 = .ok (.iload 6, 2) := by decide +kernel
theorem dX9_decimal_36 : decode cX9_decimal 36 = .ok (.iaload, 1) := by decide +kernel
theorem dX9_decimal_37 : decode cX9_decimal 37 = .ok (.bipush 46, 2) := by decide +kernel
theorem dX9_decimal_39 : decode cX9_decimal 39 = .ok (.if_icmp .ne 15, 3) := by decide +kernel
theorem dX9_decimal_42 : decode cX9_decimal 42 = .ok (.iload 7, 2) := by decide +kernel
theorem dX9_decimal_44 : decode cX9_decimal 44 = .ok (.ifCond .ge 10, 3) := by decide +kernel
theorem dX9_decimal_47 : decode cX9_decimal 47 = .ok (.iload 6, 2) := by decide +kernel
theorem dX9_decimal_49 : decode cX9_decimal 49 = .ok (.istore 7, 2) := by decide +kernel
theorem dX9_decimal_51 : decode cX9_decimal 51 = .ok (.goto 20, 3) := by decide +kernel
theorem dX9_decimal_54 : decode cX9_decimal 54 = .ok (.aload_n 1, 1) := by decide +kernel
theorem dX9_decimal_55 : decode cX9_decimal 55 = .ok (.iload 6, 2) := by decide +kernel
theorem dX9_decimal_57 : decode cX9_decimal 57 = .ok (.iaload, 1) := by decide +kernel
theorem dX9_decimal_58 : decode cX9_decimal 58 = .ok (.bipush 10, 2) := by decide +kernel
theorem dX9_decimal_60 : decode cX9_decimal 60 = .ok (.invokestatic 309, 3) := by decide +kernel
theorem dX9_decimal_63 : decode cX9_decimal 63 = .ok (.ifCond .ge 5, 3) := by decide +kernel
theorem dX9_decimal_66 : decode cX9_decimal 66 = .ok (.aconst_null, 1) := by decide +kernel
theorem dX9_decimal_67 : decode cX9_decimal 67 = .ok (.areturn, 1) := by decide +kernel
theorem dX9_decimal_68 : decode cX9_decimal 68 = .ok (.iinc 8 1, 3) := by decide +kernel
theorem dX9_decimal_71 : decode cX9_decimal 71 = .ok (.iinc 6 1, 3) := by decide +kernel
theorem dX9_decimal_74 : decode cX9_decimal 74 = .ok (.goto (-65), 3) := by decide +kernel
theorem dX9_decimal_77 : decode cX9_decimal 77 = .ok (.iload 8, 2) := by decide +kernel
theorem dX9_decimal_79 : decode cX9_decimal 79 = .ok (.ifCond .ne 5, 3) := by decide +kernel
theorem dX9_decimal_82 : decode cX9_decimal 82 = .ok (.aconst_null, 1) := by decide +kernel
theorem dX9_decimal_83 : decode cX9_decimal 83 = .ok (.areturn, 1) := by decide +kernel
theorem dX9_decimal_84 : decode cX9_decimal 84 = .ok (.iconst 0, 1) := by decide +kernel
theorem dX9_decimal_85 : decode cX9_decimal 85 = .ok (.istore 9, 2) := by decide +kernel
theorem dX9_decimal_87 : decode cX9_decimal 87 = .ok (.iload 6, 2) := by decide +kernel
theorem dX9_decimal_89 : decode cX9_decimal 89 = .ok (.iload_n 3, 1) := by decide +kernel
theorem dX9_decimal_90 : decode cX9_decimal 90 = .ok (.if_icmp .ge 132, 3) := by decide +kernel
theorem dX9_decimal_93 : decode cX9_decimal 93 = .ok (.iload 6, 2) := by decide +kernel
theorem dX9_decimal_95 : decode cX9_decimal 95 = .ok (.iconst 1, 1) := by decide +kernel
theorem dX9_decimal_96 : decode cX9_decimal 96 = .ok (.iadd, 1) := by decide +kernel
theorem dX9_decimal_97 : decode cX9_decimal 97 = .ok (.iload_n 3, 1) := by decide +kernel
theorem dX9_decimal_98 : decode cX9_decimal 98 = .ok (.if_icmp .ge 29, 3) := by decide +kernel
theorem dX9_decimal_101 : decode cX9_decimal 101 = .ok (.aload_n 1, 1) := by decide +kernel
theorem dX9_decimal_102 : decode cX9_decimal 102 = .ok (.iload 6, 2) := by decide +kernel
theorem dX9_decimal_104 : decode cX9_decimal 104 = .ok (.iconst 1, 1) := by decide +kernel
theorem dX9_decimal_105 : decode cX9_decimal 105 = .ok (.iadd, 1) := by decide +kernel
theorem dX9_decimal_106 : decode cX9_decimal 106 = .ok (.iaload, 1) := by decide +kernel
theorem dX9_decimal_107 : decode cX9_decimal 107 = .ok (.bipush 43, 2) := by decide +kernel
theorem dX9_decimal_109 : decode cX9_decimal 109 = .ok (.if_icmp .eq 14, 3) := by decide +kernel
theorem dX9_decimal_112 : decode cX9_decimal 112 = .ok (.aload_n 1, 1) := by decide +kernel
theorem dX9_decimal_113 : decode cX9_decimal 113 = .ok (.iload 6, 2) := by decide +kernel
theorem dX9_decimal_115 : decode cX9_decimal 115 = .ok (.iconst 1, 1) := by decide +kernel
theorem dX9_decimal_116 : decode cX9_decimal 116 = .ok (.iadd, 1) := by decide +kernel
theorem dX9_decimal_117 : decode cX9_decimal 117 = .ok (.iaload, 1) := by decide +kernel
theorem dX9_decimal_118 : decode cX9_decimal 118 = .ok (.bipush 45, 2) := by decide +kernel
theorem dX9_decimal_120 : decode cX9_decimal 120 = .ok (.if_icmp .ne 7, 3) := by decide +kernel
theorem dX9_decimal_123 : decode cX9_decimal 123 = .ok (.iconst 1, 1) := by decide +kernel
theorem dX9_decimal_124 : decode cX9_decimal 124 = .ok (.goto 4, 3) := by decide +kernel
theorem dX9_decimal_127 : decode cX9_decimal 127 = .ok (.iconst 0, 1) := by decide +kernel
theorem dX9_decimal_128 : decode cX9_decimal 128 = .ok (.istore 10, 2) := by decide +kernel
theorem dX9_decimal_130 : decode cX9_decimal 130 = .ok (.iload 10, 2) := by decide +kernel
theorem dX9_decimal_132 : decode cX9_decimal 132 = .ok (.ifCond .eq 10, 3) := by decide +kernel
theorem dX9_decimal_135 : decode cX9_decimal 135 = .ok (.iload 6, 2) := by decide +kernel
theorem dX9_decimal_137 : decode cX9_decimal 137 = .ok (.iconst 2, 1) := by decide +kernel
theorem dX9_decimal_138 : decode cX9_decimal 138 = .ok (.iadd, 1) := by decide +kernel
theorem dX9_decimal_139 : decode cX9_decimal 139 = .ok (.goto 7, 3) := by decide +kernel
theorem dX9_decimal_142 : decode cX9_decimal 142 = .ok (.iload 6, 2) := by decide +kernel
theorem dX9_decimal_144 : decode cX9_decimal 144 = .ok (.iconst 1, 1) := by decide +kernel
theorem dX9_decimal_145 : decode cX9_decimal 145 = .ok (.iadd, 1) := by decide +kernel
theorem dX9_decimal_146 : decode cX9_decimal 146 = .ok (.istore 11, 2) := by decide +kernel
theorem dX9_decimal_148 : decode cX9_decimal 148 = .ok (.aload_n 1, 1) := by decide +kernel
theorem dX9_decimal_149 : decode cX9_decimal 149 = .ok (.iload 11, 2) := by decide +kernel
theorem dX9_decimal_151 : decode cX9_decimal 151 = .ok (.iload_n 3, 1) := by decide +kernel
theorem dX9_decimal_152 : decode cX9_decimal 152 = .ok (.bipush 10, 2) := by decide +kernel
theorem dX9_decimal_154 : decode cX9_decimal 154 = .ok (.invokestatic 324, 3) := by decide +kernel
theorem dX9_decimal_157 : decode cX9_decimal 157 = .ok (.ifCond .eq 11, 3) := by decide +kernel
theorem dX9_decimal_160 : decode cX9_decimal 160 = .ok (.iload_n 3, 1) := by decide +kernel
theorem dX9_decimal_161 : decode cX9_decimal 161 = .ok (.iload 11, 2) := by decide +kernel
theorem dX9_decimal_163 : decode cX9_decimal 163 = .ok (.isub, 1) := by decide +kernel
theorem dX9_decimal_164 : decode cX9_decimal 164 = .ok (.iconst 4, 1) := by decide +kernel
theorem dX9_decimal_165 : decode cX9_decimal 165 = .ok (.if_icmp .le 5, 3) := by decide +kernel
theorem dX9_decimal_168 : decode cX9_decimal 168 = .ok (.aconst_null, 1) := by decide +kernel
theorem dX9_decimal_169 : decode cX9_decimal 169 = .ok (.areturn, 1) := by decide +kernel
theorem dX9_decimal_170 : decode cX9_decimal 170 = .ok (.iload 11, 2) := by decide +kernel
theorem dX9_decimal_172 : decode cX9_decimal 172 = .ok (.istore 12, 2) := by decide +kernel
theorem dX9_decimal_174 : decode cX9_decimal 174 = .ok (.iload 12, 2) := by decide +kernel
theorem dX9_decimal_176 : decode cX9_decimal 176 = .ok (.iload_n 3, 1) := by decide +kernel
theorem dX9_decimal_177 : decode cX9_decimal 177 = .ok (.if_icmp .ge 24, 3) := by decide +kernel
theorem dX9_decimal_180 : decode cX9_decimal 180 = .ok (.bipush 10, 2) := by decide +kernel
theorem dX9_decimal_182 : decode cX9_decimal 182 = .ok (.iload 9, 2) := by decide +kernel
theorem dX9_decimal_184 : decode cX9_decimal 184 = .ok (.imul, 1) := by decide +kernel
theorem dX9_decimal_185 : decode cX9_decimal 185 = .ok (.aload_n 1, 1) := by decide +kernel
theorem dX9_decimal_186 : decode cX9_decimal 186 = .ok (.iload 12, 2) := by decide +kernel
theorem dX9_decimal_188 : decode cX9_decimal 188 = .ok (.iaload, 1) := by decide +kernel
theorem dX9_decimal_189 : decode cX9_decimal 189 = .ok (.iadd, 1) := by decide +kernel
theorem dX9_decimal_190 : decode cX9_decimal 190 = .ok (.bipush 48, 2) := by decide +kernel
theorem dX9_decimal_192 : decode cX9_decimal 192 = .ok (.isub, 1) := by decide +kernel
theorem dX9_decimal_193 : decode cX9_decimal 193 = .ok (.istore 9, 2) := by decide +kernel
theorem dX9_decimal_195 : decode cX9_decimal 195 = .ok (.iinc 12 1, 3) := by decide +kernel
theorem dX9_decimal_198 : decode cX9_decimal 198 = .ok (.goto (-24), 3) := by decide +kernel
theorem dX9_decimal_201 : decode cX9_decimal 201 = .ok (.iload 10, 2) := by decide +kernel
theorem dX9_decimal_203 : decode cX9_decimal 203 = .ok (.ifCond .eq 19, 3) := by decide +kernel
theorem dX9_decimal_206 : decode cX9_decimal 206 = .ok (.aload_n 1, 1) := by decide +kernel
theorem dX9_decimal_207 : decode cX9_decimal 207 = .ok (.iload 6, 2) := by decide +kernel
theorem dX9_decimal_209 : decode cX9_decimal 209 = .ok (.iconst 1, 1) := by decide +kernel
theorem dX9_decimal_210 : decode cX9_decimal 210 = .ok (.iadd, 1) := by decide +kernel
theorem dX9_decimal_211 : decode cX9_decimal 211 = .ok (.iaload, 1) := by decide +kernel
theorem dX9_decimal_212 : decode cX9_decimal 212 = .ok (.bipush 45, 2) := by decide +kernel
theorem dX9_decimal_214 : decode cX9_decimal 214 = .ok (.if_icmp .ne 8, 3) := by decide +kernel
theorem dX9_decimal_217 : decode cX9_decimal 217 = .ok (.iload 9, 2) := by decide +kernel
theorem dX9_decimal_219 : decode cX9_decimal 219 = .ok (.ineg, 1) := by decide +kernel
theorem dX9_decimal_220 : decode cX9_decimal 220 = .ok (.istore 9, 2) := by decide +kernel
theorem dX9_decimal_222 : decode cX9_decimal 222 = .ok (.iload_n 2, 1) := by decide +kernel
theorem dX9_decimal_223 : decode cX9_decimal 223 = .ok (.istore 10, 2) := by decide +kernel
theorem dX9_decimal_225 : decode cX9_decimal 225 = .ok (.iload 10, 2) := by decide +kernel
theorem dX9_decimal_227 : decode cX9_decimal 227 = .ok (.iload 6, 2) := by decide +kernel
theorem dX9_decimal_229 : decode cX9_decimal 229 = .ok (.if_icmp .ge 27, 3) := by decide +kernel
theorem dX9_decimal_232 : decode cX9_decimal 232 = .ok (.aload_n 1, 1) := by decide +kernel
theorem dX9_decimal_233 : decode cX9_decimal 233 = .ok (.iload 10, 2) := by decide +kernel
theorem dX9_decimal_235 : decode cX9_decimal 235 = .ok (.iaload, 1) := by decide +kernel
theorem dX9_decimal_236 : decode cX9_decimal 236 = .ok (.bipush 48, 2) := by decide +kernel
theorem dX9_decimal_238 : decode cX9_decimal 238 = .ok (.if_icmp .eq 12, 3) := by decide +kernel
theorem dX9_decimal_241 : decode cX9_decimal 241 = .ok (.aload_n 1, 1) := by decide +kernel
theorem dX9_decimal_242 : decode cX9_decimal 242 = .ok (.iload 10, 2) := by decide +kernel
theorem dX9_decimal_244 : decode cX9_decimal 244 = .ok (.iaload, 1) := by decide +kernel
theorem dX9_decimal_245 : decode cX9_decimal 245 = .ok (.bipush 46, 2) := by decide +kernel
theorem dX9_decimal_247 : decode cX9_decimal 247 = .ok (.if_icmp .ne 9, 3) := by decide +kernel
theorem dX9_decimal_250 : decode cX9_decimal 250 = .ok (.iinc 10 1, 3) := by decide +kernel
theorem dX9_decimal_253 : decode cX9_decimal 253 = .ok (.goto (-28), 3) := by decide +kernel
theorem dX9_decimal_256 : decode cX9_decimal 256 = .ok (.iload 6, 2) := by decide +kernel
theorem dX9_decimal_258 : decode cX9_decimal 258 = .ok (.istore 11, 2) := by decide +kernel
theorem dX9_decimal_260 : decode cX9_decimal 260 = .ok (.iload 11, 2) := by decide +kernel
theorem dX9_decimal_262 : decode cX9_decimal 262 = .ok (.iload 10, 2) := by decide +kernel
theorem dX9_decimal_264 : decode cX9_decimal 264 = .ok (.if_icmp .le 31, 3) := by decide +kernel
theorem dX9_decimal_267 : decode cX9_decimal 267 = .ok (.aload_n 1, 1) := by decide +kernel
theorem dX9_decimal_268 : decode cX9_decimal 268 = .ok (.iload 11, 2) := by decide +kernel
theorem dX9_decimal_270 : decode cX9_decimal 270 = .ok (.iconst 1, 1) := by decide +kernel
theorem dX9_decimal_271 : decode cX9_decimal 271 = .ok (.isub, 1) := by decide +kernel
theorem dX9_decimal_272 : decode cX9_decimal 272 = .ok (.iaload, 1) := by decide +kernel
theorem dX9_decimal_273 : decode cX9_decimal 273 = .ok (.bipush 48, 2) := by decide +kernel
theorem dX9_decimal_275 : decode cX9_decimal 275 = .ok (.if_icmp .eq 14, 3) := by decide +kernel
theorem dX9_decimal_278 : decode cX9_decimal 278 = .ok (.aload_n 1, 1) := by decide +kernel
theorem dX9_decimal_279 : decode cX9_decimal 279 = .ok (.iload 11, 2) := by decide +kernel
theorem dX9_decimal_281 : decode cX9_decimal 281 = .ok (.iconst 1, 1) := by decide +kernel
theorem dX9_decimal_282 : decode cX9_decimal 282 = .ok (.isub, 1) := by decide +kernel
theorem dX9_decimal_283 : decode cX9_decimal 283 = .ok (.iaload, 1) := by decide +kernel
theorem dX9_decimal_284 : decode cX9_decimal 284 = .ok (.bipush 46, 2) := by decide +kernel
theorem dX9_decimal_286 : decode cX9_decimal 286 = .ok (.if_icmp .ne 9, 3) := by decide +kernel
theorem dX9_decimal_289 : decode cX9_decimal 289 = .ok (.iinc 11 (-1), 3) := by decide +kernel
theorem dX9_decimal_292 : decode cX9_decimal 292 = .ok (.goto (-32), 3) := by decide +kernel
theorem dX9_decimal_295 : decode cX9_decimal 295 = .ok (.iload 7, 2) := by decide +kernel
theorem dX9_decimal_297 : decode cX9_decimal 297 = .ok (.ifCond .ge 8, 3) := by decide +kernel
theorem dX9_decimal_300 : decode cX9_decimal 300 = .ok (.iload 6, 2) := by decide +kernel
theorem dX9_decimal_302 : decode cX9_decimal 302 = .ok (.goto 5, 3) := by decide +kernel
theorem dX9_decimal_305 : decode cX9_decimal 305 = .ok (.iload 7, 2) := by decide +kernel
theorem dX9_decimal_307 : decode cX9_decimal 307 = .ok (.istore 12, 2) := by decide +kernel
theorem dX9_decimal_309 : decode cX9_decimal 309 = .ok (.iload 9, 2) := by decide +kernel
theorem dX9_decimal_311 : decode cX9_decimal 311 = .ok (.iload 11, 2) := by decide +kernel
theorem dX9_decimal_313 : decode cX9_decimal 313 = .ok (.iload 12, 2) := by decide +kernel
theorem dX9_decimal_315 : decode cX9_decimal 315 = .ok (.if_icmp .gt 11, 3) := by decide +kernel
theorem dX9_decimal_318 : decode cX9_decimal 318 = .ok (.iload 12, 2) := by decide +kernel
theorem dX9_decimal_320 : decode cX9_decimal 320 = .ok (.iload 11, 2) := by decide +kernel
theorem dX9_decimal_322 : decode cX9_decimal 322 = .ok (.isub, 1) := by decide +kernel
theorem dX9_decimal_323 : decode cX9_decimal 323 = .ok (.goto 10, 3) := by decide +kernel
theorem dX9_decimal_326 : decode cX9_decimal 326 = .ok (.iload 12, 2) := by decide +kernel
theorem dX9_decimal_328 : decode cX9_decimal 328 = .ok (.iconst 1, 1) := by decide +kernel
theorem dX9_decimal_329 : decode cX9_decimal 329 = .ok (.iadd, 1) := by decide +kernel
theorem dX9_decimal_330 : decode cX9_decimal 330 = .ok (.iload 11, 2) := by decide +kernel
theorem dX9_decimal_332 : decode cX9_decimal 332 = .ok (.isub, 1) := by decide +kernel
theorem dX9_decimal_333 : decode cX9_decimal 333 = .ok (.iadd, 1) := by decide +kernel
theorem dX9_decimal_334 : decode cX9_decimal 334 = .ok (.istore 13, 2) := by decide +kernel
theorem dX9_decimal_336 : decode cX9_decimal 336 = .ok (.iload 11, 2) := by decide +kernel
theorem dX9_decimal_338 : decode cX9_decimal 338 = .ok (.iload 10, 2) := by decide +kernel
theorem dX9_decimal_340 : decode cX9_decimal 340 = .ok (.isub, 1) := by decide +kernel
theorem dX9_decimal_341 : decode cX9_decimal 341 = .ok (.iload 7, 2) := by decide +kernel
theorem dX9_decimal_343 : decode cX9_decimal 343 = .ok (.iload 10, 2) := by decide +kernel
theorem dX9_decimal_345 : decode cX9_decimal 345 = .ok (.if_icmp .lt 14, 3) := by decide +kernel
theorem dX9_decimal_348 : decode cX9_decimal 348 = .ok (.iload 7, 2) := by decide +kernel
theorem dX9_decimal_350 : decode cX9_decimal 350 = .ok (.iload 11, 2) := by decide +kernel
theorem dX9_decimal_352 : decode cX9_decimal 352 = .ok (.if_icmp .ge 7, 3) := by decide +kernel
theorem dX9_decimal_355 : decode cX9_decimal 355 = .ok (.iconst 1, 1) := by decide +kernel
theorem dX9_decimal_356 : decode cX9_decimal 356 = .ok (.goto 4, 3) := by decide +kernel
theorem dX9_decimal_359 : decode cX9_decimal 359 = .ok (.iconst 0, 1) := by decide +kernel
theorem dX9_decimal_360 : decode cX9_decimal 360 = .ok (.isub, 1) := by decide +kernel
theorem dX9_decimal_361 : decode cX9_decimal 361 = .ok (.istore 14, 2) := by decide +kernel
theorem dX9_decimal_363 : decode cX9_decimal 363 = .ok (.iload 14, 2) := by decide +kernel
theorem dX9_decimal_365 : decode cX9_decimal 365 = .ok (.ifCond .ne 32, 3) := by decide +kernel
theorem dX9_decimal_368 : decode cX9_decimal 368 = .ok (.iload 4, 2) := by decide +kernel
theorem dX9_decimal_370 : decode cX9_decimal 370 = .ok (.bipush 101, 2) := by decide +kernel
theorem dX9_decimal_372 : decode cX9_decimal 372 = .ok (.if_icmp .ne 9, 3) := by decide +kernel
theorem dX9_decimal_375 : decode cX9_decimal 375 = .ok (.invokestatic 7, 3) := by decide +kernel
theorem dX9_decimal_378 : decode cX9_decimal 378 = .ok (.goto 18, 3) := by decide +kernel
theorem dX9_decimal_381 : decode cX9_decimal 381 = .ok (.iload 5, 2) := by decide +kernel
theorem dX9_decimal_383 : decode cX9_decimal 383 = .ok (.ifCond .eq 9, 3) := by decide +kernel
theorem dX9_decimal_386 : decode cX9_decimal 386 = .ok (.ldc2_w 343, 3) := by decide +kernel
theorem dX9_decimal_389 : decode cX9_decimal 389 = .ok (.goto 4, 3) := by decide +kernel
theorem dX9_decimal_392 : decode cX9_decimal 392 = .ok (.dconst 0, 1) := by decide +kernel
theorem dX9_decimal_393 : decode cX9_decimal 393 = .ok (.invokestatic 238, 3) := by decide +kernel
theorem dX9_decimal_396 : decode cX9_decimal 396 = .ok (.areturn, 1) := by decide +kernel
theorem dX9_decimal_397 : decode cX9_decimal 397 = .ok (.iload 4, 2) := by decide +kernel
theorem dX9_decimal_399 : decode cX9_decimal 399 = .ok (.bipush 101, 2) := by decide +kernel
theorem dX9_decimal_401 : decode cX9_decimal 401 = .ok (.if_icmp .eq 59, 3) := by decide +kernel
theorem dX9_decimal_404 : decode cX9_decimal 404 = .ok (.iload 14, 2) := by decide +kernel
theorem dX9_decimal_406 : decode cX9_decimal 406 = .ok (.iload 13, 2) := by decide +kernel
theorem dX9_decimal_408 : decode cX9_decimal 408 = .ok (.iadd, 1) := by decide +kernel
theorem dX9_decimal_409 : decode cX9_decimal 409 = .ok (.sipush 330, 3) := by decide +kernel
theorem dX9_decimal_412 : decode cX9_decimal 412 = .ok (.if_icmp .le 21, 3) := by decide +kernel
theorem dX9_decimal_415 : decode cX9_decimal 415 = .ok (.iload 5, 2) := by decide +kernel
theorem dX9_decimal_417 : decode cX9_decimal 417 = .ok (.ifCond .eq 9, 3) := by decide +kernel
theorem dX9_decimal_420 : decode cX9_decimal 420 = .ok (.ldc2_w 318, 3) := by decide +kernel
theorem dX9_decimal_423 : decode cX9_decimal 423 = .ok (.goto 6, 3) := by decide +kernel
theorem dX9_decimal_426 : decode cX9_decimal 426 = .ok (.ldc2_w 117, 3) := by decide +kernel
theorem dX9_decimal_429 : decode cX9_decimal 429 = .ok (.invokestatic 238, 3) := by decide +kernel
theorem dX9_decimal_432 : decode cX9_decimal 432 = .ok (.areturn, 1) := by decide +kernel
theorem dX9_decimal_433 : decode cX9_decimal 433 = .ok (.iload 14, 2) := by decide +kernel
theorem dX9_decimal_435 : decode cX9_decimal 435 = .ok (.iload 13, 2) := by decide +kernel
theorem dX9_decimal_437 : decode cX9_decimal 437 = .ok (.iadd, 1) := by decide +kernel
theorem dX9_decimal_438 : decode cX9_decimal 438 = .ok (.sipush (-350), 3) := by decide +kernel
theorem dX9_decimal_441 : decode cX9_decimal 441 = .ok (.if_icmp .ge 43, 3) := by decide +kernel
theorem dX9_decimal_444 : decode cX9_decimal 444 = .ok (.iload 5, 2) := by decide +kernel
theorem dX9_decimal_446 : decode cX9_decimal 446 = .ok (.ifCond .eq 9, 3) := by decide +kernel
theorem dX9_decimal_449 : decode cX9_decimal 449 = .ok (.ldc2_w 343, 3) := by decide +kernel
theorem dX9_decimal_452 : decode cX9_decimal 452 = .ok (.goto 4, 3) := by decide +kernel
theorem dX9_decimal_455 : decode cX9_decimal 455 = .ok (.dconst 0, 1) := by decide +kernel
theorem dX9_decimal_456 : decode cX9_decimal 456 = .ok (.invokestatic 238, 3) := by decide +kernel
theorem dX9_decimal_459 : decode cX9_decimal 459 = .ok (.areturn, 1) := by decide +kernel
theorem dX9_decimal_460 : decode cX9_decimal 460 = .ok (.iload 14, 2) := by decide +kernel
theorem dX9_decimal_462 : decode cX9_decimal 462 = .ok (.iload 13, 2) := by decide +kernel
theorem dX9_decimal_464 : decode cX9_decimal 464 = .ok (.iadd, 1) := by decide +kernel
theorem dX9_decimal_465 : decode cX9_decimal 465 = .ok (.sipush 1300, 3) := by decide +kernel
theorem dX9_decimal_468 : decode cX9_decimal 468 = .ok (.if_icmp .gt 14, 3) := by decide +kernel
theorem dX9_decimal_471 : decode cX9_decimal 471 = .ok (.iload 14, 2) := by decide +kernel
theorem dX9_decimal_473 : decode cX9_decimal 473 = .ok (.iload 13, 2) := by decide +kernel
theorem dX9_decimal_475 : decode cX9_decimal 475 = .ok (.iadd, 1) := by decide +kernel
theorem dX9_decimal_476 : decode cX9_decimal 476 = .ok (.sipush (-1300), 3) := by decide +kernel
theorem dX9_decimal_479 : decode cX9_decimal 479 = .ok (.if_icmp .ge 5, 3) := by decide +kernel
theorem dX9_decimal_482 : decode cX9_decimal 482 = .ok (.aconst_null, 1) := by decide +kernel
theorem dX9_decimal_483 : decode cX9_decimal 483 = .ok (.areturn, 1) := by decide +kernel
theorem dX9_decimal_484 : decode cX9_decimal 484 = .ok (.aload_n 0, 1) := by decide +kernel
theorem dX9_decimal_485 : decode cX9_decimal 485 = .ok (.aload_n 1, 1) := by decide +kernel
theorem dX9_decimal_486 : decode cX9_decimal 486 = .ok (.iload 10, 2) := by decide +kernel
theorem dX9_decimal_488 : decode cX9_decimal 488 = .ok (.iload 11, 2) := by decide +kernel
theorem dX9_decimal_490 : decode cX9_decimal 490 = .ok (.bipush 10, 2) := by decide +kernel
theorem dX9_decimal_492 : decode cX9_decimal 492 = .ok (.invokevirtual 332, 3) := by decide +kernel
theorem dX9_decimal_495 : decode cX9_decimal 495 = .ok (.astore 15, 2) := by decide +kernel
theorem dX9_decimal_497 : decode cX9_decimal 497 = .ok (.iload 13, 2) := by decide +kernel
theorem dX9_decimal_499 : decode cX9_decimal 499 = .ok (.ifCond .le 11, 3) := by decide +kernel
theorem dX9_decimal_502 : decode cX9_decimal 502 = .ok (.aload 15, 2) := by decide +kernel
theorem dX9_decimal_504 : decode cX9_decimal 504 = .ok (.getfield 104, 3) := by decide +kernel
theorem dX9_decimal_507 : decode cX9_decimal 507 = .ok (.goto 7, 3) := by decide +kernel
theorem dX9_decimal_510 : decode cX9_decimal 510 = .ok (.aload_n 0, 1) := by decide +kernel
theorem dX9_decimal_511 : decode cX9_decimal 511 = .ok (.getfield 125, 3) := by decide +kernel
theorem dX9_decimal_514 : decode cX9_decimal 514 = .ok (.aload_n 0, 1) := by decide +kernel
theorem dX9_decimal_515 : decode cX9_decimal 515 = .ok (.getfield 235, 3) := by decide +kernel
theorem dX9_decimal_518 : decode cX9_decimal 518 = .ok (.iload 13, 2) := by decide +kernel
theorem dX9_decimal_520 : decode cX9_decimal 520 = .ok (.ifCond .le 12, 3) := by decide +kernel
theorem dX9_decimal_523 : decode cX9_decimal 523 = .ok (.aload 15, 2) := by decide +kernel
theorem dX9_decimal_525 : decode cX9_decimal 525 = .ok (.getfield 104, 3) := by decide +kernel
theorem dX9_decimal_528 : decode cX9_decimal 528 = .ok (.arraylength, 1) := by decide +kernel
theorem dX9_decimal_529 : decode cX9_decimal 529 = .ok (.goto 4, 3) := by decide +kernel
theorem dX9_decimal_532 : decode cX9_decimal 532 = .ok (.iconst 1, 1) := by decide +kernel
theorem dX9_decimal_533 : decode cX9_decimal 533 = .ok (.invokestatic 61, 3) := by decide +kernel
theorem dX9_decimal_536 : decode cX9_decimal 536 = .ok (.aload_n 0, 1) := by decide +kernel
theorem dX9_decimal_537 : decode cX9_decimal 537 = .ok (.getfield 235, 3) := by decide +kernel
theorem dX9_decimal_540 : decode cX9_decimal 540 = .ok (.iload 13, 2) := by decide +kernel
theorem dX9_decimal_542 : decode cX9_decimal 542 = .ok (.ifCond .le 12, 3) := by decide +kernel
theorem dX9_decimal_545 : decode cX9_decimal 545 = .ok (.aload 15, 2) := by decide +kernel
theorem dX9_decimal_547 : decode cX9_decimal 547 = .ok (.getfield 104, 3) := by decide +kernel
theorem dX9_decimal_550 : decode cX9_decimal 550 = .ok (.arraylength, 1) := by decide +kernel
theorem dX9_decimal_551 : decode cX9_decimal 551 = .ok (.goto 4, 3) := by decide +kernel
theorem dX9_decimal_554 : decode cX9_decimal 554 = .ok (.iconst 1, 1) := by decide +kernel
theorem dX9_decimal_555 : decode cX9_decimal 555 = .ok (.iload 13, 2) := by decide +kernel
theorem dX9_decimal_557 : decode cX9_decimal 557 = .ok (.ifCond .le 8, 3) := by decide +kernel
theorem dX9_decimal_560 : decode cX9_decimal 560 = .ok (.iload 13, 2) := by decide +kernel
theorem dX9_decimal_562 : decode cX9_decimal 562 = .ok (.goto 6, 3) := by decide +kernel
theorem dX9_decimal_565 : decode cX9_decimal 565 = .ok (.iload 13, 2) := by decide +kernel
theorem dX9_decimal_567 : decode cX9_decimal 567 = .ok (.ineg, 1) := by decide +kernel
theorem dX9_decimal_568 : decode cX9_decimal 568 = .ok (.invokestatic 278, 3) := by decide +kernel
theorem dX9_decimal_571 : decode cX9_decimal 571 = .ok (.istore 16, 2) := by decide +kernel
theorem dX9_decimal_573 : decode cX9_decimal 573 = .ok (.iload 4, 2) := by decide +kernel
theorem dX9_decimal_575 : decode cX9_decimal 575 = .ok (.bipush 101, 2) := by decide +kernel
theorem dX9_decimal_577 : decode cX9_decimal 577 = .ok (.if_icmp .ne 65, 3) := by decide +kernel
theorem dX9_decimal_580 : decode cX9_decimal 580 = .ok (.iload 13, 2) := by decide +kernel
theorem dX9_decimal_582 : decode cX9_decimal 582 = .ok (.ifCond .le 16, 3) := by decide +kernel
theorem dX9_decimal_585 : decode cX9_decimal 585 = .ok (.aload_n 0, 1) := by decide +kernel
theorem dX9_decimal_586 : decode cX9_decimal 586 = .ok (.aload_n 0, 1) := by decide +kernel
theorem dX9_decimal_587 : decode cX9_decimal 587 = .ok (.getfield 235, 3) := by decide +kernel
theorem dX9_decimal_590 : decode cX9_decimal 590 = .ok (.iload 16, 2) := by decide +kernel
theorem dX9_decimal_592 : decode cX9_decimal 592 = .ok (.invokevirtual 177, 3) := by decide +kernel
theorem dX9_decimal_595 : decode cX9_decimal 595 = .ok (.goto 24, 3) := by decide +kernel
theorem dX9_decimal_598 : decode cX9_decimal 598 = .ok (.aload_n 0, 1) := by decide +kernel
theorem dX9_decimal_599 : decode cX9_decimal 599 = .ok (.aload 15, 2) := by decide +kernel
theorem dX9_decimal_601 : decode cX9_decimal 601 = .ok (.getfield 104, 3) := by decide +kernel
theorem dX9_decimal_604 : decode cX9_decimal 604 = .ok (.aload 15, 2) := by decide +kernel
theorem dX9_decimal_606 : decode cX9_decimal 606 = .ok (.getfield 104, 3) := by decide +kernel
theorem dX9_decimal_609 : decode cX9_decimal 609 = .ok (.arraylength, 1) := by decide +kernel
theorem dX9_decimal_610 : decode cX9_decimal 610 = .ok (.aload_n 0, 1) := by decide +kernel
theorem dX9_decimal_611 : decode cX9_decimal 611 = .ok (.getfield 235, 3) := by decide +kernel
theorem dX9_decimal_614 : decode cX9_decimal 614 = .ok (.iload 16, 2) := by decide +kernel
theorem dX9_decimal_616 : decode cX9_decimal 616 = .ok (.invokevirtual 335, 3) := by decide +kernel
theorem dX9_decimal_619 : decode cX9_decimal 619 = .ok (.astore 17, 2) := by decide +kernel
theorem dX9_decimal_621 : decode cX9_decimal 621 = .ok (.aload 17, 2) := by decide +kernel
theorem dX9_decimal_623 : decode cX9_decimal 623 = .ok (.ifnull 16, 3) := by decide +kernel
theorem dX9_decimal_626 : decode cX9_decimal 626 = .ok (.iload 5, 2) := by decide +kernel
theorem dX9_decimal_628 : decode cX9_decimal 628 = .ok (.ifCond .eq 11, 3) := by decide +kernel
theorem dX9_decimal_631 : decode cX9_decimal 631 = .ok (.aload 17, 2) := by decide +kernel
theorem dX9_decimal_633 : decode cX9_decimal 633 = .ok (.invokestatic 339, 3) := by decide +kernel
theorem dX9_decimal_636 : decode cX9_decimal 636 = .ok (.goto 5, 3) := by decide +kernel
theorem dX9_decimal_639 : decode cX9_decimal 639 = .ok (.aload 17, 2) := by decide +kernel
theorem dX9_decimal_641 : decode cX9_decimal 641 = .ok (.areturn, 1) := by decide +kernel
theorem dX9_decimal_642 : decode cX9_decimal 642 = .ok (.iload 13, 2) := by decide +kernel
theorem dX9_decimal_644 : decode cX9_decimal 644 = .ok (.ifCond .le 21, 3) := by decide +kernel
theorem dX9_decimal_647 : decode cX9_decimal 647 = .ok (.aload_n 0, 1) := by decide +kernel
theorem dX9_decimal_648 : decode cX9_decimal 648 = .ok (.aload_n 0, 1) := by decide +kernel
theorem dX9_decimal_649 : decode cX9_decimal 649 = .ok (.getfield 235, 3) := by decide +kernel
theorem dX9_decimal_652 : decode cX9_decimal 652 = .ok (.iload 16, 2) := by decide +kernel
theorem dX9_decimal_654 : decode cX9_decimal 654 = .ok (.aload_n 0, 1) := by decide +kernel
theorem dX9_decimal_655 : decode cX9_decimal 655 = .ok (.getfield 125, 3) := by decide +kernel
theorem dX9_decimal_658 : decode cX9_decimal 658 = .ok (.iconst 1, 1) := by decide +kernel
theorem dX9_decimal_659 : decode cX9_decimal 659 = .ok (.invokevirtual 223, 3) := by decide +kernel
theorem dX9_decimal_662 : decode cX9_decimal 662 = .ok (.goto 24, 3) := by decide +kernel
theorem dX9_decimal_665 : decode cX9_decimal 665 = .ok (.aload_n 0, 1) := by decide +kernel
theorem dX9_decimal_666 : decode cX9_decimal 666 = .ok (.aload 15, 2) := by decide +kernel
theorem dX9_decimal_668 : decode cX9_decimal 668 = .ok (.getfield 104, 3) := by decide +kernel
theorem dX9_decimal_671 : decode cX9_decimal 671 = .ok (.aload 15, 2) := by decide +kernel
theorem dX9_decimal_673 : decode cX9_decimal 673 = .ok (.getfield 104, 3) := by decide +kernel
theorem dX9_decimal_676 : decode cX9_decimal 676 = .ok (.arraylength, 1) := by decide +kernel
theorem dX9_decimal_677 : decode cX9_decimal 677 = .ok (.aload_n 0, 1) := by decide +kernel
theorem dX9_decimal_678 : decode cX9_decimal 678 = .ok (.getfield 235, 3) := by decide +kernel
theorem dX9_decimal_681 : decode cX9_decimal 681 = .ok (.iload 16, 2) := by decide +kernel
theorem dX9_decimal_683 : decode cX9_decimal 683 = .ok (.invokevirtual 223, 3) := by decide +kernel
theorem dX9_decimal_686 : decode cX9_decimal 686 = .ok (.dstore 17, 2) := by decide +kernel
theorem dX9_decimal_688 : decode cX9_decimal 688 = .ok (.iload 5, 2) := by decide +kernel
theorem dX9_decimal_690 : decode cX9_decimal 690 = .ok (.ifCond .eq 9, 3) := by decide +kernel
theorem dX9_decimal_693 : decode cX9_decimal 693 = .ok (.dload 17, 2) := by decide +kernel
theorem dX9_decimal_695 : decode cX9_decimal 695 = .ok (.dneg, 1) := by decide +kernel
theorem dX9_decimal_696 : decode cX9_decimal 696 = .ok (.goto 5, 3) := by decide +kernel
theorem dX9_decimal_699 : decode cX9_decimal 699 = .ok (.dload 17, 2) := by decide +kernel
theorem dX9_decimal_701 : decode cX9_decimal 701 = .ok (.invokestatic 238, 3) := by decide +kernel
theorem dX9_decimal_704 : decode cX9_decimal 704 = .ok (.areturn, 1) := by decide +kernel
theorem dX9_init_0 : decode cX9_init 0 = .ok (.aload_n 0, 1) := by decide +kernel
theorem dX9_init_1 : decode cX9_init 1 = .ok (.invokespecial 345, 3) := by decide +kernel
theorem dX9_init_4 : decode cX9_init 4 = .ok (.aload_n 0, 1) := by decide +kernel
theorem dX9_init_5 : decode cX9_init 5 = .ok (.iconst 1, 1) := by decide +kernel
theorem dX9_init_6 : decode cX9_init 6 = .ok (.newarray .int, 2) := by decide +kernel
theorem dX9_init_8 : decode cX9_init 8 = .ok (.dup, 1) := by decide +kernel
theorem dX9_init_9 : decode cX9_init 9 = .ok (.iconst 0, 1) := by decide +kernel
theorem dX9_init_10 : decode cX9_init 10 = .ok (.iconst 1, 1) := by decide +kernel
theorem dX9_init_11 : decode cX9_init 11 = .ok (.iastore, 1) := by decide +kernel
theorem dX9_init_12 : decode cX9_init 12 = .ok (.putfield 125, 3) := by decide +kernel
theorem dX9_init_15 : decode cX9_init 15 = .ok (.aload_n 0, 1) := by decide +kernel
theorem dX9_init_16 : decode cX9_init 16 = .ok (.sipush 440, 3) := by decide +kernel
theorem dX9_init_19 : decode cX9_init 19 = .ok (.newarray .int, 2) := by decide +kernel
theorem dX9_init_21 : decode cX9_init 21 = .ok (.putfield 72, 3) := by decide +kernel
theorem dX9_init_24 : decode cX9_init 24 = .ok (.aload_n 0, 1) := by decide +kernel
theorem dX9_init_25 : decode cX9_init 25 = .ok (.sipush 440, 3) := by decide +kernel
theorem dX9_init_28 : decode cX9_init 28 = .ok (.newarray .int, 2) := by decide +kernel
theorem dX9_init_30 : decode cX9_init 30 = .ok (.putfield 235, 3) := by decide +kernel
theorem dX9_init_33 : decode cX9_init 33 = .ok (.aload_n 0, 1) := by decide +kernel
theorem dX9_init_34 : decode cX9_init 34 = .ok (.sipush 440, 3) := by decide +kernel
theorem dX9_init_37 : decode cX9_init 37 = .ok (.newarray .int, 2) := by decide +kernel
theorem dX9_init_39 : decode cX9_init 39 = .ok (.putfield 54, 3) := by decide +kernel
theorem dX9_init_42 : decode cX9_init 42 = .ok (.aload_n 0, 1) := by decide +kernel
theorem dX9_init_43 : decode cX9_init 43 = .ok (.sipush 440, 3) := by decide +kernel
theorem dX9_init_46 : decode cX9_init 46 = .ok (.newarray .int, 2) := by decide +kernel
theorem dX9_init_48 : decode cX9_init 48 = .ok (.putfield 58, 3) := by decide +kernel
theorem dX9_init_51 : decode cX9_init 51 = .ok (.aload_n 0, 1) := by decide +kernel
theorem dX9_init_52 : decode cX9_init 52 = .ok (.sipush 440, 3) := by decide +kernel
theorem dX9_init_55 : decode cX9_init 55 = .ok (.newarray .int, 2) := by decide +kernel
theorem dX9_init_57 : decode cX9_init 57 = .ok (.putfield 184, 3) := by decide +kernel
theorem dX9_init_60 : decode cX9_init 60 = .ok (.aload_n 0, 1) := by decide +kernel
theorem dX9_init_61 : decode cX9_init 61 = .ok (.sipush 440, 3) := by decide +kernel
theorem dX9_init_64 : decode cX9_init 64 = .ok (.newarray .int, 2) := by decide +kernel
theorem dX9_init_66 : decode cX9_init 66 = .ok (.putfield 191, 3) := by decide +kernel
theorem dX9_init_69 : decode cX9_init 69 = .ok (.aload_n 0, 1) := by decide +kernel
theorem dX9_init_70 : decode cX9_init 70 = .ok (.sipush 140, 3) := by decide +kernel
theorem dX9_init_73 : decode cX9_init 73 = .ok (.newarray .int, 2) := by decide +kernel
theorem dX9_init_75 : decode cX9_init 75 = .ok (.putfield 312, 3) := by decide +kernel
theorem dX9_init_78 : decode cX9_init 78 = .ok (.aload_n 0, 1) := by decide +kernel
theorem dX9_init_79 : decode cX9_init 79 = .ok (.sipush 540, 3) := by decide +kernel
theorem dX9_init_82 : decode cX9_init 82 = .ok (.newarray .int, 2) := by decide +kernel
theorem dX9_init_84 : decode cX9_init 84 = .ok (.putfield 119, 3) := by decide +kernel
theorem dX9_init_87 : decode cX9_init 87 = .ok (.aload_n 0, 1) := by decide +kernel
theorem dX9_init_88 : decode cX9_init 88 = .ok (.sipush 540, 3) := by decide +kernel
theorem dX9_init_91 : decode cX9_init 91 = .ok (.newarray .int, 2) := by decide +kernel
theorem dX9_init_93 : decode cX9_init 93 = .ok (.putfield 122, 3) := by decide +kernel
theorem dX9_init_96 : decode cX9_init 96 = .ok (.aload_n 0, 1) := by decide +kernel
theorem dX9_init_97 : decode cX9_init 97 = .ok (.sipush 540, 3) := by decide +kernel
theorem dX9_init_100 : decode cX9_init 100 = .ok (.newarray .int, 2) := by decide +kernel
theorem dX9_init_102 : decode cX9_init 102 = .ok (.putfield 128, 3) := by decide +kernel
theorem dX9_init_105 : decode cX9_init 105 = .ok (.aload_n 0, 1) := by decide +kernel
theorem dX9_init_106 : decode cX9_init 106 = .ok (.sipush 200, 3) := by decide +kernel
theorem dX9_init_109 : decode cX9_init 109 = .ok (.newarray .int, 2) := by decide +kernel
theorem dX9_init_111 : decode cX9_init 111 = .ok (.putfield 350, 3) := by decide +kernel
theorem dX9_init_114 : decode cX9_init 114 = .ok (.aload_n 0, 1) := by decide +kernel
theorem dX9_init_115 : decode cX9_init 115 = .ok (.sipush 200, 3) := by decide +kernel
theorem dX9_init_118 : decode cX9_init 118 = .ok (.newarray .int, 2) := by decide +kernel
theorem dX9_init_120 : decode cX9_init 120 = .ok (.putfield 353, 3) := by decide +kernel
theorem dX9_init_123 : decode cX9_init 123 = .ok (.aload_n 0, 1) := by decide +kernel
theorem dX9_init_124 : decode cX9_init 124 = .ok (.sipush 200, 3) := by decide +kernel
theorem dX9_init_127 : decode cX9_init 127 = .ok (.newarray .int, 2) := by decide +kernel
theorem dX9_init_129 : decode cX9_init 129 = .ok (.putfield 266, 3) := by decide +kernel
theorem dX9_init_132 : decode cX9_init 132 = .ok (.aload_n 0, 1) := by decide +kernel
theorem dX9_init_133 : decode cX9_init 133 = .ok (.sipush 200, 3) := by decide +kernel
theorem dX9_init_136 : decode cX9_init 136 = .ok (.newarray .int, 2) := by decide +kernel
theorem dX9_init_138 : decode cX9_init 138 = .ok (.putfield 269, 3) := by decide +kernel
theorem dX9_init_141 : decode cX9_init 141 = .ok (.aload_n 0, 1) := by decide +kernel
theorem dX9_init_142 : decode cX9_init 142 = .ok (.sipush 200, 3) := by decide +kernel
theorem dX9_init_145 : decode cX9_init 145 = .ok (.newarray .int, 2) := by decide +kernel
theorem dX9_init_147 : decode cX9_init 147 = .ok (.putfield 272, 3) := by decide +kernel
theorem dX9_init_150 : decode cX9_init 150 = .ok (.aload_n 0, 1) := by decide +kernel
theorem dX9_init_151 : decode cX9_init 151 = .ok (.sipush 200, 3) := by decide +kernel
theorem dX9_init_154 : decode cX9_init 154 = .ok (.newarray .int, 2) := by decide +kernel
theorem dX9_init_156 : decode cX9_init 156 = .ok (.putfield 275, 3) := by decide +kernel
theorem dX9_init_159 : decode cX9_init 159 = .ok (.aload_n 0, 1) := by decide +kernel
theorem dX9_init_160 : decode cX9_init 160 = .ok (.sipush 200, 3) := by decide +kernel
theorem dX9_init_163 : decode cX9_init 163 = .ok (.newarray .int, 2) := by decide +kernel
theorem dX9_init_165 : decode cX9_init 165 = .ok (.putfield 281, 3) := by decide +kernel
theorem dX9_init_168 : decode cX9_init 168 = .ok (.aload_n 0, 1) := by decide +kernel
theorem dX9_init_169 : decode cX9_init 169 = .ok (.bipush 24, 2) := by decide +kernel
theorem dX9_init_171 : decode cX9_init 171 = .ok (.newarray .int, 2) := by decide +kernel
theorem dX9_init_173 : decode cX9_init 173 = .ok (.putfield 290, 3) := by decide +kernel
theorem dX9_init_176 : decode cX9_init 176 = .ok (.aload_n 0, 1) := by decide +kernel
theorem dX9_init_177 : decode cX9_init 177 = .ok (.sipush 8200, 3) := by decide +kernel
theorem dX9_init_180 : decode cX9_init 180 = .ok (.newarray .int, 2) := by decide +kernel
theorem dX9_init_182 : decode cX9_init 182 = .ok (.putfield 79, 3) := by decide +kernel
theorem dX9_init_185 : decode cX9_init 185 = .ok (.aload_n 0, 1) := by decide +kernel
theorem dX9_init_186 : decode cX9_init 186 = .ok (.aload_n 0, 1) := by decide +kernel
theorem dX9_init_187 : decode cX9_init 187 = .ok (.getfield 125, 3) := by decide +kernel
theorem dX9_init_190 : decode cX9_init 190 = .ok (.putfield 69, 3) := by decide +kernel
theorem dX9_init_193 : decode cX9_init 193 = .ok (.aload_n 0, 1) := by decide +kernel
theorem dX9_init_194 : decode cX9_init 194 = .ok (.sipush 400, 3) := by decide +kernel
theorem dX9_init_197 : decode cX9_init 197 = .ok (.newarray .int, 2) := by decide +kernel
theorem dX9_init_199 : decode cX9_init 199 = .ok (.putfield 356, 3) := by decide +kernel
theorem dX9_init_202 : decode cX9_init 202 = .ok (.return_, 1) := by decide +kernel
theorem dX9_type_0 : decode cX9_type 0 = .ok (.iload_n 1, 1) := by decide +kernel
theorem dX9_type_1 : decode cX9_type 1 = .ok (.ifCond .lt 19, 3) := by decide +kernel
theorem dX9_type_4 : decode cX9_type 4 = .ok (.iload_n 1, 1) := by decide +kernel
theorem dX9_type_5 : decode cX9_type 5 = .ok (.bipush 127, 2) := by decide +kernel
theorem dX9_type_7 : decode cX9_type 7 = .ok (.if_icmp .gt 13, 3) := by decide +kernel
theorem dX9_type_10 : decode cX9_type 10 = .ok (.aload_n 0, 1) := by decide +kernel
theorem dX9_type_11 : decode cX9_type 11 = .ok (.getfield 359, 3) := by decide +kernel
theorem dX9_type_14 : decode cX9_type 14 = .ok (.sipush 400, 3) := by decide +kernel
theorem dX9_type_17 : decode cX9_type 17 = .ok (.if_icmp .ne 5, 3) := by decide +kernel
theorem dX9_type_20 : decode cX9_type 20 = .ok (.iconst (-1), 1) := by decide +kernel
theorem dX9_type_21 : decode cX9_type 21 = .ok (.ireturn, 1) := by decide +kernel
theorem dX9_type_22 : decode cX9_type 22 = .ok (.aload_n 0, 1) := by decide +kernel
theorem dX9_type_23 : decode cX9_type 23 = .ok (.getfield 356, 3) := by decide +kernel
theorem dX9_type_26 : decode cX9_type 26 = .ok (.aload_n 0, 1) := by decide +kernel
theorem dX9_type_27 : decode cX9_type 27 = .ok (.getfield 359, 3) := by decide +kernel
theorem dX9_type_30 : decode cX9_type 30 = .ok (.iload_n 1, 1) := by decide +kernel
theorem dX9_type_31 : decode cX9_type 31 = .ok (.iastore, 1) := by decide +kernel
theorem dX9_type_32 : decode cX9_type 32 = .ok (.aload_n 0, 1) := by decide +kernel
theorem dX9_type_33 : decode cX9_type 33 = .ok (.dup, 1) := by decide +kernel
theorem dX9_type_34 : decode cX9_type 34 = .ok (.getfield 359, 3) := by decide +kernel
theorem dX9_type_37 : decode cX9_type 37 = .ok (.iconst 1, 1) := by decide +kernel
theorem dX9_type_38 : decode cX9_type 38 = .ok (.iadd, 1) := by decide +kernel
theorem dX9_type_39 : decode cX9_type 39 = .ok (.putfield 359, 3) := by decide +kernel
theorem dX9_type_42 : decode cX9_type 42 = .ok (.aload_n 0, 1) := by decide +kernel
theorem dX9_type_43 : decode cX9_type 43 = .ok (.getfield 359, 3) := by decide +kernel
theorem dX9_type_46 : decode cX9_type 46 = .ok (.ireturn, 1) := by decide +kernel
theorem dX9_clear_0 : decode cX9_clear 0 = .ok (.aload_n 0, 1) := by decide +kernel
theorem dX9_clear_1 : decode cX9_clear 1 = .ok (.iconst 0, 1) := by decide +kernel
theorem dX9_clear_2 : decode cX9_clear 2 = .ok (.putfield 359, 3) := by decide +kernel
theorem dX9_clear_5 : decode cX9_clear 5 = .ok (.return_, 1) := by decide +kernel
theorem dX9_read_0 : decode cX9_read 0 = .ok (.aload_n 0, 1) := by decide +kernel
theorem dX9_read_1 : decode cX9_read 1 = .ok (.aload_n 0, 1) := by decide +kernel
theorem dX9_read_2 : decode cX9_read 2 = .ok (.aload_n 0, 1) := by decide +kernel
theorem dX9_read_3 : decode cX9_read 3 = .ok (.getfield 356, 3) := by decide +kernel
theorem dX9_read_6 : decode cX9_read 6 = .ok (.iconst 0, 1) := by decide +kernel
theorem dX9_read_7 : decode cX9_read 7 = .ok (.aload_n 0, 1) := by decide +kernel
theorem dX9_read_8 : decode cX9_read 8 = .ok (.getfield 359, 3) := by decide +kernel
theorem dX9_read_11 : decode cX9_read 11 = .ok (.bipush 10, 2) := by decide +kernel
theorem dX9_read_13 : decode cX9_read 13 = .ok (.invokevirtual 361, 3) := by decide +kernel
theorem dX9_read_16 : decode cX9_read 16 = .ok (.putfield 365, 3) := by decide +kernel
theorem dX9_read_19 : decode cX9_read 19 = .ok (.aload_n 0, 1) := by decide +kernel
theorem dX9_read_20 : decode cX9_read 20 = .ok (.getfield 365, 3) := by decide +kernel
theorem dX9_read_23 : decode cX9_read 23 = .ok (.ifnonnull 7, 3) := by decide +kernel
theorem dX9_read_26 : decode cX9_read 26 = .ok (.iconst 0, 1) := by decide +kernel
theorem dX9_read_27 : decode cX9_read 27 = .ok (.goto 18, 3) := by decide +kernel
theorem dX9_read_30 : decode cX9_read 30 = .ok (.aload_n 0, 1) := by decide +kernel
theorem dX9_read_31 : decode cX9_read 31 = .ok (.getfield 365, 3) := by decide +kernel
theorem dX9_read_34 : decode cX9_read 34 = .ok (.invokestatic 368, 3) := by decide +kernel
theorem dX9_read_37 : decode cX9_read 37 = .ok (.ifCond .eq 7, 3) := by decide +kernel
theorem dX9_read_40 : decode cX9_read 40 = .ok (.iconst 1, 1) := by decide +kernel
theorem dX9_read_41 : decode cX9_read 41 = .ok (.goto 4, 3) := by decide +kernel
theorem dX9_read_44 : decode cX9_read 44 = .ok (.iconst 2, 1) := by decide +kernel
theorem dX9_read_45 : decode cX9_read 45 = .ok (.ireturn, 1) := by decide +kernel
theorem dX9_near_0 : decode cX9_near 0 = .ok (.aload_n 1, 1) := by decide +kernel
theorem dX9_near_1 : decode cX9_near 1 = .ok (.getfield 104, 3) := by decide +kernel
theorem dX9_near_4 : decode cX9_near 4 = .ok (.aload_n 0, 1) := by decide +kernel
theorem dX9_near_5 : decode cX9_near 5 = .ok (.getfield 350, 3) := by decide +kernel
theorem dX9_near_8 : decode cX9_near 8 = .ok (.aload_n 1, 1) := by decide +kernel
theorem dX9_near_9 : decode cX9_near 9 = .ok (.getfield 104, 3) := by decide +kernel
theorem dX9_near_12 : decode cX9_near 12 = .ok (.arraylength, 1) := by decide +kernel
theorem dX9_near_13 : decode cX9_near 13 = .ok (.invokestatic 61, 3) := by decide +kernel
theorem dX9_near_16 : decode cX9_near 16 = .ok (.aload_n 3, 1) := by decide +kernel
theorem dX9_near_17 : decode cX9_near 17 = .ok (.getfield 104, 3) := by decide +kernel
theorem dX9_near_20 : decode cX9_near 20 = .ok (.aload_n 0, 1) := by decide +kernel
theorem dX9_near_21 : decode cX9_near 21 = .ok (.getfield 353, 3) := by decide +kernel
theorem dX9_near_24 : decode cX9_near 24 = .ok (.aload_n 3, 1) := by decide +kernel
theorem dX9_near_25 : decode cX9_near 25 = .ok (.getfield 104, 3) := by decide +kernel
theorem dX9_near_28 : decode cX9_near 28 = .ok (.arraylength, 1) := by decide +kernel
theorem dX9_near_29 : decode cX9_near 29 = .ok (.invokestatic 61, 3) := by decide +kernel
theorem dX9_near_32 : decode cX9_near 32 = .ok (.iload_n 2, 1) := by decide +kernel
theorem dX9_near_33 : decode cX9_near 33 = .ok (.ifCond .le 19, 3) := by decide +kernel
theorem dX9_near_36 : decode cX9_near 36 = .ok (.aload_n 0, 1) := by decide +kernel
theorem dX9_near_37 : decode cX9_near 37 = .ok (.getfield 350, 3) := by decide +kernel
theorem dX9_near_40 : decode cX9_near 40 = .ok (.aload_n 1, 1) := by decide +kernel
theorem dX9_near_41 : decode cX9_near 41 = .ok (.getfield 104, 3) := by decide +kernel
theorem dX9_near_44 : decode cX9_near 44 = .ok (.arraylength, 1) := by decide +kernel
theorem dX9_near_45 : decode cX9_near 45 = .ok (.iload_n 2, 1) := by decide +kernel
theorem dX9_near_46 : decode cX9_near 46 = .ok (.invokestatic 131, 3) := by decide +kernel
theorem dX9_near_49 : decode cX9_near 49 = .ok (.goto 8, 3) := by decide +kernel
theorem dX9_near_52 : decode cX9_near 52 = .ok (.aload_n 1, 1) := by decide +kernel
theorem dX9_near_53 : decode cX9_near 53 = .ok (.getfield 104, 3) := by decide +kernel
theorem dX9_near_56 : decode cX9_near 56 = .ok (.arraylength, 1) := by decide +kernel
theorem dX9_near_57 : decode cX9_near 57 = .ok (.istore 4, 2) := by decide +kernel
theorem dX9_near_59 : decode cX9_near 59 = .ok (.iload_n 2, 1) := by decide +kernel
theorem dX9_near_60 : decode cX9_near 60 = .ok (.ifCond .ge 20, 3) := by decide +kernel
theorem dX9_near_63 : decode cX9_near 63 = .ok (.aload_n 0, 1) := by decide +kernel
theorem dX9_near_64 : decode cX9_near 64 = .ok (.getfield 353, 3) := by decide +kernel
theorem dX9_near_67 : decode cX9_near 67 = .ok (.aload_n 3, 1) := by decide +kernel
theorem dX9_near_68 : decode cX9_near 68 = .ok (.getfield 104, 3) := by decide +kernel
theorem dX9_near_71 : decode cX9_near 71 = .ok (.arraylength, 1) := by decide +kernel
theorem dX9_near_72 : decode cX9_near 72 = .ok (.iload_n 2, 1) := by decide +kernel
theorem dX9_near_73 : decode cX9_near 73 = .ok (.ineg, 1) := by decide +kernel
theorem dX9_near_74 : decode cX9_near 74 = .ok (.invokestatic 131, 3) := by decide +kernel
theorem dX9_near_77 : decode cX9_near 77 = .ok (.goto 8, 3) := by decide +kernel
theorem dX9_near_80 : decode cX9_near 80 = .ok (.aload_n 3, 1) := by decide +kernel
theorem dX9_near_81 : decode cX9_near 81 = .ok (.getfield 104, 3) := by decide +kernel
theorem dX9_near_84 : decode cX9_near 84 = .ok (.arraylength, 1) := by decide +kernel
theorem dX9_near_85 : decode cX9_near 85 = .ok (.istore 5, 2) := by decide +kernel
theorem dX9_near_87 : decode cX9_near 87 = .ok (.aload_n 0, 1) := by decide +kernel
theorem dX9_near_88 : decode cX9_near 88 = .ok (.aload_n 0, 1) := by decide +kernel
theorem dX9_near_89 : decode cX9_near 89 = .ok (.getfield 350, 3) := by decide +kernel
theorem dX9_near_92 : decode cX9_near 92 = .ok (.iload 4, 2) := by decide +kernel
theorem dX9_near_94 : decode cX9_near 94 = .ok (.aload_n 0, 1) := by decide +kernel
theorem dX9_near_95 : decode cX9_near 95 = .ok (.getfield 353, 3) := by decide +kernel
theorem dX9_near_98 : decode cX9_near 98 = .ok (.iload 5, 2) := by decide +kernel
theorem dX9_near_100 : decode cX9_near 100 = .ok (.invokevirtual 223, 3) := by decide +kernel
theorem dX9_near_103 : decode cX9_near 103 = .ok (.dreturn, 1) := by decide +kernel
theorem dX9_make_0 : decode cX9_make 0 = .ok (.lload_n 2, 1) := by decide +kernel
theorem dX9_make_1 : decode cX9_make 1 = .ok (.lconst 0, 1) := by decide +kernel
theorem dX9_make_2 : decode cX9_make 2 = .ok (.lcmp, 1) := by decide +kernel
theorem dX9_make_3 : decode cX9_make 3 = .ok (.ifCond .lt 19, 3) := by decide +kernel
theorem dX9_make_6 : decode cX9_make 6 = .ok (.iload 4, 2) := by decide +kernel
theorem dX9_make_8 : decode cX9_make 8 = .ok (.sipush (-2000), 3) := by decide +kernel
theorem dX9_make_11 : decode cX9_make 11 = .ok (.if_icmp .lt 11, 3) := by decide +kernel
theorem dX9_make_14 : decode cX9_make 14 = .ok (.iload 4, 2) := by decide +kernel
theorem dX9_make_16 : decode cX9_make 16 = .ok (.sipush 2000, 3) := by decide +kernel
theorem dX9_make_19 : decode cX9_make 19 = .ok (.if_icmp .le 5, 3) := by decide +kernel
theorem dX9_make_22 : decode cX9_make 22 = .ok (.iconst 0, 1) := by decide +kernel
theorem dX9_make_23 : decode cX9_make 23 = .ok (.ireturn, 1) := by decide +kernel
theorem dX9_make_24 : decode cX9_make 24 = .ok (.lload_n 2, 1) := by decide +kernel
theorem dX9_make_25 : decode cX9_make 25 = .ok (.lconst 0, 1) := by decide +kernel
theorem dX9_make_26 : decode cX9_make 26 = .ok (.lcmp, 1) := by decide +kernel
theorem dX9_make_27 : decode cX9_make 27 = .ok (.ifCond .ne 7, 3) := by decide +kernel
theorem dX9_make_30 : decode cX9_make 30 = .ok (.dconst 0, 1) := by decide +kernel
theorem dX9_make_31 : decode cX9_make 31 = .ok (.goto 17, 3) := by decide +kernel
theorem dX9_make_34 : decode cX9_make 34 = .ok (.aload_n 0, 1) := by decide +kernel
theorem dX9_make_35 : decode cX9_make 35 = .ok (.lload_n 2, 1) := by decide +kernel
theorem dX9_make_36 : decode cX9_make 36 = .ok (.invokestatic 163, 3) := by decide +kernel
theorem dX9_make_39 : decode cX9_make 39 = .ok (.iload 4, 2) := by decide +kernel
theorem dX9_make_41 : decode cX9_make 41 = .ok (.lconst 1, 1) := by decide +kernel
theorem dX9_make_42 : decode cX9_make 42 = .ok (.invokestatic 163, 3) := by decide +kernel
theorem dX9_make_45 : decode cX9_make 45 = .ok (.invokevirtual 372, 3) := by decide +kernel
theorem dX9_make_48 : decode cX9_make 48 = .ok (.dstore 5, 2) := by decide +kernel
theorem dX9_make_50 : decode cX9_make 50 = .ok (.aload_n 0, 1) := by decide +kernel
theorem dX9_make_51 : decode cX9_make 51 = .ok (.iload_n 1, 1) := by decide +kernel
theorem dX9_make_52 : decode cX9_make 52 = .ok (.ifCond .eq 9, 3) := by decide +kernel
theorem dX9_make_55 : decode cX9_make 55 = .ok (.dload 5, 2) := by decide +kernel
theorem dX9_make_57 : decode cX9_make 57 = .ok (.dneg, 1) := by decide +kernel
theorem dX9_make_58 : decode cX9_make 58 = .ok (.goto 5, 3) := by decide +kernel
theorem dX9_make_61 : decode cX9_make 61 = .ok (.dload 5, 2) := by decide +kernel
theorem dX9_make_63 : decode cX9_make 63 = .ok (.invokestatic 238, 3) := by decide +kernel
theorem dX9_make_66 : decode cX9_make 66 = .ok (.putfield 365, 3) := by decide +kernel
theorem dX9_make_69 : decode cX9_make 69 = .ok (.iconst 1, 1) := by decide +kernel
theorem dX9_make_70 : decode cX9_make 70 = .ok (.ireturn, 1) := by decide +kernel
theorem dX9_divide_0 : decode cX9_divide 0 = .ok (.lload_n 3, 1) := by decide +kernel
theorem dX9_divide_1 : decode cX9_divide 1 = .ok (.lconst 0, 1) := by decide +kernel
theorem dX9_divide_2 : decode cX9_divide 2 = .ok (.lcmp, 1) := by decide +kernel
theorem dX9_divide_3 : decode cX9_divide 3 = .ok (.ifCond .gt 5, 3) := by decide +kernel
theorem dX9_divide_6 : decode cX9_divide 6 = .ok (.iconst 0, 1) := by decide +kernel
theorem dX9_divide_7 : decode cX9_divide 7 = .ok (.ireturn, 1) := by decide +kernel
theorem dX9_divide_8 : decode cX9_divide 8 = .ok (.lload_n 1, 1) := by decide +kernel
theorem dX9_divide_9 : decode cX9_divide 9 = .ok (.lconst 0, 1) := by decide +kernel
theorem dX9_divide_10 : decode cX9_divide 10 = .ok (.lcmp, 1) := by decide +kernel
theorem dX9_divide_11 : decode cX9_divide 11 = .ok (.ifCond .ne 7, 3) := by decide +kernel
theorem dX9_divide_14 : decode cX9_divide 14 = .ok (.dconst 0, 1) := by decide +kernel
theorem dX9_divide_15 : decode cX9_divide 15 = .ok (.goto 16, 3) := by decide +kernel
theorem dX9_divide_18 : decode cX9_divide 18 = .ok (.aload_n 0, 1) := by decide +kernel
theorem dX9_divide_19 : decode cX9_divide 19 = .ok (.lload_n 1, 1) := by decide +kernel
theorem dX9_divide_20 : decode cX9_divide 20 = .ok (.invokestatic 163, 3) := by decide +kernel
theorem dX9_divide_23 : decode cX9_divide 23 = .ok (.iconst 0, 1) := by decide +kernel
theorem dX9_divide_24 : decode cX9_divide 24 = .ok (.lload_n 3, 1) := by decide +kernel
theorem dX9_divide_25 : decode cX9_divide 25 = .ok (.invokestatic 163, 3) := by decide +kernel
theorem dX9_divide_28 : decode cX9_divide 28 = .ok (.invokevirtual 372, 3) := by decide +kernel
theorem dX9_divide_31 : decode cX9_divide 31 = .ok (.dstore 5, 2) := by decide +kernel
theorem dX9_divide_33 : decode cX9_divide 33 = .ok (.aload_n 0, 1) := by decide +kernel
theorem dX9_divide_34 : decode cX9_divide 34 = .ok (.lload_n 1, 1) := by decide +kernel
theorem dX9_divide_35 : decode cX9_divide 35 = .ok (.lconst 0, 1) := by decide +kernel
theorem dX9_divide_36 : decode cX9_divide 36 = .ok (.lcmp, 1) := by decide +kernel
theorem dX9_divide_37 : decode cX9_divide 37 = .ok (.ifCond .ge 9, 3) := by decide +kernel
theorem dX9_divide_40 : decode cX9_divide 40 = .ok (.dload 5, 2) := by decide +kernel
theorem dX9_divide_42 : decode cX9_divide 42 = .ok (.dneg, 1) := by decide +kernel
theorem dX9_divide_43 : decode cX9_divide 43 = .ok (.goto 5, 3) := by decide +kernel
theorem dX9_divide_46 : decode cX9_divide 46 = .ok (.dload 5, 2) := by decide +kernel
theorem dX9_divide_48 : decode cX9_divide 48 = .ok (.invokestatic 238, 3) := by decide +kernel
theorem dX9_divide_51 : decode cX9_divide 51 = .ok (.putfield 365, 3) := by decide +kernel
theorem dX9_divide_54 : decode cX9_divide 54 = .ok (.iconst 1, 1) := by decide +kernel
theorem dX9_divide_55 : decode cX9_divide 55 = .ok (.ireturn, 1) := by decide +kernel
theorem dX9_isDouble_0 : decode cX9_isDouble 0 = .ok (.aload_n 0, 1) := by decide +kernel
theorem dX9_isDouble_1 : decode cX9_isDouble 1 = .ok (.getfield 365, 3) := by decide +kernel
theorem dX9_isDouble_4 : decode cX9_isDouble 4 = .ok (.instanceof 201, 3) := by decide +kernel
theorem dX9_isDouble_7 : decode cX9_isDouble 7 = .ok (.ireturn, 1) := by decide +kernel
theorem dX9_value_0 : decode cX9_value 0 = .ok (.aload_n 0, 1) := by decide +kernel
theorem dX9_value_1 : decode cX9_value 1 = .ok (.getfield 365, 3) := by decide +kernel
theorem dX9_value_4 : decode cX9_value 4 = .ok (.checkcast 201, 3) := by decide +kernel
theorem dX9_value_7 : decode cX9_value 7 = .ok (.getfield 203, 3) := by decide +kernel
theorem dX9_value_10 : decode cX9_value 10 = .ok (.dreturn, 1) := by decide +kernel
theorem dX9_exact_0 : decode cX9_exact 0 = .ok (.aload_n 0, 1) := by decide +kernel
theorem dX9_exact_1 : decode cX9_exact 1 = .ok (.invokevirtual 376, 3) := by decide +kernel
theorem dX9_exact_4 : decode cX9_exact 4 = .ok (.iconst 2, 1) := by decide +kernel
theorem dX9_exact_5 : decode cX9_exact 5 = .ok (.if_icmp .eq 5, 3) := by decide +kernel
theorem dX9_exact_8 : decode cX9_exact 8 = .ok (.iconst 0, 1) := by decide +kernel
theorem dX9_exact_9 : decode cX9_exact 9 = .ok (.ireturn, 1) := by decide +kernel
theorem dX9_exact_10 : decode cX9_exact 10 = .ok (.aload_n 0, 1) := by decide +kernel
theorem dX9_exact_11 : decode cX9_exact 11 = .ok (.aload_n 0, 1) := by decide +kernel
theorem dX9_exact_12 : decode cX9_exact 12 = .ok (.aload_n 0, 1) := by decide +kernel
theorem dX9_exact_13 : decode cX9_exact 13 = .ok (.invokevirtual 379, 3) := by decide +kernel
theorem dX9_exact_16 : decode cX9_exact 16 = .ok (.invokevirtual 383, 3) := by decide +kernel
theorem dX9_exact_19 : decode cX9_exact 19 = .ok (.putfield 365, 3) := by decide +kernel
theorem dX9_exact_22 : decode cX9_exact 22 = .ok (.iconst 1, 1) := by decide +kernel
theorem dX9_exact_23 : decode cX9_exact 23 = .ok (.ireturn, 1) := by decide +kernel
theorem dX9_inexact_0 : decode cX9_inexact 0 = .ok (.aload_n 0, 1) := by decide +kernel
theorem dX9_inexact_1 : decode cX9_inexact 1 = .ok (.getfield 365, 3) := by decide +kernel
theorem dX9_inexact_4 : decode cX9_inexact 4 = .ok (.ifnull 10, 3) := by decide +kernel
theorem dX9_inexact_7 : decode cX9_inexact 7 = .ok (.aload_n 0, 1) := by decide +kernel
theorem dX9_inexact_8 : decode cX9_inexact 8 = .ok (.invokevirtual 387, 3) := by decide +kernel
theorem dX9_inexact_11 : decode cX9_inexact 11 = .ok (.ifCond .eq 5, 3) := by decide +kernel
theorem dX9_inexact_14 : decode cX9_inexact 14 = .ok (.iconst 0, 1) := by decide +kernel
theorem dX9_inexact_15 : decode cX9_inexact 15 = .ok (.ireturn, 1) := by decide +kernel
theorem dX9_inexact_16 : decode cX9_inexact 16 = .ok (.aload_n 0, 1) := by decide +kernel
theorem dX9_inexact_17 : decode cX9_inexact 17 = .ok (.aload_n 0, 1) := by decide +kernel
theorem dX9_inexact_18 : decode cX9_inexact 18 = .ok (.aload_n 0, 1) := by decide +kernel
theorem dX9_inexact_19 : decode cX9_inexact 19 = .ok (.getfield 365, 3) := by decide +kernel
theorem dX9_inexact_22 : decode cX9_inexact 22 = .ok (.invokevirtual 390, 3) := by decide +kernel
theorem dX9_inexact_25 : decode cX9_inexact 25 = .ok (.invokestatic 238, 3) := by decide +kernel
theorem dX9_inexact_28 : decode cX9_inexact 28 = .ok (.putfield 365, 3) := by decide +kernel
theorem dX9_inexact_31 : decode cX9_inexact 31 = .ok (.iconst 1, 1) := by decide +kernel
theorem dX9_inexact_32 : decode cX9_inexact 32 = .ok (.ireturn, 1) := by decide +kernel
theorem dX9_kind_0 : decode cX9_kind 0 = .ok (.aload_n 0, 1) := by decide +kernel
theorem dX9_kind_1 : decode cX9_kind 1 = .ok (.getfield 365, 3) := by decide +kernel
theorem dX9_kind_4 : decode cX9_kind 4 = .ok (.ifnonnull 5, 3) := by decide +kernel
theorem dX9_kind_7 : decode cX9_kind 7 = .ok (.iconst 0, 1) := by decide +kernel
theorem dX9_kind_8 : decode cX9_kind 8 = .ok (.ireturn, 1) := by decide +kernel
theorem dX9_kind_9 : decode cX9_kind 9 = .ok (.aload_n 0, 1) := by decide +kernel
theorem dX9_kind_10 : decode cX9_kind 10 = .ok (.invokevirtual 387, 3) := by decide +kernel
theorem dX9_kind_13 : decode cX9_kind 13 = .ok (.ifCond .ne 7, 3) := by decide +kernel
theorem dX9_kind_16 : decode cX9_kind 16 = .ok (.iconst 1, 1) := by decide +kernel
theorem dX9_kind_17 : decode cX9_kind 17 = .ok (.goto 35, 3) := by decide +kernel
theorem dX9_kind_20 : decode cX9_kind 20 = .ok (.aload_n 0, 1) := by decide +kernel
theorem dX9_kind_21 : decode cX9_kind 21 = .ok (.getfield 365, 3) := by decide +kernel
theorem dX9_kind_24 : decode cX9_kind 24 = .ok (.checkcast 201, 3) := by decide +kernel
theorem dX9_kind_27 : decode cX9_kind 27 = .ok (.getfield 394, 3) := by decide +kernel
theorem dX9_kind_30 : decode cX9_kind 30 = .ok (.ifCond .eq 7, 3) := by decide +kernel
theorem dX9_kind_33 : decode cX9_kind 33 = .ok (.iconst 4, 1) := by decide +kernel
theorem dX9_kind_34 : decode cX9_kind 34 = .ok (.goto 18, 3) := by decide +kernel
theorem dX9_kind_37 : decode cX9_kind 37 = .ok (.aload_n 0, 1) := by decide +kernel
theorem dX9_kind_38 : decode cX9_kind 38 = .ok (.invokevirtual 379, 3) := by decide +kernel
theorem dX9_kind_41 : decode cX9_kind 41 = .ok (.invokestatic 245, 3) := by decide +kernel
theorem dX9_kind_44 : decode cX9_kind 44 = .ok (.ifCond .eq 7, 3) := by decide +kernel
theorem dX9_kind_47 : decode cX9_kind 47 = .ok (.iconst 2, 1) := by decide +kernel
theorem dX9_kind_48 : decode cX9_kind 48 = .ok (.goto 4, 3) := by decide +kernel
theorem dX9_kind_51 : decode cX9_kind 51 = .ok (.iconst 3, 1) := by decide +kernel
theorem dX9_kind_52 : decode cX9_kind 52 = .ok (.ireturn, 1) := by decide +kernel
theorem dX9_negative_0 : decode cX9_negative 0 = .ok (.aload_n 0, 1) := by decide +kernel
theorem dX9_negative_1 : decode cX9_negative 1 = .ok (.getfield 365, 3) := by decide +kernel
theorem dX9_negative_4 : decode cX9_negative 4 = .ok (.ifnonnull 5, 3) := by decide +kernel
theorem dX9_negative_7 : decode cX9_negative 7 = .ok (.iconst 0, 1) := by decide +kernel
theorem dX9_negative_8 : decode cX9_negative 8 = .ok (.ireturn, 1) := by decide +kernel
theorem dX9_negative_9 : decode cX9_negative 9 = .ok (.aload_n 0, 1) := by decide +kernel
theorem dX9_negative_10 : decode cX9_negative 10 = .ok (.invokevirtual 387, 3) := by decide +kernel
theorem dX9_negative_13 : decode cX9_negative 13 = .ok (.ifCond .eq 41, 3) := by decide +kernel
theorem dX9_negative_16 : decode cX9_negative 16 = .ok (.aload_n 0, 1) := by decide +kernel
theorem dX9_negative_17 : decode cX9_negative 17 = .ok (.getfield 365, 3) := by decide +kernel
theorem dX9_negative_20 : decode cX9_negative 20 = .ok (.checkcast 201, 3) := by decide +kernel
theorem dX9_negative_23 : decode cX9_negative 23 = .ok (.getfield 394, 3) := by decide +kernel
theorem dX9_negative_26 : decode cX9_negative 26 = .ok (.ifCond .ne 26, 3) := by decide +kernel
theorem dX9_negative_29 : decode cX9_negative 29 = .ok (.aload_n 0, 1) := by decide +kernel
theorem dX9_negative_30 : decode cX9_negative 30 = .ok (.invokevirtual 379, 3) := by decide +kernel
theorem dX9_negative_33 : decode cX9_negative 33 = .ok (.dconst 0, 1) := by decide +kernel
theorem dX9_negative_34 : decode cX9_negative 34 = .ok (.dcmp .g, 1) := by decide +kernel
theorem dX9_negative_35 : decode cX9_negative 35 = .ok (.ifCond .lt 13, 3) := by decide +kernel
theorem dX9_negative_38 : decode cX9_negative 38 = .ok (.aload_n 0, 1) := by decide +kernel
theorem dX9_negative_39 : decode cX9_negative 39 = .ok (.invokevirtual 379, 3) := by decide +kernel
theorem dX9_negative_42 : decode cX9_negative 42 = .ok (.invokestatic 257, 3) := by decide +kernel
theorem dX9_negative_45 : decode cX9_negative 45 = .ok (.ifCond .eq 7, 3) := by decide +kernel
theorem dX9_negative_48 : decode cX9_negative 48 = .ok (.iconst 1, 1) := by decide +kernel
theorem dX9_negative_49 : decode cX9_negative 49 = .ok (.goto 4, 3) := by decide +kernel
theorem dX9_negative_52 : decode cX9_negative 52 = .ok (.iconst 0, 1) := by decide +kernel
theorem dX9_negative_53 : decode cX9_negative 53 = .ok (.ireturn, 1) := by decide +kernel
theorem dX9_negative_54 : decode cX9_negative 54 = .ok (.aload_n 0, 1) := by decide +kernel
theorem dX9_negative_55 : decode cX9_negative 55 = .ok (.getfield 365, 3) := by decide +kernel
theorem dX9_negative_58 : decode cX9_negative 58 = .ok (.invokestatic 207, 3) := by decide +kernel
theorem dX9_negative_61 : decode cX9_negative 61 = .ok (.getfield 109, 3) := by decide +kernel
theorem dX9_negative_64 : decode cX9_negative 64 = .ok (.ifCond .ge 7, 3) := by decide +kernel
theorem dX9_negative_67 : decode cX9_negative 67 = .ok (.iconst 1, 1) := by decide +kernel
theorem dX9_negative_68 : decode cX9_negative 68 = .ok (.goto 4, 3) := by decide +kernel
theorem dX9_negative_71 : decode cX9_negative 71 = .ok (.iconst 0, 1) := by decide +kernel
theorem dX9_negative_72 : decode cX9_negative 72 = .ok (.ireturn, 1) := by decide +kernel
theorem dX9_doublings_0 : decode cX9_doublings 0 = .ok (.aload_n 0, 1) := by decide +kernel
theorem dX9_doublings_1 : decode cX9_doublings 1 = .ok (.invokevirtual 379, 3) := by decide +kernel
theorem dX9_doublings_4 : decode cX9_doublings 4 = .ok (.dconst 0, 1) := by decide +kernel
theorem dX9_doublings_5 : decode cX9_doublings 5 = .ok (.dcmp .l, 1) := by decide +kernel
theorem dX9_doublings_6 : decode cX9_doublings 6 = .ok (.ifCond .ne 5, 3) := by decide +kernel
theorem dX9_doublings_9 : decode cX9_doublings 9 = .ok (.iconst 0, 1) := by decide +kernel
theorem dX9_doublings_10 : decode cX9_doublings 10 = .ok (.ireturn, 1) := by decide +kernel
theorem dX9_doublings_11 : decode cX9_doublings 11 = .ok (.iconst 0, 1) := by decide +kernel
theorem dX9_doublings_12 : decode cX9_doublings 12 = .ok (.istore_n 1, 1) := by decide +kernel
theorem dX9_doublings_13 : decode cX9_doublings 13 = .ok (.aload_n 0, 1) := by decide +kernel
theorem dX9_doublings_14 : decode cX9_doublings 14 = .ok (.invokevirtual 379, 3) := by decide +kernel
theorem dX9_doublings_17 : decode cX9_doublings 17 = .ok (.invokestatic 227, 3) := by decide +kernel
theorem dX9_doublings_20 : decode cX9_doublings 20 = .ok (.lstore_n 2, 1) := by decide +kernel
theorem dX9_doublings_21 : decode cX9_doublings 21 = .ok (.lload_n 2, 1) := by decide +kernel
theorem dX9_doublings_22 : decode cX9_doublings 22 = .ok (.ldc2_w 139, 3) := by decide +kernel
theorem dX9_doublings_25 : decode cX9_doublings 25 = .ok (.lcmp, 1) := by decide +kernel
theorem dX9_doublings_26 : decode cX9_doublings 26 = .ok (.ifCond .ge 30, 3) := by decide +kernel
theorem dX9_doublings_29 : decode cX9_doublings 29 = .ok (.aload_n 0, 1) := by decide +kernel
theorem dX9_doublings_30 : decode cX9_doublings 30 = .ok (.invokevirtual 379, 3) := by decide +kernel
theorem dX9_doublings_33 : decode cX9_doublings 33 = .ok (.invokestatic 231, 3) := by decide +kernel
theorem dX9_doublings_36 : decode cX9_doublings 36 = .ok (.iload_n 1, 1) := by decide +kernel
theorem dX9_doublings_37 : decode cX9_doublings 37 = .ok (.isub, 1) := by decide +kernel
theorem dX9_doublings_38 : decode cX9_doublings 38 = .ok (.sipush (-1074), 3) := by decide +kernel
theorem dX9_doublings_41 : decode cX9_doublings 41 = .ok (.if_icmp .le 15, 3) := by decide +kernel
theorem dX9_doublings_44 : decode cX9_doublings 44 = .ok (.iinc 1 1, 3) := by decide +kernel
theorem dX9_doublings_47 : decode cX9_doublings 47 = .ok (.lload_n 2, 1) := by decide +kernel
theorem dX9_doublings_48 : decode cX9_doublings 48 = .ok (.ldc2_w 145, 3) := by decide +kernel
theorem dX9_doublings_51 : decode cX9_doublings 51 = .ok (.lmul, 1) := by decide +kernel
theorem dX9_doublings_52 : decode cX9_doublings 52 = .ok (.lstore_n 2, 1) := by decide +kernel
theorem dX9_doublings_53 : decode cX9_doublings 53 = .ok (.goto (-32), 3) := by decide +kernel
theorem dX9_doublings_56 : decode cX9_doublings 56 = .ok (.iload_n 1, 1) := by decide +kernel
theorem dX9_doublings_57 : decode cX9_doublings 57 = .ok (.ireturn, 1) := by decide +kernel
theorem dX9_units_0 : decode cX9_units 0 = .ok (.aload_n 0, 1) := by decide +kernel
theorem dX9_units_1 : decode cX9_units 1 = .ok (.invokevirtual 376, 3) := by decide +kernel
theorem dX9_units_4 : decode cX9_units 4 = .ok (.iconst 2, 1) := by decide +kernel
theorem dX9_units_5 : decode cX9_units 5 = .ok (.if_icmp .eq 7, 3) := by decide +kernel
theorem dX9_units_8 : decode cX9_units 8 = .ok (.ldc2_w 398, 3) := by decide +kernel
theorem dX9_units_11 : decode cX9_units 11 = .ok (.lreturn, 1) := by decide +kernel
theorem dX9_units_12 : decode cX9_units 12 = .ok (.aload_n 0, 1) := by decide +kernel
theorem dX9_units_13 : decode cX9_units 13 = .ok (.invokevirtual 379, 3) := by decide +kernel
theorem dX9_units_16 : decode cX9_units 16 = .ok (.dconst 0, 1) := by decide +kernel
theorem dX9_units_17 : decode cX9_units 17 = .ok (.dcmp .l, 1) := by decide +kernel
theorem dX9_units_18 : decode cX9_units 18 = .ok (.ifCond .ne 7, 3) := by decide +kernel
theorem dX9_units_21 : decode cX9_units 21 = .ok (.lconst 0, 1) := by decide +kernel
theorem dX9_units_22 : decode cX9_units 22 = .ok (.goto 15, 3) := by decide +kernel
theorem dX9_units_25 : decode cX9_units 25 = .ok (.aload_n 0, 1) := by decide +kernel
theorem dX9_units_26 : decode cX9_units 26 = .ok (.invokevirtual 379, 3) := by decide +kernel
theorem dX9_units_29 : decode cX9_units 29 = .ok (.invokestatic 227, 3) := by decide +kernel
theorem dX9_units_32 : decode cX9_units 32 = .ok (.aload_n 0, 1) := by decide +kernel
theorem dX9_units_33 : decode cX9_units 33 = .ok (.invokevirtual 400, 3) := by decide +kernel
theorem dX9_units_36 : decode cX9_units 36 = .ok (.lshl, 1) := by decide +kernel
theorem dX9_units_37 : decode cX9_units 37 = .ok (.lreturn, 1) := by decide +kernel
theorem dX9_place_0 : decode cX9_place 0 = .ok (.aload_n 0, 1) := by decide +kernel
theorem dX9_place_1 : decode cX9_place 1 = .ok (.invokevirtual 376, 3) := by decide +kernel
theorem dX9_place_4 : decode cX9_place 4 = .ok (.iconst 2, 1) := by decide +kernel
theorem dX9_place_5 : decode cX9_place 5 = .ok (.if_icmp .eq 5, 3) := by decide +kernel
theorem dX9_place_8 : decode cX9_place 8 = .ok (.iconst 0, 1) := by decide +kernel
theorem dX9_place_9 : decode cX9_place 9 = .ok (.ireturn, 1) := by decide +kernel
theorem dX9_place_10 : decode cX9_place 10 = .ok (.aload_n 0, 1) := by decide +kernel
theorem dX9_place_11 : decode cX9_place 11 = .ok (.invokevirtual 379, 3) := by decide +kernel
theorem dX9_place_14 : decode cX9_place 14 = .ok (.dconst 0, 1) := by decide +kernel
theorem dX9_place_15 : decode cX9_place 15 = .ok (.dcmp .l, 1) := by decide +kernel
theorem dX9_place_16 : decode cX9_place 16 = .ok (.ifCond .ne 9, 3) := by decide +kernel
theorem dX9_place_19 : decode cX9_place 19 = .ok (.sipush (-1074), 3) := by decide +kernel
theorem dX9_place_22 : decode cX9_place 22 = .ok (.goto 15, 3) := by decide +kernel
theorem dX9_place_25 : decode cX9_place 25 = .ok (.aload_n 0, 1) := by decide +kernel
theorem dX9_place_26 : decode cX9_place 26 = .ok (.invokevirtual 379, 3) := by decide +kernel
theorem dX9_place_29 : decode cX9_place 29 = .ok (.invokestatic 231, 3) := by decide +kernel
theorem dX9_place_32 : decode cX9_place 32 = .ok (.aload_n 0, 1) := by decide +kernel
theorem dX9_place_33 : decode cX9_place 33 = .ok (.invokevirtual 400, 3) := by decide +kernel
theorem dX9_place_36 : decode cX9_place 36 = .ok (.isub, 1) := by decide +kernel
theorem dX9_place_37 : decode cX9_place 37 = .ok (.ireturn, 1) := by decide +kernel
theorem dX9_bits_0 : decode cX9_bits 0 = .ok (.aload_n 0, 1) := by decide +kernel
theorem dX9_bits_1 : decode cX9_bits 1 = .ok (.invokevirtual 376, 3) := by decide +kernel
theorem dX9_bits_4 : decode cX9_bits 4 = .ok (.iconst 1, 1) := by decide +kernel
theorem dX9_bits_5 : decode cX9_bits 5 = .ok (.if_icmp .eq 5, 3) := by decide +kernel
theorem dX9_bits_8 : decode cX9_bits 8 = .ok (.iconst (-1), 1) := by decide +kernel
theorem dX9_bits_9 : decode cX9_bits 9 = .ok (.ireturn, 1) := by decide +kernel
theorem dX9_bits_10 : decode cX9_bits 10 = .ok (.iload_n 1, 1) := by decide +kernel
theorem dX9_bits_11 : decode cX9_bits 11 = .ok (.ifCond .eq 13, 3) := by decide +kernel
theorem dX9_bits_14 : decode cX9_bits 14 = .ok (.aload_n 0, 1) := by decide +kernel
theorem dX9_bits_15 : decode cX9_bits 15 = .ok (.getfield 365, 3) := by decide +kernel
theorem dX9_bits_18 : decode cX9_bits 18 = .ok (.invokestatic 210, 3) := by decide +kernel
theorem dX9_bits_21 : decode cX9_bits 21 = .ok (.goto 10, 3) := by decide +kernel
theorem dX9_bits_24 : decode cX9_bits 24 = .ok (.aload_n 0, 1) := by decide +kernel
theorem dX9_bits_25 : decode cX9_bits 25 = .ok (.getfield 365, 3) := by decide +kernel
theorem dX9_bits_28 : decode cX9_bits 28 = .ok (.invokestatic 207, 3) := by decide +kernel
theorem dX9_bits_31 : decode cX9_bits 31 = .ok (.astore_n 2, 1) := by decide +kernel
theorem dX9_bits_32 : decode cX9_bits 32 = .ok (.aload_n 0, 1) := by decide +kernel
theorem dX9_bits_33 : decode cX9_bits 33 = .ok (.aload_n 2, 1) := by decide +kernel
theorem dX9_bits_34 : decode cX9_bits 34 = .ok (.getfield 104, 3) := by decide +kernel
theorem dX9_bits_37 : decode cX9_bits 37 = .ok (.aload_n 2, 1) := by decide +kernel
theorem dX9_bits_38 : decode cX9_bits 38 = .ok (.getfield 104, 3) := by decide +kernel
theorem dX9_bits_41 : decode cX9_bits 41 = .ok (.arraylength, 1) := by decide +kernel
theorem dX9_bits_42 : decode cX9_bits 42 = .ok (.invokevirtual 170, 3) := by decide +kernel
theorem dX9_bits_45 : decode cX9_bits 45 = .ok (.ireturn, 1) := by decide +kernel
theorem dX9_write_0 : decode cX9_write 0 = .ok (.aload_n 0, 1) := by decide +kernel
theorem dX9_write_1 : decode cX9_write 1 = .ok (.getfield 365, 3) := by decide +kernel
theorem dX9_write_4 : decode cX9_write 4 = .ok (.ifnull 27, 3) := by decide +kernel
theorem dX9_write_7 : decode cX9_write 7 = .ok (.iload_n 1, 1) := by decide +kernel
theorem dX9_write_8 : decode cX9_write 8 = .ok (.iconst 2, 1) := by decide +kernel
theorem dX9_write_9 : decode cX9_write 9 = .ok (.if_icmp .lt 22, 3) := by decide +kernel
theorem dX9_write_12 : decode cX9_write 12 = .ok (.iload_n 1, 1) := by decide +kernel
theorem dX9_write_13 : decode cX9_write 13 = .ok (.bipush 16, 2) := by decide +kernel
theorem dX9_write_15 : decode cX9_write 15 = .ok (.if_icmp .gt 16, 3) := by decide +kernel
theorem dX9_write_18 : decode cX9_write 18 = .ok (.aload_n 0, 1) := by decide +kernel
theorem dX9_write_19 : decode cX9_write 19 = .ok (.invokevirtual 387, 3) := by decide +kernel
theorem dX9_write_22 : decode cX9_write 22 = .ok (.ifCond .eq 11, 3) := by decide +kernel
theorem dX9_write_25 : decode cX9_write 25 = .ok (.iload_n 1, 1) := by decide +kernel
theorem dX9_write_26 : decode cX9_write 26 = .ok (.bipush 10, 2) := by decide +kernel
theorem dX9_write_28 : decode cX9_write 28 = .ok (.if_icmp .eq 5, 3) := by decide +kernel
theorem dX9_write_31 : decode cX9_write 31 = .ok (.iconst (-1), 1) := by decide +kernel
theorem dX9_write_32 : decode cX9_write 32 = .ok (.ireturn, 1) := by decide +kernel
theorem dX9_write_33 : decode cX9_write 33 = .ok (.aload_n 0, 1) := by decide +kernel
theorem dX9_write_34 : decode cX9_write 34 = .ok (.iconst 0, 1) := by decide +kernel
theorem dX9_write_35 : decode cX9_write 35 = .ok (.putfield 82, 3) := by decide +kernel
theorem dX9_write_38 : decode cX9_write 38 = .ok (.aload_n 0, 1) := by decide +kernel
theorem dX9_write_39 : decode cX9_write 39 = .ok (.invokevirtual 387, 3) := by decide +kernel
theorem dX9_write_42 : decode cX9_write 42 = .ok (.ifCond .ne 46, 3) := by decide +kernel
theorem dX9_write_45 : decode cX9_write 45 = .ok (.aload_n 0, 1) := by decide +kernel
theorem dX9_write_46 : decode cX9_write 46 = .ok (.aload_n 0, 1) := by decide +kernel
theorem dX9_write_47 : decode cX9_write 47 = .ok (.getfield 365, 3) := by decide +kernel
theorem dX9_write_50 : decode cX9_write 50 = .ok (.invokestatic 207, 3) := by decide +kernel
theorem dX9_write_53 : decode cX9_write 53 = .ok (.iload_n 1, 1) := by decide +kernel
theorem dX9_write_54 : decode cX9_write 54 = .ok (.invokevirtual 403, 3) := by decide +kernel
theorem dX9_write_57 : decode cX9_write 57 = .ok (.aload_n 0, 1) := by decide +kernel
theorem dX9_write_58 : decode cX9_write 58 = .ok (.getfield 365, 3) := by decide +kernel
theorem dX9_write_61 : decode cX9_write 61 = .ok (.instanceof 157, 3) := by decide +kernel
theorem dX9_write_64 : decode cX9_write 64 = .ok (.ifCond .eq 55, 3) := by decide +kernel
theorem dX9_write_67 : decode cX9_write 67 = .ok (.aload_n 0, 1) := by decide +kernel
theorem dX9_write_68 : decode cX9_write 68 = .ok (.bipush 47, 2) := by decide +kernel
theorem dX9_write_70 : decode cX9_write 70 = .ok (.invokevirtual 96, 3) := by decide +kernel
theorem dX9_write_73 : decode cX9_write 73 = .ok (.aload_n 0, 1) := by decide +kernel
theorem dX9_write_74 : decode cX9_write 74 = .ok (.aload_n 0, 1) := by decide +kernel
theorem dX9_write_75 : decode cX9_write 75 = .ok (.getfield 365, 3) := by decide +kernel
theorem dX9_write_78 : decode cX9_write 78 = .ok (.invokestatic 210, 3) := by decide +kernel
theorem dX9_write_81 : decode cX9_write 81 = .ok (.iload_n 1, 1) := by decide +kernel
theorem dX9_write_82 : decode cX9_write 82 = .ok (.invokevirtual 403, 3) := by decide +kernel
theorem dX9_write_85 : decode cX9_write 85 = .ok (.goto 34, 3) := by decide +kernel
theorem dX9_write_88 : decode cX9_write 88 = .ok (.aload_n 0, 1) := by decide +kernel
theorem dX9_write_89 : decode cX9_write 89 = .ok (.getfield 365, 3) := by decide +kernel
theorem dX9_write_92 : decode cX9_write 92 = .ok (.checkcast 201, 3) := by decide +kernel
theorem dX9_write_95 : decode cX9_write 95 = .ok (.getfield 394, 3) := by decide +kernel
theorem dX9_write_98 : decode cX9_write 98 = .ok (.ifCond .eq 13, 3) := by decide +kernel
theorem dX9_write_101 : decode cX9_write 101 = .ok (.aload_n 0, 1) := by decide +kernel
theorem dX9_write_102 : decode cX9_write 102 = .ok (.ldc_w 407, 3) := by decide +kernel
theorem dX9_write_105 : decode cX9_write 105 = .ok (.invokevirtual 253, 3) := by decide +kernel
theorem dX9_write_108 : decode cX9_write 108 = .ok (.goto 11, 3) := by decide +kernel
theorem dX9_write_111 : decode cX9_write 111 = .ok (.aload_n 0, 1) := by decide +kernel
theorem dX9_write_112 : decode cX9_write 112 = .ok (.aload_n 0, 1) := by decide +kernel
theorem dX9_write_113 : decode cX9_write 113 = .ok (.invokevirtual 379, 3) := by decide +kernel
theorem dX9_write_116 : decode cX9_write 116 = .ok (.invokevirtual 409, 3) := by decide +kernel
theorem dX9_write_119 : decode cX9_write 119 = .ok (.aload_n 0, 1) := by decide +kernel
theorem dX9_write_120 : decode cX9_write 120 = .ok (.getfield 82, 3) := by decide +kernel
theorem dX9_write_123 : decode cX9_write 123 = .ok (.ireturn, 1) := by decide +kernel
theorem dX9_out_0 : decode cX9_out 0 = .ok (.iload_n 1, 1) := by decide +kernel
theorem dX9_out_1 : decode cX9_out 1 = .ok (.ifCond .lt 11, 3) := by decide +kernel
theorem dX9_out_4 : decode cX9_out 4 = .ok (.iload_n 1, 1) := by decide +kernel
theorem dX9_out_5 : decode cX9_out 5 = .ok (.aload_n 0, 1) := by decide +kernel
theorem dX9_out_6 : decode cX9_out 6 = .ok (.getfield 82, 3) := by decide +kernel
theorem dX9_out_9 : decode cX9_out 9 = .ok (.if_icmp .lt 7, 3) := by decide +kernel
theorem dX9_out_12 : decode cX9_out 12 = .ok (.iconst (-1), 1) := by decide +kernel
theorem dX9_out_13 : decode cX9_out 13 = .ok (.goto 9, 3) := by decide +kernel
theorem dX9_out_16 : decode cX9_out 16 = .ok (.aload_n 0, 1) := by decide +kernel
theorem dX9_out_17 : decode cX9_out 17 = .ok (.getfield 79, 3) := by decide +kernel
theorem dX9_out_20 : decode cX9_out 20 = .ok (.iload_n 1, 1) := by decide +kernel
theorem dX9_out_21 : decode cX9_out 21 = .ok (.iaload, 1) := by decide +kernel
theorem dX9_out_22 : decode cX9_out 22 = .ok (.ireturn, 1) := by decide +kernel
theorem dX9_back_0 : decode cX9_back 0 = .ok (.aload_n 0, 1) := by decide +kernel
theorem dX9_back_1 : decode cX9_back 1 = .ok (.getfield 82, 3) := by decide +kernel
theorem dX9_back_4 : decode cX9_back 4 = .ok (.sipush 400, 3) := by decide +kernel
theorem dX9_back_7 : decode cX9_back 7 = .ok (.if_icmp .le 5, 3) := by decide +kernel
theorem dX9_back_10 : decode cX9_back 10 = .ok (.iconst 0, 1) := by decide +kernel
theorem dX9_back_11 : decode cX9_back 11 = .ok (.ireturn, 1) := by decide +kernel
theorem dX9_back_12 : decode cX9_back 12 = .ok (.aload_n 0, 1) := by decide +kernel
theorem dX9_back_13 : decode cX9_back 13 = .ok (.aload_n 0, 1) := by decide +kernel
theorem dX9_back_14 : decode cX9_back 14 = .ok (.getfield 82, 3) := by decide +kernel
theorem dX9_back_17 : decode cX9_back 17 = .ok (.putfield 359, 3) := by decide +kernel
theorem dX9_back_20 : decode cX9_back 20 = .ok (.iconst 0, 1) := by decide +kernel
theorem dX9_back_21 : decode cX9_back 21 = .ok (.istore_n 1, 1) := by decide +kernel
theorem dX9_back_22 : decode cX9_back 22 = .ok (.iload_n 1, 1) := by decide +kernel
theorem dX9_back_23 : decode cX9_back 23 = .ok (.aload_n 0, 1) := by decide +kernel
theorem dX9_back_24 : decode cX9_back 24 = .ok (.getfield 359, 3) := by decide +kernel
theorem dX9_back_27 : decode cX9_back 27 = .ok (.if_icmp .ge 21, 3) := by decide +kernel
theorem dX9_back_30 : decode cX9_back 30 = .ok (.aload_n 0, 1) := by decide +kernel
theorem dX9_back_31 : decode cX9_back 31 = .ok (.getfield 356, 3) := by decide +kernel
theorem dX9_back_34 : decode cX9_back 34 = .ok (.iload_n 1, 1) := by decide +kernel
theorem dX9_back_35 : decode cX9_back 35 = .ok (.aload_n 0, 1) := by decide +kernel
theorem dX9_back_36 : decode cX9_back 36 = .ok (.getfield 79, 3) := by decide +kernel
theorem dX9_back_39 : decode cX9_back 39 = .ok (.iload_n 1, 1) := by decide +kernel
theorem dX9_back_40 : decode cX9_back 40 = .ok (.iaload, 1) := by decide +kernel
theorem dX9_back_41 : decode cX9_back 41 = .ok (.iastore, 1) := by decide +kernel
theorem dX9_back_42 : decode cX9_back 42 = .ok (.iinc 1 1, 3) := by decide +kernel
theorem dX9_back_45 : decode cX9_back 45 = .ok (.goto (-23), 3) := by decide +kernel
theorem dX9_back_48 : decode cX9_back 48 = .ok (.iconst 1, 1) := by decide +kernel
theorem dX9_back_49 : decode cX9_back 49 = .ok (.ireturn, 1) := by decide +kernel
theorem dL_law_0 : decode cL_law 0 = .ok (.new 7, 3) := by decide +kernel
theorem dL_law_3 : decode cL_law 3 = .ok (.dup, 1) := by decide +kernel
theorem dL_law_4 : decode cL_law 4 = .ok (.invokespecial 9, 3) := by decide +kernel
theorem dL_law_7 : decode cL_law 7 = .ok (.astore_n 1, 1) := by decide +kernel
theorem dL_law_8 : decode cL_law 8 = .ok (.new 10, 3) := by decide +kernel
theorem dL_law_11 : decode cL_law 11 = .ok (.dup, 1) := by decide +kernel
theorem dL_law_12 : decode cL_law 12 = .ok (.invokespecial 12, 3) := by decide +kernel
theorem dL_law_15 : decode cL_law 15 = .ok (.astore_n 2, 1) := by decide +kernel
theorem dL_law_16 : decode cL_law 16 = .ok (.iconst 0, 1) := by decide +kernel
theorem dL_law_17 : decode cL_law 17 = .ok (.istore_n 3, 1) := by decide +kernel
theorem dL_law_18 : decode cL_law 18 = .ok (.iload_n 3, 1) := by decide +kernel
theorem dL_law_19 : decode cL_law 19 = .ok (.aload_n 0, 1) := by decide +kernel
theorem dL_law_20 : decode cL_law 20 = .ok (.arraylength, 1) := by decide +kernel
theorem dL_law_21 : decode cL_law 21 = .ok (.iconst 5, 1) := by decide +kernel
theorem dL_law_22 : decode cL_law 22 = .ok (.isub, 1) := by decide +kernel
theorem dL_law_23 : decode cL_law 23 = .ok (.if_icmp .gt 497, 3) := by decide +kernel
theorem dL_law_26 : decode cL_law 26 = .ok (.aload_n 0, 1) := by decide +kernel
theorem dL_law_27 : decode cL_law 27 = .ok (.iload_n 3, 1) := by decide +kernel
theorem dL_law_28 : decode cL_law 28 = .ok (.iaload, 1) := by decide +kernel
theorem dL_law_29 : decode cL_law 29 = .ok (.bipush 15, 2) := by decide +kernel
theorem dL_law_31 : decode cL_law 31 = .ok (.iand, 1) := by decide +kernel
theorem dL_law_32 : decode cL_law 32 = .ok (.tableswitch 482 0 14 #[76, 99, 110, 123, 212, 305, 318, 331, 344, 357, 371, 384, 423, 446, 469], 76) := by decide +kernel
theorem dL_law_108 : decode cL_law 108 = .ok (.aload_n 1, 1) := by decide +kernel
theorem dL_law_109 : decode cL_law 109 = .ok (.aload_n 0, 1) := by decide +kernel
theorem dL_law_110 : decode cL_law 110 = .ok (.iload_n 3, 1) := by decide +kernel
theorem dL_law_111 : decode cL_law 111 = .ok (.iconst 1, 1) := by decide +kernel
theorem dL_law_112 : decode cL_law 112 = .ok (.iadd, 1) := by decide +kernel
theorem dL_law_113 : decode cL_law 113 = .ok (.iaload, 1) := by decide +kernel
theorem dL_law_114 : decode cL_law 114 = .ok (.invokevirtual 13, 3) := by decide +kernel
theorem dL_law_117 : decode cL_law 117 = .ok (.aload_n 2, 1) := by decide +kernel
theorem dL_law_118 : decode cL_law 118 = .ok (.aload_n 0, 1) := by decide +kernel
theorem dL_law_119 : decode cL_law 119 = .ok (.iload_n 3, 1) := by decide +kernel
theorem dL_law_120 : decode cL_law 120 = .ok (.iconst 1, 1) := by decide +kernel
theorem dL_law_121 : decode cL_law 121 = .ok (.iadd, 1) := by decide +kernel
theorem dL_law_122 : decode cL_law 122 = .ok (.iaload, 1) := by decide +kernel
theorem dL_law_123 : decode cL_law 123 = .ok (.invokevirtual 17, 3) := by decide +kernel
theorem dL_law_126 : decode cL_law 126 = .ok (.if_icmp .eq 388, 3) := by decide +kernel
theorem dL_law_129 : decode cL_law 129 = .ok (.iconst 0, 1) := by decide +kernel
theorem dL_law_130 : decode cL_law 130 = .ok (.ireturn, 1) := by decide +kernel
theorem dL_law_131 : decode cL_law 131 = .ok (.aload_n 1, 1) := by decide +kernel
theorem dL_law_132 : decode cL_law 132 = .ok (.invokevirtual 18, 3) := by decide +kernel
theorem dL_law_135 : decode cL_law 135 = .ok (.aload_n 2, 1) := by decide +kernel
theorem dL_law_136 : decode cL_law 136 = .ok (.invokevirtual 21, 3) := by decide +kernel
theorem dL_law_139 : decode cL_law 139 = .ok (.goto 375, 3) := by decide +kernel
theorem dL_law_142 : decode cL_law 142 = .ok (.aload_n 1, 1) := by decide +kernel
theorem dL_law_143 : decode cL_law 143 = .ok (.invokevirtual 22, 3) := by decide +kernel
theorem dL_law_146 : decode cL_law 146 = .ok (.aload_n 2, 1) := by decide +kernel
theorem dL_law_147 : decode cL_law 147 = .ok (.invokevirtual 26, 3) := by decide +kernel
theorem dL_law_150 : decode cL_law 150 = .ok (.if_icmp .eq 364, 3) := by decide +kernel
theorem dL_law_153 : decode cL_law 153 = .ok (.iconst 0, 1) := by decide +kernel
theorem dL_law_154 : decode cL_law 154 = .ok (.ireturn, 1) := by decide +kernel
theorem dL_law_155 : decode cL_law 155 = .ok (.aload_n 1, 1) := by decide +kernel
theorem dL_law_156 : decode cL_law 156 = .ok (.aload_n 0, 1) := by decide +kernel
theorem dL_law_157 : decode cL_law 157 = .ok (.iload_n 3, 1) := by decide +kernel
theorem dL_law_158 : decode cL_law 158 = .ok (.iconst 1, 1) := by decide +kernel
theorem dL_law_159 : decode cL_law 159 = .ok (.iadd, 1) := by decide +kernel
theorem dL_law_160 : decode cL_law 160 = .ok (.iaload, 1) := by decide +kernel
theorem dL_law_161 : decode cL_law 161 = .ok (.ifCond .eq 7, 3) := by decide +kernel
theorem dL_law_164 : decode cL_law 164 = .ok (.iconst 1, 1) := by decide +kernel
theorem dL_law_165 : decode cL_law 165 = .ok (.goto 4, 3) := by decide +kernel
theorem dL_law_168 : decode cL_law 168 = .ok (.iconst 0, 1) := by decide +kernel
theorem dL_law_169 : decode cL_law 169 = .ok (.aload_n 0, 1) := by decide +kernel
theorem dL_law_170 : decode cL_law 170 = .ok (.iload_n 3, 1) := by decide +kernel
theorem dL_law_171 : decode cL_law 171 = .ok (.iconst 2, 1) := by decide +kernel
theorem dL_law_172 : decode cL_law 172 = .ok (.iadd, 1) := by decide +kernel
theorem dL_law_173 : decode cL_law 173 = .ok (.iaload, 1) := by decide +kernel
theorem dL_law_174 : decode cL_law 174 = .ok (.i2l, 1) := by decide +kernel
theorem dL_law_175 : decode cL_law 175 = .ok (.bipush 32, 2) := by decide +kernel
theorem dL_law_177 : decode cL_law 177 = .ok (.lshl, 1) := by decide +kernel
theorem dL_law_178 : decode cL_law 178 = .ok (.aload_n 0, 1) := by decide +kernel
theorem dL_law_179 : decode cL_law 179 = .ok (.iload_n 3, 1) := by decide +kernel
theorem dL_law_180 : decode cL_law 180 = .ok (.iconst 3, 1) := by decide +kernel
theorem dL_law_181 : decode cL_law 181 = .ok (.iadd, 1) := by decide +kernel
theorem dL_law_182 : decode cL_law 182 = .ok (.iaload, 1) := by decide +kernel
theorem dL_law_183 : decode cL_law 183 = .ok (.i2l, 1) := by decide +kernel
theorem dL_law_184 : decode cL_law 184 = .ok (.ldc2_w 27, 3) := by decide +kernel
theorem dL_law_187 : decode cL_law 187 = .ok (.land, 1) := by decide +kernel
theorem dL_law_188 : decode cL_law 188 = .ok (.lor, 1) := by decide +kernel
theorem dL_law_189 : decode cL_law 189 = .ok (.aload_n 0, 1) := by decide +kernel
theorem dL_law_190 : decode cL_law 190 = .ok (.iload_n 3, 1) := by decide +kernel
theorem dL_law_191 : decode cL_law 191 = .ok (.iconst 4, 1) := by decide +kernel
theorem dL_law_192 : decode cL_law 192 = .ok (.iadd, 1) := by decide +kernel
theorem dL_law_193 : decode cL_law 193 = .ok (.iaload, 1) := by decide +kernel
theorem dL_law_194 : decode cL_law 194 = .ok (.invokevirtual 29, 3) := by decide +kernel
theorem dL_law_197 : decode cL_law 197 = .ok (.aload_n 2, 1) := by decide +kernel
theorem dL_law_198 : decode cL_law 198 = .ok (.aload_n 0, 1) := by decide +kernel
theorem dL_law_199 : decode cL_law 199 = .ok (.iload_n 3, 1) := by decide +kernel
theorem dL_law_200 : decode cL_law 200 = .ok (.iconst 1, 1) := by decide +kernel
theorem dL_law_201 : decode cL_law 201 = .ok (.iadd, 1) := by decide +kernel
theorem dL_law_202 : decode cL_law 202 = .ok (.iaload, 1) := by decide +kernel
theorem dL_law_203 : decode cL_law 203 = .ok (.ifCond .eq 7, 3) := by decide +kernel
theorem dL_law_206 : decode cL_law 206 = .ok (.iconst 1, 1) := by decide +kernel
theorem dL_law_207 : decode cL_law 207 = .ok (.goto 4, 3) := by decide +kernel
theorem dL_law_210 : decode cL_law 210 = .ok (.iconst 0, 1) := by decide +kernel
theorem dL_law_211 : decode cL_law 211 = .ok (.aload_n 0, 1) := by decide +kernel
theorem dL_law_212 : decode cL_law 212 = .ok (.iload_n 3, 1) := by decide +kernel
theorem dL_law_213 : decode cL_law 213 = .ok (.iconst 2, 1) := by decide +kernel
theorem dL_law_214 : decode cL_law 214 = .ok (.iadd, 1) := by decide +kernel
theorem dL_law_215 : decode cL_law 215 = .ok (.iaload, 1) := by decide +kernel
theorem dL_law_216 : decode cL_law 216 = .ok (.i2l, 1) := by decide +kernel
theorem dL_law_217 : decode cL_law 217 = .ok (.bipush 32, 2) := by decide +kernel
theorem dL_law_219 : decode cL_law 219 = .ok (.lshl, 1) := by decide +kernel
theorem dL_law_220 : decode cL_law 220 = .ok (.aload_n 0, 1) := by decide +kernel
theorem dL_law_221 : decode cL_law 221 = .ok (.iload_n 3, 1) := by decide +kernel
theorem dL_law_222 : decode cL_law 222 = .ok (.iconst 3, 1) := by decide +kernel
theorem dL_law_223 : decode cL_law 223 = .ok (.iadd, 1) := by decide +kernel
theorem dL_law_224 : decode cL_law 224 = .ok (.iaload, 1) := by decide +kernel
theorem dL_law_225 : decode cL_law 225 = .ok (.i2l, 1) := by decide +kernel
theorem dL_law_226 : decode cL_law 226 = .ok (.ldc2_w 27, 3) := by decide +kernel
theorem dL_law_229 : decode cL_law 229 = .ok (.land, 1) := by decide +kernel
theorem dL_law_230 : decode cL_law 230 = .ok (.lor, 1) := by decide +kernel
theorem dL_law_231 : decode cL_law 231 = .ok (.aload_n 0, 1) := by decide +kernel
theorem dL_law_232 : decode cL_law 232 = .ok (.iload_n 3, 1) := by decide +kernel
theorem dL_law_233 : decode cL_law 233 = .ok (.iconst 4, 1) := by decide +kernel
theorem dL_law_234 : decode cL_law 234 = .ok (.iadd, 1) := by decide +kernel
theorem dL_law_235 : decode cL_law 235 = .ok (.iaload, 1) := by decide +kernel
theorem dL_law_236 : decode cL_law 236 = .ok (.invokevirtual 33, 3) := by decide +kernel
theorem dL_law_239 : decode cL_law 239 = .ok (.if_icmp .eq 275, 3) := by decide +kernel
theorem dL_law_242 : decode cL_law 242 = .ok (.iconst 0, 1) := by decide +kernel
theorem dL_law_243 : decode cL_law 243 = .ok (.ireturn, 1) := by decide +kernel
theorem dL_law_244 : decode cL_law 244 = .ok (.aload_n 1, 1) := by decide +kernel
theorem dL_law_245 : decode cL_law 245 = .ok (.aload_n 0, 1) := by decide +kernel
theorem dL_law_246 : decode cL_law 246 = .ok (.iload_n 3, 1) := by decide +kernel
theorem dL_law_247 : decode cL_law 247 = .ok (.iconst 1, 1) := by decide +kernel
theorem dL_law_248 : decode cL_law 248 = .ok (.iadd, 1) := by decide +kernel
theorem dL_law_249 : decode cL_law 249 = .ok (.iaload, 1) := by decide +kernel
theorem dL_law_250 : decode cL_law 250 = .ok (.i2l, 1) := by decide +kernel
theorem dL_law_251 : decode cL_law 251 = .ok (.bipush 32, 2) := by decide +kernel
theorem dL_law_253 : decode cL_law 253 = .ok (.lshl, 1) := by decide +kernel
theorem dL_law_254 : decode cL_law 254 = .ok (.aload_n 0, 1) := by decide +kernel
theorem dL_law_255 : decode cL_law 255 = .ok (.iload_n 3, 1) := by decide +kernel
theorem dL_law_256 : decode cL_law 256 = .ok (.iconst 2, 1) := by decide +kernel
theorem dL_law_257 : decode cL_law 257 = .ok (.iadd, 1) := by decide +kernel
theorem dL_law_258 : decode cL_law 258 = .ok (.iaload, 1) := by decide +kernel
theorem dL_law_259 : decode cL_law 259 = .ok (.i2l, 1) := by decide +kernel
theorem dL_law_260 : decode cL_law 260 = .ok (.ldc2_w 27, 3) := by decide +kernel
theorem dL_law_263 : decode cL_law 263 = .ok (.land, 1) := by decide +kernel
theorem dL_law_264 : decode cL_law 264 = .ok (.lor, 1) := by decide +kernel
theorem dL_law_265 : decode cL_law 265 = .ok (.aload_n 0, 1) := by decide +kernel
theorem dL_law_266 : decode cL_law 266 = .ok (.iload_n 3, 1) := by decide +kernel
theorem dL_law_267 : decode cL_law 267 = .ok (.iconst 3, 1) := by decide +kernel
theorem dL_law_268 : decode cL_law 268 = .ok (.iadd, 1) := by decide +kernel
theorem dL_law_269 : decode cL_law 269 = .ok (.iaload, 1) := by decide +kernel
theorem dL_law_270 : decode cL_law 270 = .ok (.i2l, 1) := by decide +kernel
theorem dL_law_271 : decode cL_law 271 = .ok (.bipush 32, 2) := by decide +kernel
theorem dL_law_273 : decode cL_law 273 = .ok (.lshl, 1) := by decide +kernel
theorem dL_law_274 : decode cL_law 274 = .ok (.aload_n 0, 1) := by decide +kernel
theorem dL_law_275 : decode cL_law 275 = .ok (.iload_n 3, 1) := by decide +kernel
theorem dL_law_276 : decode cL_law 276 = .ok (.iconst 4, 1) := by decide +kernel
theorem dL_law_277 : decode cL_law 277 = .ok (.iadd, 1) := by decide +kernel
theorem dL_law_278 : decode cL_law 278 = .ok (.iaload, 1) := by decide +kernel
theorem dL_law_279 : decode cL_law 279 = .ok (.i2l, 1) := by decide +kernel
theorem dL_law_280 : decode cL_law 280 = .ok (.ldc2_w 27, 3) := by decide +kernel
theorem dL_law_283 : decode cL_law 283 = .ok (.land, 1) := by decide +kernel
theorem dL_law_284 : decode cL_law 284 = .ok (.lor, 1) := by decide +kernel
theorem dL_law_285 : decode cL_law 285 = .ok (.invokevirtual 34, 3) := by decide +kernel
theorem dL_law_288 : decode cL_law 288 = .ok (.aload_n 2, 1) := by decide +kernel
theorem dL_law_289 : decode cL_law 289 = .ok (.aload_n 0, 1) := by decide +kernel
theorem dL_law_290 : decode cL_law 290 = .ok (.iload_n 3, 1) := by decide +kernel
theorem dL_law_291 : decode cL_law 291 = .ok (.iconst 1, 1) := by decide +kernel
theorem dL_law_292 : decode cL_law 292 = .ok (.iadd, 1) := by decide +kernel
theorem dL_law_293 : decode cL_law 293 = .ok (.iaload, 1) := by decide +kernel
theorem dL_law_294 : decode cL_law 294 = .ok (.i2l, 1) := by decide +kernel
theorem dL_law_295 : decode cL_law 295 = .ok (.bipush 32, 2) := by decide +kernel
theorem dL_law_297 : decode cL_law 297 = .ok (.lshl, 1) := by decide +kernel
theorem dL_law_298 : decode cL_law 298 = .ok (.aload_n 0, 1) := by decide +kernel
theorem dL_law_299 : decode cL_law 299 = .ok (.iload_n 3, 1) := by decide +kernel
theorem dL_law_300 : decode cL_law 300 = .ok (.iconst 2, 1) := by decide +kernel
theorem dL_law_301 : decode cL_law 301 = .ok (.iadd, 1) := by decide +kernel
theorem dL_law_302 : decode cL_law 302 = .ok (.iaload, 1) := by decide +kernel
theorem dL_law_303 : decode cL_law 303 = .ok (.i2l, 1) := by decide +kernel
theorem dL_law_304 : decode cL_law 304 = .ok (.ldc2_w 27, 3) := by decide +kernel
theorem dL_law_307 : decode cL_law 307 = .ok (.land, 1) := by decide +kernel
theorem dL_law_308 : decode cL_law 308 = .ok (.lor, 1) := by decide +kernel
theorem dL_law_309 : decode cL_law 309 = .ok (.aload_n 0, 1) := by decide +kernel
theorem dL_law_310 : decode cL_law 310 = .ok (.iload_n 3, 1) := by decide +kernel
theorem dL_law_311 : decode cL_law 311 = .ok (.iconst 3, 1) := by decide +kernel
theorem dL_law_312 : decode cL_law 312 = .ok (.iadd, 1) := by decide +kernel
theorem dL_law_313 : decode cL_law 313 = .ok (.iaload, 1) := by decide +kernel
theorem dL_law_314 : decode cL_law 314 = .ok (.i2l, 1) := by decide +kernel
theorem dL_law_315 : decode cL_law 315 = .ok (.bipush 32, 2) := by decide +kernel
theorem dL_law_317 : decode cL_law 317 = .ok (.lshl, 1) := by decide +kernel
theorem dL_law_318 : decode cL_law 318 = .ok (.aload_n 0, 1) := by decide +kernel
theorem dL_law_319 : decode cL_law 319 = .ok (.iload_n 3, 1) := by decide +kernel
theorem dL_law_320 : decode cL_law 320 = .ok (.iconst 4, 1) := by decide +kernel
theorem dL_law_321 : decode cL_law 321 = .ok (.iadd, 1) := by decide +kernel
theorem dL_law_322 : decode cL_law 322 = .ok (.iaload, 1) := by decide +kernel
theorem dL_law_323 : decode cL_law 323 = .ok (.i2l, 1) := by decide +kernel
theorem dL_law_324 : decode cL_law 324 = .ok (.ldc2_w 27, 3) := by decide +kernel
theorem dL_law_327 : decode cL_law 327 = .ok (.land, 1) := by decide +kernel
theorem dL_law_328 : decode cL_law 328 = .ok (.lor, 1) := by decide +kernel
theorem dL_law_329 : decode cL_law 329 = .ok (.invokevirtual 38, 3) := by decide +kernel
theorem dL_law_332 : decode cL_law 332 = .ok (.if_icmp .eq 182, 3) := by decide +kernel
theorem dL_law_335 : decode cL_law 335 = .ok (.iconst 0, 1) := by decide +kernel
theorem dL_law_336 : decode cL_law 336 = .ok (.ireturn, 1) := by decide +kernel
theorem dL_law_337 : decode cL_law 337 = .ok (.aload_n 1, 1) := by decide +kernel
theorem dL_law_338 : decode cL_law 338 = .ok (.invokevirtual 39, 3) := by decide +kernel
theorem dL_law_341 : decode cL_law 341 = .ok (.aload_n 2, 1) := by decide +kernel
theorem dL_law_342 : decode cL_law 342 = .ok (.invokevirtual 43, 3) := by decide +kernel
theorem dL_law_345 : decode cL_law 345 = .ok (.if_icmp .eq 169, 3) := by decide +kernel
theorem dL_law_348 : decode cL_law 348 = .ok (.iconst 0, 1) := by decide +kernel
theorem dL_law_349 : decode cL_law 349 = .ok (.ireturn, 1) := by decide +kernel
theorem dL_law_350 : decode cL_law 350 = .ok (.aload_n 1, 1) := by decide +kernel
theorem dL_law_351 : decode cL_law 351 = .ok (.invokevirtual 44, 3) := by decide +kernel
theorem dL_law_354 : decode cL_law 354 = .ok (.aload_n 2, 1) := by decide +kernel
theorem dL_law_355 : decode cL_law 355 = .ok (.invokevirtual 47, 3) := by decide +kernel
theorem dL_law_358 : decode cL_law 358 = .ok (.if_icmp .eq 156, 3) := by decide +kernel
theorem dL_law_361 : decode cL_law 361 = .ok (.iconst 0, 1) := by decide +kernel
theorem dL_law_362 : decode cL_law 362 = .ok (.ireturn, 1) := by decide +kernel
theorem dL_law_363 : decode cL_law 363 = .ok (.aload_n 1, 1) := by decide +kernel
theorem dL_law_364 : decode cL_law 364 = .ok (.invokevirtual 48, 3) := by decide +kernel
theorem dL_law_367 : decode cL_law 367 = .ok (.aload_n 2, 1) := by decide +kernel
theorem dL_law_368 : decode cL_law 368 = .ok (.invokevirtual 51, 3) := by decide +kernel
theorem dL_law_371 : decode cL_law 371 = .ok (.if_icmp .eq 143, 3) := by decide +kernel
theorem dL_law_374 : decode cL_law 374 = .ok (.iconst 0, 1) := by decide +kernel
theorem dL_law_375 : decode cL_law 375 = .ok (.ireturn, 1) := by decide +kernel
theorem dL_law_376 : decode cL_law 376 = .ok (.aload_n 1, 1) := by decide +kernel
theorem dL_law_377 : decode cL_law 377 = .ok (.invokevirtual 52, 3) := by decide +kernel
theorem dL_law_380 : decode cL_law 380 = .ok (.aload_n 2, 1) := by decide +kernel
theorem dL_law_381 : decode cL_law 381 = .ok (.invokevirtual 55, 3) := by decide +kernel
theorem dL_law_384 : decode cL_law 384 = .ok (.if_icmp .eq 130, 3) := by decide +kernel
theorem dL_law_387 : decode cL_law 387 = .ok (.iconst 0, 1) := by decide +kernel
theorem dL_law_388 : decode cL_law 388 = .ok (.ireturn, 1) := by decide +kernel
theorem dL_law_389 : decode cL_law 389 = .ok (.aload_n 1, 1) := by decide +kernel
theorem dL_law_390 : decode cL_law 390 = .ok (.invokevirtual 56, 3) := by decide +kernel
theorem dL_law_393 : decode cL_law 393 = .ok (.aload_n 2, 1) := by decide +kernel
theorem dL_law_394 : decode cL_law 394 = .ok (.invokevirtual 60, 3) := by decide +kernel
theorem dL_law_397 : decode cL_law 397 = .ok (.lcmp, 1) := by decide +kernel
theorem dL_law_398 : decode cL_law 398 = .ok (.ifCond .eq 116, 3) := by decide +kernel
theorem dL_law_401 : decode cL_law 401 = .ok (.iconst 0, 1) := by decide +kernel
theorem dL_law_402 : decode cL_law 402 = .ok (.ireturn, 1) := by decide +kernel
theorem dL_law_403 : decode cL_law 403 = .ok (.aload_n 1, 1) := by decide +kernel
theorem dL_law_404 : decode cL_law 404 = .ok (.invokevirtual 61, 3) := by decide +kernel
theorem dL_law_407 : decode cL_law 407 = .ok (.aload_n 2, 1) := by decide +kernel
theorem dL_law_408 : decode cL_law 408 = .ok (.invokevirtual 64, 3) := by decide +kernel
theorem dL_law_411 : decode cL_law 411 = .ok (.if_icmp .eq 103, 3) := by decide +kernel
theorem dL_law_414 : decode cL_law 414 = .ok (.iconst 0, 1) := by decide +kernel
theorem dL_law_415 : decode cL_law 415 = .ok (.ireturn, 1) := by decide +kernel
theorem dL_law_416 : decode cL_law 416 = .ok (.aload_n 1, 1) := by decide +kernel
theorem dL_law_417 : decode cL_law 417 = .ok (.aload_n 0, 1) := by decide +kernel
theorem dL_law_418 : decode cL_law 418 = .ok (.iload_n 3, 1) := by decide +kernel
theorem dL_law_419 : decode cL_law 419 = .ok (.iconst 1, 1) := by decide +kernel
theorem dL_law_420 : decode cL_law 420 = .ok (.iadd, 1) := by decide +kernel
theorem dL_law_421 : decode cL_law 421 = .ok (.iaload, 1) := by decide +kernel
theorem dL_law_422 : decode cL_law 422 = .ok (.ifCond .eq 7, 3) := by decide +kernel
theorem dL_law_425 : decode cL_law 425 = .ok (.iconst 1, 1) := by decide +kernel
theorem dL_law_426 : decode cL_law 426 = .ok (.goto 4, 3) := by decide +kernel
theorem dL_law_429 : decode cL_law 429 = .ok (.iconst 0, 1) := by decide +kernel
theorem dL_law_430 : decode cL_law 430 = .ok (.invokevirtual 65, 3) := by decide +kernel
theorem dL_law_433 : decode cL_law 433 = .ok (.aload_n 2, 1) := by decide +kernel
theorem dL_law_434 : decode cL_law 434 = .ok (.aload_n 0, 1) := by decide +kernel
theorem dL_law_435 : decode cL_law 435 = .ok (.iload_n 3, 1) := by decide +kernel
theorem dL_law_436 : decode cL_law 436 = .ok (.iconst 1, 1) := by decide +kernel
theorem dL_law_437 : decode cL_law 437 = .ok (.iadd, 1) := by decide +kernel
theorem dL_law_438 : decode cL_law 438 = .ok (.iaload, 1) := by decide +kernel
theorem dL_law_439 : decode cL_law 439 = .ok (.ifCond .eq 7, 3) := by decide +kernel
theorem dL_law_442 : decode cL_law 442 = .ok (.iconst 1, 1) := by decide +kernel
theorem dL_law_443 : decode cL_law 443 = .ok (.goto 4, 3) := by decide +kernel
theorem dL_law_446 : decode cL_law 446 = .ok (.iconst 0, 1) := by decide +kernel
theorem dL_law_447 : decode cL_law 447 = .ok (.invokevirtual 69, 3) := by decide +kernel
theorem dL_law_450 : decode cL_law 450 = .ok (.if_icmp .eq 64, 3) := by decide +kernel
theorem dL_law_453 : decode cL_law 453 = .ok (.iconst 0, 1) := by decide +kernel
theorem dL_law_454 : decode cL_law 454 = .ok (.ireturn, 1) := by decide +kernel
theorem dL_law_455 : decode cL_law 455 = .ok (.aload_n 1, 1) := by decide +kernel
theorem dL_law_456 : decode cL_law 456 = .ok (.aload_n 0, 1) := by decide +kernel
theorem dL_law_457 : decode cL_law 457 = .ok (.iload_n 3, 1) := by decide +kernel
theorem dL_law_458 : decode cL_law 458 = .ok (.iconst 1, 1) := by decide +kernel
theorem dL_law_459 : decode cL_law 459 = .ok (.iadd, 1) := by decide +kernel
theorem dL_law_460 : decode cL_law 460 = .ok (.iaload, 1) := by decide +kernel
theorem dL_law_461 : decode cL_law 461 = .ok (.invokevirtual 70, 3) := by decide +kernel
theorem dL_law_464 : decode cL_law 464 = .ok (.aload_n 2, 1) := by decide +kernel
theorem dL_law_465 : decode cL_law 465 = .ok (.aload_n 0, 1) := by decide +kernel
theorem dL_law_466 : decode cL_law 466 = .ok (.iload_n 3, 1) := by decide +kernel
theorem dL_law_467 : decode cL_law 467 = .ok (.iconst 1, 1) := by decide +kernel
theorem dL_law_468 : decode cL_law 468 = .ok (.iadd, 1) := by decide +kernel
theorem dL_law_469 : decode cL_law 469 = .ok (.iaload, 1) := by decide +kernel
theorem dL_law_470 : decode cL_law 470 = .ok (.invokevirtual 73, 3) := by decide +kernel
theorem dL_law_473 : decode cL_law 473 = .ok (.if_icmp .eq 41, 3) := by decide +kernel
theorem dL_law_476 : decode cL_law 476 = .ok (.iconst 0, 1) := by decide +kernel
theorem dL_law_477 : decode cL_law 477 = .ok (.ireturn, 1) := by decide +kernel
theorem dL_law_478 : decode cL_law 478 = .ok (.aload_n 1, 1) := by decide +kernel
theorem dL_law_479 : decode cL_law 479 = .ok (.aload_n 0, 1) := by decide +kernel
theorem dL_law_480 : decode cL_law 480 = .ok (.iload_n 3, 1) := by decide +kernel
theorem dL_law_481 : decode cL_law 481 = .ok (.iconst 1, 1) := by decide +kernel
theorem dL_law_482 : decode cL_law 482 = .ok (.iadd, 1) := by decide +kernel
theorem dL_law_483 : decode cL_law 483 = .ok (.iaload, 1) := by decide +kernel
theorem dL_law_484 : decode cL_law 484 = .ok (.invokevirtual 74, 3) := by decide +kernel
theorem dL_law_487 : decode cL_law 487 = .ok (.aload_n 2, 1) := by decide +kernel
theorem dL_law_488 : decode cL_law 488 = .ok (.aload_n 0, 1) := by decide +kernel
theorem dL_law_489 : decode cL_law 489 = .ok (.iload_n 3, 1) := by decide +kernel
theorem dL_law_490 : decode cL_law 490 = .ok (.iconst 1, 1) := by decide +kernel
theorem dL_law_491 : decode cL_law 491 = .ok (.iadd, 1) := by decide +kernel
theorem dL_law_492 : decode cL_law 492 = .ok (.iaload, 1) := by decide +kernel
theorem dL_law_493 : decode cL_law 493 = .ok (.invokevirtual 77, 3) := by decide +kernel
theorem dL_law_496 : decode cL_law 496 = .ok (.if_icmp .eq 18, 3) := by decide +kernel
theorem dL_law_499 : decode cL_law 499 = .ok (.iconst 0, 1) := by decide +kernel
theorem dL_law_500 : decode cL_law 500 = .ok (.ireturn, 1) := by decide +kernel
theorem dL_law_501 : decode cL_law 501 = .ok (.aload_n 1, 1) := by decide +kernel
theorem dL_law_502 : decode cL_law 502 = .ok (.invokevirtual 78, 3) := by decide +kernel
theorem dL_law_505 : decode cL_law 505 = .ok (.aload_n 2, 1) := by decide +kernel
theorem dL_law_506 : decode cL_law 506 = .ok (.invokevirtual 81, 3) := by decide +kernel
theorem dL_law_509 : decode cL_law 509 = .ok (.if_icmp .eq 5, 3) := by decide +kernel
theorem dL_law_512 : decode cL_law 512 = .ok (.iconst 0, 1) := by decide +kernel
theorem dL_law_513 : decode cL_law 513 = .ok (.ireturn, 1) := by decide +kernel
theorem dL_law_514 : decode cL_law 514 = .ok (.iinc 3 5, 3) := by decide +kernel
theorem dL_law_517 : decode cL_law 517 = .ok (.goto (-499), 3) := by decide +kernel
theorem dL_law_520 : decode cL_law 520 = .ok (.iconst 1, 1) := by decide +kernel
theorem dL_law_521 : decode cL_law 521 = .ok (.ireturn, 1) := by decide +kernel
