theorem dX11_writes_89 : decode cX11_writes 89 = .ok (.iload 10, 2) := by decide +kernel
theorem dX11_writes_91 : decode cX11_writes 91 = .ok (.idiv, 1) := by decide +kernel
theorem dX11_writes_92 : decode cX11_writes 92 = .ok (.istore 9, 2) := by decide +kernel
theorem dX11_writes_94 : decode cX11_writes 94 = .ok (.goto (-54), 3) := by decide +kernel
theorem dX11_writes_97 : decode cX11_writes 97 = .ok (.aload_n 0, 1) := by decide +kernel
theorem dX11_writes_98 : decode cX11_writes 98 = .ok (.lload 5, 2) := by decide +kernel
theorem dX11_writes_100 : decode cX11_writes 100 = .ok (.lload 7, 2) := by decide +kernel
theorem dX11_writes_102 : decode cX11_writes 102 = .ok (.iload 10, 2) := by decide +kernel
theorem dX11_writes_104 : decode cX11_writes 104 = .ok (.i2l, 1) := by decide +kernel
theorem dX11_writes_105 : decode cX11_writes 105 = .ok (.lconst 0, 1) := by decide +kernel
theorem dX11_writes_106 : decode cX11_writes 106 = .ok (.invokevirtual 153, 3) := by decide +kernel
theorem dX11_writes_109 : decode cX11_writes 109 = .ok (.aload_n 0, 1) := by decide +kernel
theorem dX11_writes_110 : decode cX11_writes 110 = .ok (.getfield 105, 3) := by decide +kernel
theorem dX11_writes_113 : decode cX11_writes 113 = .ok (.aload_n 0, 1) := by decide +kernel
theorem dX11_writes_114 : decode cX11_writes 114 = .ok (.getfield 109, 3) := by decide +kernel
theorem dX11_writes_117 : decode cX11_writes 117 = .ok (.invokestatic 112, 3) := by decide +kernel
theorem dX11_writes_120 : decode cX11_writes 120 = .ok (.iload 10, 2) := by decide +kernel
theorem dX11_writes_122 : decode cX11_writes 122 = .ok (.i2l, 1) := by decide +kernel
theorem dX11_writes_123 : decode cX11_writes 123 = .ok (.iload 10, 2) := by decide +kernel
theorem dX11_writes_125 : decode cX11_writes 125 = .ok (.i2l, 1) := by decide +kernel
theorem dX11_writes_126 : decode cX11_writes 126 = .ok (.lmul, 1) := by decide +kernel
theorem dX11_writes_127 : decode cX11_writes 127 = .ok (.lcmp, 1) := by decide +kernel
theorem dX11_writes_128 : decode cX11_writes 128 = .ok (.ifCond .ne 9, 3) := by decide +kernel
theorem dX11_writes_131 : decode cX11_writes 131 = .ok (.aload_n 0, 1) := by decide +kernel
theorem dX11_writes_132 : decode cX11_writes 132 = .ok (.iload 10, 2) := by decide +kernel
theorem dX11_writes_134 : decode cX11_writes 134 = .ok (.invokevirtual 211, 3) := by decide +kernel
theorem dX11_writes_137 : decode cX11_writes 137 = .ok (.aload_n 0, 1) := by decide +kernel
theorem dX11_writes_138 : decode cX11_writes 138 = .ok (.aload_n 0, 1) := by decide +kernel
theorem dX11_writes_139 : decode cX11_writes 139 = .ok (.getfield 105, 3) := by decide +kernel
theorem dX11_writes_142 : decode cX11_writes 142 = .ok (.aload_n 0, 1) := by decide +kernel
theorem dX11_writes_143 : decode cX11_writes 143 = .ok (.getfield 109, 3) := by decide +kernel
theorem dX11_writes_146 : decode cX11_writes 146 = .ok (.invokevirtual 148, 3) := by decide +kernel
theorem dX11_writes_149 : decode cX11_writes 149 = .ok (.aload_n 0, 1) := by decide +kernel
theorem dX11_writes_150 : decode cX11_writes 150 = .ok (.getfield 105, 3) := by decide +kernel
theorem dX11_writes_153 : decode cX11_writes 153 = .ok (.l2i, 1) := by decide +kernel
theorem dX11_writes_154 : decode cX11_writes 154 = .ok (.istore 11, 2) := by decide +kernel
theorem dX11_writes_156 : decode cX11_writes 156 = .ok (.aload_n 0, 1) := by decide +kernel
theorem dX11_writes_157 : decode cX11_writes 157 = .ok (.getfield 109, 3) := by decide +kernel
theorem dX11_writes_160 : decode cX11_writes 160 = .ok (.l2i, 1) := by decide +kernel
theorem dX11_writes_161 : decode cX11_writes 161 = .ok (.istore 12, 2) := by decide +kernel
theorem dX11_writes_163 : decode cX11_writes 163 = .ok (.aload_n 0, 1) := by decide +kernel
theorem dX11_writes_164 : decode cX11_writes 164 = .ok (.iload 11, 2) := by decide +kernel
theorem dX11_writes_166 : decode cX11_writes 166 = .ok (.iload 12, 2) := by decide +kernel
theorem dX11_writes_168 : decode cX11_writes 168 = .ok (.invokevirtual 207, 3) := by decide +kernel
theorem dX11_writes_171 : decode cX11_writes 171 = .ok (.aload_n 0, 1) := by decide +kernel
theorem dX11_writes_172 : decode cX11_writes 172 = .ok (.lload 5, 2) := by decide +kernel
theorem dX11_writes_174 : decode cX11_writes 174 = .ok (.lload 7, 2) := by decide +kernel
theorem dX11_writes_176 : decode cX11_writes 176 = .ok (.iload 11, 2) := by decide +kernel
theorem dX11_writes_178 : decode cX11_writes 178 = .ok (.i2l, 1) := by decide +kernel
theorem dX11_writes_179 : decode cX11_writes 179 = .ok (.iload 12, 2) := by decide +kernel
theorem dX11_writes_181 : decode cX11_writes 181 = .ok (.i2l, 1) := by decide +kernel
theorem dX11_writes_182 : decode cX11_writes 182 = .ok (.invokevirtual 128, 3) := by decide +kernel
theorem dX11_writes_185 : decode cX11_writes 185 = .ok (.aload_n 0, 1) := by decide +kernel
theorem dX11_writes_186 : decode cX11_writes 186 = .ok (.getfield 105, 3) := by decide +kernel
theorem dX11_writes_189 : decode cX11_writes 189 = .ok (.lstore 5, 2) := by decide +kernel
theorem dX11_writes_191 : decode cX11_writes 191 = .ok (.aload_n 0, 1) := by decide +kernel
theorem dX11_writes_192 : decode cX11_writes 192 = .ok (.getfield 109, 3) := by decide +kernel
theorem dX11_writes_195 : decode cX11_writes 195 = .ok (.lstore 7, 2) := by decide +kernel
theorem dX11_writes_197 : decode cX11_writes 197 = .ok (.iload 9, 2) := by decide +kernel
theorem dX11_writes_199 : decode cX11_writes 199 = .ok (.iload 10, 2) := by decide +kernel
theorem dX11_writes_201 : decode cX11_writes 201 = .ok (.idiv, 1) := by decide +kernel
theorem dX11_writes_202 : decode cX11_writes 202 = .ok (.istore 9, 2) := by decide +kernel
theorem dX11_writes_204 : decode cX11_writes 204 = .ok (.goto (-164), 3) := by decide +kernel
theorem dX11_writes_207 : decode cX11_writes 207 = .ok (.aload_n 0, 1) := by decide +kernel
theorem dX11_writes_208 : decode cX11_writes 208 = .ok (.lconst 1, 1) := by decide +kernel
theorem dX11_writes_209 : decode cX11_writes 209 = .ok (.lconst 0, 1) := by decide +kernel
theorem dX11_writes_210 : decode cX11_writes 210 = .ok (.invokevirtual 115, 3) := by decide +kernel
theorem dX11_writes_213 : decode cX11_writes 213 = .ok (.iconst 0, 1) := by decide +kernel
theorem dX11_writes_214 : decode cX11_writes 214 = .ok (.istore 10, 2) := by decide +kernel
theorem dX11_writes_216 : decode cX11_writes 216 = .ok (.iload 10, 2) := by decide +kernel
theorem dX11_writes_218 : decode cX11_writes 218 = .ok (.aload_n 0, 1) := by decide +kernel
theorem dX11_writes_219 : decode cX11_writes 219 = .ok (.getfield 201, 3) := by decide +kernel
theorem dX11_writes_222 : decode cX11_writes 222 = .ok (.if_icmp .ge 37, 3) := by decide +kernel
theorem dX11_writes_225 : decode cX11_writes 225 = .ok (.aload_n 0, 1) := by decide +kernel
theorem dX11_writes_226 : decode cX11_writes 226 = .ok (.aload_n 0, 1) := by decide +kernel
theorem dX11_writes_227 : decode cX11_writes 227 = .ok (.getfield 105, 3) := by decide +kernel
theorem dX11_writes_230 : decode cX11_writes 230 = .ok (.aload_n 0, 1) := by decide +kernel
theorem dX11_writes_231 : decode cX11_writes 231 = .ok (.getfield 109, 3) := by decide +kernel
theorem dX11_writes_234 : decode cX11_writes 234 = .ok (.aload_n 0, 1) := by decide +kernel
theorem dX11_writes_235 : decode cX11_writes 235 = .ok (.getfield 33, 3) := by decide +kernel
theorem dX11_writes_238 : decode cX11_writes 238 = .ok (.iload 10, 2) := by decide +kernel
theorem dX11_writes_240 : decode cX11_writes 240 = .ok (.iaload, 1) := by decide +kernel
theorem dX11_writes_241 : decode cX11_writes 241 = .ok (.i2l, 1) := by decide +kernel
theorem dX11_writes_242 : decode cX11_writes 242 = .ok (.aload_n 0, 1) := by decide +kernel
theorem dX11_writes_243 : decode cX11_writes 243 = .ok (.getfield 36, 3) := by decide +kernel
theorem dX11_writes_246 : decode cX11_writes 246 = .ok (.iload 10, 2) := by decide +kernel
theorem dX11_writes_248 : decode cX11_writes 248 = .ok (.iaload, 1) := by decide +kernel
theorem dX11_writes_249 : decode cX11_writes 249 = .ok (.i2l, 1) := by decide +kernel
theorem dX11_writes_250 : decode cX11_writes 250 = .ok (.invokevirtual 121, 3) := by decide +kernel
theorem dX11_writes_253 : decode cX11_writes 253 = .ok (.iinc 10 1, 3) := by decide +kernel
theorem dX11_writes_256 : decode cX11_writes 256 = .ok (.goto (-40), 3) := by decide +kernel
theorem dX11_writes_259 : decode cX11_writes 259 = .ok (.iconst 0, 1) := by decide +kernel
theorem dX11_writes_260 : decode cX11_writes 260 = .ok (.istore 10, 2) := by decide +kernel
theorem dX11_writes_262 : decode cX11_writes 262 = .ok (.iload 10, 2) := by decide +kernel
theorem dX11_writes_264 : decode cX11_writes 264 = .ok (.aload_n 0, 1) := by decide +kernel
theorem dX11_writes_265 : decode cX11_writes 265 = .ok (.getfield 204, 3) := by decide +kernel
theorem dX11_writes_268 : decode cX11_writes 268 = .ok (.if_icmp .ge 25, 3) := by decide +kernel
theorem dX11_writes_271 : decode cX11_writes 271 = .ok (.aload_n 0, 1) := by decide +kernel
theorem dX11_writes_272 : decode cX11_writes 272 = .ok (.aload_n 0, 1) := by decide +kernel
theorem dX11_writes_273 : decode cX11_writes 273 = .ok (.getfield 105, 3) := by decide +kernel
theorem dX11_writes_276 : decode cX11_writes 276 = .ok (.aload_n 0, 1) := by decide +kernel
theorem dX11_writes_277 : decode cX11_writes 277 = .ok (.getfield 109, 3) := by decide +kernel
theorem dX11_writes_280 : decode cX11_writes 280 = .ok (.lconst 1, 1) := by decide +kernel
theorem dX11_writes_281 : decode cX11_writes 281 = .ok (.ldc2_w 151, 3) := by decide +kernel
theorem dX11_writes_284 : decode cX11_writes 284 = .ok (.invokevirtual 121, 3) := by decide +kernel
theorem dX11_writes_287 : decode cX11_writes 287 = .ok (.iinc 10 1, 3) := by decide +kernel
theorem dX11_writes_290 : decode cX11_writes 290 = .ok (.goto (-28), 3) := by decide +kernel
theorem dX11_writes_293 : decode cX11_writes 293 = .ok (.aload_n 0, 1) := by decide +kernel
theorem dX11_writes_294 : decode cX11_writes 294 = .ok (.getfield 105, 3) := by decide +kernel
theorem dX11_writes_297 : decode cX11_writes 297 = .ok (.lstore 5, 2) := by decide +kernel
theorem dX11_writes_299 : decode cX11_writes 299 = .ok (.aload_n 0, 1) := by decide +kernel
theorem dX11_writes_300 : decode cX11_writes 300 = .ok (.getfield 109, 3) := by decide +kernel
theorem dX11_writes_303 : decode cX11_writes 303 = .ok (.lstore 7, 2) := by decide +kernel
theorem dX11_writes_305 : decode cX11_writes 305 = .ok (.aload_n 0, 1) := by decide +kernel
theorem dX11_writes_306 : decode cX11_writes 306 = .ok (.iconst 0, 1) := by decide +kernel
theorem dX11_writes_307 : decode cX11_writes 307 = .ok (.putfield 214, 3) := by decide +kernel
theorem dX11_writes_310 : decode cX11_writes 310 = .ok (.aload_n 0, 1) := by decide +kernel
theorem dX11_writes_311 : decode cX11_writes 311 = .ok (.lload 5, 2) := by decide +kernel
theorem dX11_writes_313 : decode cX11_writes 313 = .ok (.lload 7, 2) := by decide +kernel
theorem dX11_writes_315 : decode cX11_writes 315 = .ok (.iconst 0, 1) := by decide +kernel
theorem dX11_writes_316 : decode cX11_writes 316 = .ok (.invokevirtual 187, 3) := by decide +kernel
theorem dX11_writes_319 : decode cX11_writes 319 = .ok (.aload_n 0, 1) := by decide +kernel
theorem dX11_writes_320 : decode cX11_writes 320 = .ok (.getfield 105, 3) := by decide +kernel
theorem dX11_writes_323 : decode cX11_writes 323 = .ok (.lload_n 1, 1) := by decide +kernel
theorem dX11_writes_324 : decode cX11_writes 324 = .ok (.lcmp, 1) := by decide +kernel
theorem dX11_writes_325 : decode cX11_writes 325 = .ok (.ifCond .ne 12, 3) := by decide +kernel
theorem dX11_writes_328 : decode cX11_writes 328 = .ok (.aload_n 0, 1) := by decide +kernel
theorem dX11_writes_329 : decode cX11_writes 329 = .ok (.getfield 109, 3) := by decide +kernel
theorem dX11_writes_332 : decode cX11_writes 332 = .ok (.lload_n 3, 1) := by decide +kernel
theorem dX11_writes_333 : decode cX11_writes 333 = .ok (.lcmp, 1) := by decide +kernel
theorem dX11_writes_334 : decode cX11_writes 334 = .ok (.ifCond .eq 28, 3) := by decide +kernel
theorem dX11_writes_337 : decode cX11_writes 337 = .ok (.aload_n 0, 1) := by decide +kernel
theorem dX11_writes_338 : decode cX11_writes 338 = .ok (.aload_n 0, 1) := by decide +kernel
theorem dX11_writes_339 : decode cX11_writes 339 = .ok (.getfield 214, 3) := by decide +kernel
theorem dX11_writes_342 : decode cX11_writes 342 = .ok (.iconst 1, 1) := by decide +kernel
theorem dX11_writes_343 : decode cX11_writes 343 = .ok (.iadd, 1) := by decide +kernel
theorem dX11_writes_344 : decode cX11_writes 344 = .ok (.putfield 214, 3) := by decide +kernel
theorem dX11_writes_347 : decode cX11_writes 347 = .ok (.aload_n 0, 1) := by decide +kernel
theorem dX11_writes_348 : decode cX11_writes 348 = .ok (.lload 5, 2) := by decide +kernel
theorem dX11_writes_350 : decode cX11_writes 350 = .ok (.lload 7, 2) := by decide +kernel
theorem dX11_writes_352 : decode cX11_writes 352 = .ok (.aload_n 0, 1) := by decide +kernel
theorem dX11_writes_353 : decode cX11_writes 353 = .ok (.getfield 214, 3) := by decide +kernel
theorem dX11_writes_356 : decode cX11_writes 356 = .ok (.invokevirtual 187, 3) := by decide +kernel
theorem dX11_writes_359 : decode cX11_writes 359 = .ok (.goto (-40), 3) := by decide +kernel
theorem dX11_writes_362 : decode cX11_writes 362 = .ok (.return_, 1) := by decide +kernel
theorem dX11_written_0 : decode cX11_written 0 = .ok (.iload_n 1, 1) := by decide +kernel
theorem dX11_written_1 : decode cX11_written 1 = .ok (.invokestatic 85, 3) := by decide +kernel
theorem dX11_written_4 : decode cX11_written 4 = .ok (.ifCond .eq 37, 3) := by decide +kernel
theorem dX11_written_7 : decode cX11_written 7 = .ok (.aload_n 0, 1) := by decide +kernel
theorem dX11_written_8 : decode cX11_written 8 = .ok (.getfield 13, 3) := by decide +kernel
theorem dX11_written_11 : decode cX11_written 11 = .ok (.iload_n 1, 1) := by decide +kernel
theorem dX11_written_12 : decode cX11_written 12 = .ok (.baload, 1) := by decide +kernel
theorem dX11_written_13 : decode cX11_written 13 = .ok (.ifCond .eq 28, 3) := by decide +kernel
theorem dX11_written_16 : decode cX11_written 16 = .ok (.aload_n 0, 1) := by decide +kernel
theorem dX11_written_17 : decode cX11_written 17 = .ok (.iload_n 1, 1) := by decide +kernel
theorem dX11_written_18 : decode cX11_written 18 = .ok (.invokevirtual 178, 3) := by decide +kernel
theorem dX11_written_21 : decode cX11_written 21 = .ok (.ifCond .ne 20, 3) := by decide +kernel
theorem dX11_written_24 : decode cX11_written 24 = .ok (.iload_n 2, 1) := by decide +kernel
theorem dX11_written_25 : decode cX11_written 25 = .ok (.iconst (-1), 1) := by decide +kernel
theorem dX11_written_26 : decode cX11_written 26 = .ok (.if_icmp .lt 15, 3) := by decide +kernel
theorem dX11_written_29 : decode cX11_written 29 = .ok (.iload_n 3, 1) := by decide +kernel
theorem dX11_written_30 : decode cX11_written 30 = .ok (.i2l, 1) := by decide +kernel
theorem dX11_written_31 : decode cX11_written 31 = .ok (.lconst 0, 1) := by decide +kernel
theorem dX11_written_32 : decode cX11_written 32 = .ok (.ldc2_w 119, 3) := by decide +kernel
theorem dX11_written_35 : decode cX11_written 35 = .ok (.invokestatic 77, 3) := by decide +kernel
theorem dX11_written_38 : decode cX11_written 38 = .ok (.ifCond .ne 6, 3) := by decide +kernel
theorem dX11_written_41 : decode cX11_written 41 = .ok (.ldc 164, 2) := by decide +kernel
theorem dX11_written_43 : decode cX11_written 43 = .ok (.ireturn, 1) := by decide +kernel
theorem dX11_written_44 : decode cX11_written 44 = .ok (.aload_n 0, 1) := by decide +kernel
theorem dX11_written_45 : decode cX11_written 45 = .ok (.aload_n 0, 1) := by decide +kernel
theorem dX11_written_46 : decode cX11_written 46 = .ok (.getfield 20, 3) := by decide +kernel
theorem dX11_written_49 : decode cX11_written 49 = .ok (.iload_n 1, 1) := by decide +kernel
theorem dX11_written_50 : decode cX11_written 50 = .ok (.iaload, 1) := by decide +kernel
theorem dX11_written_51 : decode cX11_written 51 = .ok (.i2l, 1) := by decide +kernel
theorem dX11_written_52 : decode cX11_written 52 = .ok (.aload_n 0, 1) := by decide +kernel
theorem dX11_written_53 : decode cX11_written 53 = .ok (.getfield 24, 3) := by decide +kernel
theorem dX11_written_56 : decode cX11_written 56 = .ok (.iload_n 1, 1) := by decide +kernel
theorem dX11_written_57 : decode cX11_written 57 = .ok (.iaload, 1) := by decide +kernel
theorem dX11_written_58 : decode cX11_written 58 = .ok (.i2l, 1) := by decide +kernel
theorem dX11_written_59 : decode cX11_written 59 = .ok (.invokevirtual 222, 3) := by decide +kernel
theorem dX11_written_62 : decode cX11_written 62 = .ok (.iload_n 2, 1) := by decide +kernel
theorem dX11_written_63 : decode cX11_written 63 = .ok (.iconst (-1), 1) := by decide +kernel
theorem dX11_written_64 : decode cX11_written 64 = .ok (.if_icmp .ne 31, 3) := by decide +kernel
theorem dX11_written_67 : decode cX11_written 67 = .ok (.iload_n 3, 1) := by decide +kernel
theorem dX11_written_68 : decode cX11_written 68 = .ok (.ifCond .ne 10, 3) := by decide +kernel
theorem dX11_written_71 : decode cX11_written 71 = .ok (.aload_n 0, 1) := by decide +kernel
theorem dX11_written_72 : decode cX11_written 72 = .ok (.getfield 201, 3) := by decide +kernel
theorem dX11_written_75 : decode cX11_written 75 = .ok (.goto 19, 3) := by decide +kernel
theorem dX11_written_78 : decode cX11_written 78 = .ok (.iload_n 3, 1) := by decide +kernel
theorem dX11_written_79 : decode cX11_written 79 = .ok (.iconst 1, 1) := by decide +kernel
theorem dX11_written_80 : decode cX11_written 80 = .ok (.if_icmp .ne 10, 3) := by decide +kernel
theorem dX11_written_83 : decode cX11_written 83 = .ok (.aload_n 0, 1) := by decide +kernel
theorem dX11_written_84 : decode cX11_written 84 = .ok (.getfield 204, 3) := by decide +kernel
theorem dX11_written_87 : decode cX11_written 87 = .ok (.goto 7, 3) := by decide +kernel
theorem dX11_written_90 : decode cX11_written 90 = .ok (.aload_n 0, 1) := by decide +kernel
theorem dX11_written_91 : decode cX11_written 91 = .ok (.getfield 214, 3) := by decide +kernel
theorem dX11_written_94 : decode cX11_written 94 = .ok (.ireturn, 1) := by decide +kernel
theorem dX11_written_95 : decode cX11_written 95 = .ok (.iload_n 2, 1) := by decide +kernel
theorem dX11_written_96 : decode cX11_written 96 = .ok (.aload_n 0, 1) := by decide +kernel
theorem dX11_written_97 : decode cX11_written 97 = .ok (.getfield 201, 3) := by decide +kernel
theorem dX11_written_100 : decode cX11_written 100 = .ok (.if_icmp .lt 8, 3) := by decide +kernel
theorem dX11_written_103 : decode cX11_written 103 = .ok (.ldc 164, 2) := by decide +kernel
theorem dX11_written_105 : decode cX11_written 105 = .ok (.goto 36, 3) := by decide +kernel
theorem dX11_written_108 : decode cX11_written 108 = .ok (.iload_n 3, 1) := by decide +kernel
theorem dX11_written_109 : decode cX11_written 109 = .ok (.ifCond .ne 12, 3) := by decide +kernel
theorem dX11_written_112 : decode cX11_written 112 = .ok (.aload_n 0, 1) := by decide +kernel
theorem dX11_written_113 : decode cX11_written 113 = .ok (.getfield 33, 3) := by decide +kernel
theorem dX11_written_116 : decode cX11_written 116 = .ok (.iload_n 2, 1) := by decide +kernel
theorem dX11_written_117 : decode cX11_written 117 = .ok (.iaload, 1) := by decide +kernel
theorem dX11_written_118 : decode cX11_written 118 = .ok (.goto 23, 3) := by decide +kernel
theorem dX11_written_121 : decode cX11_written 121 = .ok (.iload_n 3, 1) := by decide +kernel
theorem dX11_written_122 : decode cX11_written 122 = .ok (.iconst 1, 1) := by decide +kernel
theorem dX11_written_123 : decode cX11_written 123 = .ok (.if_icmp .ne 12, 3) := by decide +kernel
theorem dX11_written_126 : decode cX11_written 126 = .ok (.aload_n 0, 1) := by decide +kernel
theorem dX11_written_127 : decode cX11_written 127 = .ok (.getfield 36, 3) := by decide +kernel
theorem dX11_written_130 : decode cX11_written 130 = .ok (.iload_n 2, 1) := by decide +kernel
theorem dX11_written_131 : decode cX11_written 131 = .ok (.iaload, 1) := by decide +kernel
theorem dX11_written_132 : decode cX11_written 132 = .ok (.goto 9, 3) := by decide +kernel
theorem dX11_written_135 : decode cX11_written 135 = .ok (.aload_n 0, 1) := by decide +kernel
theorem dX11_written_136 : decode cX11_written 136 = .ok (.getfield 39, 3) := by decide +kernel
theorem dX11_written_139 : decode cX11_written 139 = .ok (.iload_n 2, 1) := by decide +kernel
theorem dX11_written_140 : decode cX11_written 140 = .ok (.iaload, 1) := by decide +kernel
theorem dX11_written_141 : decode cX11_written 141 = .ok (.ireturn, 1) := by decide +kernel
theorem dX1_arePrimeToEachOther_0 : decode cX1_arePrimeToEachOther 0 = .ok (.aload_n 0, 1) := by decide +kernel
theorem dX1_arePrimeToEachOther_1 : decode cX1_arePrimeToEachOther 1 = .ok (.aload_n 1, 1) := by decide +kernel
theorem dX1_arePrimeToEachOther_2 : decode cX1_arePrimeToEachOther 2 = .ok (.aload_n 2, 1) := by decide +kernel
theorem dX1_arePrimeToEachOther_3 : decode cX1_arePrimeToEachOther 3 = .ok (.invokevirtual 71, 3) := by decide +kernel
theorem dX1_arePrimeToEachOther_6 : decode cX1_arePrimeToEachOther 6 = .ok (.aload_n 0, 1) := by decide +kernel
theorem dX1_arePrimeToEachOther_7 : decode cX1_arePrimeToEachOther 7 = .ok (.getfield 10, 3) := by decide +kernel
theorem dX1_arePrimeToEachOther_10 : decode cX1_arePrimeToEachOther 10 = .ok (.invokevirtual 74, 3) := by decide +kernel
theorem dX1_arePrimeToEachOther_13 : decode cX1_arePrimeToEachOther 13 = .ok (.ireturn, 1) := by decide +kernel
theorem dX1_goOn_0 : decode cX1_goOn 0 = .ok (.aload_n 2, 1) := by decide +kernel
theorem dX1_goOn_1 : decode cX1_goOn 1 = .ok (.getfield 65, 3) := by decide +kernel
theorem dX1_goOn_4 : decode cX1_goOn 4 = .ok (.aload_n 0, 1) := by decide +kernel
theorem dX1_goOn_5 : decode cX1_goOn 5 = .ok (.getfield 31, 3) := by decide +kernel
theorem dX1_goOn_8 : decode cX1_goOn 8 = .ok (.getfield 65, 3) := by decide +kernel
theorem dX1_goOn_11 : decode cX1_goOn 11 = .ok (.lmul, 1) := by decide +kernel
theorem dX1_goOn_12 : decode cX1_goOn 12 = .ok (.lstore_n 3, 1) := by decide +kernel
theorem dX1_goOn_13 : decode cX1_goOn 13 = .ok (.aload_n 1, 1) := by decide +kernel
theorem dX1_goOn_14 : decode cX1_goOn 14 = .ok (.getfield 61, 3) := by decide +kernel
theorem dX1_goOn_17 : decode cX1_goOn 17 = .ok (.aload_n 2, 1) := by decide +kernel
theorem dX1_goOn_18 : decode cX1_goOn 18 = .ok (.getfield 61, 3) := by decide +kernel
theorem dX1_goOn_21 : decode cX1_goOn 21 = .ok (.aload_n 0, 1) := by decide +kernel
theorem dX1_goOn_22 : decode cX1_goOn 22 = .ok (.getfield 31, 3) := by decide +kernel
theorem dX1_goOn_25 : decode cX1_goOn 25 = .ok (.getfield 61, 3) := by decide +kernel
theorem dX1_goOn_28 : decode cX1_goOn 28 = .ok (.lmul, 1) := by decide +kernel
theorem dX1_goOn_29 : decode cX1_goOn 29 = .ok (.lload_n 3, 1) := by decide +kernel
theorem dX1_goOn_30 : decode cX1_goOn 30 = .ok (.lsub, 1) := by decide +kernel
theorem dX1_goOn_31 : decode cX1_goOn 31 = .ok (.lsub, 1) := by decide +kernel
theorem dX1_goOn_32 : decode cX1_goOn 32 = .ok (.lstore 5, 2) := by decide +kernel
theorem dX1_goOn_34 : decode cX1_goOn 34 = .ok (.aload_n 1, 1) := by decide +kernel
theorem dX1_goOn_35 : decode cX1_goOn 35 = .ok (.getfield 65, 3) := by decide +kernel
theorem dX1_goOn_38 : decode cX1_goOn 38 = .ok (.aload_n 2, 1) := by decide +kernel
theorem dX1_goOn_39 : decode cX1_goOn 39 = .ok (.getfield 61, 3) := by decide +kernel
theorem dX1_goOn_42 : decode cX1_goOn 42 = .ok (.aload_n 0, 1) := by decide +kernel
theorem dX1_goOn_43 : decode cX1_goOn 43 = .ok (.getfield 31, 3) := by decide +kernel
theorem dX1_goOn_46 : decode cX1_goOn 46 = .ok (.getfield 65, 3) := by decide +kernel
theorem dX1_goOn_49 : decode cX1_goOn 49 = .ok (.lmul, 1) := by decide +kernel
theorem dX1_goOn_50 : decode cX1_goOn 50 = .ok (.aload_n 2, 1) := by decide +kernel
theorem dX1_goOn_51 : decode cX1_goOn 51 = .ok (.getfield 65, 3) := by decide +kernel
theorem dX1_goOn_54 : decode cX1_goOn 54 = .ok (.aload_n 0, 1) := by decide +kernel
theorem dX1_goOn_55 : decode cX1_goOn 55 = .ok (.getfield 31, 3) := by decide +kernel
theorem dX1_goOn_58 : decode cX1_goOn 58 = .ok (.getfield 61, 3) := by decide +kernel
theorem dX1_goOn_61 : decode cX1_goOn 61 = .ok (.lmul, 1) := by decide +kernel
theorem dX1_goOn_62 : decode cX1_goOn 62 = .ok (.ladd, 1) := by decide +kernel
theorem dX1_goOn_63 : decode cX1_goOn 63 = .ok (.lload_n 3, 1) := by decide +kernel
theorem dX1_goOn_64 : decode cX1_goOn 64 = .ok (.lsub, 1) := by decide +kernel
theorem dX1_goOn_65 : decode cX1_goOn 65 = .ok (.lsub, 1) := by decide +kernel
theorem dX1_goOn_66 : decode cX1_goOn 66 = .ok (.lstore 7, 2) := by decide +kernel
theorem dX1_goOn_68 : decode cX1_goOn 68 = .ok (.aload_n 1, 1) := by decide +kernel
theorem dX1_goOn_69 : decode cX1_goOn 69 = .ok (.aload_n 2, 1) := by decide +kernel
theorem dX1_goOn_70 : decode cX1_goOn 70 = .ok (.getfield 61, 3) := by decide +kernel
theorem dX1_goOn_73 : decode cX1_goOn 73 = .ok (.putfield 61, 3) := by decide +kernel
theorem dX1_goOn_76 : decode cX1_goOn 76 = .ok (.aload_n 1, 1) := by decide +kernel
theorem dX1_goOn_77 : decode cX1_goOn 77 = .ok (.aload_n 2, 1) := by decide +kernel
theorem dX1_goOn_78 : decode cX1_goOn 78 = .ok (.getfield 65, 3) := by decide +kernel
theorem dX1_goOn_81 : decode cX1_goOn 81 = .ok (.putfield 65, 3) := by decide +kernel
theorem dX1_goOn_84 : decode cX1_goOn 84 = .ok (.aload_n 2, 1) := by decide +kernel
theorem dX1_goOn_85 : decode cX1_goOn 85 = .ok (.lload 5, 2) := by decide +kernel
theorem dX1_goOn_87 : decode cX1_goOn 87 = .ok (.putfield 61, 3) := by decide +kernel
theorem dX1_goOn_90 : decode cX1_goOn 90 = .ok (.aload_n 2, 1) := by decide +kernel
theorem dX1_goOn_91 : decode cX1_goOn 91 = .ok (.lload 7, 2) := by decide +kernel
theorem dX1_goOn_93 : decode cX1_goOn 93 = .ok (.putfield 65, 3) := by decide +kernel
theorem dX1_goOn_96 : decode cX1_goOn 96 = .ok (.return_, 1) := by decide +kernel
theorem dX1_invert_0 : decode cX1_invert 0 = .ok (.aload_n 0, 1) := by decide +kernel
theorem dX1_invert_1 : decode cX1_invert 1 = .ok (.aload_n 1, 1) := by decide +kernel
theorem dX1_invert_2 : decode cX1_invert 2 = .ok (.aload_n 2, 1) := by decide +kernel
theorem dX1_invert_3 : decode cX1_invert 3 = .ok (.invokevirtual 77, 3) := by decide +kernel
theorem dX1_invert_6 : decode cX1_invert 6 = .ok (.ifCond .ne 5, 3) := by decide +kernel
theorem dX1_invert_9 : decode cX1_invert 9 = .ok (.iconst 0, 1) := by decide +kernel
theorem dX1_invert_10 : decode cX1_invert 10 = .ok (.ireturn, 1) := by decide +kernel
theorem dX1_invert_11 : decode cX1_invert 11 = .ok (.aload_n 3, 1) := by decide +kernel
theorem dX1_invert_12 : decode cX1_invert 12 = .ok (.aload_n 0, 1) := by decide +kernel
theorem dX1_invert_13 : decode cX1_invert 13 = .ok (.getfield 10, 3) := by decide +kernel
theorem dX1_invert_16 : decode cX1_invert 16 = .ok (.invokevirtual 41, 3) := by decide +kernel
theorem dX1_invert_19 : decode cX1_invert 19 = .ok (.aload_n 3, 1) := by decide +kernel
theorem dX1_invert_20 : decode cX1_invert 20 = .ok (.invokevirtual 81, 3) := by decide +kernel
theorem dX1_invert_23 : decode cX1_invert 23 = .ok (.aload_n 3, 1) := by decide +kernel
theorem dX1_invert_24 : decode cX1_invert 24 = .ok (.aload_n 0, 1) := by decide +kernel
theorem dX1_invert_25 : decode cX1_invert 25 = .ok (.getfield 16, 3) := by decide +kernel
theorem dX1_invert_28 : decode cX1_invert 28 = .ok (.invokevirtual 84, 3) := by decide +kernel
theorem dX1_invert_31 : decode cX1_invert 31 = .ok (.iconst 1, 1) := by decide +kernel
theorem dX1_invert_32 : decode cX1_invert 32 = .ok (.ireturn, 1) := by decide +kernel
theorem dX1_loadQuotient_0 : decode cX1_loadQuotient 0 = .ok (.iload_n 1, 1) := by decide +kernel
theorem dX1_loadQuotient_1 : decode cX1_loadQuotient 1 = .ok (.ifCond .lt 34, 3) := by decide +kernel
theorem dX1_loadQuotient_4 : decode cX1_loadQuotient 4 = .ok (.iload_n 1, 1) := by decide +kernel
theorem dX1_loadQuotient_5 : decode cX1_loadQuotient 5 = .ok (.aload_n 0, 1) := by decide +kernel
theorem dX1_loadQuotient_6 : decode cX1_loadQuotient 6 = .ok (.getfield 49, 3) := by decide +kernel
theorem dX1_loadQuotient_9 : decode cX1_loadQuotient 9 = .ok (.if_icmp .ge 26, 3) := by decide +kernel
theorem dX1_loadQuotient_12 : decode cX1_loadQuotient 12 = .ok (.iload_n 1, 1) := by decide +kernel
theorem dX1_loadQuotient_13 : decode cX1_loadQuotient 13 = .ok (.sipush 128, 3) := by decide +kernel
theorem dX1_loadQuotient_16 : decode cX1_loadQuotient 16 = .ok (.if_icmp .ge 19, 3) := by decide +kernel
theorem dX1_loadQuotient_19 : decode cX1_loadQuotient 19 = .ok (.aload_n 2, 1) := by decide +kernel
theorem dX1_loadQuotient_20 : decode cX1_loadQuotient 20 = .ok (.aload_n 0, 1) := by decide +kernel
theorem dX1_loadQuotient_21 : decode cX1_loadQuotient 21 = .ok (.getfield 34, 3) := by decide +kernel
theorem dX1_loadQuotient_24 : decode cX1_loadQuotient 24 = .ok (.iload_n 1, 1) := by decide +kernel
theorem dX1_loadQuotient_25 : decode cX1_loadQuotient 25 = .ok (.laload, 1) := by decide +kernel
theorem dX1_loadQuotient_26 : decode cX1_loadQuotient 26 = .ok (.aload_n 0, 1) := by decide +kernel
theorem dX1_loadQuotient_27 : decode cX1_loadQuotient 27 = .ok (.getfield 38, 3) := by decide +kernel
theorem dX1_loadQuotient_30 : decode cX1_loadQuotient 30 = .ok (.iload_n 1, 1) := by decide +kernel
theorem dX1_loadQuotient_31 : decode cX1_loadQuotient 31 = .ok (.laload, 1) := by decide +kernel
theorem dX1_loadQuotient_32 : decode cX1_loadQuotient 32 = .ok (.invokevirtual 45, 3) := by decide +kernel
theorem dX1_loadQuotient_35 : decode cX1_loadQuotient 35 = .ok (.return_, 1) := by decide +kernel
theorem dX1_part_0 : decode cX1_part 0 = .ok (.aload_n 0, 1) := by decide +kernel
theorem dX1_part_1 : decode cX1_part 1 = .ok (.getfield 10, 3) := by decide +kernel
theorem dX1_part_4 : decode cX1_part 4 = .ok (.aload_n 1, 1) := by decide +kernel
theorem dX1_part_5 : decode cX1_part 5 = .ok (.invokevirtual 41, 3) := by decide +kernel
theorem dX1_part_8 : decode cX1_part 8 = .ok (.aload_n 0, 1) := by decide +kernel
theorem dX1_part_9 : decode cX1_part 9 = .ok (.getfield 16, 3) := by decide +kernel
theorem dX1_part_12 : decode cX1_part 12 = .ok (.lconst 1, 1) := by decide +kernel
theorem dX1_part_13 : decode cX1_part 13 = .ok (.lconst 0, 1) := by decide +kernel
theorem dX1_part_14 : decode cX1_part 14 = .ok (.invokevirtual 45, 3) := by decide +kernel
theorem dX1_part_17 : decode cX1_part 17 = .ok (.aload_n 0, 1) := by decide +kernel
theorem dX1_part_18 : decode cX1_part 18 = .ok (.getfield 19, 3) := by decide +kernel
theorem dX1_part_21 : decode cX1_part 21 = .ok (.lconst 0, 1) := by decide +kernel
theorem dX1_part_22 : decode cX1_part 22 = .ok (.lconst 0, 1) := by decide +kernel
theorem dX1_part_23 : decode cX1_part 23 = .ok (.invokevirtual 45, 3) := by decide +kernel
theorem dX1_part_26 : decode cX1_part 26 = .ok (.aload_n 0, 1) := by decide +kernel
theorem dX1_part_27 : decode cX1_part 27 = .ok (.getfield 22, 3) := by decide +kernel
theorem dX1_part_30 : decode cX1_part 30 = .ok (.aload_n 2, 1) := by decide +kernel
theorem dX1_part_31 : decode cX1_part 31 = .ok (.invokevirtual 41, 3) := by decide +kernel
theorem dX1_part_34 : decode cX1_part 34 = .ok (.aload_n 0, 1) := by decide +kernel
theorem dX1_part_35 : decode cX1_part 35 = .ok (.getfield 25, 3) := by decide +kernel
theorem dX1_part_38 : decode cX1_part 38 = .ok (.lconst 0, 1) := by decide +kernel
theorem dX1_part_39 : decode cX1_part 39 = .ok (.lconst 0, 1) := by decide +kernel
theorem dX1_part_40 : decode cX1_part 40 = .ok (.invokevirtual 45, 3) := by decide +kernel
theorem dX1_part_43 : decode cX1_part 43 = .ok (.aload_n 0, 1) := by decide +kernel
theorem dX1_part_44 : decode cX1_part 44 = .ok (.getfield 28, 3) := by decide +kernel
theorem dX1_part_47 : decode cX1_part 47 = .ok (.lconst 1, 1) := by decide +kernel
theorem dX1_part_48 : decode cX1_part 48 = .ok (.lconst 0, 1) := by decide +kernel
theorem dX1_part_49 : decode cX1_part 49 = .ok (.invokevirtual 45, 3) := by decide +kernel
theorem dX1_part_52 : decode cX1_part 52 = .ok (.aload_n 0, 1) := by decide +kernel
theorem dX1_part_53 : decode cX1_part 53 = .ok (.iconst 0, 1) := by decide +kernel
theorem dX1_part_54 : decode cX1_part 54 = .ok (.putfield 49, 3) := by decide +kernel
theorem dX1_part_57 : decode cX1_part 57 = .ok (.iconst 0, 1) := by decide +kernel
theorem dX1_part_58 : decode cX1_part 58 = .ok (.istore_n 3, 1) := by decide +kernel
theorem dX1_part_59 : decode cX1_part 59 = .ok (.iload_n 3, 1) := by decide +kernel
theorem dX1_part_60 : decode cX1_part 60 = .ok (.sipush 128, 3) := by decide +kernel
theorem dX1_part_63 : decode cX1_part 63 = .ok (.if_icmp .ge 106, 3) := by decide +kernel
theorem dX1_part_66 : decode cX1_part 66 = .ok (.aload_n 0, 1) := by decide +kernel
theorem dX1_part_67 : decode cX1_part 67 = .ok (.getfield 22, 3) := by decide +kernel
theorem dX1_part_70 : decode cX1_part 70 = .ok (.invokevirtual 53, 3) := by decide +kernel
theorem dX1_part_73 : decode cX1_part 73 = .ok (.ifCond .ne 96, 3) := by decide +kernel
theorem dX1_part_76 : decode cX1_part 76 = .ok (.aload_n 0, 1) := by decide +kernel
theorem dX1_part_77 : decode cX1_part 77 = .ok (.getfield 31, 3) := by decide +kernel
theorem dX1_part_80 : decode cX1_part 80 = .ok (.aload_n 0, 1) := by decide +kernel
theorem dX1_part_81 : decode cX1_part 81 = .ok (.getfield 10, 3) := by decide +kernel
theorem dX1_part_84 : decode cX1_part 84 = .ok (.aload_n 0, 1) := by decide +kernel
theorem dX1_part_85 : decode cX1_part 85 = .ok (.getfield 22, 3) := by decide +kernel
theorem dX1_part_88 : decode cX1_part 88 = .ok (.invokevirtual 57, 3) := by decide +kernel
theorem dX1_part_91 : decode cX1_part 91 = .ok (.aload_n 0, 1) := by decide +kernel
theorem dX1_part_92 : decode cX1_part 92 = .ok (.getfield 34, 3) := by decide +kernel
theorem dX1_part_95 : decode cX1_part 95 = .ok (.iload_n 3, 1) := by decide +kernel
theorem dX1_part_96 : decode cX1_part 96 = .ok (.aload_n 0, 1) := by decide +kernel
theorem dX1_part_97 : decode cX1_part 97 = .ok (.getfield 31, 3) := by decide +kernel
theorem dX1_part_100 : decode cX1_part 100 = .ok (.getfield 61, 3) := by decide +kernel
theorem dX1_part_103 : decode cX1_part 103 = .ok (.lastore, 1) := by decide +kernel
theorem dX1_part_104 : decode cX1_part 104 = .ok (.aload_n 0, 1) := by decide +kernel
theorem dX1_part_105 : decode cX1_part 105 = .ok (.getfield 38, 3) := by decide +kernel
theorem dX1_part_108 : decode cX1_part 108 = .ok (.iload_n 3, 1) := by decide +kernel
theorem dX1_part_109 : decode cX1_part 109 = .ok (.aload_n 0, 1) := by decide +kernel
theorem dX1_part_110 : decode cX1_part 110 = .ok (.getfield 31, 3) := by decide +kernel
theorem dX1_part_113 : decode cX1_part 113 = .ok (.getfield 65, 3) := by decide +kernel
theorem dX1_part_116 : decode cX1_part 116 = .ok (.lastore, 1) := by decide +kernel
theorem dX1_part_117 : decode cX1_part 117 = .ok (.aload_n 0, 1) := by decide +kernel
theorem dX1_part_118 : decode cX1_part 118 = .ok (.dup, 1) := by decide +kernel
theorem dX1_part_119 : decode cX1_part 119 = .ok (.getfield 49, 3) := by decide +kernel
theorem dX1_part_122 : decode cX1_part 122 = .ok (.iconst 1, 1) := by decide +kernel
theorem dX1_part_123 : decode cX1_part 123 = .ok (.iadd, 1) := by decide +kernel
theorem dX1_part_124 : decode cX1_part 124 = .ok (.putfield 49, 3) := by decide +kernel
theorem dX1_part_127 : decode cX1_part 127 = .ok (.aload_n 0, 1) := by decide +kernel
theorem dX1_part_128 : decode cX1_part 128 = .ok (.aload_n 0, 1) := by decide +kernel
theorem dX1_part_129 : decode cX1_part 129 = .ok (.getfield 10, 3) := by decide +kernel
theorem dX1_part_132 : decode cX1_part 132 = .ok (.aload_n 0, 1) := by decide +kernel
theorem dX1_part_133 : decode cX1_part 133 = .ok (.getfield 22, 3) := by decide +kernel
theorem dX1_part_136 : decode cX1_part 136 = .ok (.invokevirtual 68, 3) := by decide +kernel
theorem dX1_part_139 : decode cX1_part 139 = .ok (.aload_n 0, 1) := by decide +kernel
theorem dX1_part_140 : decode cX1_part 140 = .ok (.aload_n 0, 1) := by decide +kernel
theorem dX1_part_141 : decode cX1_part 141 = .ok (.getfield 16, 3) := by decide +kernel
theorem dX1_part_144 : decode cX1_part 144 = .ok (.aload_n 0, 1) := by decide +kernel
theorem dX1_part_145 : decode cX1_part 145 = .ok (.getfield 25, 3) := by decide +kernel
theorem dX1_part_148 : decode cX1_part 148 = .ok (.invokevirtual 68, 3) := by decide +kernel
theorem dX1_part_151 : decode cX1_part 151 = .ok (.aload_n 0, 1) := by decide +kernel
theorem dX1_part_152 : decode cX1_part 152 = .ok (.aload_n 0, 1) := by decide +kernel
theorem dX1_part_153 : decode cX1_part 153 = .ok (.getfield 19, 3) := by decide +kernel
theorem dX1_part_156 : decode cX1_part 156 = .ok (.aload_n 0, 1) := by decide +kernel
theorem dX1_part_157 : decode cX1_part 157 = .ok (.getfield 28, 3) := by decide +kernel
theorem dX1_part_160 : decode cX1_part 160 = .ok (.invokevirtual 68, 3) := by decide +kernel
theorem dX1_part_163 : decode cX1_part 163 = .ok (.iinc 3 1, 3) := by decide +kernel
theorem dX1_part_166 : decode cX1_part 166 = .ok (.goto (-107), 3) := by decide +kernel
theorem dX1_part_169 : decode cX1_part 169 = .ok (.return_, 1) := by decide +kernel
theorem dX2_addWhole_0 : decode cX2_addWhole 0 = .ok (.lload_n 1, 1) := by decide +kernel
theorem dX2_addWhole_1 : decode cX2_addWhole 1 = .ok (.ldc2_w 91, 3) := by decide +kernel
theorem dX2_addWhole_4 : decode cX2_addWhole 4 = .ok (.lrem, 1) := by decide +kernel
theorem dX2_addWhole_5 : decode cX2_addWhole 5 = .ok (.ldc2_w 84, 3) := by decide +kernel
theorem dX2_addWhole_8 : decode cX2_addWhole 8 = .ok (.lcmp, 1) := by decide +kernel
theorem dX2_addWhole_9 : decode cX2_addWhole 9 = .ok (.ifCond .ne 17, 3) := by decide +kernel
theorem dX2_addWhole_12 : decode cX2_addWhole 12 = .ok (.aload_n 0, 1) := by decide +kernel
theorem dX2_addWhole_13 : decode cX2_addWhole 13 = .ok (.getfield 33, 3) := by decide +kernel
theorem dX2_addWhole_16 : decode cX2_addWhole 16 = .ok (.lload_n 1, 1) := by decide +kernel
theorem dX2_addWhole_17 : decode cX2_addWhole 17 = .ok (.lconst 0, 1) := by decide +kernel
theorem dX2_addWhole_18 : decode cX2_addWhole 18 = .ok (.invokevirtual 70, 3) := by decide +kernel
theorem dX2_addWhole_21 : decode cX2_addWhole 21 = .ok (.aload_n 0, 1) := by decide +kernel
theorem dX2_addWhole_22 : decode cX2_addWhole 22 = .ok (.invokevirtual 93, 3) := by decide +kernel
theorem dX2_addWhole_25 : decode cX2_addWhole 25 = .ok (.return_, 1) := by decide +kernel
theorem dX2_addWhole_26 : decode cX2_addWhole 26 = .ok (.lload_n 1, 1) := by decide +kernel
theorem dX2_addWhole_27 : decode cX2_addWhole 27 = .ok (.l2i, 1) := by decide +kernel
theorem dX2_addWhole_28 : decode cX2_addWhole 28 = .ok (.aload_n 0, 1) := by decide +kernel
theorem dX2_addWhole_29 : decode cX2_addWhole 29 = .ok (.getfield 33, 3) := by decide +kernel
theorem dX2_addWhole_32 : decode cX2_addWhole 32 = .ok (.invokestatic 96, 3) := by decide +kernel
theorem dX2_addWhole_35 : decode cX2_addWhole 35 = .ok (.aload_n 0, 1) := by decide +kernel
theorem dX2_addWhole_36 : decode cX2_addWhole 36 = .ok (.invokevirtual 93, 3) := by decide +kernel
theorem dX2_addWhole_39 : decode cX2_addWhole 39 = .ok (.aload_n 0, 1) := by decide +kernel
theorem dX2_addWhole_40 : decode cX2_addWhole 40 = .ok (.getfield 33, 3) := by decide +kernel
theorem dX2_addWhole_43 : decode cX2_addWhole 43 = .ok (.invokevirtual 102, 3) := by decide +kernel
theorem dX2_addWhole_46 : decode cX2_addWhole 46 = .ok (.aload_n 0, 1) := by decide +kernel
theorem dX2_addWhole_47 : decode cX2_addWhole 47 = .ok (.invokevirtual 93, 3) := by decide +kernel
theorem dX2_addWhole_50 : decode cX2_addWhole 50 = .ok (.return_, 1) := by decide +kernel
theorem dX2_divisorSum_0 : decode cX2_divisorSum 0 = .ok (.lconst 1, 1) := by decide +kernel
theorem dX2_divisorSum_1 : decode cX2_divisorSum 1 = .ok (.lstore_n 2, 1) := by decide +kernel
theorem dX2_divisorSum_2 : decode cX2_divisorSum 2 = .ok (.lconst 1, 1) := by decide +kernel
theorem dX2_divisorSum_3 : decode cX2_divisorSum 3 = .ok (.lstore 4, 2) := by decide +kernel
theorem dX2_divisorSum_5 : decode cX2_divisorSum 5 = .ok (.lconst 1, 1) := by decide +kernel
theorem dX2_divisorSum_6 : decode cX2_divisorSum 6 = .ok (.lstore 6, 2) := by decide +kernel
theorem dX2_divisorSum_8 : decode cX2_divisorSum 8 = .ok (.iconst 0, 1) := by decide +kernel
theorem dX2_divisorSum_9 : decode cX2_divisorSum 9 = .ok (.istore 8, 2) := by decide +kernel
theorem dX2_divisorSum_11 : decode cX2_divisorSum 11 = .ok (.iload 8, 2) := by decide +kernel
theorem dX2_divisorSum_13 : decode cX2_divisorSum 13 = .ok (.aload_n 0, 1) := by decide +kernel
theorem dX2_divisorSum_14 : decode cX2_divisorSum 14 = .ok (.invokevirtual 148, 3) := by decide +kernel
theorem dX2_divisorSum_17 : decode cX2_divisorSum 17 = .ok (.if_icmp .ge 55, 3) := by decide +kernel
theorem dX2_divisorSum_20 : decode cX2_divisorSum 20 = .ok (.aload_n 0, 1) := by decide +kernel
theorem dX2_divisorSum_21 : decode cX2_divisorSum 21 = .ok (.iload 8, 2) := by decide +kernel
theorem dX2_divisorSum_23 : decode cX2_divisorSum 23 = .ok (.invokevirtual 151, 3) := by decide +kernel
theorem dX2_divisorSum_26 : decode cX2_divisorSum 26 = .ok (.ifCond .ne 14, 3) := by decide +kernel
theorem dX2_divisorSum_29 : decode cX2_divisorSum 29 = .ok (.lload_n 2, 1) := by decide +kernel
theorem dX2_divisorSum_30 : decode cX2_divisorSum 30 = .ok (.lload 4, 2) := by decide +kernel
theorem dX2_divisorSum_32 : decode cX2_divisorSum 32 = .ok (.lmul, 1) := by decide +kernel
theorem dX2_divisorSum_33 : decode cX2_divisorSum 33 = .ok (.lstore_n 2, 1) := by decide +kernel
theorem dX2_divisorSum_34 : decode cX2_divisorSum 34 = .ok (.lconst 1, 1) := by decide +kernel
theorem dX2_divisorSum_35 : decode cX2_divisorSum 35 = .ok (.lstore 4, 2) := by decide +kernel
theorem dX2_divisorSum_37 : decode cX2_divisorSum 37 = .ok (.lconst 1, 1) := by decide +kernel
theorem dX2_divisorSum_38 : decode cX2_divisorSum 38 = .ok (.lstore 6, 2) := by decide +kernel
theorem dX2_divisorSum_40 : decode cX2_divisorSum 40 = .ok (.lload 6, 2) := by decide +kernel
theorem dX2_divisorSum_42 : decode cX2_divisorSum 42 = .ok (.aload_n 0, 1) := by decide +kernel
theorem dX2_divisorSum_43 : decode cX2_divisorSum 43 = .ok (.iload 8, 2) := by decide +kernel
theorem dX2_divisorSum_45 : decode cX2_divisorSum 45 = .ok (.invokevirtual 155, 3) := by decide +kernel
theorem dX2_divisorSum_48 : decode cX2_divisorSum 48 = .ok (.lmul, 1) := by decide +kernel
theorem dX2_divisorSum_49 : decode cX2_divisorSum 49 = .ok (.lstore 6, 2) := by decide +kernel
theorem dX2_divisorSum_51 : decode cX2_divisorSum 51 = .ok (.lload 4, 2) := by decide +kernel
theorem dX2_divisorSum_53 : decode cX2_divisorSum 53 = .ok (.iload_n 1, 1) := by decide +kernel
theorem dX2_divisorSum_54 : decode cX2_divisorSum 54 = .ok (.ifCond .eq 8, 3) := by decide +kernel
theorem dX2_divisorSum_57 : decode cX2_divisorSum 57 = .ok (.lload 6, 2) := by decide +kernel
theorem dX2_divisorSum_59 : decode cX2_divisorSum 59 = .ok (.goto 4, 3) := by decide +kernel
theorem dX2_divisorSum_62 : decode cX2_divisorSum 62 = .ok (.lconst 1, 1) := by decide +kernel
theorem dX2_divisorSum_63 : decode cX2_divisorSum 63 = .ok (.ladd, 1) := by decide +kernel
theorem dX2_divisorSum_64 : decode cX2_divisorSum 64 = .ok (.lstore 4, 2) := by decide +kernel
theorem dX2_divisorSum_66 : decode cX2_divisorSum 66 = .ok (.iinc 8 1, 3) := by decide +kernel
theorem dX2_divisorSum_69 : decode cX2_divisorSum 69 = .ok (.goto (-58), 3) := by decide +kernel
theorem dX2_divisorSum_72 : decode cX2_divisorSum 72 = .ok (.lload_n 2, 1) := by decide +kernel
theorem dX2_divisorSum_73 : decode cX2_divisorSum 73 = .ok (.lload 4, 2) := by decide +kernel
theorem dX2_divisorSum_75 : decode cX2_divisorSum 75 = .ok (.lmul, 1) := by decide +kernel
theorem dX2_divisorSum_76 : decode cX2_divisorSum 76 = .ok (.lreturn, 1) := by decide +kernel
theorem dX2_findDivisorOf_0 : decode cX2_findDivisorOf 0 = .ok (.aload_n 0, 1) := by decide +kernel
theorem dX2_findDivisorOf_1 : decode cX2_findDivisorOf 1 = .ok (.getfield 33, 3) := by decide +kernel
theorem dX2_findDivisorOf_4 : decode cX2_findDivisorOf 4 = .ok (.lload_n 1, 1) := by decide +kernel
theorem dX2_findDivisorOf_5 : decode cX2_findDivisorOf 5 = .ok (.lconst 0, 1) := by decide +kernel
theorem dX2_findDivisorOf_6 : decode cX2_findDivisorOf 6 = .ok (.invokevirtual 70, 3) := by decide +kernel
theorem dX2_findDivisorOf_9 : decode cX2_findDivisorOf 9 = .ok (.aload_n 0, 1) := by decide +kernel
theorem dX2_findDivisorOf_10 : decode cX2_findDivisorOf 10 = .ok (.getfield 22, 3) := by decide +kernel
theorem dX2_findDivisorOf_13 : decode cX2_findDivisorOf 13 = .ok (.aload_n 0, 1) := by decide +kernel
theorem dX2_findDivisorOf_14 : decode cX2_findDivisorOf 14 = .ok (.getfield 33, 3) := by decide +kernel
theorem dX2_findDivisorOf_17 : decode cX2_findDivisorOf 17 = .ok (.aload_n 0, 1) := by decide +kernel
theorem dX2_findDivisorOf_18 : decode cX2_findDivisorOf 18 = .ok (.getfield 29, 3) := by decide +kernel
theorem dX2_findDivisorOf_21 : decode cX2_findDivisorOf 21 = .ok (.invokevirtual 118, 3) := by decide +kernel
theorem dX2_findDivisorOf_24 : decode cX2_findDivisorOf 24 = .ok (.aload_n 0, 1) := by decide +kernel
theorem dX2_findDivisorOf_25 : decode cX2_findDivisorOf 25 = .ok (.getfield 33, 3) := by decide +kernel
theorem dX2_findDivisorOf_28 : decode cX2_findDivisorOf 28 = .ok (.aload_n 0, 1) := by decide +kernel
theorem dX2_findDivisorOf_29 : decode cX2_findDivisorOf 29 = .ok (.getfield 22, 3) := by decide +kernel
theorem dX2_findDivisorOf_32 : decode cX2_findDivisorOf 32 = .ok (.getfield 122, 3) := by decide +kernel
theorem dX2_findDivisorOf_35 : decode cX2_findDivisorOf 35 = .ok (.invokevirtual 46, 3) := by decide +kernel
theorem dX2_findDivisorOf_38 : decode cX2_findDivisorOf 38 = .ok (.aload_n 0, 1) := by decide +kernel
theorem dX2_findDivisorOf_39 : decode cX2_findDivisorOf 39 = .ok (.getfield 33, 3) := by decide +kernel
theorem dX2_findDivisorOf_42 : decode cX2_findDivisorOf 42 = .ok (.invokevirtual 125, 3) := by decide +kernel
theorem dX2_findDivisorOf_45 : decode cX2_findDivisorOf 45 = .ok (.return_, 1) := by decide +kernel
theorem dX2_findUnit_0 : decode cX2_findUnit 0 = .ok (.aload_n 0, 1) := by decide +kernel
theorem dX2_findUnit_1 : decode cX2_findUnit 1 = .ok (.getfield 36, 3) := by decide +kernel
theorem dX2_findUnit_4 : decode cX2_findUnit 4 = .ok (.lconst 1, 1) := by decide +kernel
theorem dX2_findUnit_5 : decode cX2_findUnit 5 = .ok (.lconst 0, 1) := by decide +kernel
theorem dX2_findUnit_6 : decode cX2_findUnit 6 = .ok (.invokevirtual 70, 3) := by decide +kernel
theorem dX2_findUnit_9 : decode cX2_findUnit 9 = .ok (.iconst 0, 1) := by decide +kernel
theorem dX2_findUnit_10 : decode cX2_findUnit 10 = .ok (.istore_n 2, 1) := by decide +kernel
theorem dX2_findUnit_11 : decode cX2_findUnit 11 = .ok (.iload_n 2, 1) := by decide +kernel
theorem dX2_findUnit_12 : decode cX2_findUnit 12 = .ok (.aload_n 0, 1) := by decide +kernel
theorem dX2_findUnit_13 : decode cX2_findUnit 13 = .ok (.getfield 39, 3) := by decide +kernel
theorem dX2_findUnit_16 : decode cX2_findUnit 16 = .ok (.if_icmp .ge 29, 3) := by decide +kernel
theorem dX2_findUnit_19 : decode cX2_findUnit 19 = .ok (.aload_n 0, 1) := by decide +kernel
theorem dX2_findUnit_20 : decode cX2_findUnit 20 = .ok (.iload_n 2, 1) := by decide +kernel
theorem dX2_findUnit_21 : decode cX2_findUnit 21 = .ok (.aload_n 0, 1) := by decide +kernel
theorem dX2_findUnit_22 : decode cX2_findUnit 22 = .ok (.getfield 33, 3) := by decide +kernel
theorem dX2_findUnit_25 : decode cX2_findUnit 25 = .ok (.invokevirtual 132, 3) := by decide +kernel
theorem dX2_findUnit_28 : decode cX2_findUnit 28 = .ok (.aload_n 0, 1) := by decide +kernel
theorem dX2_findUnit_29 : decode cX2_findUnit 29 = .ok (.getfield 36, 3) := by decide +kernel
theorem dX2_findUnit_32 : decode cX2_findUnit 32 = .ok (.aload_n 0, 1) := by decide +kernel
theorem dX2_findUnit_33 : decode cX2_findUnit 33 = .ok (.getfield 33, 3) := by decide +kernel
theorem dX2_findUnit_36 : decode cX2_findUnit 36 = .ok (.invokevirtual 135, 3) := by decide +kernel
theorem dX2_findUnit_39 : decode cX2_findUnit 39 = .ok (.iinc 2 1, 3) := by decide +kernel
theorem dX2_findUnit_42 : decode cX2_findUnit 42 = .ok (.goto (-31), 3) := by decide +kernel
theorem dX2_findUnit_45 : decode cX2_findUnit 45 = .ok (.aload_n 0, 1) := by decide +kernel
theorem dX2_findUnit_46 : decode cX2_findUnit 46 = .ok (.getfield 33, 3) := by decide +kernel
theorem dX2_findUnit_49 : decode cX2_findUnit 49 = .ok (.lconst 1, 1) := by decide +kernel
theorem dX2_findUnit_50 : decode cX2_findUnit 50 = .ok (.ldc2_w 138, 3) := by decide +kernel
theorem dX2_findUnit_53 : decode cX2_findUnit 53 = .ok (.invokevirtual 70, 3) := by decide +kernel
theorem dX2_findUnit_56 : decode cX2_findUnit 56 = .ok (.iconst 0, 1) := by decide +kernel
theorem dX2_findUnit_57 : decode cX2_findUnit 57 = .ok (.istore_n 2, 1) := by decide +kernel
theorem dX2_findUnit_58 : decode cX2_findUnit 58 = .ok (.iload_n 2, 1) := by decide +kernel
theorem dX2_findUnit_59 : decode cX2_findUnit 59 = .ok (.aload_n 0, 1) := by decide +kernel
theorem dX2_findUnit_60 : decode cX2_findUnit 60 = .ok (.getfield 54, 3) := by decide +kernel
theorem dX2_findUnit_63 : decode cX2_findUnit 63 = .ok (.if_icmp .ge 26, 3) := by decide +kernel
theorem dX2_findUnit_66 : decode cX2_findUnit 66 = .ok (.iload_n 2, 1) := by decide +kernel
theorem dX2_findUnit_67 : decode cX2_findUnit 67 = .ok (.bipush 60, 2) := by decide +kernel
theorem dX2_findUnit_69 : decode cX2_findUnit 69 = .ok (.if_icmp .ge 20, 3) := by decide +kernel
theorem dX2_findUnit_72 : decode cX2_findUnit 72 = .ok (.aload_n 0, 1) := by decide +kernel
theorem dX2_findUnit_73 : decode cX2_findUnit 73 = .ok (.getfield 36, 3) := by decide +kernel
theorem dX2_findUnit_76 : decode cX2_findUnit 76 = .ok (.aload_n 0, 1) := by decide +kernel
theorem dX2_findUnit_77 : decode cX2_findUnit 77 = .ok (.getfield 33, 3) := by decide +kernel
theorem dX2_findUnit_80 : decode cX2_findUnit 80 = .ok (.invokevirtual 135, 3) := by decide +kernel
theorem dX2_findUnit_83 : decode cX2_findUnit 83 = .ok (.iinc 2 1, 3) := by decide +kernel
theorem dX2_findUnit_86 : decode cX2_findUnit 86 = .ok (.goto (-28), 3) := by decide +kernel
theorem dX2_findUnit_89 : decode cX2_findUnit 89 = .ok (.iconst 0, 1) := by decide +kernel
theorem dX2_findUnit_90 : decode cX2_findUnit 90 = .ok (.istore_n 2, 1) := by decide +kernel
theorem dX2_findUnit_91 : decode cX2_findUnit 91 = .ok (.iload_n 2, 1) := by decide +kernel
theorem dX2_findUnit_92 : decode cX2_findUnit 92 = .ok (.bipush 6, 2) := by decide +kernel
theorem dX2_findUnit_94 : decode cX2_findUnit 94 = .ok (.if_icmp .ge 35, 3) := by decide +kernel
theorem dX2_findUnit_97 : decode cX2_findUnit 97 = .ok (.aload_n 0, 1) := by decide +kernel
theorem dX2_findUnit_98 : decode cX2_findUnit 98 = .ok (.getfield 36, 3) := by decide +kernel
theorem dX2_findUnit_101 : decode cX2_findUnit 101 = .ok (.aload_n 1, 1) := by decide +kernel
theorem dX2_findUnit_102 : decode cX2_findUnit 102 = .ok (.invokevirtual 140, 3) := by decide +kernel
theorem dX2_findUnit_105 : decode cX2_findUnit 105 = .ok (.ifCond .ne 24, 3) := by decide +kernel
theorem dX2_findUnit_108 : decode cX2_findUnit 108 = .ok (.aload_n 0, 1) := by decide +kernel
theorem dX2_findUnit_109 : decode cX2_findUnit 109 = .ok (.getfield 36, 3) := by decide +kernel
theorem dX2_findUnit_112 : decode cX2_findUnit 112 = .ok (.iconst 1, 1) := by decide +kernel
theorem dX2_findUnit_113 : decode cX2_findUnit 113 = .ok (.invokevirtual 144, 3) := by decide +kernel
theorem dX2_findUnit_116 : decode cX2_findUnit 116 = .ok (.aload_n 0, 1) := by decide +kernel
theorem dX2_findUnit_117 : decode cX2_findUnit 117 = .ok (.iload_n 2, 1) := by decide +kernel
theorem dX2_findUnit_118 : decode cX2_findUnit 118 = .ok (.iconst 1, 1) := by decide +kernel
theorem dX2_findUnit_119 : decode cX2_findUnit 119 = .ok (.iadd, 1) := by decide +kernel
theorem dX2_findUnit_120 : decode cX2_findUnit 120 = .ok (.putfield 43, 3) := by decide +kernel
theorem dX2_findUnit_123 : decode cX2_findUnit 123 = .ok (.iinc 2 1, 3) := by decide +kernel
theorem dX2_findUnit_126 : decode cX2_findUnit 126 = .ok (.goto (-35), 3) := by decide +kernel
theorem dX2_findUnit_129 : decode cX2_findUnit 129 = .ok (.return_, 1) := by decide +kernel
theorem dX2_insert_0 : decode cX2_insert 0 = .ok (.aload_n 0, 1) := by decide +kernel
theorem dX2_insert_1 : decode cX2_insert 1 = .ok (.getfield 39, 3) := by decide +kernel
theorem dX2_insert_4 : decode cX2_insert 4 = .ok (.ifCond .lt 12, 3) := by decide +kernel
theorem dX2_insert_7 : decode cX2_insert 7 = .ok (.aload_n 0, 1) := by decide +kernel
theorem dX2_insert_8 : decode cX2_insert 8 = .ok (.getfield 39, 3) := by decide +kernel
theorem dX2_insert_11 : decode cX2_insert 11 = .ok (.bipush 32, 2) := by decide +kernel
theorem dX2_insert_13 : decode cX2_insert 13 = .ok (.if_icmp .lt 4, 3) := by decide +kernel
theorem dX2_insert_16 : decode cX2_insert 16 = .ok (.return_, 1) := by decide +kernel
theorem dX2_insert_17 : decode cX2_insert 17 = .ok (.aload_n 0, 1) := by decide +kernel
theorem dX2_insert_18 : decode cX2_insert 18 = .ok (.getfield 33, 3) := by decide +kernel
theorem dX2_insert_21 : decode cX2_insert 21 = .ok (.invokevirtual 105, 3) := by decide +kernel
theorem dX2_insert_24 : decode cX2_insert 24 = .ok (.lstore_n 1, 1) := by decide +kernel
theorem dX2_insert_25 : decode cX2_insert 25 = .ok (.aload_n 0, 1) := by decide +kernel
theorem dX2_insert_26 : decode cX2_insert 26 = .ok (.getfield 39, 3) := by decide +kernel
theorem dX2_insert_29 : decode cX2_insert 29 = .ok (.istore_n 3, 1) := by decide +kernel
theorem dX2_insert_30 : decode cX2_insert 30 = .ok (.iload_n 3, 1) := by decide +kernel
theorem dX2_insert_31 : decode cX2_insert 31 = .ok (.ifCond .le 62, 3) := by decide +kernel
theorem dX2_insert_34 : decode cX2_insert 34 = .ok (.aload_n 0, 1) := by decide +kernel
theorem dX2_insert_35 : decode cX2_insert 35 = .ok (.iload_n 3, 1) := by decide +kernel
theorem dX2_insert_36 : decode cX2_insert 36 = .ok (.iconst 1, 1) := by decide +kernel
theorem dX2_insert_37 : decode cX2_insert 37 = .ok (.isub, 1) := by decide +kernel
theorem dX2_insert_38 : decode cX2_insert 38 = .ok (.lload_n 1, 1) := by decide +kernel
theorem dX2_insert_39 : decode cX2_insert 39 = .ok (.invokevirtual 128, 3) := by decide +kernel
theorem dX2_insert_42 : decode cX2_insert 42 = .ok (.ifCond .eq 51, 3) := by decide +kernel
theorem dX2_insert_45 : decode cX2_insert 45 = .ok (.aload_n 0, 1) := by decide +kernel
theorem dX2_insert_46 : decode cX2_insert 46 = .ok (.getfield 9, 3) := by decide +kernel
theorem dX2_insert_49 : decode cX2_insert 49 = .ok (.iload_n 3, 1) := by decide +kernel
theorem dX2_insert_50 : decode cX2_insert 50 = .ok (.aload_n 0, 1) := by decide +kernel
theorem dX2_insert_51 : decode cX2_insert 51 = .ok (.getfield 9, 3) := by decide +kernel
theorem dX2_insert_54 : decode cX2_insert 54 = .ok (.iload_n 3, 1) := by decide +kernel
theorem dX2_insert_55 : decode cX2_insert 55 = .ok (.iconst 1, 1) := by decide +kernel
theorem dX2_insert_56 : decode cX2_insert 56 = .ok (.isub, 1) := by decide +kernel
theorem dX2_insert_57 : decode cX2_insert 57 = .ok (.laload, 1) := by decide +kernel
theorem dX2_insert_58 : decode cX2_insert 58 = .ok (.lastore, 1) := by decide +kernel
theorem dX2_insert_59 : decode cX2_insert 59 = .ok (.aload_n 0, 1) := by decide +kernel
theorem dX2_insert_60 : decode cX2_insert 60 = .ok (.getfield 13, 3) := by decide +kernel
theorem dX2_insert_63 : decode cX2_insert 63 = .ok (.iload_n 3, 1) := by decide +kernel
theorem dX2_insert_64 : decode cX2_insert 64 = .ok (.aload_n 0, 1) := by decide +kernel
theorem dX2_insert_65 : decode cX2_insert 65 = .ok (.getfield 13, 3) := by decide +kernel
theorem dX2_insert_68 : decode cX2_insert 68 = .ok (.iload_n 3, 1) := by decide +kernel
theorem dX2_insert_69 : decode cX2_insert 69 = .ok (.iconst 1, 1) := by decide +kernel
theorem dX2_insert_70 : decode cX2_insert 70 = .ok (.isub, 1) := by decide +kernel
theorem dX2_insert_71 : decode cX2_insert 71 = .ok (.laload, 1) := by decide +kernel
theorem dX2_insert_72 : decode cX2_insert 72 = .ok (.lastore, 1) := by decide +kernel
theorem dX2_insert_73 : decode cX2_insert 73 = .ok (.aload_n 0, 1) := by decide +kernel
theorem dX2_insert_74 : decode cX2_insert 74 = .ok (.getfield 16, 3) := by decide +kernel
theorem dX2_insert_77 : decode cX2_insert 77 = .ok (.iload_n 3, 1) := by decide +kernel
theorem dX2_insert_78 : decode cX2_insert 78 = .ok (.aload_n 0, 1) := by decide +kernel
theorem dX2_insert_79 : decode cX2_insert 79 = .ok (.getfield 16, 3) := by decide +kernel
theorem dX2_insert_82 : decode cX2_insert 82 = .ok (.iload_n 3, 1) := by decide +kernel
theorem dX2_insert_83 : decode cX2_insert 83 = .ok (.iconst 1, 1) := by decide +kernel
theorem dX2_insert_84 : decode cX2_insert 84 = .ok (.isub, 1) := by decide +kernel
theorem dX2_insert_85 : decode cX2_insert 85 = .ok (.laload, 1) := by decide +kernel
theorem dX2_insert_86 : decode cX2_insert 86 = .ok (.lastore, 1) := by decide +kernel
theorem dX2_insert_87 : decode cX2_insert 87 = .ok (.iinc 3 (-1), 3) := by decide +kernel
theorem dX2_insert_90 : decode cX2_insert 90 = .ok (.goto (-60), 3) := by decide +kernel
theorem dX2_insert_93 : decode cX2_insert 93 = .ok (.aload_n 0, 1) := by decide +kernel
theorem dX2_insert_94 : decode cX2_insert 94 = .ok (.getfield 9, 3) := by decide +kernel
theorem dX2_insert_97 : decode cX2_insert 97 = .ok (.iload_n 3, 1) := by decide +kernel
theorem dX2_insert_98 : decode cX2_insert 98 = .ok (.aload_n 0, 1) := by decide +kernel
theorem dX2_insert_99 : decode cX2_insert 99 = .ok (.getfield 33, 3) := by decide +kernel
theorem dX2_insert_102 : decode cX2_insert 102 = .ok (.getfield 57, 3) := by decide +kernel
theorem dX2_insert_105 : decode cX2_insert 105 = .ok (.lastore, 1) := by decide +kernel
theorem dX2_insert_106 : decode cX2_insert 106 = .ok (.aload_n 0, 1) := by decide +kernel
theorem dX2_insert_107 : decode cX2_insert 107 = .ok (.getfield 13, 3) := by decide +kernel
theorem dX2_insert_110 : decode cX2_insert 110 = .ok (.iload_n 3, 1) := by decide +kernel
theorem dX2_insert_111 : decode cX2_insert 111 = .ok (.aload_n 0, 1) := by decide +kernel
theorem dX2_insert_112 : decode cX2_insert 112 = .ok (.getfield 33, 3) := by decide +kernel
theorem dX2_insert_115 : decode cX2_insert 115 = .ok (.getfield 61, 3) := by decide +kernel
theorem dX2_insert_118 : decode cX2_insert 118 = .ok (.lastore, 1) := by decide +kernel
theorem dX2_insert_119 : decode cX2_insert 119 = .ok (.aload_n 0, 1) := by decide +kernel
theorem dX2_insert_120 : decode cX2_insert 120 = .ok (.getfield 16, 3) := by decide +kernel
theorem dX2_insert_123 : decode cX2_insert 123 = .ok (.iload_n 3, 1) := by decide +kernel
theorem dX2_insert_124 : decode cX2_insert 124 = .ok (.lload_n 1, 1) := by decide +kernel
theorem dX2_insert_125 : decode cX2_insert 125 = .ok (.lastore, 1) := by decide +kernel
theorem dX2_insert_126 : decode cX2_insert 126 = .ok (.aload_n 0, 1) := by decide +kernel
theorem dX2_insert_127 : decode cX2_insert 127 = .ok (.dup, 1) := by decide +kernel
theorem dX2_insert_128 : decode cX2_insert 128 = .ok (.getfield 39, 3) := by decide +kernel
theorem dX2_insert_131 : decode cX2_insert 131 = .ok (.iconst 1, 1) := by decide +kernel
theorem dX2_insert_132 : decode cX2_insert 132 = .ok (.iadd, 1) := by decide +kernel
theorem dX2_insert_133 : decode cX2_insert 133 = .ok (.putfield 39, 3) := by decide +kernel
theorem dX2_insert_136 : decode cX2_insert 136 = .ok (.return_, 1) := by decide +kernel
theorem dX2_isBehind_0 : decode cX2_isBehind 0 = .ok (.iload_n 1, 1) := by decide +kernel
theorem dX2_isBehind_1 : decode cX2_isBehind 1 = .ok (.ifCond .lt 9, 3) := by decide +kernel
theorem dX2_isBehind_4 : decode cX2_isBehind 4 = .ok (.iload_n 1, 1) := by decide +kernel
theorem dX2_isBehind_5 : decode cX2_isBehind 5 = .ok (.bipush 32, 2) := by decide +kernel
theorem dX2_isBehind_7 : decode cX2_isBehind 7 = .ok (.if_icmp .lt 5, 3) := by decide +kernel
theorem dX2_isBehind_10 : decode cX2_isBehind 10 = .ok (.iconst 0, 1) := by decide +kernel
theorem dX2_isBehind_11 : decode cX2_isBehind 11 = .ok (.ireturn, 1) := by decide +kernel
theorem dX2_isBehind_12 : decode cX2_isBehind 12 = .ok (.aload_n 0, 1) := by decide +kernel
theorem dX2_isBehind_13 : decode cX2_isBehind 13 = .ok (.getfield 16, 3) := by decide +kernel
theorem dX2_isBehind_16 : decode cX2_isBehind 16 = .ok (.iload_n 1, 1) := by decide +kernel
theorem dX2_isBehind_17 : decode cX2_isBehind 17 = .ok (.laload, 1) := by decide +kernel
theorem dX2_isBehind_18 : decode cX2_isBehind 18 = .ok (.lload_n 2, 1) := by decide +kernel
theorem dX2_isBehind_19 : decode cX2_isBehind 19 = .ok (.lcmp, 1) := by decide +kernel
theorem dX2_isBehind_20 : decode cX2_isBehind 20 = .ok (.ifCond .gt 31, 3) := by decide +kernel
theorem dX2_isBehind_23 : decode cX2_isBehind 23 = .ok (.aload_n 0, 1) := by decide +kernel
theorem dX2_isBehind_24 : decode cX2_isBehind 24 = .ok (.getfield 16, 3) := by decide +kernel
theorem dX2_isBehind_27 : decode cX2_isBehind 27 = .ok (.iload_n 1, 1) := by decide +kernel
theorem dX2_isBehind_28 : decode cX2_isBehind 28 = .ok (.laload, 1) := by decide +kernel
theorem dX2_isBehind_29 : decode cX2_isBehind 29 = .ok (.lload_n 2, 1) := by decide +kernel
theorem dX2_isBehind_30 : decode cX2_isBehind 30 = .ok (.lcmp, 1) := by decide +kernel
theorem dX2_isBehind_31 : decode cX2_isBehind 31 = .ok (.ifCond .ne 24, 3) := by decide +kernel
theorem dX2_isBehind_34 : decode cX2_isBehind 34 = .ok (.aload_n 0, 1) := by decide +kernel
theorem dX2_isBehind_35 : decode cX2_isBehind 35 = .ok (.getfield 13, 3) := by decide +kernel
theorem dX2_isBehind_38 : decode cX2_isBehind 38 = .ok (.iload_n 1, 1) := by decide +kernel
theorem dX2_isBehind_39 : decode cX2_isBehind 39 = .ok (.laload, 1) := by decide +kernel
theorem dX2_isBehind_40 : decode cX2_isBehind 40 = .ok (.aload_n 0, 1) := by decide +kernel
theorem dX2_isBehind_41 : decode cX2_isBehind 41 = .ok (.getfield 33, 3) := by decide +kernel
theorem dX2_isBehind_44 : decode cX2_isBehind 44 = .ok (.getfield 61, 3) := by decide +kernel
theorem dX2_isBehind_47 : decode cX2_isBehind 47 = .ok (.lcmp, 1) := by decide +kernel
theorem dX2_isBehind_48 : decode cX2_isBehind 48 = .ok (.ifCond .le 7, 3) := by decide +kernel
theorem dX2_isBehind_51 : decode cX2_isBehind 51 = .ok (.iconst 1, 1) := by decide +kernel
theorem dX2_isBehind_52 : decode cX2_isBehind 52 = .ok (.goto 4, 3) := by decide +kernel
theorem dX2_isBehind_55 : decode cX2_isBehind 55 = .ok (.iconst 0, 1) := by decide +kernel
theorem dX2_isBehind_56 : decode cX2_isBehind 56 = .ok (.ireturn, 1) := by decide +kernel
theorem dX2_isRepeated_0 : decode cX2_isRepeated 0 = .ok (.iload_n 1, 1) := by decide +kernel
theorem dX2_isRepeated_1 : decode cX2_isRepeated 1 = .ok (.aload_n 0, 1) := by decide +kernel
theorem dX2_isRepeated_2 : decode cX2_isRepeated 2 = .ok (.getfield 54, 3) := by decide +kernel
theorem dX2_isRepeated_5 : decode cX2_isRepeated 5 = .ok (.isub, 1) := by decide +kernel
theorem dX2_isRepeated_6 : decode cX2_isRepeated 6 = .ok (.istore_n 2, 1) := by decide +kernel
theorem dX2_isRepeated_7 : decode cX2_isRepeated 7 = .ok (.iload_n 2, 1) := by decide +kernel
theorem dX2_isRepeated_8 : decode cX2_isRepeated 8 = .ok (.ifCond .ge 13, 3) := by decide +kernel
theorem dX2_isRepeated_11 : decode cX2_isRepeated 11 = .ok (.iload_n 1, 1) := by decide +kernel
theorem dX2_isRepeated_12 : decode cX2_isRepeated 12 = .ok (.ifCond .le 7, 3) := by decide +kernel
theorem dX2_isRepeated_15 : decode cX2_isRepeated 15 = .ok (.iconst 1, 1) := by decide +kernel
theorem dX2_isRepeated_16 : decode cX2_isRepeated 16 = .ok (.goto 4, 3) := by decide +kernel
theorem dX2_isRepeated_19 : decode cX2_isRepeated 19 = .ok (.iconst 0, 1) := by decide +kernel
theorem dX2_isRepeated_20 : decode cX2_isRepeated 20 = .ok (.ireturn, 1) := by decide +kernel
theorem dX2_isRepeated_21 : decode cX2_isRepeated 21 = .ok (.iload_n 2, 1) := by decide +kernel
theorem dX2_isRepeated_22 : decode cX2_isRepeated 22 = .ok (.ifCond .le 49, 3) := by decide +kernel
theorem dX2_isRepeated_25 : decode cX2_isRepeated 25 = .ok (.iload_n 2, 1) := by decide +kernel
theorem dX2_isRepeated_26 : decode cX2_isRepeated 26 = .ok (.bipush 32, 2) := by decide +kernel
theorem dX2_isRepeated_28 : decode cX2_isRepeated 28 = .ok (.if_icmp .ge 43, 3) := by decide +kernel
theorem dX2_isRepeated_31 : decode cX2_isRepeated 31 = .ok (.aload_n 0, 1) := by decide +kernel
theorem dX2_isRepeated_32 : decode cX2_isRepeated 32 = .ok (.getfield 9, 3) := by decide +kernel
theorem dX2_isRepeated_35 : decode cX2_isRepeated 35 = .ok (.iload_n 2, 1) := by decide +kernel
theorem dX2_isRepeated_36 : decode cX2_isRepeated 36 = .ok (.laload, 1) := by decide +kernel
theorem dX2_isRepeated_37 : decode cX2_isRepeated 37 = .ok (.aload_n 0, 1) := by decide +kernel
theorem dX2_isRepeated_38 : decode cX2_isRepeated 38 = .ok (.getfield 9, 3) := by decide +kernel
theorem dX2_isRepeated_41 : decode cX2_isRepeated 41 = .ok (.iload_n 2, 1) := by decide +kernel
theorem dX2_isRepeated_42 : decode cX2_isRepeated 42 = .ok (.iconst 1, 1) := by decide +kernel
theorem dX2_isRepeated_43 : decode cX2_isRepeated 43 = .ok (.isub, 1) := by decide +kernel
theorem dX2_isRepeated_44 : decode cX2_isRepeated 44 = .ok (.laload, 1) := by decide +kernel
theorem dX2_isRepeated_45 : decode cX2_isRepeated 45 = .ok (.lcmp, 1) := by decide +kernel
theorem dX2_isRepeated_46 : decode cX2_isRepeated 46 = .ok (.ifCond .ne 25, 3) := by decide +kernel
theorem dX2_isRepeated_49 : decode cX2_isRepeated 49 = .ok (.aload_n 0, 1) := by decide +kernel
theorem dX2_isRepeated_50 : decode cX2_isRepeated 50 = .ok (.getfield 13, 3) := by decide +kernel
theorem dX2_isRepeated_53 : decode cX2_isRepeated 53 = .ok (.iload_n 2, 1) := by decide +kernel
theorem dX2_isRepeated_54 : decode cX2_isRepeated 54 = .ok (.laload, 1) := by decide +kernel
theorem dX2_isRepeated_55 : decode cX2_isRepeated 55 = .ok (.aload_n 0, 1) := by decide +kernel
theorem dX2_isRepeated_56 : decode cX2_isRepeated 56 = .ok (.getfield 13, 3) := by decide +kernel
theorem dX2_isRepeated_59 : decode cX2_isRepeated 59 = .ok (.iload_n 2, 1) := by decide +kernel
theorem dX2_isRepeated_60 : decode cX2_isRepeated 60 = .ok (.iconst 1, 1) := by decide +kernel
theorem dX2_isRepeated_61 : decode cX2_isRepeated 61 = .ok (.isub, 1) := by decide +kernel
theorem dX2_isRepeated_62 : decode cX2_isRepeated 62 = .ok (.laload, 1) := by decide +kernel
theorem dX2_isRepeated_63 : decode cX2_isRepeated 63 = .ok (.lcmp, 1) := by decide +kernel
theorem dX2_isRepeated_64 : decode cX2_isRepeated 64 = .ok (.ifCond .ne 7, 3) := by decide +kernel
theorem dX2_isRepeated_67 : decode cX2_isRepeated 67 = .ok (.iconst 1, 1) := by decide +kernel
theorem dX2_isRepeated_68 : decode cX2_isRepeated 68 = .ok (.goto 4, 3) := by decide +kernel
theorem dX2_isRepeated_71 : decode cX2_isRepeated 71 = .ok (.iconst 0, 1) := by decide +kernel
theorem dX2_isRepeated_72 : decode cX2_isRepeated 72 = .ok (.ireturn, 1) := by decide +kernel
theorem dX2_load_0 : decode cX2_load 0 = .ok (.iload_n 1, 1) := by decide +kernel
theorem dX2_load_1 : decode cX2_load 1 = .ok (.ifCond .lt 33, 3) := by decide +kernel
theorem dX2_load_4 : decode cX2_load 4 = .ok (.iload_n 1, 1) := by decide +kernel
theorem dX2_load_5 : decode cX2_load 5 = .ok (.aload_n 0, 1) := by decide +kernel
theorem dX2_load_6 : decode cX2_load 6 = .ok (.getfield 39, 3) := by decide +kernel
theorem dX2_load_9 : decode cX2_load 9 = .ok (.if_icmp .ge 25, 3) := by decide +kernel
theorem dX2_load_12 : decode cX2_load 12 = .ok (.iload_n 1, 1) := by decide +kernel
theorem dX2_load_13 : decode cX2_load 13 = .ok (.bipush 32, 2) := by decide +kernel
theorem dX2_load_15 : decode cX2_load 15 = .ok (.if_icmp .ge 19, 3) := by decide +kernel
theorem dX2_load_18 : decode cX2_load 18 = .ok (.aload_n 2, 1) := by decide +kernel
theorem dX2_load_19 : decode cX2_load 19 = .ok (.aload_n 0, 1) := by decide +kernel
theorem dX2_load_20 : decode cX2_load 20 = .ok (.getfield 9, 3) := by decide +kernel
theorem dX2_load_23 : decode cX2_load 23 = .ok (.iload_n 1, 1) := by decide +kernel
theorem dX2_load_24 : decode cX2_load 24 = .ok (.laload, 1) := by decide +kernel
theorem dX2_load_25 : decode cX2_load 25 = .ok (.aload_n 0, 1) := by decide +kernel
theorem dX2_load_26 : decode cX2_load 26 = .ok (.getfield 13, 3) := by decide +kernel
theorem dX2_load_29 : decode cX2_load 29 = .ok (.iload_n 1, 1) := by decide +kernel
theorem dX2_load_30 : decode cX2_load 30 = .ok (.laload, 1) := by decide +kernel
theorem dX2_load_31 : decode cX2_load 31 = .ok (.invokevirtual 70, 3) := by decide +kernel
theorem dX2_load_34 : decode cX2_load 34 = .ok (.return_, 1) := by decide +kernel
theorem dX2_normAt_0 : decode cX2_normAt 0 = .ok (.iload_n 1, 1) := by decide +kernel
theorem dX2_normAt_1 : decode cX2_normAt 1 = .ok (.aload_n 0, 1) := by decide +kernel
theorem dX2_normAt_2 : decode cX2_normAt 2 = .ok (.getfield 54, 3) := by decide +kernel
theorem dX2_normAt_5 : decode cX2_normAt 5 = .ok (.isub, 1) := by decide +kernel
theorem dX2_normAt_6 : decode cX2_normAt 6 = .ok (.istore_n 2, 1) := by decide +kernel
theorem dX2_normAt_7 : decode cX2_normAt 7 = .ok (.iload_n 2, 1) := by decide +kernel
theorem dX2_normAt_8 : decode cX2_normAt 8 = .ok (.ifCond .lt 18, 3) := by decide +kernel
theorem dX2_normAt_11 : decode cX2_normAt 11 = .ok (.iload_n 2, 1) := by decide +kernel
theorem dX2_normAt_12 : decode cX2_normAt 12 = .ok (.bipush 32, 2) := by decide +kernel
theorem dX2_normAt_14 : decode cX2_normAt 14 = .ok (.if_icmp .ge 12, 3) := by decide +kernel
theorem dX2_normAt_17 : decode cX2_normAt 17 = .ok (.aload_n 0, 1) := by decide +kernel
theorem dX2_normAt_18 : decode cX2_normAt 18 = .ok (.getfield 16, 3) := by decide +kernel
theorem dX2_normAt_21 : decode cX2_normAt 21 = .ok (.iload_n 2, 1) := by decide +kernel
theorem dX2_normAt_22 : decode cX2_normAt 22 = .ok (.laload, 1) := by decide +kernel
theorem dX2_normAt_23 : decode cX2_normAt 23 = .ok (.goto 6, 3) := by decide +kernel
theorem dX2_normAt_26 : decode cX2_normAt 26 = .ok (.ldc2_w 91, 3) := by decide +kernel
theorem dX2_normAt_29 : decode cX2_normAt 29 = .ok (.lreturn, 1) := by decide +kernel
theorem dX2_primeClasses_0 : decode cX2_primeClasses 0 = .ok (.lconst 1, 1) := by decide +kernel
theorem dX2_primeClasses_1 : decode cX2_primeClasses 1 = .ok (.lstore_n 1, 1) := by decide +kernel
theorem dX2_primeClasses_2 : decode cX2_primeClasses 2 = .ok (.iconst 0, 1) := by decide +kernel
theorem dX2_primeClasses_3 : decode cX2_primeClasses 3 = .ok (.istore_n 3, 1) := by decide +kernel
theorem dX2_primeClasses_4 : decode cX2_primeClasses 4 = .ok (.iload_n 3, 1) := by decide +kernel
theorem dX2_primeClasses_5 : decode cX2_primeClasses 5 = .ok (.aload_n 0, 1) := by decide +kernel
theorem dX2_primeClasses_6 : decode cX2_primeClasses 6 = .ok (.invokevirtual 148, 3) := by decide +kernel
theorem dX2_primeClasses_9 : decode cX2_primeClasses 9 = .ok (.if_icmp .ge 35, 3) := by decide +kernel
theorem dX2_primeClasses_12 : decode cX2_primeClasses 12 = .ok (.lload_n 1, 1) := by decide +kernel
theorem dX2_primeClasses_13 : decode cX2_primeClasses 13 = .ok (.aload_n 0, 1) := by decide +kernel
theorem dX2_primeClasses_14 : decode cX2_primeClasses 14 = .ok (.iload_n 3, 1) := by decide +kernel
theorem dX2_primeClasses_15 : decode cX2_primeClasses 15 = .ok (.invokevirtual 151, 3) := by decide +kernel
theorem dX2_primeClasses_18 : decode cX2_primeClasses 18 = .ok (.ifCond .eq 11, 3) := by decide +kernel
theorem dX2_primeClasses_21 : decode cX2_primeClasses 21 = .ok (.aload_n 0, 1) := by decide +kernel
theorem dX2_primeClasses_22 : decode cX2_primeClasses 22 = .ok (.iload_n 3, 1) := by decide +kernel
theorem dX2_primeClasses_23 : decode cX2_primeClasses 23 = .ok (.invokevirtual 155, 3) := by decide +kernel
theorem dX2_primeClasses_26 : decode cX2_primeClasses 26 = .ok (.goto 10, 3) := by decide +kernel
theorem dX2_primeClasses_29 : decode cX2_primeClasses 29 = .ok (.aload_n 0, 1) := by decide +kernel
theorem dX2_primeClasses_30 : decode cX2_primeClasses 30 = .ok (.iload_n 3, 1) := by decide +kernel
theorem dX2_primeClasses_31 : decode cX2_primeClasses 31 = .ok (.invokevirtual 155, 3) := by decide +kernel
theorem dX2_primeClasses_34 : decode cX2_primeClasses 34 = .ok (.lconst 1, 1) := by decide +kernel
theorem dX2_primeClasses_35 : decode cX2_primeClasses 35 = .ok (.lsub, 1) := by decide +kernel
theorem dX2_primeClasses_36 : decode cX2_primeClasses 36 = .ok (.lmul, 1) := by decide +kernel
theorem dX2_primeClasses_37 : decode cX2_primeClasses 37 = .ok (.lstore_n 1, 1) := by decide +kernel
theorem dX2_primeClasses_38 : decode cX2_primeClasses 38 = .ok (.iinc 3 1, 3) := by decide +kernel
theorem dX2_primeClasses_41 : decode cX2_primeClasses 41 = .ok (.goto (-37), 3) := by decide +kernel
theorem dX2_primeClasses_44 : decode cX2_primeClasses 44 = .ok (.lload_n 1, 1) := by decide +kernel
theorem dX2_primeClasses_45 : decode cX2_primeClasses 45 = .ok (.lreturn, 1) := by decide +kernel
theorem dX2_spell_0 : decode cX2_spell 0 = .ok (.aload_n 0, 1) := by decide +kernel
theorem dX2_spell_1 : decode cX2_spell 1 = .ok (.iconst 0, 1) := by decide +kernel
theorem dX2_spell_2 : decode cX2_spell 2 = .ok (.putfield 39, 3) := by decide +kernel
theorem dX2_spell_5 : decode cX2_spell 5 = .ok (.aload_n 0, 1) := by decide +kernel
theorem dX2_spell_6 : decode cX2_spell 6 = .ok (.iconst 0, 1) := by decide +kernel
theorem dX2_spell_7 : decode cX2_spell 7 = .ok (.putfield 43, 3) := by decide +kernel
theorem dX2_spell_10 : decode cX2_spell 10 = .ok (.aload_n 0, 1) := by decide +kernel
theorem dX2_spell_11 : decode cX2_spell 11 = .ok (.getfield 29, 3) := by decide +kernel
theorem dX2_spell_14 : decode cX2_spell 14 = .ok (.aload_n 1, 1) := by decide +kernel
theorem dX2_spell_15 : decode cX2_spell 15 = .ok (.invokevirtual 46, 3) := by decide +kernel
theorem dX2_spell_18 : decode cX2_spell 18 = .ok (.aload_n 0, 1) := by decide +kernel
theorem dX2_spell_19 : decode cX2_spell 19 = .ok (.aload_n 0, 1) := by decide +kernel
theorem dX2_spell_20 : decode cX2_spell 20 = .ok (.getfield 29, 3) := by decide +kernel
theorem dX2_spell_23 : decode cX2_spell 23 = .ok (.invokevirtual 50, 3) := by decide +kernel
theorem dX2_spell_26 : decode cX2_spell 26 = .ok (.putfield 54, 3) := by decide +kernel
theorem dX2_spell_29 : decode cX2_spell 29 = .ok (.aload_n 0, 1) := by decide +kernel
theorem dX2_spell_30 : decode cX2_spell 30 = .ok (.getfield 29, 3) := by decide +kernel
theorem dX2_spell_33 : decode cX2_spell 33 = .ok (.getfield 57, 3) := by decide +kernel
theorem dX2_spell_36 : decode cX2_spell 36 = .ok (.aload_n 0, 1) := by decide +kernel
theorem dX2_spell_37 : decode cX2_spell 37 = .ok (.getfield 29, 3) := by decide +kernel
theorem dX2_spell_40 : decode cX2_spell 40 = .ok (.getfield 61, 3) := by decide +kernel
theorem dX2_spell_43 : decode cX2_spell 43 = .ok (.invokestatic 64, 3) := by decide +kernel
theorem dX2_spell_46 : decode cX2_spell 46 = .ok (.lstore_n 2, 1) := by decide +kernel
theorem dX2_spell_47 : decode cX2_spell 47 = .ok (.lload_n 2, 1) := by decide +kernel
theorem dX2_spell_48 : decode cX2_spell 48 = .ok (.lconst 1, 1) := by decide +kernel
theorem dX2_spell_49 : decode cX2_spell 49 = .ok (.lcmp, 1) := by decide +kernel
theorem dX2_spell_50 : decode cX2_spell 50 = .ok (.ifCond .ge 4, 3) := by decide +kernel
theorem dX2_spell_53 : decode cX2_spell 53 = .ok (.return_, 1) := by decide +kernel
theorem dX2_spell_54 : decode cX2_spell 54 = .ok (.aload_n 0, 1) := by decide +kernel
theorem dX2_spell_55 : decode cX2_spell 55 = .ok (.getfield 29, 3) := by decide +kernel
theorem dX2_spell_58 : decode cX2_spell 58 = .ok (.aload_n 0, 1) := by decide +kernel
theorem dX2_spell_59 : decode cX2_spell 59 = .ok (.getfield 29, 3) := by decide +kernel
theorem dX2_spell_62 : decode cX2_spell 62 = .ok (.getfield 57, 3) := by decide +kernel
theorem dX2_spell_65 : decode cX2_spell 65 = .ok (.lload_n 2, 1) := by decide +kernel
theorem dX2_spell_66 : decode cX2_spell 66 = .ok (.ldiv, 1) := by decide +kernel
theorem dX2_spell_67 : decode cX2_spell 67 = .ok (.aload_n 0, 1) := by decide +kernel
theorem dX2_spell_68 : decode cX2_spell 68 = .ok (.getfield 29, 3) := by decide +kernel
theorem dX2_spell_71 : decode cX2_spell 71 = .ok (.getfield 61, 3) := by decide +kernel
theorem dX2_spell_74 : decode cX2_spell 74 = .ok (.lload_n 2, 1) := by decide +kernel
theorem dX2_spell_75 : decode cX2_spell 75 = .ok (.ldiv, 1) := by decide +kernel
theorem dX2_spell_76 : decode cX2_spell 76 = .ok (.invokevirtual 70, 3) := by decide +kernel
theorem dX2_spell_79 : decode cX2_spell 79 = .ok (.aload_n 0, 1) := by decide +kernel
theorem dX2_spell_80 : decode cX2_spell 80 = .ok (.lload_n 2, 1) := by decide +kernel
theorem dX2_spell_81 : decode cX2_spell 81 = .ok (.invokevirtual 74, 3) := by decide +kernel
theorem dX2_spell_84 : decode cX2_spell 84 = .ok (.aload_n 0, 1) := by decide +kernel
theorem dX2_spell_85 : decode cX2_spell 85 = .ok (.invokevirtual 78, 3) := by decide +kernel
theorem dX2_spell_88 : decode cX2_spell 88 = .ok (.aload_n 0, 1) := by decide +kernel
theorem dX2_spell_89 : decode cX2_spell 89 = .ok (.aload_n 1, 1) := by decide +kernel
theorem dX2_spell_90 : decode cX2_spell 90 = .ok (.invokevirtual 81, 3) := by decide +kernel
theorem dX2_spell_93 : decode cX2_spell 93 = .ok (.return_, 1) := by decide +kernel
theorem dX2_spellRest_0 : decode cX2_spellRest 0 = .ok (.aload_n 0, 1) := by decide +kernel
theorem dX2_spellRest_1 : decode cX2_spellRest 1 = .ok (.getfield 29, 3) := by decide +kernel
theorem dX2_spellRest_4 : decode cX2_spellRest 4 = .ok (.invokevirtual 105, 3) := by decide +kernel
theorem dX2_spellRest_7 : decode cX2_spellRest 7 = .ok (.lstore_n 1, 1) := by decide +kernel
theorem dX2_spellRest_8 : decode cX2_spellRest 8 = .ok (.ldc2_w 109, 3) := by decide +kernel
theorem dX2_spellRest_11 : decode cX2_spellRest 11 = .ok (.lstore_n 3, 1) := by decide +kernel
theorem dX2_spellRest_12 : decode cX2_spellRest 12 = .ok (.lload_n 3, 1) := by decide +kernel
theorem dX2_spellRest_13 : decode cX2_spellRest 13 = .ok (.ldc2_w 111, 3) := by decide +kernel
theorem dX2_spellRest_16 : decode cX2_spellRest 16 = .ok (.lcmp, 1) := by decide +kernel
theorem dX2_spellRest_17 : decode cX2_spellRest 17 = .ok (.ifCond .gt 65, 3) := by decide +kernel
theorem dX2_spellRest_20 : decode cX2_spellRest 20 = .ok (.lload_n 3, 1) := by decide +kernel
theorem dX2_spellRest_21 : decode cX2_spellRest 21 = .ok (.lload_n 3, 1) := by decide +kernel
theorem dX2_spellRest_22 : decode cX2_spellRest 22 = .ok (.lmul, 1) := by decide +kernel
theorem dX2_spellRest_23 : decode cX2_spellRest 23 = .ok (.lload_n 1, 1) := by decide +kernel
theorem dX2_spellRest_24 : decode cX2_spellRest 24 = .ok (.lcmp, 1) := by decide +kernel
theorem dX2_spellRest_25 : decode cX2_spellRest 25 = .ok (.ifCond .gt 57, 3) := by decide +kernel
theorem dX2_spellRest_28 : decode cX2_spellRest 28 = .ok (.lload_n 1, 1) := by decide +kernel
theorem dX2_spellRest_29 : decode cX2_spellRest 29 = .ok (.lload_n 3, 1) := by decide +kernel
theorem dX2_spellRest_30 : decode cX2_spellRest 30 = .ok (.lrem, 1) := by decide +kernel
theorem dX2_spellRest_31 : decode cX2_spellRest 31 = .ok (.lconst 0, 1) := by decide +kernel
theorem dX2_spellRest_32 : decode cX2_spellRest 32 = .ok (.lcmp, 1) := by decide +kernel
theorem dX2_spellRest_33 : decode cX2_spellRest 33 = .ok (.ifCond .ne 40, 3) := by decide +kernel
theorem dX2_spellRest_36 : decode cX2_spellRest 36 = .ok (.aload_n 0, 1) := by decide +kernel
theorem dX2_spellRest_37 : decode cX2_spellRest 37 = .ok (.lload_n 3, 1) := by decide +kernel
theorem dX2_spellRest_38 : decode cX2_spellRest 38 = .ok (.invokevirtual 113, 3) := by decide +kernel
theorem dX2_spellRest_41 : decode cX2_spellRest 41 = .ok (.iconst 0, 1) := by decide +kernel
theorem dX2_spellRest_42 : decode cX2_spellRest 42 = .ok (.istore 5, 2) := by decide +kernel
theorem dX2_spellRest_44 : decode cX2_spellRest 44 = .ok (.iload 5, 2) := by decide +kernel
theorem dX2_spellRest_46 : decode cX2_spellRest 46 = .ok (.bipush 32, 2) := by decide +kernel
theorem dX2_spellRest_48 : decode cX2_spellRest 48 = .ok (.if_icmp .ge 25, 3) := by decide +kernel
theorem dX2_spellRest_51 : decode cX2_spellRest 51 = .ok (.lload_n 1, 1) := by decide +kernel
theorem dX2_spellRest_52 : decode cX2_spellRest 52 = .ok (.lload_n 3, 1) := by decide +kernel
theorem dX2_spellRest_53 : decode cX2_spellRest 53 = .ok (.lrem, 1) := by decide +kernel
theorem dX2_spellRest_54 : decode cX2_spellRest 54 = .ok (.lconst 0, 1) := by decide +kernel
theorem dX2_spellRest_55 : decode cX2_spellRest 55 = .ok (.lcmp, 1) := by decide +kernel
theorem dX2_spellRest_56 : decode cX2_spellRest 56 = .ok (.ifCond .ne 17, 3) := by decide +kernel
theorem dX2_spellRest_59 : decode cX2_spellRest 59 = .ok (.aload_n 0, 1) := by decide +kernel
theorem dX2_spellRest_60 : decode cX2_spellRest 60 = .ok (.invokevirtual 93, 3) := by decide +kernel
theorem dX2_spellRest_63 : decode cX2_spellRest 63 = .ok (.lload_n 1, 1) := by decide +kernel
theorem dX2_spellRest_64 : decode cX2_spellRest 64 = .ok (.lload_n 3, 1) := by decide +kernel
theorem dX2_spellRest_65 : decode cX2_spellRest 65 = .ok (.ldiv, 1) := by decide +kernel
theorem dX2_spellRest_66 : decode cX2_spellRest 66 = .ok (.lstore_n 1, 1) := by decide +kernel
theorem dX2_spellRest_67 : decode cX2_spellRest 67 = .ok (.iinc 5 1, 3) := by decide +kernel
theorem dX2_spellRest_70 : decode cX2_spellRest 70 = .ok (.goto (-26), 3) := by decide +kernel
theorem dX2_spellRest_73 : decode cX2_spellRest 73 = .ok (.lload_n 3, 1) := by decide +kernel
theorem dX2_spellRest_74 : decode cX2_spellRest 74 = .ok (.ldc2_w 116, 3) := by decide +kernel
theorem dX2_spellRest_77 : decode cX2_spellRest 77 = .ok (.ladd, 1) := by decide +kernel
theorem dX2_spellRest_78 : decode cX2_spellRest 78 = .ok (.lstore_n 3, 1) := by decide +kernel
theorem dX2_spellRest_79 : decode cX2_spellRest 79 = .ok (.goto (-67), 3) := by decide +kernel
theorem dX2_spellRest_82 : decode cX2_spellRest 82 = .ok (.lload_n 1, 1) := by decide +kernel
theorem dX2_spellRest_83 : decode cX2_spellRest 83 = .ok (.lconst 1, 1) := by decide +kernel
theorem dX2_spellRest_84 : decode cX2_spellRest 84 = .ok (.lcmp, 1) := by decide +kernel
theorem dX2_spellRest_85 : decode cX2_spellRest 85 = .ok (.ifCond .le 12, 3) := by decide +kernel
theorem dX2_spellRest_88 : decode cX2_spellRest 88 = .ok (.aload_n 0, 1) := by decide +kernel
theorem dX2_spellRest_89 : decode cX2_spellRest 89 = .ok (.lload_n 1, 1) := by decide +kernel
theorem dX2_spellRest_90 : decode cX2_spellRest 90 = .ok (.invokevirtual 113, 3) := by decide +kernel
theorem dX2_spellRest_93 : decode cX2_spellRest 93 = .ok (.aload_n 0, 1) := by decide +kernel
theorem dX2_spellRest_94 : decode cX2_spellRest 94 = .ok (.invokevirtual 93, 3) := by decide +kernel
theorem dX2_spellRest_97 : decode cX2_spellRest 97 = .ok (.return_, 1) := by decide +kernel
theorem dX2_spellWhole_0 : decode cX2_spellWhole 0 = .ok (.lload_n 1, 1) := by decide +kernel
theorem dX2_spellWhole_1 : decode cX2_spellWhole 1 = .ok (.lstore_n 3, 1) := by decide +kernel
theorem dX2_spellWhole_2 : decode cX2_spellWhole 2 = .ok (.ldc2_w 84, 3) := by decide +kernel
theorem dX2_spellWhole_5 : decode cX2_spellWhole 5 = .ok (.lstore 5, 2) := by decide +kernel
theorem dX2_spellWhole_7 : decode cX2_spellWhole 7 = .ok (.lload 5, 2) := by decide +kernel
theorem dX2_spellWhole_9 : decode cX2_spellWhole 9 = .ok (.ldc2_w 86, 3) := by decide +kernel
theorem dX2_spellWhole_12 : decode cX2_spellWhole 12 = .ok (.lcmp, 1) := by decide +kernel
theorem dX2_spellWhole_13 : decode cX2_spellWhole 13 = .ok (.ifCond .gt 58, 3) := by decide +kernel
theorem dX2_spellWhole_16 : decode cX2_spellWhole 16 = .ok (.lload 5, 2) := by decide +kernel
theorem dX2_spellWhole_18 : decode cX2_spellWhole 18 = .ok (.lload 5, 2) := by decide +kernel
theorem dX2_spellWhole_20 : decode cX2_spellWhole 20 = .ok (.lmul, 1) := by decide +kernel
theorem dX2_spellWhole_21 : decode cX2_spellWhole 21 = .ok (.lload_n 3, 1) := by decide +kernel
theorem dX2_spellWhole_22 : decode cX2_spellWhole 22 = .ok (.lcmp, 1) := by decide +kernel
theorem dX2_spellWhole_23 : decode cX2_spellWhole 23 = .ok (.ifCond .gt 48, 3) := by decide +kernel
theorem dX2_spellWhole_26 : decode cX2_spellWhole 26 = .ok (.iconst 0, 1) := by decide +kernel
theorem dX2_spellWhole_27 : decode cX2_spellWhole 27 = .ok (.istore 7, 2) := by decide +kernel
theorem dX2_spellWhole_29 : decode cX2_spellWhole 29 = .ok (.iload 7, 2) := by decide +kernel
theorem dX2_spellWhole_31 : decode cX2_spellWhole 31 = .ok (.bipush 32, 2) := by decide +kernel
theorem dX2_spellWhole_33 : decode cX2_spellWhole 33 = .ok (.if_icmp .ge 29, 3) := by decide +kernel
theorem dX2_spellWhole_36 : decode cX2_spellWhole 36 = .ok (.lload_n 3, 1) := by decide +kernel
theorem dX2_spellWhole_37 : decode cX2_spellWhole 37 = .ok (.lload 5, 2) := by decide +kernel
theorem dX2_spellWhole_39 : decode cX2_spellWhole 39 = .ok (.lrem, 1) := by decide +kernel
theorem dX2_spellWhole_40 : decode cX2_spellWhole 40 = .ok (.lconst 0, 1) := by decide +kernel
theorem dX2_spellWhole_41 : decode cX2_spellWhole 41 = .ok (.lcmp, 1) := by decide +kernel
theorem dX2_spellWhole_42 : decode cX2_spellWhole 42 = .ok (.ifCond .ne 20, 3) := by decide +kernel
theorem dX2_spellWhole_45 : decode cX2_spellWhole 45 = .ok (.aload_n 0, 1) := by decide +kernel
theorem dX2_spellWhole_46 : decode cX2_spellWhole 46 = .ok (.lload 5, 2) := by decide +kernel
theorem dX2_spellWhole_48 : decode cX2_spellWhole 48 = .ok (.invokevirtual 88, 3) := by decide +kernel
theorem dX2_spellWhole_51 : decode cX2_spellWhole 51 = .ok (.lload_n 3, 1) := by decide +kernel
theorem dX2_spellWhole_52 : decode cX2_spellWhole 52 = .ok (.lload 5, 2) := by decide +kernel
theorem dX2_spellWhole_54 : decode cX2_spellWhole 54 = .ok (.ldiv, 1) := by decide +kernel
theorem dX2_spellWhole_55 : decode cX2_spellWhole 55 = .ok (.lstore_n 3, 1) := by decide +kernel
theorem dX2_spellWhole_56 : decode cX2_spellWhole 56 = .ok (.iinc 7 1, 3) := by decide +kernel
theorem dX2_spellWhole_59 : decode cX2_spellWhole 59 = .ok (.goto (-30), 3) := by decide +kernel
theorem dX2_spellWhole_62 : decode cX2_spellWhole 62 = .ok (.lload 5, 2) := by decide +kernel
theorem dX2_spellWhole_64 : decode cX2_spellWhole 64 = .ok (.lconst 1, 1) := by decide +kernel
theorem dX2_spellWhole_65 : decode cX2_spellWhole 65 = .ok (.ladd, 1) := by decide +kernel
theorem dX2_spellWhole_66 : decode cX2_spellWhole 66 = .ok (.lstore 5, 2) := by decide +kernel
theorem dX2_spellWhole_68 : decode cX2_spellWhole 68 = .ok (.goto (-61), 3) := by decide +kernel
theorem dX2_spellWhole_71 : decode cX2_spellWhole 71 = .ok (.lload_n 3, 1) := by decide +kernel
theorem dX2_spellWhole_72 : decode cX2_spellWhole 72 = .ok (.lconst 1, 1) := by decide +kernel
theorem dX2_spellWhole_73 : decode cX2_spellWhole 73 = .ok (.lcmp, 1) := by decide +kernel
theorem dX2_spellWhole_74 : decode cX2_spellWhole 74 = .ok (.ifCond .le 8, 3) := by decide +kernel
theorem dX2_spellWhole_77 : decode cX2_spellWhole 77 = .ok (.aload_n 0, 1) := by decide +kernel
theorem dX2_spellWhole_78 : decode cX2_spellWhole 78 = .ok (.lload_n 3, 1) := by decide +kernel
theorem dX2_spellWhole_79 : decode cX2_spellWhole 79 = .ok (.invokevirtual 88, 3) := by decide +kernel
theorem dX2_spellWhole_82 : decode cX2_spellWhole 82 = .ok (.return_, 1) := by decide +kernel
theorem dX2_squarefreeSign_0 : decode cX2_squarefreeSign 0 = .ok (.iconst 1, 1) := by decide +kernel
theorem dX2_squarefreeSign_1 : decode cX2_squarefreeSign 1 = .ok (.istore_n 1, 1) := by decide +kernel
theorem dX2_squarefreeSign_2 : decode cX2_squarefreeSign 2 = .ok (.iconst 0, 1) := by decide +kernel
theorem dX2_squarefreeSign_3 : decode cX2_squarefreeSign 3 = .ok (.istore_n 2, 1) := by decide +kernel
theorem dX2_squarefreeSign_4 : decode cX2_squarefreeSign 4 = .ok (.iload_n 2, 1) := by decide +kernel
theorem dX2_squarefreeSign_5 : decode cX2_squarefreeSign 5 = .ok (.aload_n 0, 1) := by decide +kernel
theorem dX2_squarefreeSign_6 : decode cX2_squarefreeSign 6 = .ok (.invokevirtual 148, 3) := by decide +kernel
theorem dX2_squarefreeSign_9 : decode cX2_squarefreeSign 9 = .ok (.if_icmp .ge 24, 3) := by decide +kernel
theorem dX2_squarefreeSign_12 : decode cX2_squarefreeSign 12 = .ok (.aload_n 0, 1) := by decide +kernel
theorem dX2_squarefreeSign_13 : decode cX2_squarefreeSign 13 = .ok (.iload_n 2, 1) := by decide +kernel
theorem dX2_squarefreeSign_14 : decode cX2_squarefreeSign 14 = .ok (.invokevirtual 151, 3) := by decide +kernel
theorem dX2_squarefreeSign_17 : decode cX2_squarefreeSign 17 = .ok (.ifCond .eq 7, 3) := by decide +kernel
theorem dX2_squarefreeSign_20 : decode cX2_squarefreeSign 20 = .ok (.iconst 0, 1) := by decide +kernel
theorem dX2_squarefreeSign_21 : decode cX2_squarefreeSign 21 = .ok (.goto 5, 3) := by decide +kernel
theorem dX2_squarefreeSign_24 : decode cX2_squarefreeSign 24 = .ok (.iload_n 1, 1) := by decide +kernel
theorem dX2_squarefreeSign_25 : decode cX2_squarefreeSign 25 = .ok (.ineg, 1) := by decide +kernel
theorem dX2_squarefreeSign_26 : decode cX2_squarefreeSign 26 = .ok (.istore_n 1, 1) := by decide +kernel
theorem dX2_squarefreeSign_27 : decode cX2_squarefreeSign 27 = .ok (.iinc 2 1, 3) := by decide +kernel
theorem dX2_squarefreeSign_30 : decode cX2_squarefreeSign 30 = .ok (.goto (-26), 3) := by decide +kernel
theorem dX2_squarefreeSign_33 : decode cX2_squarefreeSign 33 = .ok (.iload_n 1, 1) := by decide +kernel
theorem dX2_squarefreeSign_34 : decode cX2_squarefreeSign 34 = .ok (.ireturn, 1) := by decide +kernel
theorem dX2_total_0 : decode cX2_total 0 = .ok (.aload_n 0, 1) := by decide +kernel
theorem dX2_total_1 : decode cX2_total 1 = .ok (.getfield 54, 3) := by decide +kernel
theorem dX2_total_4 : decode cX2_total 4 = .ok (.aload_n 0, 1) := by decide +kernel
theorem dX2_total_5 : decode cX2_total 5 = .ok (.getfield 39, 3) := by decide +kernel
theorem dX2_total_8 : decode cX2_total 8 = .ok (.iadd, 1) := by decide +kernel
theorem dX2_total_9 : decode cX2_total 9 = .ok (.ireturn, 1) := by decide +kernel
theorem dX3_add_0 : decode cX3_add 0 = .ok (.aload_n 0, 1) := by decide +kernel
theorem dX3_add_1 : decode cX3_add 1 = .ok (.getfield 15, 3) := by decide +kernel
theorem dX3_add_4 : decode cX3_add 4 = .ok (.ifCond .lt 32, 3) := by decide +kernel
theorem dX3_add_7 : decode cX3_add 7 = .ok (.aload_n 0, 1) := by decide +kernel
theorem dX3_add_8 : decode cX3_add 8 = .ok (.getfield 15, 3) := by decide +kernel
theorem dX3_add_11 : decode cX3_add 11 = .ok (.bipush 16, 2) := by decide +kernel
theorem dX3_add_13 : decode cX3_add 13 = .ok (.if_icmp .ge 23, 3) := by decide +kernel
theorem dX3_add_16 : decode cX3_add 16 = .ok (.aload_n 0, 1) := by decide +kernel
theorem dX3_add_17 : decode cX3_add 17 = .ok (.getfield 11, 3) := by decide +kernel
theorem dX3_add_20 : decode cX3_add 20 = .ok (.aload_n 0, 1) := by decide +kernel
theorem dX3_add_21 : decode cX3_add 21 = .ok (.getfield 15, 3) := by decide +kernel
theorem dX3_add_24 : decode cX3_add 24 = .ok (.iload_n 1, 1) := by decide +kernel
theorem dX3_add_25 : decode cX3_add 25 = .ok (.iastore, 1) := by decide +kernel
theorem dX3_add_26 : decode cX3_add 26 = .ok (.aload_n 0, 1) := by decide +kernel
theorem dX3_add_27 : decode cX3_add 27 = .ok (.dup, 1) := by decide +kernel
theorem dX3_add_28 : decode cX3_add 28 = .ok (.getfield 15, 3) := by decide +kernel
theorem dX3_add_31 : decode cX3_add 31 = .ok (.iconst 1, 1) := by decide +kernel
theorem dX3_add_32 : decode cX3_add 32 = .ok (.iadd, 1) := by decide +kernel
theorem dX3_add_33 : decode cX3_add 33 = .ok (.putfield 15, 3) := by decide +kernel
theorem dX3_add_36 : decode cX3_add 36 = .ok (.return_, 1) := by decide +kernel
theorem dX3_addNumber_0 : decode cX3_addNumber 0 = .ok (.iload_n 1, 1) := by decide +kernel
theorem dX3_addNumber_1 : decode cX3_addNumber 1 = .ok (.ifCond .ge 9, 3) := by decide +kernel
theorem dX3_addNumber_4 : decode cX3_addNumber 4 = .ok (.aload_n 0, 1) := by decide +kernel
theorem dX3_addNumber_5 : decode cX3_addNumber 5 = .ok (.bipush 45, 2) := by decide +kernel
theorem dX3_addNumber_7 : decode cX3_addNumber 7 = .ok (.invokevirtual 23, 3) := by decide +kernel
theorem dX3_addNumber_10 : decode cX3_addNumber 10 = .ok (.iload_n 1, 1) := by decide +kernel
theorem dX3_addNumber_11 : decode cX3_addNumber 11 = .ok (.invokestatic 26, 3) := by decide +kernel
theorem dX3_addNumber_14 : decode cX3_addNumber 14 = .ok (.istore_n 2, 1) := by decide +kernel
theorem dX3_addNumber_15 : decode cX3_addNumber 15 = .ok (.iconst 0, 1) := by decide +kernel
theorem dX3_addNumber_16 : decode cX3_addNumber 16 = .ok (.istore_n 3, 1) := by decide +kernel
theorem dX3_addNumber_17 : decode cX3_addNumber 17 = .ok (.sipush 1000, 3) := by decide +kernel
theorem dX3_addNumber_20 : decode cX3_addNumber 20 = .ok (.istore 4, 2) := by decide +kernel
theorem dX3_addNumber_22 : decode cX3_addNumber 22 = .ok (.iload 4, 2) := by decide +kernel
theorem dX3_addNumber_24 : decode cX3_addNumber 24 = .ok (.iconst 1, 1) := by decide +kernel
theorem dX3_addNumber_25 : decode cX3_addNumber 25 = .ok (.if_icmp .lt 56, 3) := by decide +kernel
theorem dX3_addNumber_28 : decode cX3_addNumber 28 = .ok (.iload_n 2, 1) := by decide +kernel
theorem dX3_addNumber_29 : decode cX3_addNumber 29 = .ok (.iload 4, 2) := by decide +kernel
theorem dX3_addNumber_31 : decode cX3_addNumber 31 = .ok (.idiv, 1) := by decide +kernel
theorem dX3_addNumber_32 : decode cX3_addNumber 32 = .ok (.bipush 10, 2) := by decide +kernel
theorem dX3_addNumber_34 : decode cX3_addNumber 34 = .ok (.irem, 1) := by decide +kernel
theorem dX3_addNumber_35 : decode cX3_addNumber 35 = .ok (.istore 5, 2) := by decide +kernel
theorem dX3_addNumber_37 : decode cX3_addNumber 37 = .ok (.iload_n 3, 1) := by decide +kernel
theorem dX3_addNumber_38 : decode cX3_addNumber 38 = .ok (.ifCond .ne 14, 3) := by decide +kernel
theorem dX3_addNumber_41 : decode cX3_addNumber 41 = .ok (.iload 5, 2) := by decide +kernel
theorem dX3_addNumber_43 : decode cX3_addNumber 43 = .ok (.ifCond .ne 9, 3) := by decide +kernel
theorem dX3_addNumber_46 : decode cX3_addNumber 46 = .ok (.iload 4, 2) := by decide +kernel
theorem dX3_addNumber_48 : decode cX3_addNumber 48 = .ok (.iconst 1, 1) := by decide +kernel
theorem dX3_addNumber_49 : decode cX3_addNumber 49 = .ok (.if_icmp .ne 7, 3) := by decide +kernel
theorem dX3_addNumber_52 : decode cX3_addNumber 52 = .ok (.iconst 1, 1) := by decide +kernel
theorem dX3_addNumber_53 : decode cX3_addNumber 53 = .ok (.goto 4, 3) := by decide +kernel
theorem dX3_addNumber_56 : decode cX3_addNumber 56 = .ok (.iconst 0, 1) := by decide +kernel
theorem dX3_addNumber_57 : decode cX3_addNumber 57 = .ok (.istore_n 3, 1) := by decide +kernel
theorem dX3_addNumber_58 : decode cX3_addNumber 58 = .ok (.iload_n 3, 1) := by decide +kernel
theorem dX3_addNumber_59 : decode cX3_addNumber 59 = .ok (.ifCond .eq 12, 3) := by decide +kernel
theorem dX3_addNumber_62 : decode cX3_addNumber 62 = .ok (.aload_n 0, 1) := by decide +kernel
theorem dX3_addNumber_63 : decode cX3_addNumber 63 = .ok (.bipush 48, 2) := by decide +kernel
theorem dX3_addNumber_65 : decode cX3_addNumber 65 = .ok (.iload 5, 2) := by decide +kernel
theorem dX3_addNumber_67 : decode cX3_addNumber 67 = .ok (.iadd, 1) := by decide +kernel
theorem dX3_addNumber_68 : decode cX3_addNumber 68 = .ok (.invokevirtual 23, 3) := by decide +kernel
theorem dX3_addNumber_71 : decode cX3_addNumber 71 = .ok (.iload 4, 2) := by decide +kernel
theorem dX3_addNumber_73 : decode cX3_addNumber 73 = .ok (.bipush 10, 2) := by decide +kernel
theorem dX3_addNumber_75 : decode cX3_addNumber 75 = .ok (.idiv, 1) := by decide +kernel
theorem dX3_addNumber_76 : decode cX3_addNumber 76 = .ok (.istore 4, 2) := by decide +kernel
theorem dX3_addNumber_78 : decode cX3_addNumber 78 = .ok (.goto (-56), 3) := by decide +kernel
theorem dX3_addNumber_81 : decode cX3_addNumber 81 = .ok (.return_, 1) := by decide +kernel
theorem dX3_at_0 : decode cX3_at 0 = .ok (.iload_n 1, 1) := by decide +kernel
theorem dX3_at_1 : decode cX3_at 1 = .ok (.ifCond .lt 26, 3) := by decide +kernel
theorem dX3_at_4 : decode cX3_at 4 = .ok (.iload_n 1, 1) := by decide +kernel
theorem dX3_at_5 : decode cX3_at 5 = .ok (.aload_n 0, 1) := by decide +kernel
theorem dX3_at_6 : decode cX3_at 6 = .ok (.getfield 15, 3) := by decide +kernel
theorem dX3_at_9 : decode cX3_at 9 = .ok (.if_icmp .ge 18, 3) := by decide +kernel
theorem dX3_at_12 : decode cX3_at 12 = .ok (.iload_n 1, 1) := by decide +kernel
theorem dX3_at_13 : decode cX3_at 13 = .ok (.bipush 16, 2) := by decide +kernel
theorem dX3_at_15 : decode cX3_at 15 = .ok (.if_icmp .ge 12, 3) := by decide +kernel
theorem dX3_at_18 : decode cX3_at 18 = .ok (.aload_n 0, 1) := by decide +kernel
theorem dX3_at_19 : decode cX3_at 19 = .ok (.getfield 11, 3) := by decide +kernel
theorem dX3_at_22 : decode cX3_at 22 = .ok (.iload_n 1, 1) := by decide +kernel
theorem dX3_at_23 : decode cX3_at 23 = .ok (.iaload, 1) := by decide +kernel
theorem dX3_at_24 : decode cX3_at 24 = .ok (.goto 4, 3) := by decide +kernel
theorem dX3_at_27 : decode cX3_at 27 = .ok (.iconst (-1), 1) := by decide +kernel
theorem dX3_at_28 : decode cX3_at 28 = .ok (.ireturn, 1) := by decide +kernel
theorem dX3_spellOut_0 : decode cX3_spellOut 0 = .ok (.aload_n 0, 1) := by decide +kernel
theorem dX3_spellOut_1 : decode cX3_spellOut 1 = .ok (.iconst 0, 1) := by decide +kernel
theorem dX3_spellOut_2 : decode cX3_spellOut 2 = .ok (.putfield 15, 3) := by decide +kernel
theorem dX3_spellOut_5 : decode cX3_spellOut 5 = .ok (.iload_n 1, 1) := by decide +kernel
theorem dX3_spellOut_6 : decode cX3_spellOut 6 = .ok (.ifCond .ne 7, 3) := by decide +kernel
theorem dX3_spellOut_9 : decode cX3_spellOut 9 = .ok (.iload_n 2, 1) := by decide +kernel
theorem dX3_spellOut_10 : decode cX3_spellOut 10 = .ok (.ifCond .ne 8, 3) := by decide +kernel
theorem dX3_spellOut_13 : decode cX3_spellOut 13 = .ok (.aload_n 0, 1) := by decide +kernel
theorem dX3_spellOut_14 : decode cX3_spellOut 14 = .ok (.iload_n 1, 1) := by decide +kernel
theorem dX3_spellOut_15 : decode cX3_spellOut 15 = .ok (.invokevirtual 19, 3) := by decide +kernel
theorem dX3_spellOut_18 : decode cX3_spellOut 18 = .ok (.iload_n 2, 1) := by decide +kernel
theorem dX3_spellOut_19 : decode cX3_spellOut 19 = .ok (.ifCond .ne 4, 3) := by decide +kernel
theorem dX3_spellOut_22 : decode cX3_spellOut 22 = .ok (.return_, 1) := by decide +kernel
theorem dX3_spellOut_23 : decode cX3_spellOut 23 = .ok (.iload_n 2, 1) := by decide +kernel
theorem dX3_spellOut_24 : decode cX3_spellOut 24 = .ok (.ifCond .le 13, 3) := by decide +kernel
theorem dX3_spellOut_27 : decode cX3_spellOut 27 = .ok (.iload_n 1, 1) := by decide +kernel
theorem dX3_spellOut_28 : decode cX3_spellOut 28 = .ok (.ifCond .eq 9, 3) := by decide +kernel
theorem dX3_spellOut_31 : decode cX3_spellOut 31 = .ok (.aload_n 0, 1) := by decide +kernel
theorem dX3_spellOut_32 : decode cX3_spellOut 32 = .ok (.bipush 43, 2) := by decide +kernel
theorem dX3_spellOut_34 : decode cX3_spellOut 34 = .ok (.invokevirtual 23, 3) := by decide +kernel
theorem dX3_spellOut_37 : decode cX3_spellOut 37 = .ok (.iload_n 2, 1) := by decide +kernel
theorem dX3_spellOut_38 : decode cX3_spellOut 38 = .ok (.iconst (-1), 1) := by decide +kernel
theorem dX3_spellOut_39 : decode cX3_spellOut 39 = .ok (.if_icmp .ne 12, 3) := by decide +kernel
theorem dX3_spellOut_42 : decode cX3_spellOut 42 = .ok (.aload_n 0, 1) := by decide +kernel
theorem dX3_spellOut_43 : decode cX3_spellOut 43 = .ok (.bipush 45, 2) := by decide +kernel
theorem dX3_spellOut_45 : decode cX3_spellOut 45 = .ok (.invokevirtual 23, 3) := by decide +kernel
theorem dX3_spellOut_48 : decode cX3_spellOut 48 = .ok (.goto 13, 3) := by decide +kernel
theorem dX3_spellOut_51 : decode cX3_spellOut 51 = .ok (.iload_n 2, 1) := by decide +kernel
theorem dX3_spellOut_52 : decode cX3_spellOut 52 = .ok (.iconst 1, 1) := by decide +kernel
theorem dX3_spellOut_53 : decode cX3_spellOut 53 = .ok (.if_icmp .eq 8, 3) := by decide +kernel
theorem dX3_spellOut_56 : decode cX3_spellOut 56 = .ok (.aload_n 0, 1) := by decide +kernel
theorem dX3_spellOut_57 : decode cX3_spellOut 57 = .ok (.iload_n 2, 1) := by decide +kernel
theorem dX3_spellOut_58 : decode cX3_spellOut 58 = .ok (.invokevirtual 19, 3) := by decide +kernel
theorem dX3_spellOut_61 : decode cX3_spellOut 61 = .ok (.aload_n 0, 1) := by decide +kernel
theorem dX3_spellOut_62 : decode cX3_spellOut 62 = .ok (.bipush 119, 2) := by decide +kernel
theorem dX3_spellOut_64 : decode cX3_spellOut 64 = .ok (.invokevirtual 23, 3) := by decide +kernel
theorem dX3_spellOut_67 : decode cX3_spellOut 67 = .ok (.return_, 1) := by decide +kernel
theorem dX4_open_0 : decode cX4_open 0 = .ok (.aload_n 1, 1) := by decide +kernel
theorem dX4_open_1 : decode cX4_open 1 = .ok (.getfield 23, 3) := by decide +kernel
theorem dX4_open_4 : decode cX4_open 4 = .ok (.aload_n 1, 1) := by decide +kernel
theorem dX4_open_5 : decode cX4_open 5 = .ok (.getfield 26, 3) := by decide +kernel
theorem dX4_open_8 : decode cX4_open 8 = .ok (.invokestatic 29, 3) := by decide +kernel
theorem dX4_open_11 : decode cX4_open 11 = .ok (.lstore_n 2, 1) := by decide +kernel
theorem dX4_open_12 : decode cX4_open 12 = .ok (.lload_n 2, 1) := by decide +kernel
theorem dX4_open_13 : decode cX4_open 13 = .ok (.lconst 1, 1) := by decide +kernel
theorem dX4_open_14 : decode cX4_open 14 = .ok (.lcmp, 1) := by decide +kernel
theorem dX4_open_15 : decode cX4_open 15 = .ok (.ifCond .ge 5, 3) := by decide +kernel
theorem dX4_open_18 : decode cX4_open 18 = .ok (.iconst 0, 1) := by decide +kernel
theorem dX4_open_19 : decode cX4_open 19 = .ok (.ireturn, 1) := by decide +kernel
theorem dX4_open_20 : decode cX4_open 20 = .ok (.aload_n 1, 1) := by decide +kernel
theorem dX4_open_21 : decode cX4_open 21 = .ok (.getfield 23, 3) := by decide +kernel
theorem dX4_open_24 : decode cX4_open 24 = .ok (.lload_n 2, 1) := by decide +kernel
theorem dX4_open_25 : decode cX4_open 25 = .ok (.ldiv, 1) := by decide +kernel
theorem dX4_open_26 : decode cX4_open 26 = .ok (.lstore 4, 2) := by decide +kernel
theorem dX4_open_28 : decode cX4_open 28 = .ok (.aload_n 1, 1) := by decide +kernel
theorem dX4_open_29 : decode cX4_open 29 = .ok (.getfield 26, 3) := by decide +kernel
theorem dX4_open_32 : decode cX4_open 32 = .ok (.lload_n 2, 1) := by decide +kernel
theorem dX4_open_33 : decode cX4_open 33 = .ok (.ldiv, 1) := by decide +kernel
theorem dX4_open_34 : decode cX4_open 34 = .ok (.lstore 6, 2) := by decide +kernel
theorem dX4_open_36 : decode cX4_open 36 = .ok (.lload 4, 2) := by decide +kernel
theorem dX4_open_38 : decode cX4_open 38 = .ok (.lload 4, 2) := by decide +kernel
theorem dX4_open_40 : decode cX4_open 40 = .ok (.lmul, 1) := by decide +kernel
theorem dX4_open_41 : decode cX4_open 41 = .ok (.lload 4, 2) := by decide +kernel
theorem dX4_open_43 : decode cX4_open 43 = .ok (.lload 6, 2) := by decide +kernel
theorem dX4_open_45 : decode cX4_open 45 = .ok (.lmul, 1) := by decide +kernel
theorem dX4_open_46 : decode cX4_open 46 = .ok (.lsub, 1) := by decide +kernel
theorem dX4_open_47 : decode cX4_open 47 = .ok (.lload 6, 2) := by decide +kernel
theorem dX4_open_49 : decode cX4_open 49 = .ok (.lload 6, 2) := by decide +kernel
theorem dX4_open_51 : decode cX4_open 51 = .ok (.lmul, 1) := by decide +kernel
theorem dX4_open_52 : decode cX4_open 52 = .ok (.ladd, 1) := by decide +kernel
theorem dX4_open_53 : decode cX4_open 53 = .ok (.lstore 8, 2) := by decide +kernel
theorem dX4_open_55 : decode cX4_open 55 = .ok (.lload 8, 2) := by decide +kernel
theorem dX4_open_57 : decode cX4_open 57 = .ok (.lconst 1, 1) := by decide +kernel
theorem dX4_open_58 : decode cX4_open 58 = .ok (.lcmp, 1) := by decide +kernel
theorem dX4_open_59 : decode cX4_open 59 = .ok (.ifCond .ge 5, 3) := by decide +kernel
theorem dX4_open_62 : decode cX4_open 62 = .ok (.iconst 0, 1) := by decide +kernel
theorem dX4_open_63 : decode cX4_open 63 = .ok (.ireturn, 1) := by decide +kernel
theorem dX4_open_64 : decode cX4_open 64 = .ok (.aload_n 0, 1) := by decide +kernel
theorem dX4_open_65 : decode cX4_open 65 = .ok (.lload_n 2, 1) := by decide +kernel
theorem dX4_open_66 : decode cX4_open 66 = .ok (.putfield 7, 3) := by decide +kernel
theorem dX4_open_69 : decode cX4_open 69 = .ok (.aload_n 0, 1) := by decide +kernel
theorem dX4_open_70 : decode cX4_open 70 = .ok (.lload_n 2, 1) := by decide +kernel
theorem dX4_open_71 : decode cX4_open 71 = .ok (.lload 8, 2) := by decide +kernel
theorem dX4_open_73 : decode cX4_open 73 = .ok (.lmul, 1) := by decide +kernel
theorem dX4_open_74 : decode cX4_open 74 = .ok (.putfield 13, 3) := by decide +kernel
theorem dX4_open_77 : decode cX4_open 77 = .ok (.aload_n 0, 1) := by decide +kernel
theorem dX4_open_78 : decode cX4_open 78 = .ok (.lload_n 2, 1) := by decide +kernel
theorem dX4_open_79 : decode cX4_open 79 = .ok (.lload 4, 2) := by decide +kernel
theorem dX4_open_81 : decode cX4_open 81 = .ok (.lload 6, 2) := by decide +kernel
theorem dX4_open_83 : decode cX4_open 83 = .ok (.lload 8, 2) := by decide +kernel
theorem dX4_open_85 : decode cX4_open 85 = .ok (.invokestatic 35, 3) := by decide +kernel
theorem dX4_open_88 : decode cX4_open 88 = .ok (.lmul, 1) := by decide +kernel
theorem dX4_open_89 : decode cX4_open 89 = .ok (.lload 8, 2) := by decide +kernel
theorem dX4_open_91 : decode cX4_open 91 = .ok (.invokestatic 38, 3) := by decide +kernel
theorem dX4_open_94 : decode cX4_open 94 = .ok (.lmul, 1) := by decide +kernel
theorem dX4_open_95 : decode cX4_open 95 = .ok (.putfield 43, 3) := by decide +kernel
theorem dX4_open_98 : decode cX4_open 98 = .ok (.iconst 1, 1) := by decide +kernel
theorem dX4_open_99 : decode cX4_open 99 = .ok (.ireturn, 1) := by decide +kernel
theorem dX4_openFew_0 : decode cX4_openFew 0 = .ok (.aload_n 1, 1) := by decide +kernel
theorem dX4_openFew_1 : decode cX4_openFew 1 = .ok (.invokevirtual 46, 3) := by decide +kernel
theorem dX4_openFew_4 : decode cX4_openFew 4 = .ok (.iload_n 2, 1) := by decide +kernel
theorem dX4_openFew_5 : decode cX4_openFew 5 = .ok (.i2l, 1) := by decide +kernel
theorem dX4_openFew_6 : decode cX4_openFew 6 = .ok (.lcmp, 1) := by decide +kernel
theorem dX4_openFew_7 : decode cX4_openFew 7 = .ok (.ifCond .gt 15, 3) := by decide +kernel
theorem dX4_openFew_10 : decode cX4_openFew 10 = .ok (.aload_n 0, 1) := by decide +kernel
theorem dX4_openFew_11 : decode cX4_openFew 11 = .ok (.aload_n 1, 1) := by decide +kernel
theorem dX4_openFew_12 : decode cX4_openFew 12 = .ok (.invokevirtual 50, 3) := by decide +kernel
theorem dX4_openFew_15 : decode cX4_openFew 15 = .ok (.ifCond .eq 7, 3) := by decide +kernel
theorem dX4_openFew_18 : decode cX4_openFew 18 = .ok (.iconst 1, 1) := by decide +kernel
theorem dX4_openFew_19 : decode cX4_openFew 19 = .ok (.goto 4, 3) := by decide +kernel
theorem dX4_openFew_22 : decode cX4_openFew 22 = .ok (.iconst 0, 1) := by decide +kernel
theorem dX4_openFew_23 : decode cX4_openFew 23 = .ok (.ireturn, 1) := by decide +kernel
theorem dX4_place_0 : decode cX4_place 0 = .ok (.aload_n 1, 1) := by decide +kernel
theorem dX4_place_1 : decode cX4_place 1 = .ok (.getfield 26, 3) := by decide +kernel
theorem dX4_place_4 : decode cX4_place 4 = .ok (.aload_n 0, 1) := by decide +kernel
theorem dX4_place_5 : decode cX4_place 5 = .ok (.getfield 13, 3) := by decide +kernel
theorem dX4_place_8 : decode cX4_place 8 = .ok (.lmul, 1) := by decide +kernel
theorem dX4_place_9 : decode cX4_place 9 = .ok (.aload_n 1, 1) := by decide +kernel
theorem dX4_place_10 : decode cX4_place 10 = .ok (.getfield 23, 3) := by decide +kernel
theorem dX4_place_13 : decode cX4_place 13 = .ok (.ladd, 1) := by decide +kernel
theorem dX4_place_14 : decode cX4_place 14 = .ok (.l2i, 1) := by decide +kernel
theorem dX4_place_15 : decode cX4_place 15 = .ok (.ireturn, 1) := by decide +kernel
theorem dX4_raise_0 : decode cX4_raise 0 = .ok (.lload_n 2, 1) := by decide +kernel
theorem dX4_raise_1 : decode cX4_raise 1 = .ok (.lstore 5, 2) := by decide +kernel
theorem dX4_raise_3 : decode cX4_raise 3 = .ok (.aload_n 0, 1) := by decide +kernel
theorem dX4_raise_4 : decode cX4_raise 4 = .ok (.getfield 19, 3) := by decide +kernel
theorem dX4_raise_7 : decode cX4_raise 7 = .ok (.aload_n 1, 1) := by decide +kernel
theorem dX4_raise_8 : decode cX4_raise 8 = .ok (.invokevirtual 57, 3) := by decide +kernel
theorem dX4_raise_11 : decode cX4_raise 11 = .ok (.aload_n 0, 1) := by decide +kernel
theorem dX4_raise_12 : decode cX4_raise 12 = .ok (.aload_n 0, 1) := by decide +kernel
theorem dX4_raise_13 : decode cX4_raise 13 = .ok (.getfield 19, 3) := by decide +kernel
theorem dX4_raise_16 : decode cX4_raise 16 = .ok (.invokevirtual 61, 3) := by decide +kernel
theorem dX4_raise_19 : decode cX4_raise 19 = .ok (.aload 4, 2) := by decide +kernel
theorem dX4_raise_21 : decode cX4_raise 21 = .ok (.lconst 1, 1) := by decide +kernel
theorem dX4_raise_22 : decode cX4_raise 22 = .ok (.lconst 0, 1) := by decide +kernel
theorem dX4_raise_23 : decode cX4_raise 23 = .ok (.invokevirtual 64, 3) := by decide +kernel
theorem dX4_raise_26 : decode cX4_raise 26 = .ok (.aload_n 0, 1) := by decide +kernel
theorem dX4_raise_27 : decode cX4_raise 27 = .ok (.aload 4, 2) := by decide +kernel
theorem dX4_raise_29 : decode cX4_raise 29 = .ok (.invokevirtual 61, 3) := by decide +kernel
theorem dX4_raise_32 : decode cX4_raise 32 = .ok (.iconst 0, 1) := by decide +kernel
theorem dX4_raise_33 : decode cX4_raise 33 = .ok (.istore 7, 2) := by decide +kernel
theorem dX4_raise_35 : decode cX4_raise 35 = .ok (.iload 7, 2) := by decide +kernel
theorem dX4_raise_37 : decode cX4_raise 37 = .ok (.bipush 63, 2) := by decide +kernel
theorem dX4_raise_39 : decode cX4_raise 39 = .ok (.if_icmp .ge 65, 3) := by decide +kernel
theorem dX4_raise_42 : decode cX4_raise 42 = .ok (.lload 5, 2) := by decide +kernel
theorem dX4_raise_44 : decode cX4_raise 44 = .ok (.lconst 0, 1) := by decide +kernel
theorem dX4_raise_45 : decode cX4_raise 45 = .ok (.lcmp, 1) := by decide +kernel
theorem dX4_raise_46 : decode cX4_raise 46 = .ok (.ifCond .le 58, 3) := by decide +kernel
theorem dX4_raise_49 : decode cX4_raise 49 = .ok (.lload 5, 2) := by decide +kernel
theorem dX4_raise_51 : decode cX4_raise 51 = .ok (.lconst 1, 1) := by decide +kernel
theorem dX4_raise_52 : decode cX4_raise 52 = .ok (.land, 1) := by decide +kernel
theorem dX4_raise_53 : decode cX4_raise 53 = .ok (.lconst 1, 1) := by decide +kernel
theorem dX4_raise_54 : decode cX4_raise 54 = .ok (.lcmp, 1) := by decide +kernel
theorem dX4_raise_55 : decode cX4_raise 55 = .ok (.ifCond .ne 18, 3) := by decide +kernel
theorem dX4_raise_58 : decode cX4_raise 58 = .ok (.aload 4, 2) := by decide +kernel
theorem dX4_raise_60 : decode cX4_raise 60 = .ok (.aload_n 0, 1) := by decide +kernel
theorem dX4_raise_61 : decode cX4_raise 61 = .ok (.getfield 19, 3) := by decide +kernel
theorem dX4_raise_64 : decode cX4_raise 64 = .ok (.invokevirtual 68, 3) := by decide +kernel
theorem dX4_raise_67 : decode cX4_raise 67 = .ok (.aload_n 0, 1) := by decide +kernel
theorem dX4_raise_68 : decode cX4_raise 68 = .ok (.aload 4, 2) := by decide +kernel
theorem dX4_raise_70 : decode cX4_raise 70 = .ok (.invokevirtual 61, 3) := by decide +kernel
theorem dX4_raise_73 : decode cX4_raise 73 = .ok (.aload_n 0, 1) := by decide +kernel
theorem dX4_raise_74 : decode cX4_raise 74 = .ok (.getfield 19, 3) := by decide +kernel
theorem dX4_raise_77 : decode cX4_raise 77 = .ok (.aload_n 0, 1) := by decide +kernel
theorem dX4_raise_78 : decode cX4_raise 78 = .ok (.getfield 19, 3) := by decide +kernel
theorem dX4_raise_81 : decode cX4_raise 81 = .ok (.invokevirtual 68, 3) := by decide +kernel
theorem dX4_raise_84 : decode cX4_raise 84 = .ok (.aload_n 0, 1) := by decide +kernel
theorem dX4_raise_85 : decode cX4_raise 85 = .ok (.aload_n 0, 1) := by decide +kernel
theorem dX4_raise_86 : decode cX4_raise 86 = .ok (.getfield 19, 3) := by decide +kernel
theorem dX4_raise_89 : decode cX4_raise 89 = .ok (.invokevirtual 61, 3) := by decide +kernel
theorem dX4_raise_92 : decode cX4_raise 92 = .ok (.lload 5, 2) := by decide +kernel
theorem dX4_raise_94 : decode cX4_raise 94 = .ok (.iconst 1, 1) := by decide +kernel
theorem dX4_raise_95 : decode cX4_raise 95 = .ok (.lshr, 1) := by decide +kernel
theorem dX4_raise_96 : decode cX4_raise 96 = .ok (.lstore 5, 2) := by decide +kernel
theorem dX4_raise_98 : decode cX4_raise 98 = .ok (.iinc 7 1, 3) := by decide +kernel
theorem dX4_raise_101 : decode cX4_raise 101 = .ok (.goto (-66), 3) := by decide +kernel
theorem dX4_raise_104 : decode cX4_raise 104 = .ok (.return_, 1) := by decide +kernel
theorem dX4_reduce_0 : decode cX4_reduce 0 = .ok (.aload_n 0, 1) := by decide +kernel
theorem dX4_reduce_1 : decode cX4_reduce 1 = .ok (.getfield 7, 3) := by decide +kernel
theorem dX4_reduce_4 : decode cX4_reduce 4 = .ok (.lconst 1, 1) := by decide +kernel
theorem dX4_reduce_5 : decode cX4_reduce 5 = .ok (.lcmp, 1) := by decide +kernel
theorem dX4_reduce_6 : decode cX4_reduce 6 = .ok (.ifCond .lt 12, 3) := by decide +kernel
theorem dX4_reduce_9 : decode cX4_reduce 9 = .ok (.aload_n 0, 1) := by decide +kernel
theorem dX4_reduce_10 : decode cX4_reduce 10 = .ok (.getfield 13, 3) := by decide +kernel
theorem dX4_reduce_13 : decode cX4_reduce 13 = .ok (.lconst 1, 1) := by decide +kernel
theorem dX4_reduce_14 : decode cX4_reduce 14 = .ok (.lcmp, 1) := by decide +kernel
theorem dX4_reduce_15 : decode cX4_reduce 15 = .ok (.ifCond .ge 4, 3) := by decide +kernel
theorem dX4_reduce_18 : decode cX4_reduce 18 = .ok (.return_, 1) := by decide +kernel
theorem dX4_reduce_19 : decode cX4_reduce 19 = .ok (.aload_n 1, 1) := by decide +kernel
theorem dX4_reduce_20 : decode cX4_reduce 20 = .ok (.getfield 26, 3) := by decide +kernel
theorem dX4_reduce_23 : decode cX4_reduce 23 = .ok (.aload_n 0, 1) := by decide +kernel
theorem dX4_reduce_24 : decode cX4_reduce 24 = .ok (.getfield 7, 3) := by decide +kernel
theorem dX4_reduce_27 : decode cX4_reduce 27 = .ok (.invokestatic 54, 3) := by decide +kernel
theorem dX4_reduce_30 : decode cX4_reduce 30 = .ok (.lstore_n 2, 1) := by decide +kernel
theorem dX4_reduce_31 : decode cX4_reduce 31 = .ok (.aload_n 1, 1) := by decide +kernel
theorem dX4_reduce_32 : decode cX4_reduce 32 = .ok (.aload_n 1, 1) := by decide +kernel
theorem dX4_reduce_33 : decode cX4_reduce 33 = .ok (.getfield 23, 3) := by decide +kernel
theorem dX4_reduce_36 : decode cX4_reduce 36 = .ok (.lload_n 2, 1) := by decide +kernel
theorem dX4_reduce_37 : decode cX4_reduce 37 = .ok (.aload_n 0, 1) := by decide +kernel
theorem dX4_reduce_38 : decode cX4_reduce 38 = .ok (.getfield 43, 3) := by decide +kernel
theorem dX4_reduce_41 : decode cX4_reduce 41 = .ok (.lmul, 1) := by decide +kernel
theorem dX4_reduce_42 : decode cX4_reduce 42 = .ok (.lsub, 1) := by decide +kernel
theorem dX4_reduce_43 : decode cX4_reduce 43 = .ok (.aload_n 0, 1) := by decide +kernel
theorem dX4_reduce_44 : decode cX4_reduce 44 = .ok (.getfield 13, 3) := by decide +kernel
theorem dX4_reduce_47 : decode cX4_reduce 47 = .ok (.invokestatic 38, 3) := by decide +kernel
theorem dX4_reduce_50 : decode cX4_reduce 50 = .ok (.putfield 23, 3) := by decide +kernel
theorem dX4_reduce_53 : decode cX4_reduce 53 = .ok (.aload_n 1, 1) := by decide +kernel
theorem dX4_reduce_54 : decode cX4_reduce 54 = .ok (.aload_n 1, 1) := by decide +kernel
theorem dX4_reduce_55 : decode cX4_reduce 55 = .ok (.getfield 26, 3) := by decide +kernel
theorem dX4_reduce_58 : decode cX4_reduce 58 = .ok (.lload_n 2, 1) := by decide +kernel
theorem dX4_reduce_59 : decode cX4_reduce 59 = .ok (.aload_n 0, 1) := by decide +kernel
theorem dX4_reduce_60 : decode cX4_reduce 60 = .ok (.getfield 7, 3) := by decide +kernel
theorem dX4_reduce_63 : decode cX4_reduce 63 = .ok (.lmul, 1) := by decide +kernel
theorem dX4_reduce_64 : decode cX4_reduce 64 = .ok (.lsub, 1) := by decide +kernel
theorem dX4_reduce_65 : decode cX4_reduce 65 = .ok (.putfield 26, 3) := by decide +kernel
theorem dX4_reduce_68 : decode cX4_reduce 68 = .ok (.return_, 1) := by decide +kernel
theorem dX4_size_0 : decode cX4_size 0 = .ok (.aload_n 0, 1) := by decide +kernel
theorem dX4_size_1 : decode cX4_size 1 = .ok (.getfield 7, 3) := by decide +kernel
theorem dX4_size_4 : decode cX4_size 4 = .ok (.aload_n 0, 1) := by decide +kernel
theorem dX4_size_5 : decode cX4_size 5 = .ok (.getfield 13, 3) := by decide +kernel
theorem dX4_size_8 : decode cX4_size 8 = .ok (.lmul, 1) := by decide +kernel
theorem dX4_size_9 : decode cX4_size 9 = .ok (.l2i, 1) := by decide +kernel
theorem dX4_size_10 : decode cX4_size 10 = .ok (.ireturn, 1) := by decide +kernel
theorem dX5_add_0 : decode cX5_add 0 = .ok (.aload_n 0, 1) := by decide +kernel
theorem dX5_add_1 : decode cX5_add 1 = .ok (.dup, 1) := by decide +kernel
theorem dX5_add_2 : decode cX5_add 2 = .ok (.getfield 9, 3) := by decide +kernel
theorem dX5_add_5 : decode cX5_add 5 = .ok (.aload_n 1, 1) := by decide +kernel
theorem dX5_add_6 : decode cX5_add 6 = .ok (.getfield 9, 3) := by decide +kernel
theorem dX5_add_9 : decode cX5_add 9 = .ok (.ladd, 1) := by decide +kernel
theorem dX5_add_10 : decode cX5_add 10 = .ok (.putfield 9, 3) := by decide +kernel
theorem dX5_add_13 : decode cX5_add 13 = .ok (.aload_n 0, 1) := by decide +kernel
theorem dX5_add_14 : decode cX5_add 14 = .ok (.dup, 1) := by decide +kernel
theorem dX5_add_15 : decode cX5_add 15 = .ok (.getfield 15, 3) := by decide +kernel
theorem dX5_add_18 : decode cX5_add 18 = .ok (.aload_n 1, 1) := by decide +kernel
theorem dX5_add_19 : decode cX5_add 19 = .ok (.getfield 15, 3) := by decide +kernel
theorem dX5_add_22 : decode cX5_add 22 = .ok (.ladd, 1) := by decide +kernel
theorem dX5_add_23 : decode cX5_add 23 = .ok (.putfield 15, 3) := by decide +kernel
theorem dX5_add_26 : decode cX5_add 26 = .ok (.return_, 1) := by decide +kernel
theorem dX5_becomeQuotient_0 : decode cX5_becomeQuotient 0 = .ok (.aload_n 2, 1) := by decide +kernel
theorem dX5_becomeQuotient_1 : decode cX5_becomeQuotient 1 = .ok (.invokevirtual 22, 3) := by decide +kernel
theorem dX5_becomeQuotient_4 : decode cX5_becomeQuotient 4 = .ok (.lstore_n 3, 1) := by decide +kernel
theorem dX5_becomeQuotient_5 : decode cX5_becomeQuotient 5 = .ok (.lload_n 3, 1) := by decide +kernel
theorem dX5_becomeQuotient_6 : decode cX5_becomeQuotient 6 = .ok (.lconst 1, 1) := by decide +kernel
theorem dX5_becomeQuotient_7 : decode cX5_becomeQuotient 7 = .ok (.lcmp, 1) := by decide +kernel
theorem dX5_becomeQuotient_8 : decode cX5_becomeQuotient 8 = .ok (.ifCond .ge 10, 3) := by decide +kernel
theorem dX5_becomeQuotient_11 : decode cX5_becomeQuotient 11 = .ok (.aload_n 0, 1) := by decide +kernel
theorem dX5_becomeQuotient_12 : decode cX5_becomeQuotient 12 = .ok (.lconst 0, 1) := by decide +kernel
theorem dX5_becomeQuotient_13 : decode cX5_becomeQuotient 13 = .ok (.lconst 0, 1) := by decide +kernel
theorem dX5_becomeQuotient_14 : decode cX5_becomeQuotient 14 = .ok (.invokevirtual 44, 3) := by decide +kernel
theorem dX5_becomeQuotient_17 : decode cX5_becomeQuotient 17 = .ok (.return_, 1) := by decide +kernel
theorem dX5_becomeQuotient_18 : decode cX5_becomeQuotient 18 = .ok (.aload_n 1, 1) := by decide +kernel
theorem dX5_becomeQuotient_19 : decode cX5_becomeQuotient 19 = .ok (.getfield 9, 3) := by decide +kernel
theorem dX5_becomeQuotient_22 : decode cX5_becomeQuotient 22 = .ok (.aload_n 2, 1) := by decide +kernel
theorem dX5_becomeQuotient_23 : decode cX5_becomeQuotient 23 = .ok (.getfield 9, 3) := by decide +kernel
theorem dX5_becomeQuotient_26 : decode cX5_becomeQuotient 26 = .ok (.aload_n 2, 1) := by decide +kernel
theorem dX5_becomeQuotient_27 : decode cX5_becomeQuotient 27 = .ok (.getfield 15, 3) := by decide +kernel
theorem dX5_becomeQuotient_30 : decode cX5_becomeQuotient 30 = .ok (.lsub, 1) := by decide +kernel
theorem dX5_becomeQuotient_31 : decode cX5_becomeQuotient 31 = .ok (.lmul, 1) := by decide +kernel
theorem dX5_becomeQuotient_32 : decode cX5_becomeQuotient 32 = .ok (.aload_n 1, 1) := by decide +kernel
theorem dX5_becomeQuotient_33 : decode cX5_becomeQuotient 33 = .ok (.getfield 15, 3) := by decide +kernel
theorem dX5_becomeQuotient_36 : decode cX5_becomeQuotient 36 = .ok (.aload_n 2, 1) := by decide +kernel
theorem dX5_becomeQuotient_37 : decode cX5_becomeQuotient 37 = .ok (.getfield 15, 3) := by decide +kernel
theorem dX5_becomeQuotient_40 : decode cX5_becomeQuotient 40 = .ok (.lmul, 1) := by decide +kernel
theorem dX5_becomeQuotient_41 : decode cX5_becomeQuotient 41 = .ok (.ladd, 1) := by decide +kernel
theorem dX5_becomeQuotient_42 : decode cX5_becomeQuotient 42 = .ok (.lstore 5, 2) := by decide +kernel
theorem dX5_becomeQuotient_44 : decode cX5_becomeQuotient 44 = .ok (.aload_n 1, 1) := by decide +kernel
theorem dX5_becomeQuotient_45 : decode cX5_becomeQuotient 45 = .ok (.getfield 15, 3) := by decide +kernel
theorem dX5_becomeQuotient_48 : decode cX5_becomeQuotient 48 = .ok (.aload_n 2, 1) := by decide +kernel
theorem dX5_becomeQuotient_49 : decode cX5_becomeQuotient 49 = .ok (.getfield 9, 3) := by decide +kernel
theorem dX5_becomeQuotient_52 : decode cX5_becomeQuotient 52 = .ok (.lmul, 1) := by decide +kernel
theorem dX5_becomeQuotient_53 : decode cX5_becomeQuotient 53 = .ok (.aload_n 1, 1) := by decide +kernel
theorem dX5_becomeQuotient_54 : decode cX5_becomeQuotient 54 = .ok (.getfield 9, 3) := by decide +kernel
theorem dX5_becomeQuotient_57 : decode cX5_becomeQuotient 57 = .ok (.aload_n 2, 1) := by decide +kernel
theorem dX5_becomeQuotient_58 : decode cX5_becomeQuotient 58 = .ok (.getfield 15, 3) := by decide +kernel
theorem dX5_becomeQuotient_61 : decode cX5_becomeQuotient 61 = .ok (.lmul, 1) := by decide +kernel
theorem dX5_becomeQuotient_62 : decode cX5_becomeQuotient 62 = .ok (.lsub, 1) := by decide +kernel
theorem dX5_becomeQuotient_63 : decode cX5_becomeQuotient 63 = .ok (.lstore 7, 2) := by decide +kernel
theorem dX5_becomeQuotient_65 : decode cX5_becomeQuotient 65 = .ok (.aload_n 0, 1) := by decide +kernel
theorem dX5_becomeQuotient_66 : decode cX5_becomeQuotient 66 = .ok (.ldc2_w 34, 3) := by decide +kernel
theorem dX5_becomeQuotient_69 : decode cX5_becomeQuotient 69 = .ok (.lload 5, 2) := by decide +kernel
theorem dX5_becomeQuotient_71 : decode cX5_becomeQuotient 71 = .ok (.lmul, 1) := by decide +kernel
theorem dX5_becomeQuotient_72 : decode cX5_becomeQuotient 72 = .ok (.lload_n 3, 1) := by decide +kernel
theorem dX5_becomeQuotient_73 : decode cX5_becomeQuotient 73 = .ok (.ladd, 1) := by decide +kernel
theorem dX5_becomeQuotient_74 : decode cX5_becomeQuotient 74 = .ok (.ldc2_w 34, 3) := by decide +kernel
theorem dX5_becomeQuotient_77 : decode cX5_becomeQuotient 77 = .ok (.lload_n 3, 1) := by decide +kernel
theorem dX5_becomeQuotient_78 : decode cX5_becomeQuotient 78 = .ok (.lmul, 1) := by decide +kernel
theorem dX5_becomeQuotient_79 : decode cX5_becomeQuotient 79 = .ok (.invokestatic 55, 3) := by decide +kernel
theorem dX5_becomeQuotient_82 : decode cX5_becomeQuotient 82 = .ok (.putfield 9, 3) := by decide +kernel
theorem dX5_becomeQuotient_85 : decode cX5_becomeQuotient 85 = .ok (.aload_n 0, 1) := by decide +kernel
theorem dX5_becomeQuotient_86 : decode cX5_becomeQuotient 86 = .ok (.ldc2_w 34, 3) := by decide +kernel
theorem dX5_becomeQuotient_89 : decode cX5_becomeQuotient 89 = .ok (.lload 7, 2) := by decide +kernel
theorem dX5_becomeQuotient_91 : decode cX5_becomeQuotient 91 = .ok (.lmul, 1) := by decide +kernel
theorem dX5_becomeQuotient_92 : decode cX5_becomeQuotient 92 = .ok (.lload_n 3, 1) := by decide +kernel
theorem dX5_becomeQuotient_93 : decode cX5_becomeQuotient 93 = .ok (.ladd, 1) := by decide +kernel
theorem dX5_becomeQuotient_94 : decode cX5_becomeQuotient 94 = .ok (.ldc2_w 34, 3) := by decide +kernel
theorem dX5_becomeQuotient_97 : decode cX5_becomeQuotient 97 = .ok (.lload_n 3, 1) := by decide +kernel
theorem dX5_becomeQuotient_98 : decode cX5_becomeQuotient 98 = .ok (.lmul, 1) := by decide +kernel
theorem dX5_becomeQuotient_99 : decode cX5_becomeQuotient 99 = .ok (.invokestatic 55, 3) := by decide +kernel
theorem dX5_becomeQuotient_102 : decode cX5_becomeQuotient 102 = .ok (.putfield 15, 3) := by decide +kernel
theorem dX5_becomeQuotient_105 : decode cX5_becomeQuotient 105 = .ok (.return_, 1) := by decide +kernel
theorem dX5_copy_0 : decode cX5_copy 0 = .ok (.aload_n 0, 1) := by decide +kernel
theorem dX5_copy_1 : decode cX5_copy 1 = .ok (.aload_n 1, 1) := by decide +kernel
theorem dX5_copy_2 : decode cX5_copy 2 = .ok (.getfield 9, 3) := by decide +kernel
theorem dX5_copy_5 : decode cX5_copy 5 = .ok (.putfield 9, 3) := by decide +kernel
theorem dX5_copy_8 : decode cX5_copy 8 = .ok (.aload_n 0, 1) := by decide +kernel
theorem dX5_copy_9 : decode cX5_copy 9 = .ok (.aload_n 1, 1) := by decide +kernel
theorem dX5_copy_10 : decode cX5_copy 10 = .ok (.getfield 15, 3) := by decide +kernel
theorem dX5_copy_13 : decode cX5_copy 13 = .ok (.putfield 15, 3) := by decide +kernel
theorem dX5_copy_16 : decode cX5_copy 16 = .ok (.return_, 1) := by decide +kernel
theorem dX5_cube_0 : decode cX5_cube 0 = .ok (.ldc2_w 26, 3) := by decide +kernel
theorem dX5_cube_3 : decode cX5_cube 3 = .ok (.aload_n 0, 1) := by decide +kernel
theorem dX5_cube_4 : decode cX5_cube 4 = .ok (.getfield 9, 3) := by decide +kernel
theorem dX5_cube_7 : decode cX5_cube 7 = .ok (.lmul, 1) := by decide +kernel
theorem dX5_cube_8 : decode cX5_cube 8 = .ok (.aload_n 0, 1) := by decide +kernel
theorem dX5_cube_9 : decode cX5_cube 9 = .ok (.getfield 15, 3) := by decide +kernel
theorem dX5_cube_12 : decode cX5_cube 12 = .ok (.lmul, 1) := by decide +kernel
theorem dX5_cube_13 : decode cX5_cube 13 = .ok (.aload_n 0, 1) := by decide +kernel
theorem dX5_cube_14 : decode cX5_cube 14 = .ok (.getfield 9, 3) := by decide +kernel
theorem dX5_cube_17 : decode cX5_cube 17 = .ok (.aload_n 0, 1) := by decide +kernel
theorem dX5_cube_18 : decode cX5_cube 18 = .ok (.getfield 15, 3) := by decide +kernel
theorem dX5_cube_21 : decode cX5_cube 21 = .ok (.lsub, 1) := by decide +kernel
theorem dX5_cube_22 : decode cX5_cube 22 = .ok (.lmul, 1) := by decide +kernel
theorem dX5_cube_23 : decode cX5_cube 23 = .ok (.lstore_n 1, 1) := by decide +kernel
theorem dX5_cube_24 : decode cX5_cube 24 = .ok (.aload_n 0, 1) := by decide +kernel
theorem dX5_cube_25 : decode cX5_cube 25 = .ok (.aload_n 0, 1) := by decide +kernel
theorem dX5_cube_26 : decode cX5_cube 26 = .ok (.getfield 9, 3) := by decide +kernel
theorem dX5_cube_29 : decode cX5_cube 29 = .ok (.aload_n 0, 1) := by decide +kernel
theorem dX5_cube_30 : decode cX5_cube 30 = .ok (.getfield 9, 3) := by decide +kernel
theorem dX5_cube_33 : decode cX5_cube 33 = .ok (.lmul, 1) := by decide +kernel
theorem dX5_cube_34 : decode cX5_cube 34 = .ok (.aload_n 0, 1) := by decide +kernel
theorem dX5_cube_35 : decode cX5_cube 35 = .ok (.getfield 9, 3) := by decide +kernel
theorem dX5_cube_38 : decode cX5_cube 38 = .ok (.lmul, 1) := by decide +kernel
theorem dX5_cube_39 : decode cX5_cube 39 = .ok (.aload_n 0, 1) := by decide +kernel
theorem dX5_cube_40 : decode cX5_cube 40 = .ok (.getfield 15, 3) := by decide +kernel
theorem dX5_cube_43 : decode cX5_cube 43 = .ok (.aload_n 0, 1) := by decide +kernel
theorem dX5_cube_44 : decode cX5_cube 44 = .ok (.getfield 15, 3) := by decide +kernel
theorem dX5_cube_47 : decode cX5_cube 47 = .ok (.lmul, 1) := by decide +kernel
theorem dX5_cube_48 : decode cX5_cube 48 = .ok (.aload_n 0, 1) := by decide +kernel
theorem dX5_cube_49 : decode cX5_cube 49 = .ok (.getfield 15, 3) := by decide +kernel
theorem dX5_cube_52 : decode cX5_cube 52 = .ok (.lmul, 1) := by decide +kernel
theorem dX5_cube_53 : decode cX5_cube 53 = .ok (.ladd, 1) := by decide +kernel
theorem dX5_cube_54 : decode cX5_cube 54 = .ok (.ldc2_w 26, 3) := by decide +kernel
theorem dX5_cube_57 : decode cX5_cube 57 = .ok (.aload_n 0, 1) := by decide +kernel
theorem dX5_cube_58 : decode cX5_cube 58 = .ok (.getfield 9, 3) := by decide +kernel
theorem dX5_cube_61 : decode cX5_cube 61 = .ok (.lmul, 1) := by decide +kernel
theorem dX5_cube_62 : decode cX5_cube 62 = .ok (.aload_n 0, 1) := by decide +kernel
theorem dX5_cube_63 : decode cX5_cube 63 = .ok (.getfield 15, 3) := by decide +kernel
theorem dX5_cube_66 : decode cX5_cube 66 = .ok (.lmul, 1) := by decide +kernel
theorem dX5_cube_67 : decode cX5_cube 67 = .ok (.aload_n 0, 1) := by decide +kernel
theorem dX5_cube_68 : decode cX5_cube 68 = .ok (.getfield 15, 3) := by decide +kernel
theorem dX5_cube_71 : decode cX5_cube 71 = .ok (.lmul, 1) := by decide +kernel
theorem dX5_cube_72 : decode cX5_cube 72 = .ok (.lsub, 1) := by decide +kernel
theorem dX5_cube_73 : decode cX5_cube 73 = .ok (.putfield 9, 3) := by decide +kernel
theorem dX5_cube_76 : decode cX5_cube 76 = .ok (.aload_n 0, 1) := by decide +kernel
theorem dX5_cube_77 : decode cX5_cube 77 = .ok (.lload_n 1, 1) := by decide +kernel
theorem dX5_cube_78 : decode cX5_cube 78 = .ok (.putfield 15, 3) := by decide +kernel
theorem dX5_cube_81 : decode cX5_cube 81 = .ok (.return_, 1) := by decide +kernel
theorem dX5_fits_0 : decode cX5_fits 0 = .ok (.aload_n 0, 1) := by decide +kernel
theorem dX5_fits_1 : decode cX5_fits 1 = .ok (.getfield 9, 3) := by decide +kernel
theorem dX5_fits_4 : decode cX5_fits 4 = .ok (.ldc2_w 18, 3) := by decide +kernel
theorem dX5_fits_7 : decode cX5_fits 7 = .ok (.lcmp, 1) := by decide +kernel
theorem dX5_fits_8 : decode cX5_fits 8 = .ok (.ifCond .lt 40, 3) := by decide +kernel
theorem dX5_fits_11 : decode cX5_fits 11 = .ok (.aload_n 0, 1) := by decide +kernel
theorem dX5_fits_12 : decode cX5_fits 12 = .ok (.getfield 9, 3) := by decide +kernel
theorem dX5_fits_15 : decode cX5_fits 15 = .ok (.ldc2_w 20, 3) := by decide +kernel
theorem dX5_fits_18 : decode cX5_fits 18 = .ok (.lcmp, 1) := by decide +kernel
theorem dX5_fits_19 : decode cX5_fits 19 = .ok (.ifCond .gt 29, 3) := by decide +kernel
theorem dX5_fits_22 : decode cX5_fits 22 = .ok (.aload_n 0, 1) := by decide +kernel
theorem dX5_fits_23 : decode cX5_fits 23 = .ok (.getfield 15, 3) := by decide +kernel
theorem dX5_fits_26 : decode cX5_fits 26 = .ok (.ldc2_w 18, 3) := by decide +kernel
theorem dX5_fits_29 : decode cX5_fits 29 = .ok (.lcmp, 1) := by decide +kernel
theorem dX5_fits_30 : decode cX5_fits 30 = .ok (.ifCond .lt 18, 3) := by decide +kernel
theorem dX5_fits_33 : decode cX5_fits 33 = .ok (.aload_n 0, 1) := by decide +kernel
theorem dX5_fits_34 : decode cX5_fits 34 = .ok (.getfield 15, 3) := by decide +kernel
theorem dX5_fits_37 : decode cX5_fits 37 = .ok (.ldc2_w 20, 3) := by decide +kernel
theorem dX5_fits_40 : decode cX5_fits 40 = .ok (.lcmp, 1) := by decide +kernel
theorem dX5_fits_41 : decode cX5_fits 41 = .ok (.ifCond .gt 7, 3) := by decide +kernel
theorem dX5_fits_44 : decode cX5_fits 44 = .ok (.iconst 1, 1) := by decide +kernel
theorem dX5_fits_45 : decode cX5_fits 45 = .ok (.goto 4, 3) := by decide +kernel
theorem dX5_fits_48 : decode cX5_fits 48 = .ok (.iconst 0, 1) := by decide +kernel
theorem dX5_fits_49 : decode cX5_fits 49 = .ok (.ireturn, 1) := by decide +kernel
theorem dX5_isAlike_0 : decode cX5_isAlike 0 = .ok (.aload_n 0, 1) := by decide +kernel
theorem dX5_isAlike_1 : decode cX5_isAlike 1 = .ok (.invokevirtual 22, 3) := by decide +kernel
theorem dX5_isAlike_4 : decode cX5_isAlike 4 = .ok (.aload_n 1, 1) := by decide +kernel
theorem dX5_isAlike_5 : decode cX5_isAlike 5 = .ok (.invokevirtual 22, 3) := by decide +kernel
theorem dX5_isAlike_8 : decode cX5_isAlike 8 = .ok (.lcmp, 1) := by decide +kernel
theorem dX5_isAlike_9 : decode cX5_isAlike 9 = .ok (.ifCond .ne 15, 3) := by decide +kernel
theorem dX5_isAlike_12 : decode cX5_isAlike 12 = .ok (.aload_n 0, 1) := by decide +kernel
theorem dX5_isAlike_13 : decode cX5_isAlike 13 = .ok (.aload_n 1, 1) := by decide +kernel
theorem dX5_isAlike_14 : decode cX5_isAlike 14 = .ok (.invokevirtual 36, 3) := by decide +kernel
theorem dX5_isAlike_17 : decode cX5_isAlike 17 = .ok (.ifCond .eq 7, 3) := by decide +kernel
theorem dX5_isAlike_20 : decode cX5_isAlike 20 = .ok (.iconst 1, 1) := by decide +kernel
theorem dX5_isAlike_21 : decode cX5_isAlike 21 = .ok (.goto 4, 3) := by decide +kernel
theorem dX5_isAlike_24 : decode cX5_isAlike 24 = .ok (.iconst 0, 1) := by decide +kernel
theorem dX5_isAlike_25 : decode cX5_isAlike 25 = .ok (.ireturn, 1) := by decide +kernel
theorem dX5_isDividedBy_0 : decode cX5_isDividedBy 0 = .ok (.aload_n 1, 1) := by decide +kernel
theorem dX5_isDividedBy_1 : decode cX5_isDividedBy 1 = .ok (.invokevirtual 22, 3) := by decide +kernel
theorem dX5_isDividedBy_4 : decode cX5_isDividedBy 4 = .ok (.lstore_n 2, 1) := by decide +kernel
theorem dX5_isDividedBy_5 : decode cX5_isDividedBy 5 = .ok (.lload_n 2, 1) := by decide +kernel
theorem dX5_isDividedBy_6 : decode cX5_isDividedBy 6 = .ok (.lconst 1, 1) := by decide +kernel
theorem dX5_isDividedBy_7 : decode cX5_isDividedBy 7 = .ok (.lcmp, 1) := by decide +kernel
theorem dX5_isDividedBy_8 : decode cX5_isDividedBy 8 = .ok (.ifCond .ge 8, 3) := by decide +kernel
theorem dX5_isDividedBy_11 : decode cX5_isDividedBy 11 = .ok (.aload_n 0, 1) := by decide +kernel
theorem dX5_isDividedBy_12 : decode cX5_isDividedBy 12 = .ok (.invokevirtual 40, 3) := by decide +kernel
theorem dX5_isDividedBy_15 : decode cX5_isDividedBy 15 = .ok (.ireturn, 1) := by decide +kernel
theorem dX5_isDividedBy_16 : decode cX5_isDividedBy 16 = .ok (.aload_n 0, 1) := by decide +kernel
theorem dX5_isDividedBy_17 : decode cX5_isDividedBy 17 = .ok (.getfield 9, 3) := by decide +kernel
theorem dX5_isDividedBy_20 : decode cX5_isDividedBy 20 = .ok (.aload_n 1, 1) := by decide +kernel
theorem dX5_isDividedBy_21 : decode cX5_isDividedBy 21 = .ok (.getfield 9, 3) := by decide +kernel
theorem dX5_isDividedBy_24 : decode cX5_isDividedBy 24 = .ok (.aload_n 1, 1) := by decide +kernel
theorem dX5_isDividedBy_25 : decode cX5_isDividedBy 25 = .ok (.getfield 15, 3) := by decide +kernel
theorem dX5_isDividedBy_28 : decode cX5_isDividedBy 28 = .ok (.lsub, 1) := by decide +kernel
theorem dX5_isDividedBy_29 : decode cX5_isDividedBy 29 = .ok (.lmul, 1) := by decide +kernel
theorem dX5_isDividedBy_30 : decode cX5_isDividedBy 30 = .ok (.aload_n 0, 1) := by decide +kernel
theorem dX5_isDividedBy_31 : decode cX5_isDividedBy 31 = .ok (.getfield 15, 3) := by decide +kernel
theorem dX5_isDividedBy_34 : decode cX5_isDividedBy 34 = .ok (.aload_n 1, 1) := by decide +kernel
theorem dX5_isDividedBy_35 : decode cX5_isDividedBy 35 = .ok (.getfield 15, 3) := by decide +kernel
theorem dX5_isDividedBy_38 : decode cX5_isDividedBy 38 = .ok (.lmul, 1) := by decide +kernel
theorem dX5_isDividedBy_39 : decode cX5_isDividedBy 39 = .ok (.ladd, 1) := by decide +kernel
theorem dX5_isDividedBy_40 : decode cX5_isDividedBy 40 = .ok (.lload_n 2, 1) := by decide +kernel
theorem dX5_isDividedBy_41 : decode cX5_isDividedBy 41 = .ok (.lrem, 1) := by decide +kernel
theorem dX5_isDividedBy_42 : decode cX5_isDividedBy 42 = .ok (.lconst 0, 1) := by decide +kernel
theorem dX5_isDividedBy_43 : decode cX5_isDividedBy 43 = .ok (.lcmp, 1) := by decide +kernel
theorem dX5_isDividedBy_44 : decode cX5_isDividedBy 44 = .ok (.ifCond .ne 33, 3) := by decide +kernel
theorem dX5_isDividedBy_47 : decode cX5_isDividedBy 47 = .ok (.aload_n 0, 1) := by decide +kernel
theorem dX5_isDividedBy_48 : decode cX5_isDividedBy 48 = .ok (.getfield 15, 3) := by decide +kernel
theorem dX5_isDividedBy_51 : decode cX5_isDividedBy 51 = .ok (.aload_n 1, 1) := by decide +kernel
theorem dX5_isDividedBy_52 : decode cX5_isDividedBy 52 = .ok (.getfield 9, 3) := by decide +kernel
theorem dX5_isDividedBy_55 : decode cX5_isDividedBy 55 = .ok (.lmul, 1) := by decide +kernel
theorem dX5_isDividedBy_56 : decode cX5_isDividedBy 56 = .ok (.aload_n 0, 1) := by decide +kernel
theorem dX5_isDividedBy_57 : decode cX5_isDividedBy 57 = .ok (.getfield 9, 3) := by decide +kernel
theorem dX5_isDividedBy_60 : decode cX5_isDividedBy 60 = .ok (.aload_n 1, 1) := by decide +kernel
theorem dX5_isDividedBy_61 : decode cX5_isDividedBy 61 = .ok (.getfield 15, 3) := by decide +kernel
theorem dX5_isDividedBy_64 : decode cX5_isDividedBy 64 = .ok (.lmul, 1) := by decide +kernel
theorem dX5_isDividedBy_65 : decode cX5_isDividedBy 65 = .ok (.lsub, 1) := by decide +kernel
theorem dX5_isDividedBy_66 : decode cX5_isDividedBy 66 = .ok (.lload_n 2, 1) := by decide +kernel
theorem dX5_isDividedBy_67 : decode cX5_isDividedBy 67 = .ok (.lrem, 1) := by decide +kernel
theorem dX5_isDividedBy_68 : decode cX5_isDividedBy 68 = .ok (.lconst 0, 1) := by decide +kernel
theorem dX5_isDividedBy_69 : decode cX5_isDividedBy 69 = .ok (.lcmp, 1) := by decide +kernel
theorem dX5_isDividedBy_70 : decode cX5_isDividedBy 70 = .ok (.ifCond .ne 7, 3) := by decide +kernel
theorem dX5_isDividedBy_73 : decode cX5_isDividedBy 73 = .ok (.iconst 1, 1) := by decide +kernel
theorem dX5_isDividedBy_74 : decode cX5_isDividedBy 74 = .ok (.goto 4, 3) := by decide +kernel
theorem dX5_isDividedBy_77 : decode cX5_isDividedBy 77 = .ok (.iconst 0, 1) := by decide +kernel
theorem dX5_isDividedBy_78 : decode cX5_isDividedBy 78 = .ok (.ireturn, 1) := by decide +kernel
theorem dX5_isLessThan_0 : decode cX5_isLessThan 0 = .ok (.aload_n 0, 1) := by decide +kernel
theorem dX5_isLessThan_1 : decode cX5_isLessThan 1 = .ok (.invokevirtual 22, 3) := by decide +kernel
theorem dX5_isLessThan_4 : decode cX5_isLessThan 4 = .ok (.aload_n 1, 1) := by decide +kernel
theorem dX5_isLessThan_5 : decode cX5_isLessThan 5 = .ok (.invokevirtual 22, 3) := by decide +kernel
theorem dX5_isLessThan_8 : decode cX5_isLessThan 8 = .ok (.lcmp, 1) := by decide +kernel
theorem dX5_isLessThan_9 : decode cX5_isLessThan 9 = .ok (.ifCond .eq 21, 3) := by decide +kernel
theorem dX5_isLessThan_12 : decode cX5_isLessThan 12 = .ok (.aload_n 0, 1) := by decide +kernel
theorem dX5_isLessThan_13 : decode cX5_isLessThan 13 = .ok (.invokevirtual 22, 3) := by decide +kernel
theorem dX5_isLessThan_16 : decode cX5_isLessThan 16 = .ok (.aload_n 1, 1) := by decide +kernel
theorem dX5_isLessThan_17 : decode cX5_isLessThan 17 = .ok (.invokevirtual 22, 3) := by decide +kernel
theorem dX5_isLessThan_20 : decode cX5_isLessThan 20 = .ok (.lcmp, 1) := by decide +kernel
theorem dX5_isLessThan_21 : decode cX5_isLessThan 21 = .ok (.ifCond .ge 7, 3) := by decide +kernel
theorem dX5_isLessThan_24 : decode cX5_isLessThan 24 = .ok (.iconst 1, 1) := by decide +kernel
theorem dX5_isLessThan_25 : decode cX5_isLessThan 25 = .ok (.goto 4, 3) := by decide +kernel
theorem dX5_isLessThan_28 : decode cX5_isLessThan 28 = .ok (.iconst 0, 1) := by decide +kernel
theorem dX5_isLessThan_29 : decode cX5_isLessThan 29 = .ok (.ireturn, 1) := by decide +kernel
theorem dX5_isLessThan_30 : decode cX5_isLessThan 30 = .ok (.aload_n 0, 1) := by decide +kernel
theorem dX5_isLessThan_31 : decode cX5_isLessThan 31 = .ok (.getfield 9, 3) := by decide +kernel
theorem dX5_isLessThan_34 : decode cX5_isLessThan 34 = .ok (.aload_n 1, 1) := by decide +kernel
theorem dX5_isLessThan_35 : decode cX5_isLessThan 35 = .ok (.getfield 9, 3) := by decide +kernel
theorem dX5_isLessThan_38 : decode cX5_isLessThan 38 = .ok (.lcmp, 1) := by decide +kernel
theorem dX5_isLessThan_39 : decode cX5_isLessThan 39 = .ok (.ifCond .eq 23, 3) := by decide +kernel
theorem dX5_isLessThan_42 : decode cX5_isLessThan 42 = .ok (.aload_n 0, 1) := by decide +kernel
theorem dX5_isLessThan_43 : decode cX5_isLessThan 43 = .ok (.getfield 9, 3) := by decide +kernel
theorem dX5_isLessThan_46 : decode cX5_isLessThan 46 = .ok (.aload_n 1, 1) := by decide +kernel
theorem dX5_isLessThan_47 : decode cX5_isLessThan 47 = .ok (.getfield 9, 3) := by decide +kernel
theorem dX5_isLessThan_50 : decode cX5_isLessThan 50 = .ok (.lcmp, 1) := by decide +kernel
theorem dX5_isLessThan_51 : decode cX5_isLessThan 51 = .ok (.ifCond .ge 7, 3) := by decide +kernel
theorem dX5_isLessThan_54 : decode cX5_isLessThan 54 = .ok (.iconst 1, 1) := by decide +kernel
theorem dX5_isLessThan_55 : decode cX5_isLessThan 55 = .ok (.goto 24, 3) := by decide +kernel
theorem dX5_isLessThan_58 : decode cX5_isLessThan 58 = .ok (.iconst 0, 1) := by decide +kernel
theorem dX5_isLessThan_59 : decode cX5_isLessThan 59 = .ok (.goto 20, 3) := by decide +kernel
theorem dX5_isLessThan_62 : decode cX5_isLessThan 62 = .ok (.aload_n 0, 1) := by decide +kernel
theorem dX5_isLessThan_63 : decode cX5_isLessThan 63 = .ok (.getfield 15, 3) := by decide +kernel
theorem dX5_isLessThan_66 : decode cX5_isLessThan 66 = .ok (.aload_n 1, 1) := by decide +kernel
theorem dX5_isLessThan_67 : decode cX5_isLessThan 67 = .ok (.getfield 15, 3) := by decide +kernel
theorem dX5_isLessThan_70 : decode cX5_isLessThan 70 = .ok (.lcmp, 1) := by decide +kernel
theorem dX5_isLessThan_71 : decode cX5_isLessThan 71 = .ok (.ifCond .ge 7, 3) := by decide +kernel
theorem dX5_isLessThan_74 : decode cX5_isLessThan 74 = .ok (.iconst 1, 1) := by decide +kernel
theorem dX5_isLessThan_75 : decode cX5_isLessThan 75 = .ok (.goto 4, 3) := by decide +kernel
theorem dX5_isLessThan_78 : decode cX5_isLessThan 78 = .ok (.iconst 0, 1) := by decide +kernel
theorem dX5_isLessThan_79 : decode cX5_isLessThan 79 = .ok (.ireturn, 1) := by decide +kernel
theorem dX5_isNought_0 : decode cX5_isNought 0 = .ok (.aload_n 0, 1) := by decide +kernel
theorem dX5_isNought_1 : decode cX5_isNought 1 = .ok (.getfield 9, 3) := by decide +kernel
theorem dX5_isNought_4 : decode cX5_isNought 4 = .ok (.lconst 0, 1) := by decide +kernel
theorem dX5_isNought_5 : decode cX5_isNought 5 = .ok (.lcmp, 1) := by decide +kernel
theorem dX5_isNought_6 : decode cX5_isNought 6 = .ok (.ifCond .ne 16, 3) := by decide +kernel
theorem dX5_isNought_9 : decode cX5_isNought 9 = .ok (.aload_n 0, 1) := by decide +kernel
theorem dX5_isNought_10 : decode cX5_isNought 10 = .ok (.getfield 15, 3) := by decide +kernel
theorem dX5_isNought_13 : decode cX5_isNought 13 = .ok (.lconst 0, 1) := by decide +kernel
theorem dX5_isNought_14 : decode cX5_isNought 14 = .ok (.lcmp, 1) := by decide +kernel
theorem dX5_isNought_15 : decode cX5_isNought 15 = .ok (.ifCond .ne 7, 3) := by decide +kernel
theorem dX5_isNought_18 : decode cX5_isNought 18 = .ok (.iconst 1, 1) := by decide +kernel
theorem dX5_isNought_19 : decode cX5_isNought 19 = .ok (.goto 4, 3) := by decide +kernel
theorem dX5_isNought_22 : decode cX5_isNought 22 = .ok (.iconst 0, 1) := by decide +kernel
theorem dX5_isNought_23 : decode cX5_isNought 23 = .ok (.ireturn, 1) := by decide +kernel
theorem dX5_isOfThree_0 : decode cX5_isOfThree 0 = .ok (.aload_n 0, 1) := by decide +kernel
theorem dX5_isOfThree_1 : decode cX5_isOfThree 1 = .ok (.getfield 9, 3) := by decide +kernel
theorem dX5_isOfThree_4 : decode cX5_isOfThree 4 = .ok (.aload_n 0, 1) := by decide +kernel
theorem dX5_isOfThree_5 : decode cX5_isOfThree 5 = .ok (.getfield 15, 3) := by decide +kernel
theorem dX5_isOfThree_8 : decode cX5_isOfThree 8 = .ok (.ladd, 1) := by decide +kernel
theorem dX5_isOfThree_9 : decode cX5_isOfThree 9 = .ok (.ldc2_w 26, 3) := by decide +kernel
theorem dX5_isOfThree_12 : decode cX5_isOfThree 12 = .ok (.lrem, 1) := by decide +kernel
theorem dX5_isOfThree_13 : decode cX5_isOfThree 13 = .ok (.lconst 0, 1) := by decide +kernel
theorem dX5_isOfThree_14 : decode cX5_isOfThree 14 = .ok (.lcmp, 1) := by decide +kernel
theorem dX5_isOfThree_15 : decode cX5_isOfThree 15 = .ok (.ifCond .ne 7, 3) := by decide +kernel
theorem dX5_isOfThree_18 : decode cX5_isOfThree 18 = .ok (.iconst 1, 1) := by decide +kernel
theorem dX5_isOfThree_19 : decode cX5_isOfThree 19 = .ok (.goto 4, 3) := by decide +kernel
theorem dX5_isOfThree_22 : decode cX5_isOfThree 22 = .ok (.iconst 0, 1) := by decide +kernel
theorem dX5_isOfThree_23 : decode cX5_isOfThree 23 = .ok (.ireturn, 1) := by decide +kernel
theorem dX5_isPrimary_0 : decode cX5_isPrimary 0 = .ok (.aload_n 0, 1) := by decide +kernel
theorem dX5_isPrimary_1 : decode cX5_isPrimary 1 = .ok (.getfield 9, 3) := by decide +kernel
theorem dX5_isPrimary_4 : decode cX5_isPrimary 4 = .ok (.ldc2_w 26, 3) := by decide +kernel
theorem dX5_isPrimary_7 : decode cX5_isPrimary 7 = .ok (.invokestatic 28, 3) := by decide +kernel
theorem dX5_isPrimary_10 : decode cX5_isPrimary 10 = .ok (.ldc2_w 34, 3) := by decide +kernel
theorem dX5_isPrimary_13 : decode cX5_isPrimary 13 = .ok (.lcmp, 1) := by decide +kernel
theorem dX5_isPrimary_14 : decode cX5_isPrimary 14 = .ok (.ifCond .ne 20, 3) := by decide +kernel
theorem dX5_isPrimary_17 : decode cX5_isPrimary 17 = .ok (.aload_n 0, 1) := by decide +kernel
theorem dX5_isPrimary_18 : decode cX5_isPrimary 18 = .ok (.getfield 15, 3) := by decide +kernel
theorem dX5_isPrimary_21 : decode cX5_isPrimary 21 = .ok (.ldc2_w 26, 3) := by decide +kernel
theorem dX5_isPrimary_24 : decode cX5_isPrimary 24 = .ok (.lrem, 1) := by decide +kernel
theorem dX5_isPrimary_25 : decode cX5_isPrimary 25 = .ok (.lconst 0, 1) := by decide +kernel
theorem dX5_isPrimary_26 : decode cX5_isPrimary 26 = .ok (.lcmp, 1) := by decide +kernel
theorem dX5_isPrimary_27 : decode cX5_isPrimary 27 = .ok (.ifCond .ne 7, 3) := by decide +kernel
theorem dX5_isPrimary_30 : decode cX5_isPrimary 30 = .ok (.iconst 1, 1) := by decide +kernel
theorem dX5_isPrimary_31 : decode cX5_isPrimary 31 = .ok (.goto 4, 3) := by decide +kernel
theorem dX5_isPrimary_34 : decode cX5_isPrimary 34 = .ok (.iconst 0, 1) := by decide +kernel
theorem dX5_isPrimary_35 : decode cX5_isPrimary 35 = .ok (.ireturn, 1) := by decide +kernel
theorem dX5_isSame_0 : decode cX5_isSame 0 = .ok (.aload_n 0, 1) := by decide +kernel
theorem dX5_isSame_1 : decode cX5_isSame 1 = .ok (.getfield 9, 3) := by decide +kernel
theorem dX5_isSame_4 : decode cX5_isSame 4 = .ok (.aload_n 1, 1) := by decide +kernel
theorem dX5_isSame_5 : decode cX5_isSame 5 = .ok (.getfield 9, 3) := by decide +kernel
theorem dX5_isSame_8 : decode cX5_isSame 8 = .ok (.lcmp, 1) := by decide +kernel
theorem dX5_isSame_9 : decode cX5_isSame 9 = .ok (.ifCond .ne 19, 3) := by decide +kernel
theorem dX5_isSame_12 : decode cX5_isSame 12 = .ok (.aload_n 0, 1) := by decide +kernel
theorem dX5_isSame_13 : decode cX5_isSame 13 = .ok (.getfield 15, 3) := by decide +kernel
theorem dX5_isSame_16 : decode cX5_isSame 16 = .ok (.aload_n 1, 1) := by decide +kernel
theorem dX5_isSame_17 : decode cX5_isSame 17 = .ok (.getfield 15, 3) := by decide +kernel
theorem dX5_isSame_20 : decode cX5_isSame 20 = .ok (.lcmp, 1) := by decide +kernel
theorem dX5_isSame_21 : decode cX5_isSame 21 = .ok (.ifCond .ne 7, 3) := by decide +kernel
theorem dX5_isSame_24 : decode cX5_isSame 24 = .ok (.iconst 1, 1) := by decide +kernel
theorem dX5_isSame_25 : decode cX5_isSame 25 = .ok (.goto 4, 3) := by decide +kernel
theorem dX5_isSame_28 : decode cX5_isSame 28 = .ok (.iconst 0, 1) := by decide +kernel
theorem dX5_isSame_29 : decode cX5_isSame 29 = .ok (.ireturn, 1) := by decide +kernel
theorem dX5_isSame__0 : decode cX5_isSame_ 0 = .ok (.aload_n 0, 1) := by decide +kernel
theorem dX5_isSame__1 : decode cX5_isSame_ 1 = .ok (.getfield 9, 3) := by decide +kernel
theorem dX5_isSame__4 : decode cX5_isSame_ 4 = .ok (.lload_n 1, 1) := by decide +kernel
theorem dX5_isSame__5 : decode cX5_isSame_ 5 = .ok (.lcmp, 1) := by decide +kernel
theorem dX5_isSame__6 : decode cX5_isSame_ 6 = .ok (.ifCond .ne 16, 3) := by decide +kernel
theorem dX5_isSame__9 : decode cX5_isSame_ 9 = .ok (.aload_n 0, 1) := by decide +kernel
theorem dX5_isSame__10 : decode cX5_isSame_ 10 = .ok (.getfield 15, 3) := by decide +kernel
theorem dX5_isSame__13 : decode cX5_isSame_ 13 = .ok (.lload_n 3, 1) := by decide +kernel
theorem dX5_isSame__14 : decode cX5_isSame_ 14 = .ok (.lcmp, 1) := by decide +kernel
theorem dX5_isSame__15 : decode cX5_isSame_ 15 = .ok (.ifCond .ne 7, 3) := by decide +kernel
theorem dX5_isSame__18 : decode cX5_isSame_ 18 = .ok (.iconst 1, 1) := by decide +kernel
theorem dX5_isSame__19 : decode cX5_isSame_ 19 = .ok (.goto 4, 3) := by decide +kernel
theorem dX5_isSame__22 : decode cX5_isSame_ 22 = .ok (.iconst 0, 1) := by decide +kernel
theorem dX5_isSame__23 : decode cX5_isSame_ 23 = .ok (.ireturn, 1) := by decide +kernel
theorem dX5_isUnit_0 : decode cX5_isUnit 0 = .ok (.aload_n 0, 1) := by decide +kernel
theorem dX5_isUnit_1 : decode cX5_isUnit 1 = .ok (.invokevirtual 22, 3) := by decide +kernel
theorem dX5_isUnit_4 : decode cX5_isUnit 4 = .ok (.lconst 1, 1) := by decide +kernel
theorem dX5_isUnit_5 : decode cX5_isUnit 5 = .ok (.lcmp, 1) := by decide +kernel
theorem dX5_isUnit_6 : decode cX5_isUnit 6 = .ok (.ifCond .ne 7, 3) := by decide +kernel
theorem dX5_isUnit_9 : decode cX5_isUnit 9 = .ok (.iconst 1, 1) := by decide +kernel
theorem dX5_isUnit_10 : decode cX5_isUnit 10 = .ok (.goto 4, 3) := by decide +kernel
theorem dX5_isUnit_13 : decode cX5_isUnit 13 = .ok (.iconst 0, 1) := by decide +kernel
theorem dX5_isUnit_14 : decode cX5_isUnit 14 = .ok (.ireturn, 1) := by decide +kernel
theorem dX5_makeOwn_0 : decode cX5_makeOwn 0 = .ok (.aload_n 0, 1) := by decide +kernel
theorem dX5_makeOwn_1 : decode cX5_makeOwn 1 = .ok (.invokevirtual 68, 3) := by decide +kernel
theorem dX5_makeOwn_4 : decode cX5_makeOwn 4 = .ok (.istore_n 1, 1) := by decide +kernel
theorem dX5_makeOwn_5 : decode cX5_makeOwn 5 = .ok (.aload_n 0, 1) := by decide +kernel
theorem dX5_makeOwn_6 : decode cX5_makeOwn 6 = .ok (.invokevirtual 72, 3) := by decide +kernel
theorem dX5_makeOwn_9 : decode cX5_makeOwn 9 = .ok (.iconst 0, 1) := by decide +kernel
theorem dX5_makeOwn_10 : decode cX5_makeOwn 10 = .ok (.istore_n 2, 1) := by decide +kernel
theorem dX5_makeOwn_11 : decode cX5_makeOwn 11 = .ok (.iload_n 2, 1) := by decide +kernel
theorem dX5_makeOwn_12 : decode cX5_makeOwn 12 = .ok (.iload_n 1, 1) := by decide +kernel
theorem dX5_makeOwn_13 : decode cX5_makeOwn 13 = .ok (.if_icmp .ge 35, 3) := by decide +kernel
theorem dX5_makeOwn_16 : decode cX5_makeOwn 16 = .ok (.aload_n 0, 1) := by decide +kernel
theorem dX5_makeOwn_17 : decode cX5_makeOwn 17 = .ok (.aload_n 0, 1) := by decide +kernel
theorem dX5_makeOwn_18 : decode cX5_makeOwn 18 = .ok (.getfield 9, 3) := by decide +kernel
theorem dX5_makeOwn_21 : decode cX5_makeOwn 21 = .ok (.aload_n 0, 1) := by decide +kernel
theorem dX5_makeOwn_22 : decode cX5_makeOwn 22 = .ok (.getfield 15, 3) := by decide +kernel
theorem dX5_makeOwn_25 : decode cX5_makeOwn 25 = .ok (.ladd, 1) := by decide +kernel
theorem dX5_makeOwn_26 : decode cX5_makeOwn 26 = .ok (.ldc2_w 34, 3) := by decide +kernel
theorem dX5_makeOwn_29 : decode cX5_makeOwn 29 = .ok (.aload_n 0, 1) := by decide +kernel
theorem dX5_makeOwn_30 : decode cX5_makeOwn 30 = .ok (.getfield 15, 3) := by decide +kernel
theorem dX5_makeOwn_33 : decode cX5_makeOwn 33 = .ok (.lmul, 1) := by decide +kernel
theorem dX5_makeOwn_34 : decode cX5_makeOwn 34 = .ok (.aload_n 0, 1) := by decide +kernel
theorem dX5_makeOwn_35 : decode cX5_makeOwn 35 = .ok (.getfield 9, 3) := by decide +kernel
theorem dX5_makeOwn_38 : decode cX5_makeOwn 38 = .ok (.lsub, 1) := by decide +kernel
theorem dX5_makeOwn_39 : decode cX5_makeOwn 39 = .ok (.invokevirtual 44, 3) := by decide +kernel
theorem dX5_makeOwn_42 : decode cX5_makeOwn 42 = .ok (.iinc 2 1, 3) := by decide +kernel
theorem dX5_makeOwn_45 : decode cX5_makeOwn 45 = .ok (.goto (-34), 3) := by decide +kernel
theorem dX5_makeOwn_48 : decode cX5_makeOwn 48 = .ok (.return_, 1) := by decide +kernel
theorem dX5_makePrimary_0 : decode cX5_makePrimary 0 = .ok (.iconst 0, 1) := by decide +kernel
theorem dX5_makePrimary_1 : decode cX5_makePrimary 1 = .ok (.istore_n 1, 1) := by decide +kernel
theorem dX5_makePrimary_2 : decode cX5_makePrimary 2 = .ok (.iload_n 1, 1) := by decide +kernel
theorem dX5_makePrimary_3 : decode cX5_makePrimary 3 = .ok (.bipush 6, 2) := by decide +kernel
theorem dX5_makePrimary_5 : decode cX5_makePrimary 5 = .ok (.if_icmp .ge 28, 3) := by decide +kernel
theorem dX5_makePrimary_8 : decode cX5_makePrimary 8 = .ok (.aload_n 0, 1) := by decide +kernel
theorem dX5_makePrimary_9 : decode cX5_makePrimary 9 = .ok (.invokevirtual 61, 3) := by decide +kernel
theorem dX5_makePrimary_12 : decode cX5_makePrimary 12 = .ok (.ifCond .ne 21, 3) := by decide +kernel
theorem dX5_makePrimary_15 : decode cX5_makePrimary 15 = .ok (.aload_n 0, 1) := by decide +kernel
theorem dX5_makePrimary_16 : decode cX5_makePrimary 16 = .ok (.invokevirtual 58, 3) := by decide +kernel
theorem dX5_makePrimary_19 : decode cX5_makePrimary 19 = .ok (.ifCond .ne 14, 3) := by decide +kernel
theorem dX5_makePrimary_22 : decode cX5_makePrimary 22 = .ok (.aload_n 0, 1) := by decide +kernel
theorem dX5_makePrimary_23 : decode cX5_makePrimary 23 = .ok (.iconst 1, 1) := by decide +kernel
theorem dX5_makePrimary_24 : decode cX5_makePrimary 24 = .ok (.invokevirtual 64, 3) := by decide +kernel
theorem dX5_makePrimary_27 : decode cX5_makePrimary 27 = .ok (.iinc 1 1, 3) := by decide +kernel
theorem dX5_makePrimary_30 : decode cX5_makePrimary 30 = .ok (.goto (-28), 3) := by decide +kernel
theorem dX5_makePrimary_33 : decode cX5_makePrimary 33 = .ok (.return_, 1) := by decide +kernel
theorem dX5_multiply_0 : decode cX5_multiply 0 = .ok (.aload_n 0, 1) := by decide +kernel
theorem dX5_multiply_1 : decode cX5_multiply 1 = .ok (.getfield 15, 3) := by decide +kernel
theorem dX5_multiply_4 : decode cX5_multiply 4 = .ok (.aload_n 1, 1) := by decide +kernel
theorem dX5_multiply_5 : decode cX5_multiply 5 = .ok (.getfield 15, 3) := by decide +kernel
theorem dX5_multiply_8 : decode cX5_multiply 8 = .ok (.lmul, 1) := by decide +kernel
theorem dX5_multiply_9 : decode cX5_multiply 9 = .ok (.lstore_n 2, 1) := by decide +kernel
theorem dX5_multiply_10 : decode cX5_multiply 10 = .ok (.aload_n 0, 1) := by decide +kernel
theorem dX5_multiply_11 : decode cX5_multiply 11 = .ok (.getfield 9, 3) := by decide +kernel
theorem dX5_multiply_14 : decode cX5_multiply 14 = .ok (.aload_n 1, 1) := by decide +kernel
theorem dX5_multiply_15 : decode cX5_multiply 15 = .ok (.getfield 15, 3) := by decide +kernel
theorem dX5_multiply_18 : decode cX5_multiply 18 = .ok (.lmul, 1) := by decide +kernel
theorem dX5_multiply_19 : decode cX5_multiply 19 = .ok (.aload_n 0, 1) := by decide +kernel
theorem dX5_multiply_20 : decode cX5_multiply 20 = .ok (.getfield 15, 3) := by decide +kernel
theorem dX5_multiply_23 : decode cX5_multiply 23 = .ok (.aload_n 1, 1) := by decide +kernel
theorem dX5_multiply_24 : decode cX5_multiply 24 = .ok (.getfield 9, 3) := by decide +kernel
theorem dX5_multiply_27 : decode cX5_multiply 27 = .ok (.lmul, 1) := by decide +kernel
theorem dX5_multiply_28 : decode cX5_multiply 28 = .ok (.ladd, 1) := by decide +kernel
theorem dX5_multiply_29 : decode cX5_multiply 29 = .ok (.lload_n 2, 1) := by decide +kernel
theorem dX5_multiply_30 : decode cX5_multiply 30 = .ok (.lsub, 1) := by decide +kernel
theorem dX5_multiply_31 : decode cX5_multiply 31 = .ok (.lstore 4, 2) := by decide +kernel
theorem dX5_multiply_33 : decode cX5_multiply 33 = .ok (.aload_n 0, 1) := by decide +kernel
theorem dX5_multiply_34 : decode cX5_multiply 34 = .ok (.aload_n 0, 1) := by decide +kernel
theorem dX5_multiply_35 : decode cX5_multiply 35 = .ok (.getfield 9, 3) := by decide +kernel
theorem dX5_multiply_38 : decode cX5_multiply 38 = .ok (.aload_n 1, 1) := by decide +kernel
theorem dX5_multiply_39 : decode cX5_multiply 39 = .ok (.getfield 9, 3) := by decide +kernel
theorem dX5_multiply_42 : decode cX5_multiply 42 = .ok (.lmul, 1) := by decide +kernel
theorem dX5_multiply_43 : decode cX5_multiply 43 = .ok (.lload_n 2, 1) := by decide +kernel
theorem dX5_multiply_44 : decode cX5_multiply 44 = .ok (.lsub, 1) := by decide +kernel
theorem dX5_multiply_45 : decode cX5_multiply 45 = .ok (.putfield 9, 3) := by decide +kernel
theorem dX5_multiply_48 : decode cX5_multiply 48 = .ok (.aload_n 0, 1) := by decide +kernel
theorem dX5_multiply_49 : decode cX5_multiply 49 = .ok (.lload 4, 2) := by decide +kernel
theorem dX5_multiply_51 : decode cX5_multiply 51 = .ok (.putfield 15, 3) := by decide +kernel
theorem dX5_multiply_54 : decode cX5_multiply 54 = .ok (.return_, 1) := by decide +kernel
theorem dX5_multiplyByUnit_0 : decode cX5_multiplyByUnit 0 = .ok (.iconst 0, 1) := by decide +kernel
theorem dX5_multiplyByUnit_1 : decode cX5_multiplyByUnit 1 = .ok (.istore_n 2, 1) := by decide +kernel
theorem dX5_multiplyByUnit_2 : decode cX5_multiplyByUnit 2 = .ok (.iload_n 2, 1) := by decide +kernel
theorem dX5_multiplyByUnit_3 : decode cX5_multiplyByUnit 3 = .ok (.iload_n 1, 1) := by decide +kernel
theorem dX5_multiplyByUnit_4 : decode cX5_multiplyByUnit 4 = .ok (.if_icmp .ge 38, 3) := by decide +kernel
theorem dX5_multiplyByUnit_7 : decode cX5_multiplyByUnit 7 = .ok (.iload_n 2, 1) := by decide +kernel
theorem dX5_multiplyByUnit_8 : decode cX5_multiplyByUnit 8 = .ok (.bipush 6, 2) := by decide +kernel
theorem dX5_multiplyByUnit_10 : decode cX5_multiplyByUnit 10 = .ok (.if_icmp .ge 32, 3) := by decide +kernel
theorem dX5_multiplyByUnit_13 : decode cX5_multiplyByUnit 13 = .ok (.aload_n 0, 1) := by decide +kernel
theorem dX5_multiplyByUnit_14 : decode cX5_multiplyByUnit 14 = .ok (.getfield 9, 3) := by decide +kernel
theorem dX5_multiplyByUnit_17 : decode cX5_multiplyByUnit 17 = .ok (.lstore_n 3, 1) := by decide +kernel
theorem dX5_multiplyByUnit_18 : decode cX5_multiplyByUnit 18 = .ok (.aload_n 0, 1) := by decide +kernel
theorem dX5_multiplyByUnit_19 : decode cX5_multiplyByUnit 19 = .ok (.aload_n 0, 1) := by decide +kernel
theorem dX5_multiplyByUnit_20 : decode cX5_multiplyByUnit 20 = .ok (.getfield 9, 3) := by decide +kernel
theorem dX5_multiplyByUnit_23 : decode cX5_multiplyByUnit 23 = .ok (.aload_n 0, 1) := by decide +kernel
theorem dX5_multiplyByUnit_24 : decode cX5_multiplyByUnit 24 = .ok (.getfield 15, 3) := by decide +kernel
theorem dX5_multiplyByUnit_27 : decode cX5_multiplyByUnit 27 = .ok (.lsub, 1) := by decide +kernel
theorem dX5_multiplyByUnit_28 : decode cX5_multiplyByUnit 28 = .ok (.putfield 9, 3) := by decide +kernel
theorem dX5_multiplyByUnit_31 : decode cX5_multiplyByUnit 31 = .ok (.aload_n 0, 1) := by decide +kernel
theorem dX5_multiplyByUnit_32 : decode cX5_multiplyByUnit 32 = .ok (.lload_n 3, 1) := by decide +kernel
theorem dX5_multiplyByUnit_33 : decode cX5_multiplyByUnit 33 = .ok (.putfield 15, 3) := by decide +kernel
theorem dX5_multiplyByUnit_36 : decode cX5_multiplyByUnit 36 = .ok (.iinc 2 1, 3) := by decide +kernel
theorem dX5_multiplyByUnit_39 : decode cX5_multiplyByUnit 39 = .ok (.goto (-37), 3) := by decide +kernel
theorem dX5_multiplyByUnit_42 : decode cX5_multiplyByUnit 42 = .ok (.return_, 1) := by decide +kernel
theorem dX5_norm_0 : decode cX5_norm 0 = .ok (.aload_n 0, 1) := by decide +kernel
theorem dX5_norm_1 : decode cX5_norm 1 = .ok (.getfield 9, 3) := by decide +kernel
theorem dX5_norm_4 : decode cX5_norm 4 = .ok (.aload_n 0, 1) := by decide +kernel
theorem dX5_norm_5 : decode cX5_norm 5 = .ok (.getfield 9, 3) := by decide +kernel
theorem dX5_norm_8 : decode cX5_norm 8 = .ok (.lmul, 1) := by decide +kernel
theorem dX5_norm_9 : decode cX5_norm 9 = .ok (.aload_n 0, 1) := by decide +kernel
theorem dX5_norm_10 : decode cX5_norm 10 = .ok (.getfield 9, 3) := by decide +kernel
theorem dX5_norm_13 : decode cX5_norm 13 = .ok (.aload_n 0, 1) := by decide +kernel
theorem dX5_norm_14 : decode cX5_norm 14 = .ok (.getfield 15, 3) := by decide +kernel
theorem dX5_norm_17 : decode cX5_norm 17 = .ok (.lmul, 1) := by decide +kernel
theorem dX5_norm_18 : decode cX5_norm 18 = .ok (.lsub, 1) := by decide +kernel
theorem dX5_norm_19 : decode cX5_norm 19 = .ok (.aload_n 0, 1) := by decide +kernel
theorem dX5_norm_20 : decode cX5_norm 20 = .ok (.getfield 15, 3) := by decide +kernel
theorem dX5_norm_23 : decode cX5_norm 23 = .ok (.aload_n 0, 1) := by decide +kernel
theorem dX5_norm_24 : decode cX5_norm 24 = .ok (.getfield 15, 3) := by decide +kernel
theorem dX5_norm_27 : decode cX5_norm 27 = .ok (.lmul, 1) := by decide +kernel
theorem dX5_norm_28 : decode cX5_norm 28 = .ok (.ladd, 1) := by decide +kernel
theorem dX5_norm_29 : decode cX5_norm 29 = .ok (.lreturn, 1) := by decide +kernel
theorem dX5_set_0 : decode cX5_set 0 = .ok (.aload_n 0, 1) := by decide +kernel
theorem dX5_set_1 : decode cX5_set 1 = .ok (.lload_n 1, 1) := by decide +kernel
theorem dX5_set_2 : decode cX5_set 2 = .ok (.putfield 9, 3) := by decide +kernel
theorem dX5_set_5 : decode cX5_set 5 = .ok (.aload_n 0, 1) := by decide +kernel
theorem dX5_set_6 : decode cX5_set 6 = .ok (.lload_n 3, 1) := by decide +kernel
theorem dX5_set_7 : decode cX5_set 7 = .ok (.putfield 15, 3) := by decide +kernel
theorem dX5_set_10 : decode cX5_set 10 = .ok (.return_, 1) := by decide +kernel
theorem dX5_subtract_0 : decode cX5_subtract 0 = .ok (.aload_n 0, 1) := by decide +kernel
theorem dX5_subtract_1 : decode cX5_subtract 1 = .ok (.dup, 1) := by decide +kernel
theorem dX5_subtract_2 : decode cX5_subtract 2 = .ok (.getfield 9, 3) := by decide +kernel
theorem dX5_subtract_5 : decode cX5_subtract 5 = .ok (.aload_n 1, 1) := by decide +kernel
theorem dX5_subtract_6 : decode cX5_subtract 6 = .ok (.getfield 9, 3) := by decide +kernel
theorem dX5_subtract_9 : decode cX5_subtract 9 = .ok (.lsub, 1) := by decide +kernel
theorem dX5_subtract_10 : decode cX5_subtract 10 = .ok (.putfield 9, 3) := by decide +kernel
theorem dX5_subtract_13 : decode cX5_subtract 13 = .ok (.aload_n 0, 1) := by decide +kernel
theorem dX5_subtract_14 : decode cX5_subtract 14 = .ok (.dup, 1) := by decide +kernel
theorem dX5_subtract_15 : decode cX5_subtract 15 = .ok (.getfield 15, 3) := by decide +kernel
theorem dX5_subtract_18 : decode cX5_subtract 18 = .ok (.aload_n 1, 1) := by decide +kernel
theorem dX5_subtract_19 : decode cX5_subtract 19 = .ok (.getfield 15, 3) := by decide +kernel
theorem dX5_subtract_22 : decode cX5_subtract 22 = .ok (.lsub, 1) := by decide +kernel
theorem dX5_subtract_23 : decode cX5_subtract 23 = .ok (.putfield 15, 3) := by decide +kernel
theorem dX5_subtract_26 : decode cX5_subtract 26 = .ok (.return_, 1) := by decide +kernel
theorem dX5_takeOutThrees_0 : decode cX5_takeOutThrees 0 = .ok (.iconst 0, 1) := by decide +kernel
theorem dX5_takeOutThrees_1 : decode cX5_takeOutThrees 1 = .ok (.istore_n 1, 1) := by decide +kernel
theorem dX5_takeOutThrees_2 : decode cX5_takeOutThrees 2 = .ok (.iload_n 1, 1) := by decide +kernel
theorem dX5_takeOutThrees_3 : decode cX5_takeOutThrees 3 = .ok (.bipush 60, 2) := by decide +kernel
theorem dX5_takeOutThrees_5 : decode cX5_takeOutThrees 5 = .ok (.if_icmp .ge 57, 3) := by decide +kernel
theorem dX5_takeOutThrees_8 : decode cX5_takeOutThrees 8 = .ok (.aload_n 0, 1) := by decide +kernel
theorem dX5_takeOutThrees_9 : decode cX5_takeOutThrees 9 = .ok (.invokevirtual 58, 3) := by decide +kernel
theorem dX5_takeOutThrees_12 : decode cX5_takeOutThrees 12 = .ok (.ifCond .eq 50, 3) := by decide +kernel
theorem dX5_takeOutThrees_15 : decode cX5_takeOutThrees 15 = .ok (.aload_n 0, 1) := by decide +kernel
theorem dX5_takeOutThrees_16 : decode cX5_takeOutThrees 16 = .ok (.invokevirtual 40, 3) := by decide +kernel
theorem dX5_takeOutThrees_19 : decode cX5_takeOutThrees 19 = .ok (.ifCond .ne 43, 3) := by decide +kernel
theorem dX5_takeOutThrees_22 : decode cX5_takeOutThrees 22 = .ok (.aload_n 0, 1) := by decide +kernel
theorem dX5_takeOutThrees_23 : decode cX5_takeOutThrees 23 = .ok (.ldc2_w 34, 3) := by decide +kernel
theorem dX5_takeOutThrees_26 : decode cX5_takeOutThrees 26 = .ok (.aload_n 0, 1) := by decide +kernel
theorem dX5_takeOutThrees_27 : decode cX5_takeOutThrees 27 = .ok (.getfield 9, 3) := by decide +kernel
theorem dX5_takeOutThrees_30 : decode cX5_takeOutThrees 30 = .ok (.lmul, 1) := by decide +kernel
theorem dX5_takeOutThrees_31 : decode cX5_takeOutThrees 31 = .ok (.aload_n 0, 1) := by decide +kernel
theorem dX5_takeOutThrees_32 : decode cX5_takeOutThrees 32 = .ok (.getfield 15, 3) := by decide +kernel
theorem dX5_takeOutThrees_35 : decode cX5_takeOutThrees 35 = .ok (.lsub, 1) := by decide +kernel
theorem dX5_takeOutThrees_36 : decode cX5_takeOutThrees 36 = .ok (.ldc2_w 26, 3) := by decide +kernel
theorem dX5_takeOutThrees_39 : decode cX5_takeOutThrees 39 = .ok (.ldiv, 1) := by decide +kernel
theorem dX5_takeOutThrees_40 : decode cX5_takeOutThrees 40 = .ok (.aload_n 0, 1) := by decide +kernel
theorem dX5_takeOutThrees_41 : decode cX5_takeOutThrees 41 = .ok (.getfield 9, 3) := by decide +kernel
theorem dX5_takeOutThrees_44 : decode cX5_takeOutThrees 44 = .ok (.aload_n 0, 1) := by decide +kernel
theorem dX5_takeOutThrees_45 : decode cX5_takeOutThrees 45 = .ok (.getfield 15, 3) := by decide +kernel
theorem dX5_takeOutThrees_48 : decode cX5_takeOutThrees 48 = .ok (.ladd, 1) := by decide +kernel
theorem dX5_takeOutThrees_49 : decode cX5_takeOutThrees 49 = .ok (.ldc2_w 26, 3) := by decide +kernel
theorem dX5_takeOutThrees_52 : decode cX5_takeOutThrees 52 = .ok (.ldiv, 1) := by decide +kernel
theorem dX5_takeOutThrees_53 : decode cX5_takeOutThrees 53 = .ok (.invokevirtual 44, 3) := by decide +kernel
theorem dX5_takeOutThrees_56 : decode cX5_takeOutThrees 56 = .ok (.iinc 1 1, 3) := by decide +kernel
theorem dX5_takeOutThrees_59 : decode cX5_takeOutThrees 59 = .ok (.goto (-57), 3) := by decide +kernel
theorem dX5_takeOutThrees_62 : decode cX5_takeOutThrees 62 = .ok (.iload_n 1, 1) := by decide +kernel
theorem dX5_takeOutThrees_63 : decode cX5_takeOutThrees 63 = .ok (.ireturn, 1) := by decide +kernel
theorem dX5_turn_0 : decode cX5_turn 0 = .ok (.aload_n 0, 1) := by decide +kernel
theorem dX5_turn_1 : decode cX5_turn 1 = .ok (.aload_n 0, 1) := by decide +kernel
theorem dX5_turn_2 : decode cX5_turn 2 = .ok (.getfield 9, 3) := by decide +kernel
theorem dX5_turn_5 : decode cX5_turn 5 = .ok (.aload_n 0, 1) := by decide +kernel
theorem dX5_turn_6 : decode cX5_turn 6 = .ok (.getfield 15, 3) := by decide +kernel
theorem dX5_turn_9 : decode cX5_turn 9 = .ok (.lsub, 1) := by decide +kernel
theorem dX5_turn_10 : decode cX5_turn 10 = .ok (.aload_n 0, 1) := by decide +kernel
theorem dX5_turn_11 : decode cX5_turn 11 = .ok (.getfield 15, 3) := by decide +kernel
theorem dX5_turn_14 : decode cX5_turn 14 = .ok (.lneg, 1) := by decide +kernel
theorem dX5_turn_15 : decode cX5_turn 15 = .ok (.invokevirtual 44, 3) := by decide +kernel
theorem dX5_turn_18 : decode cX5_turn 18 = .ok (.return_, 1) := by decide +kernel
theorem dX5_unitNumber_0 : decode cX5_unitNumber 0 = .ok (.aload_n 0, 1) := by decide +kernel
theorem dX5_unitNumber_1 : decode cX5_unitNumber 1 = .ok (.invokevirtual 48, 3) := by decide +kernel
theorem dX5_unitNumber_4 : decode cX5_unitNumber 4 = .ok (.ifCond .ne 5, 3) := by decide +kernel
theorem dX5_unitNumber_7 : decode cX5_unitNumber 7 = .ok (.iconst (-1), 1) := by decide +kernel
theorem dX5_unitNumber_8 : decode cX5_unitNumber 8 = .ok (.ireturn, 1) := by decide +kernel
theorem dX5_unitNumber_9 : decode cX5_unitNumber 9 = .ok (.lconst 1, 1) := by decide +kernel
theorem dX5_unitNumber_10 : decode cX5_unitNumber 10 = .ok (.lstore_n 1, 1) := by decide +kernel
theorem dX5_unitNumber_11 : decode cX5_unitNumber 11 = .ok (.lconst 0, 1) := by decide +kernel
theorem dX5_unitNumber_12 : decode cX5_unitNumber 12 = .ok (.lstore_n 3, 1) := by decide +kernel
theorem dX5_unitNumber_13 : decode cX5_unitNumber 13 = .ok (.iconst 0, 1) := by decide +kernel
theorem dX5_unitNumber_14 : decode cX5_unitNumber 14 = .ok (.istore 5, 2) := by decide +kernel
theorem dX5_unitNumber_16 : decode cX5_unitNumber 16 = .ok (.iload 5, 2) := by decide +kernel
theorem dX5_unitNumber_18 : decode cX5_unitNumber 18 = .ok (.bipush 6, 2) := by decide +kernel
theorem dX5_unitNumber_20 : decode cX5_unitNumber 20 = .ok (.if_icmp .ge 31, 3) := by decide +kernel
theorem dX5_unitNumber_23 : decode cX5_unitNumber 23 = .ok (.aload_n 0, 1) := by decide +kernel
theorem dX5_unitNumber_24 : decode cX5_unitNumber 24 = .ok (.lload_n 1, 1) := by decide +kernel
theorem dX5_unitNumber_25 : decode cX5_unitNumber 25 = .ok (.lload_n 3, 1) := by decide +kernel
theorem dX5_unitNumber_26 : decode cX5_unitNumber 26 = .ok (.invokevirtual 51, 3) := by decide +kernel
theorem dX5_unitNumber_29 : decode cX5_unitNumber 29 = .ok (.ifCond .eq 6, 3) := by decide +kernel
theorem dX5_unitNumber_32 : decode cX5_unitNumber 32 = .ok (.iload 5, 2) := by decide +kernel
theorem dX5_unitNumber_34 : decode cX5_unitNumber 34 = .ok (.ireturn, 1) := by decide +kernel
theorem dX5_unitNumber_35 : decode cX5_unitNumber 35 = .ok (.lload_n 1, 1) := by decide +kernel
theorem dX5_unitNumber_36 : decode cX5_unitNumber 36 = .ok (.lstore 6, 2) := by decide +kernel
theorem dX5_unitNumber_38 : decode cX5_unitNumber 38 = .ok (.lload_n 1, 1) := by decide +kernel
theorem dX5_unitNumber_39 : decode cX5_unitNumber 39 = .ok (.lload_n 3, 1) := by decide +kernel
theorem dX5_unitNumber_40 : decode cX5_unitNumber 40 = .ok (.lsub, 1) := by decide +kernel
theorem dX5_unitNumber_41 : decode cX5_unitNumber 41 = .ok (.lstore_n 1, 1) := by decide +kernel
theorem dX5_unitNumber_42 : decode cX5_unitNumber 42 = .ok (.lload 6, 2) := by decide +kernel
theorem dX5_unitNumber_44 : decode cX5_unitNumber 44 = .ok (.lstore_n 3, 1) := by decide +kernel
theorem dX5_unitNumber_45 : decode cX5_unitNumber 45 = .ok (.iinc 5 1, 3) := by decide +kernel
theorem dX5_unitNumber_48 : decode cX5_unitNumber 48 = .ok (.goto (-32), 3) := by decide +kernel
theorem dX5_unitNumber_51 : decode cX5_unitNumber 51 = .ok (.iconst (-1), 1) := by decide +kernel
theorem dX5_unitNumber_52 : decode cX5_unitNumber 52 = .ok (.ireturn, 1) := by decide +kernel
theorem dX6_add_0 : decode cX6_add 0 = .ok (.aload_n 0, 1) := by decide +kernel
theorem dX6_add_1 : decode cX6_add 1 = .ok (.getfield 43, 3) := by decide +kernel
theorem dX6_add_4 : decode cX6_add 4 = .ok (.ifCond .lt 43, 3) := by decide +kernel
theorem dX6_add_7 : decode cX6_add 7 = .ok (.aload_n 0, 1) := by decide +kernel
theorem dX6_add_8 : decode cX6_add 8 = .ok (.getfield 43, 3) := by decide +kernel
theorem dX6_add_11 : decode cX6_add 11 = .ok (.sipush 320, 3) := by decide +kernel
theorem dX6_add_14 : decode cX6_add 14 = .ok (.if_icmp .ge 33, 3) := by decide +kernel
theorem dX6_add_17 : decode cX6_add 17 = .ok (.aload_n 0, 1) := by decide +kernel
theorem dX6_add_18 : decode cX6_add 18 = .ok (.getfield 11, 3) := by decide +kernel
theorem dX6_add_21 : decode cX6_add 21 = .ok (.aload_n 0, 1) := by decide +kernel
theorem dX6_add_22 : decode cX6_add 22 = .ok (.getfield 43, 3) := by decide +kernel
theorem dX6_add_25 : decode cX6_add 25 = .ok (.iload_n 1, 1) := by decide +kernel
theorem dX6_add_26 : decode cX6_add 26 = .ok (.iastore, 1) := by decide +kernel
theorem dX6_add_27 : decode cX6_add 27 = .ok (.aload_n 0, 1) := by decide +kernel
theorem dX6_add_28 : decode cX6_add 28 = .ok (.getfield 15, 3) := by decide +kernel
theorem dX6_add_31 : decode cX6_add 31 = .ok (.aload_n 0, 1) := by decide +kernel
theorem dX6_add_32 : decode cX6_add 32 = .ok (.getfield 43, 3) := by decide +kernel
theorem dX6_add_35 : decode cX6_add 35 = .ok (.iload_n 2, 1) := by decide +kernel
theorem dX6_add_36 : decode cX6_add 36 = .ok (.iastore, 1) := by decide +kernel
theorem dX6_add_37 : decode cX6_add 37 = .ok (.aload_n 0, 1) := by decide +kernel
theorem dX6_add_38 : decode cX6_add 38 = .ok (.dup, 1) := by decide +kernel
theorem dX6_add_39 : decode cX6_add 39 = .ok (.getfield 43, 3) := by decide +kernel
theorem dX6_add_42 : decode cX6_add 42 = .ok (.iconst 1, 1) := by decide +kernel
theorem dX6_add_43 : decode cX6_add 43 = .ok (.iadd, 1) := by decide +kernel
theorem dX6_add_44 : decode cX6_add 44 = .ok (.putfield 43, 3) := by decide +kernel
theorem dX6_add_47 : decode cX6_add 47 = .ok (.return_, 1) := by decide +kernel
theorem dX6_find_0 : decode cX6_find 0 = .ok (.aload_n 0, 1) := by decide +kernel
theorem dX6_find_1 : decode cX6_find 1 = .ok (.getfield 43, 3) := by decide +kernel
theorem dX6_find_4 : decode cX6_find 4 = .ok (.ifCond .le 4, 3) := by decide +kernel
theorem dX6_find_7 : decode cX6_find 7 = .ok (.return_, 1) := by decide +kernel
theorem dX6_find_8 : decode cX6_find 8 = .ok (.iconst 0, 1) := by decide +kernel
theorem dX6_find_9 : decode cX6_find 9 = .ok (.istore_n 1, 1) := by decide +kernel
theorem dX6_find_10 : decode cX6_find 10 = .ok (.iconst 4, 1) := by decide +kernel
theorem dX6_find_11 : decode cX6_find 11 = .ok (.istore_n 2, 1) := by decide +kernel
theorem dX6_find_12 : decode cX6_find 12 = .ok (.iload_n 2, 1) := by decide +kernel
theorem dX6_find_13 : decode cX6_find 13 = .ok (.sipush 2000, 3) := by decide +kernel
theorem dX6_find_16 : decode cX6_find 16 = .ok (.if_icmp .gt 116, 3) := by decide +kernel
theorem dX6_find_19 : decode cX6_find 19 = .ok (.iload_n 2, 1) := by decide +kernel
theorem dX6_find_20 : decode cX6_find 20 = .ok (.iload_n 1, 1) := by decide +kernel
theorem dX6_find_21 : decode cX6_find 21 = .ok (.invokestatic 31, 3) := by decide +kernel
theorem dX6_find_24 : decode cX6_find 24 = .ok (.istore_n 1, 1) := by decide +kernel
theorem dX6_find_25 : decode cX6_find 25 = .ok (.iload_n 2, 1) := by decide +kernel
theorem dX6_find_26 : decode cX6_find 26 = .ok (.iconst 3, 1) := by decide +kernel
theorem dX6_find_27 : decode cX6_find 27 = .ok (.irem, 1) := by decide +kernel
theorem dX6_find_28 : decode cX6_find 28 = .ok (.iconst 1, 1) := by decide +kernel
theorem dX6_find_29 : decode cX6_find 29 = .ok (.if_icmp .ne 70, 3) := by decide +kernel
theorem dX6_find_32 : decode cX6_find 32 = .ok (.iload_n 2, 1) := by decide +kernel
theorem dX6_find_33 : decode cX6_find 33 = .ok (.invokestatic 25, 3) := by decide +kernel
theorem dX6_find_36 : decode cX6_find 36 = .ok (.ifCond .eq 63, 3) := by decide +kernel
theorem dX6_find_39 : decode cX6_find 39 = .ok (.iload_n 2, 1) := by decide +kernel
theorem dX6_find_40 : decode cX6_find 40 = .ok (.aload_n 0, 1) := by decide +kernel
theorem dX6_find_41 : decode cX6_find 41 = .ok (.getfield 21, 3) := by decide +kernel
theorem dX6_find_44 : decode cX6_find 44 = .ok (.invokestatic 47, 3) := by decide +kernel
theorem dX6_find_47 : decode cX6_find 47 = .ok (.aload_n 0, 1) := by decide +kernel
theorem dX6_find_48 : decode cX6_find 48 = .ok (.aload_n 0, 1) := by decide +kernel
theorem dX6_find_49 : decode cX6_find 49 = .ok (.getfield 21, 3) := by decide +kernel
theorem dX6_find_52 : decode cX6_find 52 = .ok (.getfield 51, 3) := by decide +kernel
theorem dX6_find_55 : decode cX6_find 55 = .ok (.aload_n 0, 1) := by decide +kernel
theorem dX6_find_56 : decode cX6_find 56 = .ok (.getfield 21, 3) := by decide +kernel
theorem dX6_find_59 : decode cX6_find 59 = .ok (.getfield 55, 3) := by decide +kernel
theorem dX6_find_62 : decode cX6_find 62 = .ok (.lsub, 1) := by decide +kernel
theorem dX6_find_63 : decode cX6_find 63 = .ok (.l2i, 1) := by decide +kernel
theorem dX6_find_64 : decode cX6_find 64 = .ok (.aload_n 0, 1) := by decide +kernel
theorem dX6_find_65 : decode cX6_find 65 = .ok (.getfield 21, 3) := by decide +kernel
theorem dX6_find_68 : decode cX6_find 68 = .ok (.getfield 55, 3) := by decide +kernel
theorem dX6_find_71 : decode cX6_find 71 = .ok (.lneg, 1) := by decide +kernel
theorem dX6_find_72 : decode cX6_find 72 = .ok (.l2i, 1) := by decide +kernel
theorem dX6_find_73 : decode cX6_find 73 = .ok (.invokevirtual 58, 3) := by decide +kernel
theorem dX6_find_76 : decode cX6_find 76 = .ok (.aload_n 0, 1) := by decide +kernel
theorem dX6_find_77 : decode cX6_find 77 = .ok (.aload_n 0, 1) := by decide +kernel
theorem dX6_find_78 : decode cX6_find 78 = .ok (.getfield 21, 3) := by decide +kernel
theorem dX6_find_81 : decode cX6_find 81 = .ok (.getfield 51, 3) := by decide +kernel
theorem dX6_find_84 : decode cX6_find 84 = .ok (.l2i, 1) := by decide +kernel
theorem dX6_find_85 : decode cX6_find 85 = .ok (.aload_n 0, 1) := by decide +kernel
theorem dX6_find_86 : decode cX6_find 86 = .ok (.getfield 21, 3) := by decide +kernel
theorem dX6_find_89 : decode cX6_find 89 = .ok (.getfield 55, 3) := by decide +kernel
theorem dX6_find_92 : decode cX6_find 92 = .ok (.l2i, 1) := by decide +kernel
theorem dX6_find_93 : decode cX6_find 93 = .ok (.invokevirtual 58, 3) := by decide +kernel
theorem dX6_find_96 : decode cX6_find 96 = .ok (.goto 30, 3) := by decide +kernel
theorem dX6_find_99 : decode cX6_find 99 = .ok (.iload_n 1, 1) := by decide +kernel
theorem dX6_find_100 : decode cX6_find 100 = .ok (.iload_n 1, 1) := by decide +kernel
theorem dX6_find_101 : decode cX6_find 101 = .ok (.imul, 1) := by decide +kernel
theorem dX6_find_102 : decode cX6_find 102 = .ok (.iload_n 2, 1) := by decide +kernel
theorem dX6_find_103 : decode cX6_find 103 = .ok (.if_icmp .ne 23, 3) := by decide +kernel
theorem dX6_find_106 : decode cX6_find 106 = .ok (.iload_n 1, 1) := by decide +kernel
theorem dX6_find_107 : decode cX6_find 107 = .ok (.iconst 3, 1) := by decide +kernel
theorem dX6_find_108 : decode cX6_find 108 = .ok (.irem, 1) := by decide +kernel
theorem dX6_find_109 : decode cX6_find 109 = .ok (.iconst 2, 1) := by decide +kernel
theorem dX6_find_110 : decode cX6_find 110 = .ok (.if_icmp .ne 16, 3) := by decide +kernel
theorem dX6_find_113 : decode cX6_find 113 = .ok (.iload_n 1, 1) := by decide +kernel
theorem dX6_find_114 : decode cX6_find 114 = .ok (.invokestatic 25, 3) := by decide +kernel
theorem dX6_find_117 : decode cX6_find 117 = .ok (.ifCond .eq 9, 3) := by decide +kernel
theorem dX6_find_120 : decode cX6_find 120 = .ok (.aload_n 0, 1) := by decide +kernel
theorem dX6_find_121 : decode cX6_find 121 = .ok (.iload_n 1, 1) := by decide +kernel
theorem dX6_find_122 : decode cX6_find 122 = .ok (.iconst 0, 1) := by decide +kernel
theorem dX6_find_123 : decode cX6_find 123 = .ok (.invokevirtual 58, 3) := by decide +kernel
theorem dX6_find_126 : decode cX6_find 126 = .ok (.iinc 2 1, 3) := by decide +kernel
theorem dX6_find_129 : decode cX6_find 129 = .ok (.goto (-117), 3) := by decide +kernel
theorem dX6_find_132 : decode cX6_find 132 = .ok (.return_, 1) := by decide +kernel
theorem dX6_isThird_0 : decode cX6_isThird 0 = .ok (.iload_n 0, 1) := by decide +kernel
theorem dX6_isThird_1 : decode cX6_isThird 1 = .ok (.bipush 7, 2) := by decide +kernel
theorem dX6_isThird_3 : decode cX6_isThird 3 = .ok (.if_icmp .lt 28, 3) := by decide +kernel
theorem dX6_isThird_6 : decode cX6_isThird 6 = .ok (.iload_n 0, 1) := by decide +kernel
theorem dX6_isThird_7 : decode cX6_isThird 7 = .ok (.sipush 997, 3) := by decide +kernel
theorem dX6_isThird_10 : decode cX6_isThird 10 = .ok (.if_icmp .gt 21, 3) := by decide +kernel
theorem dX6_isThird_13 : decode cX6_isThird 13 = .ok (.iload_n 0, 1) := by decide +kernel
theorem dX6_isThird_14 : decode cX6_isThird 14 = .ok (.iconst 3, 1) := by decide +kernel
theorem dX6_isThird_15 : decode cX6_isThird 15 = .ok (.irem, 1) := by decide +kernel
theorem dX6_isThird_16 : decode cX6_isThird 16 = .ok (.iconst 1, 1) := by decide +kernel
theorem dX6_isThird_17 : decode cX6_isThird 17 = .ok (.if_icmp .ne 14, 3) := by decide +kernel
theorem dX6_isThird_20 : decode cX6_isThird 20 = .ok (.iload_n 0, 1) := by decide +kernel
theorem dX6_isThird_21 : decode cX6_isThird 21 = .ok (.invokestatic 25, 3) := by decide +kernel
theorem dX6_isThird_24 : decode cX6_isThird 24 = .ok (.ifCond .eq 7, 3) := by decide +kernel
theorem dX6_isThird_27 : decode cX6_isThird 27 = .ok (.iconst 1, 1) := by decide +kernel
theorem dX6_isThird_28 : decode cX6_isThird 28 = .ok (.goto 4, 3) := by decide +kernel
theorem dX6_isThird_31 : decode cX6_isThird 31 = .ok (.iconst 0, 1) := by decide +kernel
theorem dX6_isThird_32 : decode cX6_isThird 32 = .ok (.ireturn, 1) := by decide +kernel
theorem dX6_load_0 : decode cX6_load 0 = .ok (.iload_n 1, 1) := by decide +kernel
theorem dX6_load_1 : decode cX6_load 1 = .ok (.ifCond .lt 36, 3) := by decide +kernel
theorem dX6_load_4 : decode cX6_load 4 = .ok (.iload_n 1, 1) := by decide +kernel
theorem dX6_load_5 : decode cX6_load 5 = .ok (.aload_n 0, 1) := by decide +kernel
theorem dX6_load_6 : decode cX6_load 6 = .ok (.getfield 43, 3) := by decide +kernel
theorem dX6_load_9 : decode cX6_load 9 = .ok (.if_icmp .ge 28, 3) := by decide +kernel
theorem dX6_load_12 : decode cX6_load 12 = .ok (.iload_n 1, 1) := by decide +kernel
theorem dX6_load_13 : decode cX6_load 13 = .ok (.sipush 320, 3) := by decide +kernel
theorem dX6_load_16 : decode cX6_load 16 = .ok (.if_icmp .ge 21, 3) := by decide +kernel
theorem dX6_load_19 : decode cX6_load 19 = .ok (.aload_n 2, 1) := by decide +kernel
theorem dX6_load_20 : decode cX6_load 20 = .ok (.aload_n 0, 1) := by decide +kernel
theorem dX6_load_21 : decode cX6_load 21 = .ok (.getfield 11, 3) := by decide +kernel
theorem dX6_load_24 : decode cX6_load 24 = .ok (.iload_n 1, 1) := by decide +kernel
theorem dX6_load_25 : decode cX6_load 25 = .ok (.iaload, 1) := by decide +kernel
theorem dX6_load_26 : decode cX6_load 26 = .ok (.i2l, 1) := by decide +kernel
theorem dX6_load_27 : decode cX6_load 27 = .ok (.aload_n 0, 1) := by decide +kernel
theorem dX6_load_28 : decode cX6_load 28 = .ok (.getfield 15, 3) := by decide +kernel
theorem dX6_load_31 : decode cX6_load 31 = .ok (.iload_n 1, 1) := by decide +kernel
theorem dX6_load_32 : decode cX6_load 32 = .ok (.iaload, 1) := by decide +kernel
theorem dX6_load_33 : decode cX6_load 33 = .ok (.i2l, 1) := by decide +kernel
theorem dX6_load_34 : decode cX6_load 34 = .ok (.invokevirtual 35, 3) := by decide +kernel
theorem dX6_load_37 : decode cX6_load 37 = .ok (.return_, 1) := by decide +kernel
theorem dX6_splitInto_0 : decode cX6_splitInto 0 = .ok (.iconst 0, 1) := by decide +kernel
theorem dX6_splitInto_1 : decode cX6_splitInto 1 = .ok (.istore_n 2, 1) := by decide +kernel
theorem dX6_splitInto_2 : decode cX6_splitInto 2 = .ok (.iconst 3, 1) := by decide +kernel
theorem dX6_splitInto_3 : decode cX6_splitInto 3 = .ok (.istore_n 3, 1) := by decide +kernel
theorem dX6_splitInto_4 : decode cX6_splitInto 4 = .ok (.iload_n 3, 1) := by decide +kernel
theorem dX6_splitInto_5 : decode cX6_splitInto 5 = .ok (.sipush 200, 3) := by decide +kernel
theorem dX6_splitInto_8 : decode cX6_splitInto 8 = .ok (.if_icmp .ge 78, 3) := by decide +kernel
theorem dX6_splitInto_11 : decode cX6_splitInto 11 = .ok (.iconst 3, 1) := by decide +kernel
theorem dX6_splitInto_12 : decode cX6_splitInto 12 = .ok (.iload_n 3, 1) := by decide +kernel
theorem dX6_splitInto_13 : decode cX6_splitInto 13 = .ok (.imul, 1) := by decide +kernel
theorem dX6_splitInto_14 : decode cX6_splitInto 14 = .ok (.iload_n 3, 1) := by decide +kernel
theorem dX6_splitInto_15 : decode cX6_splitInto 15 = .ok (.imul, 1) := by decide +kernel
theorem dX6_splitInto_16 : decode cX6_splitInto 16 = .ok (.iconst 4, 1) := by decide +kernel
theorem dX6_splitInto_17 : decode cX6_splitInto 17 = .ok (.iload_n 0, 1) := by decide +kernel
theorem dX6_splitInto_18 : decode cX6_splitInto 18 = .ok (.imul, 1) := by decide +kernel
theorem dX6_splitInto_19 : decode cX6_splitInto 19 = .ok (.if_icmp .gt 67, 3) := by decide +kernel
theorem dX6_splitInto_22 : decode cX6_splitInto 22 = .ok (.iconst 4, 1) := by decide +kernel
theorem dX6_splitInto_23 : decode cX6_splitInto 23 = .ok (.iload_n 0, 1) := by decide +kernel
theorem dX6_splitInto_24 : decode cX6_splitInto 24 = .ok (.imul, 1) := by decide +kernel
theorem dX6_splitInto_25 : decode cX6_splitInto 25 = .ok (.iconst 3, 1) := by decide +kernel
theorem dX6_splitInto_26 : decode cX6_splitInto 26 = .ok (.iload_n 3, 1) := by decide +kernel
theorem dX6_splitInto_27 : decode cX6_splitInto 27 = .ok (.imul, 1) := by decide +kernel
theorem dX6_splitInto_28 : decode cX6_splitInto 28 = .ok (.iload_n 3, 1) := by decide +kernel
theorem dX6_splitInto_29 : decode cX6_splitInto 29 = .ok (.imul, 1) := by decide +kernel
theorem dX6_splitInto_30 : decode cX6_splitInto 30 = .ok (.isub, 1) := by decide +kernel
theorem dX6_splitInto_31 : decode cX6_splitInto 31 = .ok (.istore 4, 2) := by decide +kernel
theorem dX6_splitInto_33 : decode cX6_splitInto 33 = .ok (.iload 4, 2) := by decide +kernel
theorem dX6_splitInto_35 : decode cX6_splitInto 35 = .ok (.iload_n 2, 1) := by decide +kernel
theorem dX6_splitInto_36 : decode cX6_splitInto 36 = .ok (.invokestatic 31, 3) := by decide +kernel
theorem dX6_splitInto_39 : decode cX6_splitInto 39 = .ok (.istore_n 2, 1) := by decide +kernel
theorem dX6_splitInto_40 : decode cX6_splitInto 40 = .ok (.iload_n 2, 1) := by decide +kernel
theorem dX6_splitInto_41 : decode cX6_splitInto 41 = .ok (.iload_n 2, 1) := by decide +kernel
theorem dX6_splitInto_42 : decode cX6_splitInto 42 = .ok (.imul, 1) := by decide +kernel
theorem dX6_splitInto_43 : decode cX6_splitInto 43 = .ok (.iload 4, 2) := by decide +kernel
theorem dX6_splitInto_45 : decode cX6_splitInto 45 = .ok (.if_icmp .ne 35, 3) := by decide +kernel
theorem dX6_splitInto_48 : decode cX6_splitInto 48 = .ok (.aload_n 1, 1) := by decide +kernel
theorem dX6_splitInto_49 : decode cX6_splitInto 49 = .ok (.iload_n 3, 1) := by decide +kernel
theorem dX6_splitInto_50 : decode cX6_splitInto 50 = .ok (.iload_n 2, 1) := by decide +kernel
theorem dX6_splitInto_51 : decode cX6_splitInto 51 = .ok (.iadd, 1) := by decide +kernel
theorem dX6_splitInto_52 : decode cX6_splitInto 52 = .ok (.iconst 2, 1) := by decide +kernel
theorem dX6_splitInto_53 : decode cX6_splitInto 53 = .ok (.idiv, 1) := by decide +kernel
theorem dX6_splitInto_54 : decode cX6_splitInto 54 = .ok (.i2l, 1) := by decide +kernel
theorem dX6_splitInto_55 : decode cX6_splitInto 55 = .ok (.iload_n 3, 1) := by decide +kernel
theorem dX6_splitInto_56 : decode cX6_splitInto 56 = .ok (.i2l, 1) := by decide +kernel
theorem dX6_splitInto_57 : decode cX6_splitInto 57 = .ok (.invokevirtual 35, 3) := by decide +kernel
theorem dX6_splitInto_60 : decode cX6_splitInto 60 = .ok (.aload_n 1, 1) := by decide +kernel
theorem dX6_splitInto_61 : decode cX6_splitInto 61 = .ok (.invokevirtual 39, 3) := by decide +kernel
theorem dX6_splitInto_64 : decode cX6_splitInto 64 = .ok (.ifCond .ne 15, 3) := by decide +kernel
theorem dX6_splitInto_67 : decode cX6_splitInto 67 = .ok (.aload_n 1, 1) := by decide +kernel
theorem dX6_splitInto_68 : decode cX6_splitInto 68 = .ok (.iload_n 3, 1) := by decide +kernel
theorem dX6_splitInto_69 : decode cX6_splitInto 69 = .ok (.iload_n 2, 1) := by decide +kernel
theorem dX6_splitInto_70 : decode cX6_splitInto 70 = .ok (.isub, 1) := by decide +kernel
theorem dX6_splitInto_71 : decode cX6_splitInto 71 = .ok (.iconst 2, 1) := by decide +kernel
theorem dX6_splitInto_72 : decode cX6_splitInto 72 = .ok (.idiv, 1) := by decide +kernel
theorem dX6_splitInto_73 : decode cX6_splitInto 73 = .ok (.i2l, 1) := by decide +kernel
theorem dX6_splitInto_74 : decode cX6_splitInto 74 = .ok (.iload_n 3, 1) := by decide +kernel
theorem dX6_splitInto_75 : decode cX6_splitInto 75 = .ok (.i2l, 1) := by decide +kernel
theorem dX6_splitInto_76 : decode cX6_splitInto 76 = .ok (.invokevirtual 35, 3) := by decide +kernel
theorem dX6_splitInto_79 : decode cX6_splitInto 79 = .ok (.return_, 1) := by decide +kernel
theorem dX6_splitInto_80 : decode cX6_splitInto 80 = .ok (.iinc 3 3, 3) := by decide +kernel
theorem dX6_splitInto_83 : decode cX6_splitInto 83 = .ok (.goto (-79), 3) := by decide +kernel
theorem dX6_splitInto_86 : decode cX6_splitInto 86 = .ok (.return_, 1) := by decide +kernel
theorem dX7_fillDisk_0 : decode cX7_fillDisk 0 = .ok (.aload_n 0, 1) := by decide +kernel
theorem dX7_fillDisk_1 : decode cX7_fillDisk 1 = .ok (.iconst 0, 1) := by decide +kernel
theorem dX7_fillDisk_2 : decode cX7_fillDisk 2 = .ok (.putfield 31, 3) := by decide +kernel
theorem dX7_fillDisk_5 : decode cX7_fillDisk 5 = .ok (.aload_n 0, 1) := by decide +kernel
theorem dX7_fillDisk_6 : decode cX7_fillDisk 6 = .ok (.iconst 0, 1) := by decide +kernel
theorem dX7_fillDisk_7 : decode cX7_fillDisk 7 = .ok (.putfield 34, 3) := by decide +kernel
theorem dX7_fillDisk_10 : decode cX7_fillDisk 10 = .ok (.iconst 4, 1) := by decide +kernel
theorem dX7_fillDisk_11 : decode cX7_fillDisk 11 = .ok (.iload_n 1, 1) := by decide +kernel
theorem dX7_fillDisk_12 : decode cX7_fillDisk 12 = .ok (.imul, 1) := by decide +kernel
theorem dX7_fillDisk_13 : decode cX7_fillDisk 13 = .ok (.iconst 3, 1) := by decide +kernel
theorem dX7_fillDisk_14 : decode cX7_fillDisk 14 = .ok (.idiv, 1) := by decide +kernel
theorem dX7_fillDisk_15 : decode cX7_fillDisk 15 = .ok (.iconst 0, 1) := by decide +kernel
theorem dX7_fillDisk_16 : decode cX7_fillDisk 16 = .ok (.invokestatic 7, 3) := by decide +kernel
theorem dX7_fillDisk_19 : decode cX7_fillDisk 19 = .ok (.istore_n 2, 1) := by decide +kernel
theorem dX7_fillDisk_20 : decode cX7_fillDisk 20 = .ok (.iconst 0, 1) := by decide +kernel
theorem dX7_fillDisk_21 : decode cX7_fillDisk 21 = .ok (.istore_n 3, 1) := by decide +kernel
theorem dX7_fillDisk_22 : decode cX7_fillDisk 22 = .ok (.iload_n 2, 1) := by decide +kernel
theorem dX7_fillDisk_23 : decode cX7_fillDisk 23 = .ok (.ineg, 1) := by decide +kernel
theorem dX7_fillDisk_24 : decode cX7_fillDisk 24 = .ok (.istore 4, 2) := by decide +kernel
theorem dX7_fillDisk_26 : decode cX7_fillDisk 26 = .ok (.iload 4, 2) := by decide +kernel
theorem dX7_fillDisk_28 : decode cX7_fillDisk 28 = .ok (.iload_n 2, 1) := by decide +kernel
theorem dX7_fillDisk_29 : decode cX7_fillDisk 29 = .ok (.if_icmp .gt 67, 3) := by decide +kernel
theorem dX7_fillDisk_32 : decode cX7_fillDisk 32 = .ok (.iconst 4, 1) := by decide +kernel
theorem dX7_fillDisk_33 : decode cX7_fillDisk 33 = .ok (.iload_n 1, 1) := by decide +kernel
theorem dX7_fillDisk_34 : decode cX7_fillDisk 34 = .ok (.imul, 1) := by decide +kernel
theorem dX7_fillDisk_35 : decode cX7_fillDisk 35 = .ok (.iconst 3, 1) := by decide +kernel
theorem dX7_fillDisk_36 : decode cX7_fillDisk 36 = .ok (.iload 4, 2) := by decide +kernel
theorem dX7_fillDisk_38 : decode cX7_fillDisk 38 = .ok (.imul, 1) := by decide +kernel
theorem dX7_fillDisk_39 : decode cX7_fillDisk 39 = .ok (.iload 4, 2) := by decide +kernel
theorem dX7_fillDisk_41 : decode cX7_fillDisk 41 = .ok (.imul, 1) := by decide +kernel
theorem dX7_fillDisk_42 : decode cX7_fillDisk 42 = .ok (.isub, 1) := by decide +kernel
theorem dX7_fillDisk_43 : decode cX7_fillDisk 43 = .ok (.iload_n 3, 1) := by decide +kernel
theorem dX7_fillDisk_44 : decode cX7_fillDisk 44 = .ok (.invokestatic 7, 3) := by decide +kernel
theorem dX7_fillDisk_47 : decode cX7_fillDisk 47 = .ok (.istore_n 3, 1) := by decide +kernel
theorem dX7_fillDisk_48 : decode cX7_fillDisk 48 = .ok (.iload_n 3, 1) := by decide +kernel
theorem dX7_fillDisk_49 : decode cX7_fillDisk 49 = .ok (.iload 4, 2) := by decide +kernel
theorem dX7_fillDisk_51 : decode cX7_fillDisk 51 = .ok (.iadd, 1) := by decide +kernel
theorem dX7_fillDisk_52 : decode cX7_fillDisk 52 = .ok (.iconst 2, 1) := by decide +kernel
theorem dX7_fillDisk_53 : decode cX7_fillDisk 53 = .ok (.irem, 1) := by decide +kernel
theorem dX7_fillDisk_54 : decode cX7_fillDisk 54 = .ok (.ifCond .ne 9, 3) := by decide +kernel
theorem dX7_fillDisk_57 : decode cX7_fillDisk 57 = .ok (.iload_n 3, 1) := by decide +kernel
theorem dX7_fillDisk_58 : decode cX7_fillDisk 58 = .ok (.iconst 1, 1) := by decide +kernel
theorem dX7_fillDisk_59 : decode cX7_fillDisk 59 = .ok (.iadd, 1) := by decide +kernel
theorem dX7_fillDisk_60 : decode cX7_fillDisk 60 = .ok (.goto 4, 3) := by decide +kernel
theorem dX7_fillDisk_63 : decode cX7_fillDisk 63 = .ok (.iload_n 3, 1) := by decide +kernel
theorem dX7_fillDisk_64 : decode cX7_fillDisk 64 = .ok (.istore 5, 2) := by decide +kernel
theorem dX7_fillDisk_66 : decode cX7_fillDisk 66 = .ok (.aload_n 0, 1) := by decide +kernel
theorem dX7_fillDisk_67 : decode cX7_fillDisk 67 = .ok (.dup, 1) := by decide +kernel
theorem dX7_fillDisk_68 : decode cX7_fillDisk 68 = .ok (.getfield 31, 3) := by decide +kernel
theorem dX7_fillDisk_71 : decode cX7_fillDisk 71 = .ok (.iload 5, 2) := by decide +kernel
theorem dX7_fillDisk_73 : decode cX7_fillDisk 73 = .ok (.iadd, 1) := by decide +kernel
theorem dX7_fillDisk_74 : decode cX7_fillDisk 74 = .ok (.putfield 31, 3) := by decide +kernel
theorem dX7_fillDisk_77 : decode cX7_fillDisk 77 = .ok (.aload_n 0, 1) := by decide +kernel
theorem dX7_fillDisk_78 : decode cX7_fillDisk 78 = .ok (.aload_n 0, 1) := by decide +kernel
theorem dX7_fillDisk_79 : decode cX7_fillDisk 79 = .ok (.getfield 34, 3) := by decide +kernel
theorem dX7_fillDisk_82 : decode cX7_fillDisk 82 = .ok (.iload 5, 2) := by decide +kernel
theorem dX7_fillDisk_84 : decode cX7_fillDisk 84 = .ok (.invokestatic 37, 3) := by decide +kernel
theorem dX7_fillDisk_87 : decode cX7_fillDisk 87 = .ok (.putfield 34, 3) := by decide +kernel
theorem dX7_fillDisk_90 : decode cX7_fillDisk 90 = .ok (.iinc 4 1, 3) := by decide +kernel
theorem dX7_fillDisk_93 : decode cX7_fillDisk 93 = .ok (.goto (-67), 3) := by decide +kernel
theorem dX7_fillDisk_96 : decode cX7_fillDisk 96 = .ok (.return_, 1) := by decide +kernel
theorem dX7_isWanted_0 : decode cX7_isWanted 0 = .ok (.iload_n 2, 1) := by decide +kernel
theorem dX7_isWanted_1 : decode cX7_isWanted 1 = .ok (.lookupswitch 43 #[(0, 27), (1, 29)], 27) := by decide +kernel
theorem dX7_isWanted_28 : decode cX7_isWanted 28 = .ok (.iconst 1, 1) := by decide +kernel
theorem dX7_isWanted_29 : decode cX7_isWanted 29 = .ok (.ireturn, 1) := by decide +kernel
theorem dX7_isWanted_30 : decode cX7_isWanted 30 = .ok (.iload_n 0, 1) := by decide +kernel
theorem dX7_isWanted_31 : decode cX7_isWanted 31 = .ok (.ifCond .le 11, 3) := by decide +kernel
theorem dX7_isWanted_34 : decode cX7_isWanted 34 = .ok (.iload_n 1, 1) := by decide +kernel
theorem dX7_isWanted_35 : decode cX7_isWanted 35 = .ok (.ifCond .lt 7, 3) := by decide +kernel
theorem dX7_isWanted_38 : decode cX7_isWanted 38 = .ok (.iconst 1, 1) := by decide +kernel
theorem dX7_isWanted_39 : decode cX7_isWanted 39 = .ok (.goto 4, 3) := by decide +kernel
theorem dX7_isWanted_42 : decode cX7_isWanted 42 = .ok (.iconst 0, 1) := by decide +kernel
theorem dX7_isWanted_43 : decode cX7_isWanted 43 = .ok (.ireturn, 1) := by decide +kernel
theorem dX7_isWanted_44 : decode cX7_isWanted 44 = .ok (.iload_n 0, 1) := by decide +kernel
theorem dX7_isWanted_45 : decode cX7_isWanted 45 = .ok (.iconst 3, 1) := by decide +kernel
theorem dX7_isWanted_46 : decode cX7_isWanted 46 = .ok (.invokestatic 26, 3) := by decide +kernel
theorem dX7_isWanted_49 : decode cX7_isWanted 49 = .ok (.iconst 2, 1) := by decide +kernel
theorem dX7_isWanted_50 : decode cX7_isWanted 50 = .ok (.if_icmp .ne 13, 3) := by decide +kernel
theorem dX7_isWanted_53 : decode cX7_isWanted 53 = .ok (.iload_n 1, 1) := by decide +kernel
theorem dX7_isWanted_54 : decode cX7_isWanted 54 = .ok (.iconst 3, 1) := by decide +kernel
theorem dX7_isWanted_55 : decode cX7_isWanted 55 = .ok (.irem, 1) := by decide +kernel
theorem dX7_isWanted_56 : decode cX7_isWanted 56 = .ok (.ifCond .ne 7, 3) := by decide +kernel
theorem dX7_isWanted_59 : decode cX7_isWanted 59 = .ok (.iconst 1, 1) := by decide +kernel
theorem dX7_isWanted_60 : decode cX7_isWanted 60 = .ok (.goto 4, 3) := by decide +kernel
theorem dX7_isWanted_63 : decode cX7_isWanted 63 = .ok (.iconst 0, 1) := by decide +kernel
theorem dX7_isWanted_64 : decode cX7_isWanted 64 = .ok (.ireturn, 1) := by decide +kernel
theorem dX7_seek_0 : decode cX7_seek 0 = .ok (.iconst 0, 1) := by decide +kernel
theorem dX7_seek_1 : decode cX7_seek 1 = .ok (.istore 4, 2) := by decide +kernel
theorem dX7_seek_3 : decode cX7_seek 3 = .ok (.iconst 4, 1) := by decide +kernel
theorem dX7_seek_4 : decode cX7_seek 4 = .ok (.iload_n 1, 1) := by decide +kernel
theorem dX7_seek_5 : decode cX7_seek 5 = .ok (.imul, 1) := by decide +kernel
theorem dX7_seek_6 : decode cX7_seek 6 = .ok (.iconst 3, 1) := by decide +kernel
theorem dX7_seek_7 : decode cX7_seek 7 = .ok (.idiv, 1) := by decide +kernel
theorem dX7_seek_8 : decode cX7_seek 8 = .ok (.iconst 0, 1) := by decide +kernel
theorem dX7_seek_9 : decode cX7_seek 9 = .ok (.invokestatic 7, 3) := by decide +kernel
theorem dX7_seek_12 : decode cX7_seek 12 = .ok (.istore 5, 2) := by decide +kernel
theorem dX7_seek_14 : decode cX7_seek 14 = .ok (.iconst 0, 1) := by decide +kernel
theorem dX7_seek_15 : decode cX7_seek 15 = .ok (.istore 6, 2) := by decide +kernel
theorem dX7_seek_17 : decode cX7_seek 17 = .ok (.iload 5, 2) := by decide +kernel
theorem dX7_seek_19 : decode cX7_seek 19 = .ok (.ineg, 1) := by decide +kernel
theorem dX7_seek_20 : decode cX7_seek 20 = .ok (.istore 7, 2) := by decide +kernel
theorem dX7_seek_22 : decode cX7_seek 22 = .ok (.iload 7, 2) := by decide +kernel
theorem dX7_seek_24 : decode cX7_seek 24 = .ok (.iload 5, 2) := by decide +kernel
theorem dX7_seek_26 : decode cX7_seek 26 = .ok (.if_icmp .gt 117, 3) := by decide +kernel
theorem dX7_seek_29 : decode cX7_seek 29 = .ok (.iconst 4, 1) := by decide +kernel
theorem dX7_seek_30 : decode cX7_seek 30 = .ok (.iload_n 1, 1) := by decide +kernel
theorem dX7_seek_31 : decode cX7_seek 31 = .ok (.imul, 1) := by decide +kernel
theorem dX7_seek_32 : decode cX7_seek 32 = .ok (.iconst 3, 1) := by decide +kernel
theorem dX7_seek_33 : decode cX7_seek 33 = .ok (.iload 7, 2) := by decide +kernel
theorem dX7_seek_35 : decode cX7_seek 35 = .ok (.imul, 1) := by decide +kernel
theorem dX7_seek_36 : decode cX7_seek 36 = .ok (.iload 7, 2) := by decide +kernel
theorem dX7_seek_38 : decode cX7_seek 38 = .ok (.imul, 1) := by decide +kernel
theorem dX7_seek_39 : decode cX7_seek 39 = .ok (.isub, 1) := by decide +kernel
theorem dX7_seek_40 : decode cX7_seek 40 = .ok (.istore 8, 2) := by decide +kernel
theorem dX7_seek_42 : decode cX7_seek 42 = .ok (.iload 8, 2) := by decide +kernel
theorem dX7_seek_44 : decode cX7_seek 44 = .ok (.iload 6, 2) := by decide +kernel
theorem dX7_seek_46 : decode cX7_seek 46 = .ok (.invokestatic 7, 3) := by decide +kernel
theorem dX7_seek_49 : decode cX7_seek 49 = .ok (.istore 6, 2) := by decide +kernel
theorem dX7_seek_51 : decode cX7_seek 51 = .ok (.iload 6, 2) := by decide +kernel
theorem dX7_seek_53 : decode cX7_seek 53 = .ok (.iload 6, 2) := by decide +kernel
theorem dX7_seek_55 : decode cX7_seek 55 = .ok (.imul, 1) := by decide +kernel
theorem dX7_seek_56 : decode cX7_seek 56 = .ok (.iload 8, 2) := by decide +kernel
theorem dX7_seek_58 : decode cX7_seek 58 = .ok (.if_icmp .eq 6, 3) := by decide +kernel
theorem dX7_seek_61 : decode cX7_seek 61 = .ok (.goto 76, 3) := by decide +kernel
theorem dX7_seek_64 : decode cX7_seek 64 = .ok (.iload 6, 2) := by decide +kernel
theorem dX7_seek_66 : decode cX7_seek 66 = .ok (.ifCond .ne 7, 3) := by decide +kernel
theorem dX7_seek_69 : decode cX7_seek 69 = .ok (.iconst 1, 1) := by decide +kernel
theorem dX7_seek_70 : decode cX7_seek 70 = .ok (.goto 4, 3) := by decide +kernel
theorem dX7_seek_73 : decode cX7_seek 73 = .ok (.iconst (-1), 1) := by decide +kernel
theorem dX7_seek_74 : decode cX7_seek 74 = .ok (.istore 9, 2) := by decide +kernel
theorem dX7_seek_76 : decode cX7_seek 76 = .ok (.iload 9, 2) := by decide +kernel
theorem dX7_seek_78 : decode cX7_seek 78 = .ok (.iconst 1, 1) := by decide +kernel
theorem dX7_seek_79 : decode cX7_seek 79 = .ok (.if_icmp .gt 58, 3) := by decide +kernel
theorem dX7_seek_82 : decode cX7_seek 82 = .ok (.iload 7, 2) := by decide +kernel
theorem dX7_seek_84 : decode cX7_seek 84 = .ok (.iload 9, 2) := by decide +kernel
theorem dX7_seek_86 : decode cX7_seek 86 = .ok (.iload 6, 2) := by decide +kernel
theorem dX7_seek_88 : decode cX7_seek 88 = .ok (.imul, 1) := by decide +kernel
theorem dX7_seek_89 : decode cX7_seek 89 = .ok (.iadd, 1) := by decide +kernel
theorem dX7_seek_90 : decode cX7_seek 90 = .ok (.iconst 2, 1) := by decide +kernel
theorem dX7_seek_91 : decode cX7_seek 91 = .ok (.idiv, 1) := by decide +kernel
theorem dX7_seek_92 : decode cX7_seek 92 = .ok (.istore 10, 2) := by decide +kernel
theorem dX7_seek_94 : decode cX7_seek 94 = .ok (.iload 10, 2) := by decide +kernel
theorem dX7_seek_96 : decode cX7_seek 96 = .ok (.iload 7, 2) := by decide +kernel
theorem dX7_seek_98 : decode cX7_seek 98 = .ok (.iload_n 2, 1) := by decide +kernel
theorem dX7_seek_99 : decode cX7_seek 99 = .ok (.invokestatic 13, 3) := by decide +kernel
theorem dX7_seek_102 : decode cX7_seek 102 = .ok (.ifCond .eq 29, 3) := by decide +kernel
theorem dX7_seek_105 : decode cX7_seek 105 = .ok (.iinc 4 1, 3) := by decide +kernel
theorem dX7_seek_108 : decode cX7_seek 108 = .ok (.iload 4, 2) := by decide +kernel
theorem dX7_seek_110 : decode cX7_seek 110 = .ok (.iconst 1, 1) := by decide +kernel
theorem dX7_seek_111 : decode cX7_seek 111 = .ok (.isub, 1) := by decide +kernel
theorem dX7_seek_112 : decode cX7_seek 112 = .ok (.iload_n 3, 1) := by decide +kernel
theorem dX7_seek_113 : decode cX7_seek 113 = .ok (.if_icmp .ne 18, 3) := by decide +kernel
theorem dX7_seek_116 : decode cX7_seek 116 = .ok (.aload_n 0, 1) := by decide +kernel
theorem dX7_seek_117 : decode cX7_seek 117 = .ok (.iload 10, 2) := by decide +kernel
theorem dX7_seek_119 : decode cX7_seek 119 = .ok (.putfield 19, 3) := by decide +kernel
theorem dX7_seek_122 : decode cX7_seek 122 = .ok (.aload_n 0, 1) := by decide +kernel
theorem dX7_seek_123 : decode cX7_seek 123 = .ok (.iload 7, 2) := by decide +kernel
theorem dX7_seek_125 : decode cX7_seek 125 = .ok (.putfield 23, 3) := by decide +kernel
theorem dX7_seek_128 : decode cX7_seek 128 = .ok (.iload 4, 2) := by decide +kernel
theorem dX7_seek_130 : decode cX7_seek 130 = .ok (.ireturn, 1) := by decide +kernel
theorem dX7_seek_131 : decode cX7_seek 131 = .ok (.iinc 9 2, 3) := by decide +kernel
theorem dX7_seek_134 : decode cX7_seek 134 = .ok (.goto (-58), 3) := by decide +kernel
theorem dX7_seek_137 : decode cX7_seek 137 = .ok (.iinc 7 1, 3) := by decide +kernel
theorem dX7_seek_140 : decode cX7_seek 140 = .ok (.goto (-118), 3) := by decide +kernel
theorem dX7_seek_143 : decode cX7_seek 143 = .ok (.iload 4, 2) := by decide +kernel
theorem dX7_seek_145 : decode cX7_seek 145 = .ok (.ireturn, 1) := by decide +kernel
theorem dX8_addBytesOf_0 : decode cX8_addBytesOf 0 = .ok (.bipush 24, 2) := by decide +kernel
theorem dX8_addBytesOf_2 : decode cX8_addBytesOf 2 = .ok (.istore_n 2, 1) := by decide +kernel
theorem dX8_addBytesOf_3 : decode cX8_addBytesOf 3 = .ok (.iload_n 2, 1) := by decide +kernel
theorem dX8_addBytesOf_4 : decode cX8_addBytesOf 4 = .ok (.ifCond .lt 51, 3) := by decide +kernel
theorem dX8_addBytesOf_7 : decode cX8_addBytesOf 7 = .ok (.aload_n 0, 1) := by decide +kernel
theorem dX8_addBytesOf_8 : decode cX8_addBytesOf 8 = .ok (.getfield 13, 3) := by decide +kernel
theorem dX8_addBytesOf_11 : decode cX8_addBytesOf 11 = .ok (.ifCond .lt 38, 3) := by decide +kernel
theorem dX8_addBytesOf_14 : decode cX8_addBytesOf 14 = .ok (.aload_n 0, 1) := by decide +kernel
theorem dX8_addBytesOf_15 : decode cX8_addBytesOf 15 = .ok (.getfield 13, 3) := by decide +kernel
theorem dX8_addBytesOf_18 : decode cX8_addBytesOf 18 = .ok (.bipush 80, 2) := by decide +kernel
theorem dX8_addBytesOf_20 : decode cX8_addBytesOf 20 = .ok (.if_icmp .ge 29, 3) := by decide +kernel
theorem dX8_addBytesOf_23 : decode cX8_addBytesOf 23 = .ok (.aload_n 0, 1) := by decide +kernel
theorem dX8_addBytesOf_24 : decode cX8_addBytesOf 24 = .ok (.getfield 9, 3) := by decide +kernel
theorem dX8_addBytesOf_27 : decode cX8_addBytesOf 27 = .ok (.aload_n 0, 1) := by decide +kernel
theorem dX8_addBytesOf_28 : decode cX8_addBytesOf 28 = .ok (.getfield 13, 3) := by decide +kernel
theorem dX8_addBytesOf_31 : decode cX8_addBytesOf 31 = .ok (.iload_n 1, 1) := by decide +kernel
theorem dX8_addBytesOf_32 : decode cX8_addBytesOf 32 = .ok (.iload_n 2, 1) := by decide +kernel
theorem dX8_addBytesOf_33 : decode cX8_addBytesOf 33 = .ok (.ishr, 1) := by decide +kernel
theorem dX8_addBytesOf_34 : decode cX8_addBytesOf 34 = .ok (.sipush 255, 3) := by decide +kernel
theorem dX8_addBytesOf_37 : decode cX8_addBytesOf 37 = .ok (.iand, 1) := by decide +kernel
theorem dX8_addBytesOf_38 : decode cX8_addBytesOf 38 = .ok (.iastore, 1) := by decide +kernel
theorem dX8_addBytesOf_39 : decode cX8_addBytesOf 39 = .ok (.aload_n 0, 1) := by decide +kernel
theorem dX8_addBytesOf_40 : decode cX8_addBytesOf 40 = .ok (.dup, 1) := by decide +kernel
theorem dX8_addBytesOf_41 : decode cX8_addBytesOf 41 = .ok (.getfield 13, 3) := by decide +kernel
theorem dX8_addBytesOf_44 : decode cX8_addBytesOf 44 = .ok (.iconst 1, 1) := by decide +kernel
theorem dX8_addBytesOf_45 : decode cX8_addBytesOf 45 = .ok (.iadd, 1) := by decide +kernel
theorem dX8_addBytesOf_46 : decode cX8_addBytesOf 46 = .ok (.putfield 13, 3) := by decide +kernel
theorem dX8_addBytesOf_49 : decode cX8_addBytesOf 49 = .ok (.iinc 2 (-8), 3) := by decide +kernel
theorem dX8_addBytesOf_52 : decode cX8_addBytesOf 52 = .ok (.goto (-49), 3) := by decide +kernel
theorem dX8_addBytesOf_55 : decode cX8_addBytesOf 55 = .ok (.return_, 1) := by decide +kernel
theorem dX8_fault_0 : decode cX8_fault 0 = .ok (.sipush (-1000), 3) := by decide +kernel
theorem dX8_fault_3 : decode cX8_fault 3 = .ok (.iload_n 0, 1) := by decide +kernel
theorem dX8_fault_4 : decode cX8_fault 4 = .ok (.imul, 1) := by decide +kernel
theorem dX8_fault_5 : decode cX8_fault 5 = .ok (.iload_n 1, 1) := by decide +kernel
theorem dX8_fault_6 : decode cX8_fault 6 = .ok (.isub, 1) := by decide +kernel
theorem dX8_fault_7 : decode cX8_fault 7 = .ok (.ireturn, 1) := by decide +kernel
theorem dX8_hasRoomFor_0 : decode cX8_hasRoomFor 0 = .ok (.aload_n 0, 1) := by decide +kernel
theorem dX8_hasRoomFor_1 : decode cX8_hasRoomFor 1 = .ok (.getfield 13, 3) := by decide +kernel
theorem dX8_hasRoomFor_4 : decode cX8_hasRoomFor 4 = .ok (.iload_n 1, 1) := by decide +kernel
theorem dX8_hasRoomFor_5 : decode cX8_hasRoomFor 5 = .ok (.iadd, 1) := by decide +kernel
theorem dX8_hasRoomFor_6 : decode cX8_hasRoomFor 6 = .ok (.bipush 80, 2) := by decide +kernel
theorem dX8_hasRoomFor_8 : decode cX8_hasRoomFor 8 = .ok (.if_icmp .gt 7, 3) := by decide +kernel
theorem dX8_hasRoomFor_11 : decode cX8_hasRoomFor 11 = .ok (.iconst 1, 1) := by decide +kernel
theorem dX8_hasRoomFor_12 : decode cX8_hasRoomFor 12 = .ok (.goto 4, 3) := by decide +kernel
theorem dX8_hasRoomFor_15 : decode cX8_hasRoomFor 15 = .ok (.iconst 0, 1) := by decide +kernel
theorem dX8_hasRoomFor_16 : decode cX8_hasRoomFor 16 = .ok (.ireturn, 1) := by decide +kernel
theorem dX8_here_0 : decode cX8_here 0 = .ok (.aload_n 0, 1) := by decide +kernel
theorem dX8_here_1 : decode cX8_here 1 = .ok (.getfield 20, 3) := by decide +kernel
theorem dX8_here_4 : decode cX8_here 4 = .ok (.ifCond .lt 35, 3) := by decide +kernel
theorem dX8_here_7 : decode cX8_here 7 = .ok (.aload_n 0, 1) := by decide +kernel
theorem dX8_here_8 : decode cX8_here 8 = .ok (.getfield 20, 3) := by decide +kernel
theorem dX8_here_11 : decode cX8_here 11 = .ok (.aload_n 0, 1) := by decide +kernel
theorem dX8_here_12 : decode cX8_here 12 = .ok (.getfield 17, 3) := by decide +kernel
theorem dX8_here_15 : decode cX8_here 15 = .ok (.if_icmp .ge 24, 3) := by decide +kernel
theorem dX8_here_18 : decode cX8_here 18 = .ok (.aload_n 0, 1) := by decide +kernel
theorem dX8_here_19 : decode cX8_here 19 = .ok (.getfield 20, 3) := by decide +kernel
theorem dX8_here_22 : decode cX8_here 22 = .ok (.bipush 80, 2) := by decide +kernel
theorem dX8_here_24 : decode cX8_here 24 = .ok (.if_icmp .ge 15, 3) := by decide +kernel
theorem dX8_here_27 : decode cX8_here 27 = .ok (.aload_n 0, 1) := by decide +kernel
theorem dX8_here_28 : decode cX8_here 28 = .ok (.getfield 9, 3) := by decide +kernel
theorem dX8_here_31 : decode cX8_here 31 = .ok (.aload_n 0, 1) := by decide +kernel
theorem dX8_here_32 : decode cX8_here 32 = .ok (.getfield 20, 3) := by decide +kernel
theorem dX8_here_35 : decode cX8_here 35 = .ok (.iaload, 1) := by decide +kernel
theorem dX8_here_36 : decode cX8_here 36 = .ok (.goto 4, 3) := by decide +kernel
theorem dX8_here_39 : decode cX8_here 39 = .ok (.iconst (-1), 1) := by decide +kernel
theorem dX8_here_40 : decode cX8_here 40 = .ok (.ireturn, 1) := by decide +kernel
theorem dX8_isDigit_0 : decode cX8_isDigit 0 = .ok (.iload_n 0, 1) := by decide +kernel
theorem dX8_isDigit_1 : decode cX8_isDigit 1 = .ok (.bipush 48, 2) := by decide +kernel
theorem dX8_isDigit_3 : decode cX8_isDigit 3 = .ok (.if_icmp .lt 13, 3) := by decide +kernel
theorem dX8_isDigit_6 : decode cX8_isDigit 6 = .ok (.iload_n 0, 1) := by decide +kernel
theorem dX8_isDigit_7 : decode cX8_isDigit 7 = .ok (.bipush 57, 2) := by decide +kernel
theorem dX8_isDigit_9 : decode cX8_isDigit 9 = .ok (.if_icmp .gt 7, 3) := by decide +kernel
theorem dX8_isDigit_12 : decode cX8_isDigit 12 = .ok (.iconst 1, 1) := by decide +kernel
theorem dX8_isDigit_13 : decode cX8_isDigit 13 = .ok (.goto 4, 3) := by decide +kernel
theorem dX8_isDigit_16 : decode cX8_isDigit 16 = .ok (.iconst 0, 1) := by decide +kernel
theorem dX8_isDigit_17 : decode cX8_isDigit 17 = .ok (.ireturn, 1) := by decide +kernel
theorem dX8_readPart_0 : decode cX8_readPart 0 = .ok (.aload_n 0, 1) := by decide +kernel
theorem dX8_readPart_1 : decode cX8_readPart 1 = .ok (.getfield 20, 3) := by decide +kernel
theorem dX8_readPart_4 : decode cX8_readPart 4 = .ok (.istore_n 2, 1) := by decide +kernel
theorem dX8_readPart_5 : decode cX8_readPart 5 = .ok (.aload_n 0, 1) := by decide +kernel
theorem dX8_readPart_6 : decode cX8_readPart 6 = .ok (.invokevirtual 43, 3) := by decide +kernel
theorem dX8_readPart_9 : decode cX8_readPart 9 = .ok (.bipush 45, 2) := by decide +kernel
theorem dX8_readPart_11 : decode cX8_readPart 11 = .ok (.if_icmp .ne 7, 3) := by decide +kernel
theorem dX8_readPart_14 : decode cX8_readPart 14 = .ok (.iconst 1, 1) := by decide +kernel
theorem dX8_readPart_15 : decode cX8_readPart 15 = .ok (.goto 4, 3) := by decide +kernel
theorem dX8_readPart_18 : decode cX8_readPart 18 = .ok (.iconst 0, 1) := by decide +kernel
theorem dX8_readPart_19 : decode cX8_readPart 19 = .ok (.istore_n 3, 1) := by decide +kernel
theorem dX8_readPart_20 : decode cX8_readPart 20 = .ok (.iload_n 3, 1) := by decide +kernel
theorem dX8_readPart_21 : decode cX8_readPart 21 = .ok (.ifCond .ne 12, 3) := by decide +kernel
theorem dX8_readPart_24 : decode cX8_readPart 24 = .ok (.aload_n 0, 1) := by decide +kernel
theorem dX8_readPart_25 : decode cX8_readPart 25 = .ok (.invokevirtual 43, 3) := by decide +kernel
theorem dX8_readPart_28 : decode cX8_readPart 28 = .ok (.bipush 43, 2) := by decide +kernel
theorem dX8_readPart_30 : decode cX8_readPart 30 = .ok (.if_icmp .ne 20, 3) := by decide +kernel
theorem dX8_readPart_33 : decode cX8_readPart 33 = .ok (.aload_n 0, 1) := by decide +kernel
theorem dX8_readPart_34 : decode cX8_readPart 34 = .ok (.dup, 1) := by decide +kernel
theorem dX8_readPart_35 : decode cX8_readPart 35 = .ok (.getfield 20, 3) := by decide +kernel
theorem dX8_readPart_38 : decode cX8_readPart 38 = .ok (.iconst 1, 1) := by decide +kernel
theorem dX8_readPart_39 : decode cX8_readPart 39 = .ok (.iadd, 1) := by decide +kernel
theorem dX8_readPart_40 : decode cX8_readPart 40 = .ok (.putfield 20, 3) := by decide +kernel
theorem dX8_readPart_43 : decode cX8_readPart 43 = .ok (.aload_n 0, 1) := by decide +kernel
theorem dX8_readPart_44 : decode cX8_readPart 44 = .ok (.invokevirtual 36, 3) := by decide +kernel
theorem dX8_readPart_47 : decode cX8_readPart 47 = .ok (.goto 16, 3) := by decide +kernel
theorem dX8_readPart_50 : decode cX8_readPart 50 = .ok (.iload_n 1, 1) := by decide +kernel
theorem dX8_readPart_51 : decode cX8_readPart 51 = .ok (.ifCond .ne 12, 3) := by decide +kernel
theorem dX8_readPart_54 : decode cX8_readPart 54 = .ok (.iconst 1, 1) := by decide +kernel
theorem dX8_readPart_55 : decode cX8_readPart 55 = .ok (.aload_n 0, 1) := by decide +kernel
theorem dX8_readPart_56 : decode cX8_readPart 56 = .ok (.getfield 20, 3) := by decide +kernel
theorem dX8_readPart_59 : decode cX8_readPart 59 = .ok (.invokestatic 47, 3) := by decide +kernel
theorem dX8_readPart_62 : decode cX8_readPart 62 = .ok (.ireturn, 1) := by decide +kernel
theorem dX8_readPart_63 : decode cX8_readPart 63 = .ok (.iconst 0, 1) := by decide +kernel
theorem dX8_readPart_64 : decode cX8_readPart 64 = .ok (.istore 4, 2) := by decide +kernel
theorem dX8_readPart_66 : decode cX8_readPart 66 = .ok (.iconst 0, 1) := by decide +kernel
theorem dX8_readPart_67 : decode cX8_readPart 67 = .ok (.istore 5, 2) := by decide +kernel
theorem dX8_readPart_69 : decode cX8_readPart 69 = .ok (.iload 4, 2) := by decide +kernel
theorem dX8_readPart_71 : decode cX8_readPart 71 = .ok (.iconst 4, 1) := by decide +kernel
theorem dX8_readPart_72 : decode cX8_readPart 72 = .ok (.if_icmp .ge 44, 3) := by decide +kernel
theorem dX8_readPart_75 : decode cX8_readPart 75 = .ok (.aload_n 0, 1) := by decide +kernel
theorem dX8_readPart_76 : decode cX8_readPart 76 = .ok (.invokevirtual 43, 3) := by decide +kernel
theorem dX8_readPart_79 : decode cX8_readPart 79 = .ok (.invokestatic 51, 3) := by decide +kernel
theorem dX8_readPart_82 : decode cX8_readPart 82 = .ok (.ifCond .eq 34, 3) := by decide +kernel
theorem dX8_readPart_85 : decode cX8_readPart 85 = .ok (.bipush 10, 2) := by decide +kernel
theorem dX8_readPart_87 : decode cX8_readPart 87 = .ok (.iload 5, 2) := by decide +kernel
theorem dX8_readPart_89 : decode cX8_readPart 89 = .ok (.imul, 1) := by decide +kernel
theorem dX8_readPart_90 : decode cX8_readPart 90 = .ok (.aload_n 0, 1) := by decide +kernel
theorem dX8_readPart_91 : decode cX8_readPart 91 = .ok (.invokevirtual 43, 3) := by decide +kernel
theorem dX8_readPart_94 : decode cX8_readPart 94 = .ok (.iadd, 1) := by decide +kernel
theorem dX8_readPart_95 : decode cX8_readPart 95 = .ok (.bipush 48, 2) := by decide +kernel
theorem dX8_readPart_97 : decode cX8_readPart 97 = .ok (.isub, 1) := by decide +kernel
theorem dX8_readPart_98 : decode cX8_readPart 98 = .ok (.istore 5, 2) := by decide +kernel
theorem dX8_readPart_100 : decode cX8_readPart 100 = .ok (.iinc 4 1, 3) := by decide +kernel
theorem dX8_readPart_103 : decode cX8_readPart 103 = .ok (.aload_n 0, 1) := by decide +kernel
theorem dX8_readPart_104 : decode cX8_readPart 104 = .ok (.dup, 1) := by decide +kernel
theorem dX8_readPart_105 : decode cX8_readPart 105 = .ok (.getfield 20, 3) := by decide +kernel
theorem dX8_readPart_108 : decode cX8_readPart 108 = .ok (.iconst 1, 1) := by decide +kernel
theorem dX8_readPart_109 : decode cX8_readPart 109 = .ok (.iadd, 1) := by decide +kernel
theorem dX8_readPart_110 : decode cX8_readPart 110 = .ok (.putfield 20, 3) := by decide +kernel
theorem dX8_readPart_113 : decode cX8_readPart 113 = .ok (.goto (-44), 3) := by decide +kernel
theorem dX8_readPart_116 : decode cX8_readPart 116 = .ok (.aload_n 0, 1) := by decide +kernel
theorem dX8_readPart_117 : decode cX8_readPart 117 = .ok (.invokevirtual 43, 3) := by decide +kernel
theorem dX8_readPart_120 : decode cX8_readPart 120 = .ok (.invokestatic 51, 3) := by decide +kernel
theorem dX8_readPart_123 : decode cX8_readPart 123 = .ok (.ifCond .eq 12, 3) := by decide +kernel
theorem dX8_readPart_126 : decode cX8_readPart 126 = .ok (.iconst 2, 1) := by decide +kernel
theorem dX8_readPart_127 : decode cX8_readPart 127 = .ok (.aload_n 0, 1) := by decide +kernel
theorem dX8_readPart_128 : decode cX8_readPart 128 = .ok (.getfield 20, 3) := by decide +kernel
theorem dX8_readPart_131 : decode cX8_readPart 131 = .ok (.invokestatic 47, 3) := by decide +kernel
theorem dX8_readPart_134 : decode cX8_readPart 134 = .ok (.ireturn, 1) := by decide +kernel
theorem dX8_readPart_135 : decode cX8_readPart 135 = .ok (.aload_n 0, 1) := by decide +kernel
theorem dX8_readPart_136 : decode cX8_readPart 136 = .ok (.invokevirtual 36, 3) := by decide +kernel
theorem dX8_readPart_139 : decode cX8_readPart 139 = .ok (.aload_n 0, 1) := by decide +kernel
theorem dX8_readPart_140 : decode cX8_readPart 140 = .ok (.invokevirtual 43, 3) := by decide +kernel
theorem dX8_readPart_143 : decode cX8_readPart 143 = .ok (.bipush 119, 2) := by decide +kernel
theorem dX8_readPart_145 : decode cX8_readPart 145 = .ok (.if_icmp .ne 7, 3) := by decide +kernel
theorem dX8_readPart_148 : decode cX8_readPart 148 = .ok (.iconst 1, 1) := by decide +kernel
theorem dX8_readPart_149 : decode cX8_readPart 149 = .ok (.goto 4, 3) := by decide +kernel
theorem dX8_readPart_152 : decode cX8_readPart 152 = .ok (.iconst 0, 1) := by decide +kernel
theorem dX8_readPart_153 : decode cX8_readPart 153 = .ok (.istore 6, 2) := by decide +kernel
theorem dX8_readPart_155 : decode cX8_readPart 155 = .ok (.iload 6, 2) := by decide +kernel
theorem dX8_readPart_157 : decode cX8_readPart 157 = .ok (.ifCond .eq 20, 3) := by decide +kernel
theorem dX8_readPart_160 : decode cX8_readPart 160 = .ok (.aload_n 0, 1) := by decide +kernel
theorem dX8_readPart_161 : decode cX8_readPart 161 = .ok (.dup, 1) := by decide +kernel
theorem dX8_readPart_162 : decode cX8_readPart 162 = .ok (.getfield 20, 3) := by decide +kernel
theorem dX8_readPart_165 : decode cX8_readPart 165 = .ok (.iconst 1, 1) := by decide +kernel
theorem dX8_readPart_166 : decode cX8_readPart 166 = .ok (.iadd, 1) := by decide +kernel
theorem dX8_readPart_167 : decode cX8_readPart 167 = .ok (.putfield 20, 3) := by decide +kernel
theorem dX8_readPart_170 : decode cX8_readPart 170 = .ok (.aload_n 0, 1) := by decide +kernel
theorem dX8_readPart_171 : decode cX8_readPart 171 = .ok (.invokevirtual 36, 3) := by decide +kernel
theorem dX8_readPart_174 : decode cX8_readPart 174 = .ok (.goto 17, 3) := by decide +kernel
theorem dX8_readPart_177 : decode cX8_readPart 177 = .ok (.iload 4, 2) := by decide +kernel
theorem dX8_readPart_179 : decode cX8_readPart 179 = .ok (.ifCond .ne 12, 3) := by decide +kernel
theorem dX8_readPart_182 : decode cX8_readPart 182 = .ok (.iconst 1, 1) := by decide +kernel
theorem dX8_readPart_183 : decode cX8_readPart 183 = .ok (.aload_n 0, 1) := by decide +kernel
theorem dX8_readPart_184 : decode cX8_readPart 184 = .ok (.getfield 20, 3) := by decide +kernel
theorem dX8_readPart_187 : decode cX8_readPart 187 = .ok (.invokestatic 47, 3) := by decide +kernel
theorem dX8_readPart_190 : decode cX8_readPart 190 = .ok (.ireturn, 1) := by decide +kernel
theorem dX8_readPart_191 : decode cX8_readPart 191 = .ok (.iload 6, 2) := by decide +kernel
theorem dX8_readPart_193 : decode cX8_readPart 193 = .ok (.ifCond .eq 13, 3) := by decide +kernel
theorem dX8_readPart_196 : decode cX8_readPart 196 = .ok (.aload_n 0, 1) := by decide +kernel
theorem dX8_readPart_197 : decode cX8_readPart 197 = .ok (.getfield 33, 3) := by decide +kernel
theorem dX8_readPart_200 : decode cX8_readPart 200 = .ok (.ifCond .eq 19, 3) := by decide +kernel
theorem dX8_readPart_203 : decode cX8_readPart 203 = .ok (.goto 10, 3) := by decide +kernel
theorem dX8_readPart_206 : decode cX8_readPart 206 = .ok (.aload_n 0, 1) := by decide +kernel
theorem dX8_readPart_207 : decode cX8_readPart 207 = .ok (.getfield 29, 3) := by decide +kernel
theorem dX8_readPart_210 : decode cX8_readPart 210 = .ok (.ifCond .eq 9, 3) := by decide +kernel
theorem dX8_readPart_213 : decode cX8_readPart 213 = .ok (.iconst 3, 1) := by decide +kernel
theorem dX8_readPart_214 : decode cX8_readPart 214 = .ok (.iload_n 2, 1) := by decide +kernel
theorem dX8_readPart_215 : decode cX8_readPart 215 = .ok (.invokestatic 47, 3) := by decide +kernel
theorem dX8_readPart_218 : decode cX8_readPart 218 = .ok (.ireturn, 1) := by decide +kernel
theorem dX8_readPart_219 : decode cX8_readPart 219 = .ok (.iload 4, 2) := by decide +kernel
theorem dX8_readPart_221 : decode cX8_readPart 221 = .ok (.ifCond .ne 7, 3) := by decide +kernel
theorem dX8_readPart_224 : decode cX8_readPart 224 = .ok (.iconst 1, 1) := by decide +kernel
theorem dX8_readPart_225 : decode cX8_readPart 225 = .ok (.goto 5, 3) := by decide +kernel
theorem dX8_readPart_228 : decode cX8_readPart 228 = .ok (.iload 5, 2) := by decide +kernel
theorem dX8_readPart_230 : decode cX8_readPart 230 = .ok (.istore 7, 2) := by decide +kernel
theorem dX8_readPart_232 : decode cX8_readPart 232 = .ok (.aload_n 0, 1) := by decide +kernel
theorem dX8_readPart_233 : decode cX8_readPart 233 = .ok (.iload 6, 2) := by decide +kernel
theorem dX8_readPart_235 : decode cX8_readPart 235 = .ok (.iload_n 3, 1) := by decide +kernel
theorem dX8_readPart_236 : decode cX8_readPart 236 = .ok (.ifCond .eq 9, 3) := by decide +kernel
theorem dX8_readPart_239 : decode cX8_readPart 239 = .ok (.iload 7, 2) := by decide +kernel
theorem dX8_readPart_241 : decode cX8_readPart 241 = .ok (.ineg, 1) := by decide +kernel
theorem dX8_readPart_242 : decode cX8_readPart 242 = .ok (.goto 5, 3) := by decide +kernel
theorem dX8_readPart_245 : decode cX8_readPart 245 = .ok (.iload 7, 2) := by decide +kernel
theorem dX8_readPart_247 : decode cX8_readPart 247 = .ok (.invokevirtual 55, 3) := by decide +kernel
theorem dX8_readPart_250 : decode cX8_readPart 250 = .ok (.iconst 0, 1) := by decide +kernel
theorem dX8_readPart_251 : decode cX8_readPart 251 = .ok (.ireturn, 1) := by decide +kernel
theorem dX8_readText_0 : decode cX8_readText 0 = .ok (.aload_n 0, 1) := by decide +kernel
theorem dX8_readText_1 : decode cX8_readText 1 = .ok (.iload_n 1, 1) := by decide +kernel
theorem dX8_readText_2 : decode cX8_readText 2 = .ok (.putfield 17, 3) := by decide +kernel
theorem dX8_readText_5 : decode cX8_readText 5 = .ok (.aload_n 0, 1) := by decide +kernel
theorem dX8_readText_6 : decode cX8_readText 6 = .ok (.iconst 0, 1) := by decide +kernel
theorem dX8_readText_7 : decode cX8_readText 7 = .ok (.putfield 20, 3) := by decide +kernel
theorem dX8_readText_10 : decode cX8_readText 10 = .ok (.aload_n 0, 1) := by decide +kernel
theorem dX8_readText_11 : decode cX8_readText 11 = .ok (.iconst 0, 1) := by decide +kernel
theorem dX8_readText_12 : decode cX8_readText 12 = .ok (.putfield 23, 3) := by decide +kernel
theorem dX8_readText_15 : decode cX8_readText 15 = .ok (.aload_n 0, 1) := by decide +kernel
theorem dX8_readText_16 : decode cX8_readText 16 = .ok (.iconst 0, 1) := by decide +kernel
theorem dX8_readText_17 : decode cX8_readText 17 = .ok (.putfield 26, 3) := by decide +kernel
theorem dX8_readText_20 : decode cX8_readText 20 = .ok (.aload_n 0, 1) := by decide +kernel
theorem dX8_readText_21 : decode cX8_readText 21 = .ok (.iconst 0, 1) := by decide +kernel
theorem dX8_readText_22 : decode cX8_readText 22 = .ok (.putfield 29, 3) := by decide +kernel
theorem dX8_readText_25 : decode cX8_readText 25 = .ok (.aload_n 0, 1) := by decide +kernel
theorem dX8_readText_26 : decode cX8_readText 26 = .ok (.iconst 0, 1) := by decide +kernel
theorem dX8_readText_27 : decode cX8_readText 27 = .ok (.putfield 33, 3) := by decide +kernel
theorem dX8_readText_30 : decode cX8_readText 30 = .ok (.aload_n 0, 1) := by decide +kernel
theorem dX8_readText_31 : decode cX8_readText 31 = .ok (.invokevirtual 36, 3) := by decide +kernel
theorem dX8_readText_34 : decode cX8_readText 34 = .ok (.aload_n 0, 1) := by decide +kernel
theorem dX8_readText_35 : decode cX8_readText 35 = .ok (.iconst 1, 1) := by decide +kernel
theorem dX8_readText_36 : decode cX8_readText 36 = .ok (.invokevirtual 39, 3) := by decide +kernel
theorem dX8_readText_39 : decode cX8_readText 39 = .ok (.istore_n 2, 1) := by decide +kernel
theorem dX8_readText_40 : decode cX8_readText 40 = .ok (.iconst 0, 1) := by decide +kernel
theorem dX8_readText_41 : decode cX8_readText 41 = .ok (.istore_n 3, 1) := by decide +kernel
theorem dX8_readText_42 : decode cX8_readText 42 = .ok (.iload_n 3, 1) := by decide +kernel
theorem dX8_readText_43 : decode cX8_readText 43 = .ok (.bipush 80, 2) := by decide +kernel
theorem dX8_readText_45 : decode cX8_readText 45 = .ok (.if_icmp .ge 30, 3) := by decide +kernel
theorem dX8_readText_48 : decode cX8_readText 48 = .ok (.iload_n 2, 1) := by decide +kernel
theorem dX8_readText_49 : decode cX8_readText 49 = .ok (.ifCond .ne 26, 3) := by decide +kernel
theorem dX8_readText_52 : decode cX8_readText 52 = .ok (.aload_n 0, 1) := by decide +kernel
theorem dX8_readText_53 : decode cX8_readText 53 = .ok (.getfield 20, 3) := by decide +kernel
theorem dX8_readText_56 : decode cX8_readText 56 = .ok (.aload_n 0, 1) := by decide +kernel
theorem dX8_readText_57 : decode cX8_readText 57 = .ok (.getfield 17, 3) := by decide +kernel
theorem dX8_readText_60 : decode cX8_readText 60 = .ok (.if_icmp .ge 15, 3) := by decide +kernel
theorem dX8_readText_63 : decode cX8_readText 63 = .ok (.aload_n 0, 1) := by decide +kernel
theorem dX8_readText_64 : decode cX8_readText 64 = .ok (.iconst 0, 1) := by decide +kernel
theorem dX8_readText_65 : decode cX8_readText 65 = .ok (.invokevirtual 39, 3) := by decide +kernel
theorem dX8_readText_68 : decode cX8_readText 68 = .ok (.istore_n 2, 1) := by decide +kernel
theorem dX8_readText_69 : decode cX8_readText 69 = .ok (.iinc 3 1, 3) := by decide +kernel
theorem dX8_readText_72 : decode cX8_readText 72 = .ok (.goto (-30), 3) := by decide +kernel
theorem dX8_readText_75 : decode cX8_readText 75 = .ok (.iload_n 2, 1) := by decide +kernel
theorem dX8_readText_76 : decode cX8_readText 76 = .ok (.ireturn, 1) := by decide +kernel
theorem dX8_skipBlanks_0 : decode cX8_skipBlanks 0 = .ok (.iconst 0, 1) := by decide +kernel
theorem dX8_skipBlanks_1 : decode cX8_skipBlanks 1 = .ok (.istore_n 1, 1) := by decide +kernel
theorem dX8_skipBlanks_2 : decode cX8_skipBlanks 2 = .ok (.iload_n 1, 1) := by decide +kernel
theorem dX8_skipBlanks_3 : decode cX8_skipBlanks 3 = .ok (.bipush 80, 2) := by decide +kernel
theorem dX8_skipBlanks_5 : decode cX8_skipBlanks 5 = .ok (.if_icmp .ge 28, 3) := by decide +kernel
theorem dX8_skipBlanks_8 : decode cX8_skipBlanks 8 = .ok (.aload_n 0, 1) := by decide +kernel
theorem dX8_skipBlanks_9 : decode cX8_skipBlanks 9 = .ok (.invokevirtual 43, 3) := by decide +kernel
theorem dX8_skipBlanks_12 : decode cX8_skipBlanks 12 = .ok (.bipush 32, 2) := by decide +kernel
theorem dX8_skipBlanks_14 : decode cX8_skipBlanks 14 = .ok (.if_icmp .ne 19, 3) := by decide +kernel
theorem dX8_skipBlanks_17 : decode cX8_skipBlanks 17 = .ok (.aload_n 0, 1) := by decide +kernel
theorem dX8_skipBlanks_18 : decode cX8_skipBlanks 18 = .ok (.dup, 1) := by decide +kernel
theorem dX8_skipBlanks_19 : decode cX8_skipBlanks 19 = .ok (.getfield 20, 3) := by decide +kernel
theorem dX8_skipBlanks_22 : decode cX8_skipBlanks 22 = .ok (.iconst 1, 1) := by decide +kernel
theorem dX8_skipBlanks_23 : decode cX8_skipBlanks 23 = .ok (.iadd, 1) := by decide +kernel
theorem dX8_skipBlanks_24 : decode cX8_skipBlanks 24 = .ok (.putfield 20, 3) := by decide +kernel
theorem dX8_skipBlanks_27 : decode cX8_skipBlanks 27 = .ok (.iinc 1 1, 3) := by decide +kernel
theorem dX8_skipBlanks_30 : decode cX8_skipBlanks 30 = .ok (.goto (-28), 3) := by decide +kernel
theorem dX8_skipBlanks_33 : decode cX8_skipBlanks 33 = .ok (.return_, 1) := by decide +kernel
theorem dX8_tell_0 : decode cX8_tell 0 = .ok (.iload_n 1, 1) := by decide +kernel
theorem dX8_tell_1 : decode cX8_tell 1 = .ok (.ifCond .eq 16, 3) := by decide +kernel
theorem dX8_tell_4 : decode cX8_tell 4 = .ok (.aload_n 0, 1) := by decide +kernel
theorem dX8_tell_5 : decode cX8_tell 5 = .ok (.iload_n 2, 1) := by decide +kernel
theorem dX8_tell_6 : decode cX8_tell 6 = .ok (.putfield 26, 3) := by decide +kernel
theorem dX8_tell_9 : decode cX8_tell 9 = .ok (.aload_n 0, 1) := by decide +kernel
theorem dX8_tell_10 : decode cX8_tell 10 = .ok (.iconst 1, 1) := by decide +kernel
theorem dX8_tell_11 : decode cX8_tell 11 = .ok (.putfield 33, 3) := by decide +kernel
theorem dX8_tell_14 : decode cX8_tell 14 = .ok (.goto 13, 3) := by decide +kernel
theorem dX8_tell_17 : decode cX8_tell 17 = .ok (.aload_n 0, 1) := by decide +kernel
theorem dX8_tell_18 : decode cX8_tell 18 = .ok (.iload_n 2, 1) := by decide +kernel
theorem dX8_tell_19 : decode cX8_tell 19 = .ok (.putfield 23, 3) := by decide +kernel
theorem dX8_tell_22 : decode cX8_tell 22 = .ok (.aload_n 0, 1) := by decide +kernel
theorem dX8_tell_23 : decode cX8_tell 23 = .ok (.iconst 1, 1) := by decide +kernel
theorem dX8_tell_24 : decode cX8_tell 24 = .ok (.putfield 29, 3) := by decide +kernel
theorem dX8_tell_27 : decode cX8_tell 27 = .ok (.return_, 1) := by decide +kernel
theorem dX9_divisor_0 : decode cX9_divisor 0 = .ok (.lload_n 0, 1) := by decide +kernel
theorem dX9_divisor_1 : decode cX9_divisor 1 = .ok (.invokestatic 7, 3) := by decide +kernel
theorem dX9_divisor_4 : decode cX9_divisor 4 = .ok (.lstore 4, 2) := by decide +kernel
theorem dX9_divisor_6 : decode cX9_divisor 6 = .ok (.lload_n 2, 1) := by decide +kernel
theorem dX9_divisor_7 : decode cX9_divisor 7 = .ok (.invokestatic 7, 3) := by decide +kernel
theorem dX9_divisor_10 : decode cX9_divisor 10 = .ok (.lstore 6, 2) := by decide +kernel
theorem dX9_divisor_12 : decode cX9_divisor 12 = .ok (.iconst 0, 1) := by decide +kernel
theorem dX9_divisor_13 : decode cX9_divisor 13 = .ok (.istore 8, 2) := by decide +kernel
theorem dX9_divisor_15 : decode cX9_divisor 15 = .ok (.iload 8, 2) := by decide +kernel
theorem dX9_divisor_17 : decode cX9_divisor 17 = .ok (.bipush 100, 2) := by decide +kernel
theorem dX9_divisor_19 : decode cX9_divisor 19 = .ok (.if_icmp .ge 31, 3) := by decide +kernel
theorem dX9_divisor_22 : decode cX9_divisor 22 = .ok (.lload 6, 2) := by decide +kernel
theorem dX9_divisor_24 : decode cX9_divisor 24 = .ok (.lconst 0, 1) := by decide +kernel
theorem dX9_divisor_25 : decode cX9_divisor 25 = .ok (.lcmp, 1) := by decide +kernel
theorem dX9_divisor_26 : decode cX9_divisor 26 = .ok (.ifCond .eq 24, 3) := by decide +kernel
theorem dX9_divisor_29 : decode cX9_divisor 29 = .ok (.lload 4, 2) := by decide +kernel
theorem dX9_divisor_31 : decode cX9_divisor 31 = .ok (.lload 6, 2) := by decide +kernel
theorem dX9_divisor_33 : decode cX9_divisor 33 = .ok (.lrem, 1) := by decide +kernel
theorem dX9_divisor_34 : decode cX9_divisor 34 = .ok (.lstore 9, 2) := by decide +kernel
theorem dX9_divisor_36 : decode cX9_divisor 36 = .ok (.lload 6, 2) := by decide +kernel
theorem dX9_divisor_38 : decode cX9_divisor 38 = .ok (.lstore 4, 2) := by decide +kernel
theorem dX9_divisor_40 : decode cX9_divisor 40 = .ok (.lload 9, 2) := by decide +kernel
theorem dX9_divisor_42 : decode cX9_divisor 42 = .ok (.lstore 6, 2) := by decide +kernel
theorem dX9_divisor_44 : decode cX9_divisor 44 = .ok (.iinc 8 1, 3) := by decide +kernel
theorem dX9_divisor_47 : decode cX9_divisor 47 = .ok (.goto (-32), 3) := by decide +kernel
theorem dX9_divisor_50 : decode cX9_divisor 50 = .ok (.lload 4, 2) := by decide +kernel
theorem dX9_divisor_52 : decode cX9_divisor 52 = .ok (.lreturn, 1) := by decide +kernel
theorem dX9_inverseBy_0 : decode cX9_inverseBy 0 = .ok (.lload_n 2, 1) := by decide +kernel
theorem dX9_inverseBy_1 : decode cX9_inverseBy 1 = .ok (.lconst 1, 1) := by decide +kernel
theorem dX9_inverseBy_2 : decode cX9_inverseBy 2 = .ok (.lcmp, 1) := by decide +kernel
theorem dX9_inverseBy_3 : decode cX9_inverseBy 3 = .ok (.ifCond .ge 5, 3) := by decide +kernel
theorem dX9_inverseBy_6 : decode cX9_inverseBy 6 = .ok (.lconst 0, 1) := by decide +kernel
theorem dX9_inverseBy_7 : decode cX9_inverseBy 7 = .ok (.lreturn, 1) := by decide +kernel
theorem dX9_inverseBy_8 : decode cX9_inverseBy 8 = .ok (.lload_n 2, 1) := by decide +kernel
theorem dX9_inverseBy_9 : decode cX9_inverseBy 9 = .ok (.lstore 4, 2) := by decide +kernel
theorem dX9_inverseBy_11 : decode cX9_inverseBy 11 = .ok (.lload_n 0, 1) := by decide +kernel
theorem dX9_inverseBy_12 : decode cX9_inverseBy 12 = .ok (.lload_n 2, 1) := by decide +kernel
theorem dX9_inverseBy_13 : decode cX9_inverseBy 13 = .ok (.invokestatic 15, 3) := by decide +kernel
theorem dX9_inverseBy_16 : decode cX9_inverseBy 16 = .ok (.lstore 6, 2) := by decide +kernel
theorem dX9_inverseBy_18 : decode cX9_inverseBy 18 = .ok (.lconst 0, 1) := by decide +kernel
theorem dX9_inverseBy_19 : decode cX9_inverseBy 19 = .ok (.lstore 8, 2) := by decide +kernel
theorem dX9_inverseBy_21 : decode cX9_inverseBy 21 = .ok (.lconst 1, 1) := by decide +kernel
theorem dX9_inverseBy_22 : decode cX9_inverseBy 22 = .ok (.lstore 10, 2) := by decide +kernel
theorem dX9_inverseBy_24 : decode cX9_inverseBy 24 = .ok (.iconst 0, 1) := by decide +kernel
theorem dX9_inverseBy_25 : decode cX9_inverseBy 25 = .ok (.istore 12, 2) := by decide +kernel
theorem dX9_inverseBy_27 : decode cX9_inverseBy 27 = .ok (.iload 12, 2) := by decide +kernel
theorem dX9_inverseBy_29 : decode cX9_inverseBy 29 = .ok (.bipush 100, 2) := by decide +kernel
theorem dX9_inverseBy_31 : decode cX9_inverseBy 31 = .ok (.if_icmp .ge 59, 3) := by decide +kernel
theorem dX9_inverseBy_34 : decode cX9_inverseBy 34 = .ok (.lload 6, 2) := by decide +kernel
theorem dX9_inverseBy_36 : decode cX9_inverseBy 36 = .ok (.lconst 0, 1) := by decide +kernel
theorem dX9_inverseBy_37 : decode cX9_inverseBy 37 = .ok (.lcmp, 1) := by decide +kernel
theorem dX9_inverseBy_38 : decode cX9_inverseBy 38 = .ok (.ifCond .eq 52, 3) := by decide +kernel
theorem dX9_inverseBy_41 : decode cX9_inverseBy 41 = .ok (.lload 4, 2) := by decide +kernel
theorem dX9_inverseBy_43 : decode cX9_inverseBy 43 = .ok (.lload 6, 2) := by decide +kernel
theorem dX9_inverseBy_45 : decode cX9_inverseBy 45 = .ok (.ldiv, 1) := by decide +kernel
theorem dX9_inverseBy_46 : decode cX9_inverseBy 46 = .ok (.lstore 13, 2) := by decide +kernel
theorem dX9_inverseBy_48 : decode cX9_inverseBy 48 = .ok (.lload 4, 2) := by decide +kernel
theorem dX9_inverseBy_50 : decode cX9_inverseBy 50 = .ok (.lload 13, 2) := by decide +kernel
theorem dX9_inverseBy_52 : decode cX9_inverseBy 52 = .ok (.lload 6, 2) := by decide +kernel
theorem dX9_inverseBy_54 : decode cX9_inverseBy 54 = .ok (.lmul, 1) := by decide +kernel
theorem dX9_inverseBy_55 : decode cX9_inverseBy 55 = .ok (.lsub, 1) := by decide +kernel
theorem dX9_inverseBy_56 : decode cX9_inverseBy 56 = .ok (.lstore 15, 2) := by decide +kernel
theorem dX9_inverseBy_58 : decode cX9_inverseBy 58 = .ok (.lload 6, 2) := by decide +kernel
theorem dX9_inverseBy_60 : decode cX9_inverseBy 60 = .ok (.lstore 4, 2) := by decide +kernel
theorem dX9_inverseBy_62 : decode cX9_inverseBy 62 = .ok (.lload 15, 2) := by decide +kernel
theorem dX9_inverseBy_64 : decode cX9_inverseBy 64 = .ok (.lstore 6, 2) := by decide +kernel
theorem dX9_inverseBy_66 : decode cX9_inverseBy 66 = .ok (.lload 8, 2) := by decide +kernel
theorem dX9_inverseBy_68 : decode cX9_inverseBy 68 = .ok (.lload 13, 2) := by decide +kernel
theorem dX9_inverseBy_70 : decode cX9_inverseBy 70 = .ok (.lload 10, 2) := by decide +kernel
theorem dX9_inverseBy_72 : decode cX9_inverseBy 72 = .ok (.lmul, 1) := by decide +kernel
theorem dX9_inverseBy_73 : decode cX9_inverseBy 73 = .ok (.lsub, 1) := by decide +kernel
theorem dX9_inverseBy_74 : decode cX9_inverseBy 74 = .ok (.lstore 17, 2) := by decide +kernel
theorem dX9_inverseBy_76 : decode cX9_inverseBy 76 = .ok (.lload 10, 2) := by decide +kernel
theorem dX9_inverseBy_78 : decode cX9_inverseBy 78 = .ok (.lstore 8, 2) := by decide +kernel
theorem dX9_inverseBy_80 : decode cX9_inverseBy 80 = .ok (.lload 17, 2) := by decide +kernel
theorem dX9_inverseBy_82 : decode cX9_inverseBy 82 = .ok (.lstore 10, 2) := by decide +kernel
theorem dX9_inverseBy_84 : decode cX9_inverseBy 84 = .ok (.iinc 12 1, 3) := by decide +kernel
theorem dX9_inverseBy_87 : decode cX9_inverseBy 87 = .ok (.goto (-60), 3) := by decide +kernel
theorem dX9_inverseBy_90 : decode cX9_inverseBy 90 = .ok (.lload 8, 2) := by decide +kernel
theorem dX9_inverseBy_92 : decode cX9_inverseBy 92 = .ok (.lload_n 2, 1) := by decide +kernel
theorem dX9_inverseBy_93 : decode cX9_inverseBy 93 = .ok (.invokestatic 15, 3) := by decide +kernel
theorem dX9_inverseBy_96 : decode cX9_inverseBy 96 = .ok (.lreturn, 1) := by decide +kernel
theorem dX9_isPrime_0 : decode cX9_isPrime 0 = .ok (.iload_n 0, 1) := by decide +kernel
theorem dX9_isPrime_1 : decode cX9_isPrime 1 = .ok (.iconst 2, 1) := by decide +kernel
theorem dX9_isPrime_2 : decode cX9_isPrime 2 = .ok (.if_icmp .ge 5, 3) := by decide +kernel
theorem dX9_isPrime_5 : decode cX9_isPrime 5 = .ok (.iconst 0, 1) := by decide +kernel
theorem dX9_isPrime_6 : decode cX9_isPrime 6 = .ok (.ireturn, 1) := by decide +kernel
theorem dX9_isPrime_7 : decode cX9_isPrime 7 = .ok (.iconst 2, 1) := by decide +kernel
theorem dX9_isPrime_8 : decode cX9_isPrime 8 = .ok (.istore_n 1, 1) := by decide +kernel
theorem dX9_isPrime_9 : decode cX9_isPrime 9 = .ok (.iload_n 1, 1) := by decide +kernel
theorem dX9_isPrime_10 : decode cX9_isPrime 10 = .ok (.iload_n 0, 1) := by decide +kernel
theorem dX9_isPrime_11 : decode cX9_isPrime 11 = .ok (.iload_n 1, 1) := by decide +kernel
theorem dX9_isPrime_12 : decode cX9_isPrime 12 = .ok (.idiv, 1) := by decide +kernel
theorem dX9_isPrime_13 : decode cX9_isPrime 13 = .ok (.if_icmp .gt 17, 3) := by decide +kernel
theorem dX9_isPrime_16 : decode cX9_isPrime 16 = .ok (.iload_n 0, 1) := by decide +kernel
theorem dX9_isPrime_17 : decode cX9_isPrime 17 = .ok (.iload_n 1, 1) := by decide +kernel
theorem dX9_isPrime_18 : decode cX9_isPrime 18 = .ok (.irem, 1) := by decide +kernel
theorem dX9_isPrime_19 : decode cX9_isPrime 19 = .ok (.ifCond .ne 5, 3) := by decide +kernel
theorem dX9_isPrime_22 : decode cX9_isPrime 22 = .ok (.iconst 0, 1) := by decide +kernel
theorem dX9_isPrime_23 : decode cX9_isPrime 23 = .ok (.ireturn, 1) := by decide +kernel
theorem dX9_isPrime_24 : decode cX9_isPrime 24 = .ok (.iinc 1 1, 3) := by decide +kernel
theorem dX9_isPrime_27 : decode cX9_isPrime 27 = .ok (.goto (-18), 3) := by decide +kernel
theorem dX9_isPrime_30 : decode cX9_isPrime 30 = .ok (.iconst 1, 1) := by decide +kernel
theorem dX9_isPrime_31 : decode cX9_isPrime 31 = .ok (.ireturn, 1) := by decide +kernel
theorem dX9_rootFrom_0 : decode cX9_rootFrom 0 = .ok (.iload_n 1, 1) := by decide +kernel
theorem dX9_rootFrom_1 : decode cX9_rootFrom 1 = .ok (.istore_n 2, 1) := by decide +kernel
theorem dX9_rootFrom_2 : decode cX9_rootFrom 2 = .ok (.iconst 0, 1) := by decide +kernel
theorem dX9_rootFrom_3 : decode cX9_rootFrom 3 = .ok (.istore_n 3, 1) := by decide +kernel
theorem dX9_rootFrom_4 : decode cX9_rootFrom 4 = .ok (.iload_n 3, 1) := by decide +kernel
theorem dX9_rootFrom_5 : decode cX9_rootFrom 5 = .ok (.ldc 19, 2) := by decide +kernel
theorem dX9_rootFrom_7 : decode cX9_rootFrom 7 = .ok (.if_icmp .ge 23, 3) := by decide +kernel
theorem dX9_rootFrom_10 : decode cX9_rootFrom 10 = .ok (.iload_n 2, 1) := by decide +kernel
theorem dX9_rootFrom_11 : decode cX9_rootFrom 11 = .ok (.ifCond .le 19, 3) := by decide +kernel
theorem dX9_rootFrom_14 : decode cX9_rootFrom 14 = .ok (.iload_n 2, 1) := by decide +kernel
theorem dX9_rootFrom_15 : decode cX9_rootFrom 15 = .ok (.iload_n 2, 1) := by decide +kernel
theorem dX9_rootFrom_16 : decode cX9_rootFrom 16 = .ok (.imul, 1) := by decide +kernel
theorem dX9_rootFrom_17 : decode cX9_rootFrom 17 = .ok (.iload_n 0, 1) := by decide +kernel
theorem dX9_rootFrom_18 : decode cX9_rootFrom 18 = .ok (.if_icmp .le 12, 3) := by decide +kernel
theorem dX9_rootFrom_21 : decode cX9_rootFrom 21 = .ok (.iinc 2 (-1), 3) := by decide +kernel
theorem dX9_rootFrom_24 : decode cX9_rootFrom 24 = .ok (.iinc 3 1, 3) := by decide +kernel
theorem dX9_rootFrom_27 : decode cX9_rootFrom 27 = .ok (.goto (-23), 3) := by decide +kernel
theorem dX9_rootFrom_30 : decode cX9_rootFrom 30 = .ok (.iconst 0, 1) := by decide +kernel
theorem dX9_rootFrom_31 : decode cX9_rootFrom 31 = .ok (.istore_n 3, 1) := by decide +kernel
theorem dX9_rootFrom_32 : decode cX9_rootFrom 32 = .ok (.iload_n 3, 1) := by decide +kernel
theorem dX9_rootFrom_33 : decode cX9_rootFrom 33 = .ok (.ldc 19, 2) := by decide +kernel
theorem dX9_rootFrom_35 : decode cX9_rootFrom 35 = .ok (.if_icmp .ge 23, 3) := by decide +kernel
theorem dX9_rootFrom_38 : decode cX9_rootFrom 38 = .ok (.iload_n 2, 1) := by decide +kernel
theorem dX9_rootFrom_39 : decode cX9_rootFrom 39 = .ok (.iconst 1, 1) := by decide +kernel
theorem dX9_rootFrom_40 : decode cX9_rootFrom 40 = .ok (.iadd, 1) := by decide +kernel
theorem dX9_rootFrom_41 : decode cX9_rootFrom 41 = .ok (.iload_n 2, 1) := by decide +kernel
theorem dX9_rootFrom_42 : decode cX9_rootFrom 42 = .ok (.iconst 1, 1) := by decide +kernel
theorem dX9_rootFrom_43 : decode cX9_rootFrom 43 = .ok (.iadd, 1) := by decide +kernel
theorem dX9_rootFrom_44 : decode cX9_rootFrom 44 = .ok (.imul, 1) := by decide +kernel
theorem dX9_rootFrom_45 : decode cX9_rootFrom 45 = .ok (.iload_n 0, 1) := by decide +kernel
theorem dX9_rootFrom_46 : decode cX9_rootFrom 46 = .ok (.if_icmp .gt 12, 3) := by decide +kernel
theorem dX9_rootFrom_49 : decode cX9_rootFrom 49 = .ok (.iinc 2 1, 3) := by decide +kernel
theorem dX9_rootFrom_52 : decode cX9_rootFrom 52 = .ok (.iinc 3 1, 3) := by decide +kernel
theorem dX9_rootFrom_55 : decode cX9_rootFrom 55 = .ok (.goto (-23), 3) := by decide +kernel
theorem dX9_rootFrom_58 : decode cX9_rootFrom 58 = .ok (.iload_n 2, 1) := by decide +kernel
theorem dX9_rootFrom_59 : decode cX9_rootFrom 59 = .ok (.ireturn, 1) := by decide +kernel
