theorem dX7_covers_132 : decode cX7_covers 132 = .ok (.iastore, 1) := by decide +kernel
theorem dX7_covers_133 : decode cX7_covers 133 = .ok (.iload_n 2, 1) := by decide +kernel
theorem dX7_covers_134 : decode cX7_covers 134 = .ok (.iload_n 1, 1) := by decide +kernel
theorem dX7_covers_135 : decode cX7_covers 135 = .ok (.if_icmp .ne 6, 3) := by decide +kernel
theorem dX7_covers_138 : decode cX7_covers 138 = .ok (.goto 57, 3) := by decide +kernel
theorem dX7_covers_141 : decode cX7_covers 141 = .ok (.aload_n 0, 1) := by decide +kernel
theorem dX7_covers_142 : decode cX7_covers 142 = .ok (.getfield 67, 3) := by decide +kernel
theorem dX7_covers_145 : decode cX7_covers 145 = .ok (.iload_n 2, 1) := by decide +kernel
theorem dX7_covers_146 : decode cX7_covers 146 = .ok (.bipush 17, 2) := by decide +kernel
theorem dX7_covers_148 : decode cX7_covers 148 = .ok (.iastore, 1) := by decide +kernel
theorem dX7_covers_149 : decode cX7_covers 149 = .ok (.iload_n 2, 1) := by decide +kernel
theorem dX7_covers_150 : decode cX7_covers 150 = .ok (.invokestatic 243, 3) := by decide +kernel
theorem dX7_covers_153 : decode cX7_covers 153 = .ok (.istore_n 3, 1) := by decide +kernel
theorem dX7_covers_154 : decode cX7_covers 154 = .ok (.iconst 0, 1) := by decide +kernel
theorem dX7_covers_155 : decode cX7_covers 155 = .ok (.istore 4, 2) := by decide +kernel
theorem dX7_covers_157 : decode cX7_covers 157 = .ok (.iload 4, 2) := by decide +kernel
theorem dX7_covers_159 : decode cX7_covers 159 = .ok (.bipush 7, 2) := by decide +kernel
theorem dX7_covers_161 : decode cX7_covers 161 = .ok (.if_icmp .ge 34, 3) := by decide +kernel
theorem dX7_covers_164 : decode cX7_covers 164 = .ok (.iconst 0, 1) := by decide +kernel
theorem dX7_covers_165 : decode cX7_covers 165 = .ok (.istore 5, 2) := by decide +kernel
theorem dX7_covers_167 : decode cX7_covers 167 = .ok (.iload 5, 2) := by decide +kernel
theorem dX7_covers_169 : decode cX7_covers 169 = .ok (.iconst 2, 1) := by decide +kernel
theorem dX7_covers_170 : decode cX7_covers 170 = .ok (.if_icmp .ge 19, 3) := by decide +kernel
theorem dX7_covers_173 : decode cX7_covers 173 = .ok (.aload_n 0, 1) := by decide +kernel
theorem dX7_covers_174 : decode cX7_covers 174 = .ok (.iload_n 2, 1) := by decide +kernel
theorem dX7_covers_175 : decode cX7_covers 175 = .ok (.iload_n 3, 1) := by decide +kernel
theorem dX7_covers_176 : decode cX7_covers 176 = .ok (.iload 4, 2) := by decide +kernel
theorem dX7_covers_178 : decode cX7_covers 178 = .ok (.iload 5, 2) := by decide +kernel
theorem dX7_covers_180 : decode cX7_covers 180 = .ok (.invokevirtual 246, 3) := by decide +kernel
theorem dX7_covers_183 : decode cX7_covers 183 = .ok (.iinc 5 1, 3) := by decide +kernel
theorem dX7_covers_186 : decode cX7_covers 186 = .ok (.goto (-19), 3) := by decide +kernel
theorem dX7_covers_189 : decode cX7_covers 189 = .ok (.iinc 4 1, 3) := by decide +kernel
theorem dX7_covers_192 : decode cX7_covers 192 = .ok (.goto (-35), 3) := by decide +kernel
theorem dX7_covers_195 : decode cX7_covers 195 = .ok (.iinc 2 (-1), 3) := by decide +kernel
theorem dX7_covers_198 : decode cX7_covers 198 = .ok (.goto (-83), 3) := by decide +kernel
theorem dX7_covers_201 : decode cX7_covers 201 = .ok (.aload_n 0, 1) := by decide +kernel
theorem dX7_covers_202 : decode cX7_covers 202 = .ok (.iconst 0, 1) := by decide +kernel
theorem dX7_covers_203 : decode cX7_covers 203 = .ok (.putfield 250, 3) := by decide +kernel
theorem dX7_covers_206 : decode cX7_covers 206 = .ok (.iconst 0, 1) := by decide +kernel
theorem dX7_covers_207 : decode cX7_covers 207 = .ok (.istore_n 2, 1) := by decide +kernel
theorem dX7_covers_208 : decode cX7_covers 208 = .ok (.iload_n 2, 1) := by decide +kernel
theorem dX7_covers_209 : decode cX7_covers 209 = .ok (.aload_n 0, 1) := by decide +kernel
theorem dX7_covers_210 : decode cX7_covers 210 = .ok (.getfield 225, 3) := by decide +kernel
theorem dX7_covers_213 : decode cX7_covers 213 = .ok (.if_icmp .ge 145, 3) := by decide +kernel
theorem dX7_covers_216 : decode cX7_covers 216 = .ok (.aload_n 0, 1) := by decide +kernel
theorem dX7_covers_217 : decode cX7_covers 217 = .ok (.getfield 63, 3) := by decide +kernel
theorem dX7_covers_220 : decode cX7_covers 220 = .ok (.iload_n 2, 1) := by decide +kernel
theorem dX7_covers_221 : decode cX7_covers 221 = .ok (.iaload, 1) := by decide +kernel
theorem dX7_covers_222 : decode cX7_covers 222 = .ok (.istore_n 3, 1) := by decide +kernel
theorem dX7_covers_223 : decode cX7_covers 223 = .ok (.iload_n 3, 1) := by decide +kernel
theorem dX7_covers_224 : decode cX7_covers 224 = .ok (.bipush 6, 2) := by decide +kernel
theorem dX7_covers_226 : decode cX7_covers 226 = .ok (.irem, 1) := by decide +kernel
theorem dX7_covers_227 : decode cX7_covers 227 = .ok (.iconst 5, 1) := by decide +kernel
theorem dX7_covers_228 : decode cX7_covers 228 = .ok (.if_icmp .ge 20, 3) := by decide +kernel
theorem dX7_covers_231 : decode cX7_covers 231 = .ok (.aload_n 0, 1) := by decide +kernel
theorem dX7_covers_232 : decode cX7_covers 232 = .ok (.dup, 1) := by decide +kernel
theorem dX7_covers_233 : decode cX7_covers 233 = .ok (.getfield 250, 3) := by decide +kernel
theorem dX7_covers_236 : decode cX7_covers 236 = .ok (.aload_n 0, 1) := by decide +kernel
theorem dX7_covers_237 : decode cX7_covers 237 = .ok (.iload_n 3, 1) := by decide +kernel
theorem dX7_covers_238 : decode cX7_covers 238 = .ok (.iload_n 3, 1) := by decide +kernel
theorem dX7_covers_239 : decode cX7_covers 239 = .ok (.iconst 1, 1) := by decide +kernel
theorem dX7_covers_240 : decode cX7_covers 240 = .ok (.iadd, 1) := by decide +kernel
theorem dX7_covers_241 : decode cX7_covers 241 = .ok (.invokevirtual 253, 3) := by decide +kernel
theorem dX7_covers_244 : decode cX7_covers 244 = .ok (.iadd, 1) := by decide +kernel
theorem dX7_covers_245 : decode cX7_covers 245 = .ok (.putfield 250, 3) := by decide +kernel
theorem dX7_covers_248 : decode cX7_covers 248 = .ok (.iload_n 3, 1) := by decide +kernel
theorem dX7_covers_249 : decode cX7_covers 249 = .ok (.bipush 6, 2) := by decide +kernel
theorem dX7_covers_251 : decode cX7_covers 251 = .ok (.idiv, 1) := by decide +kernel
theorem dX7_covers_252 : decode cX7_covers 252 = .ok (.bipush 6, 2) := by decide +kernel
theorem dX7_covers_254 : decode cX7_covers 254 = .ok (.irem, 1) := by decide +kernel
theorem dX7_covers_255 : decode cX7_covers 255 = .ok (.iconst 5, 1) := by decide +kernel
theorem dX7_covers_256 : decode cX7_covers 256 = .ok (.if_icmp .ge 21, 3) := by decide +kernel
theorem dX7_covers_259 : decode cX7_covers 259 = .ok (.aload_n 0, 1) := by decide +kernel
theorem dX7_covers_260 : decode cX7_covers 260 = .ok (.dup, 1) := by decide +kernel
theorem dX7_covers_261 : decode cX7_covers 261 = .ok (.getfield 250, 3) := by decide +kernel
theorem dX7_covers_264 : decode cX7_covers 264 = .ok (.aload_n 0, 1) := by decide +kernel
theorem dX7_covers_265 : decode cX7_covers 265 = .ok (.iload_n 3, 1) := by decide +kernel
theorem dX7_covers_266 : decode cX7_covers 266 = .ok (.iload_n 3, 1) := by decide +kernel
theorem dX7_covers_267 : decode cX7_covers 267 = .ok (.bipush 6, 2) := by decide +kernel
theorem dX7_covers_269 : decode cX7_covers 269 = .ok (.iadd, 1) := by decide +kernel
theorem dX7_covers_270 : decode cX7_covers 270 = .ok (.invokevirtual 253, 3) := by decide +kernel
theorem dX7_covers_273 : decode cX7_covers 273 = .ok (.iadd, 1) := by decide +kernel
theorem dX7_covers_274 : decode cX7_covers 274 = .ok (.putfield 250, 3) := by decide +kernel
theorem dX7_covers_277 : decode cX7_covers 277 = .ok (.iload_n 3, 1) := by decide +kernel
theorem dX7_covers_278 : decode cX7_covers 278 = .ok (.bipush 6, 2) := by decide +kernel
theorem dX7_covers_280 : decode cX7_covers 280 = .ok (.irem, 1) := by decide +kernel
theorem dX7_covers_281 : decode cX7_covers 281 = .ok (.ifCond .le 31, 3) := by decide +kernel
theorem dX7_covers_284 : decode cX7_covers 284 = .ok (.aload_n 0, 1) := by decide +kernel
theorem dX7_covers_285 : decode cX7_covers 285 = .ok (.getfield 16, 3) := by decide +kernel
theorem dX7_covers_288 : decode cX7_covers 288 = .ok (.iload_n 3, 1) := by decide +kernel
theorem dX7_covers_289 : decode cX7_covers 289 = .ok (.iconst 1, 1) := by decide +kernel
theorem dX7_covers_290 : decode cX7_covers 290 = .ok (.isub, 1) := by decide +kernel
theorem dX7_covers_291 : decode cX7_covers 291 = .ok (.iaload, 1) := by decide +kernel
theorem dX7_covers_292 : decode cX7_covers 292 = .ok (.ifCond .lt 20, 3) := by decide +kernel
theorem dX7_covers_295 : decode cX7_covers 295 = .ok (.aload_n 0, 1) := by decide +kernel
theorem dX7_covers_296 : decode cX7_covers 296 = .ok (.dup, 1) := by decide +kernel
theorem dX7_covers_297 : decode cX7_covers 297 = .ok (.getfield 250, 3) := by decide +kernel
theorem dX7_covers_300 : decode cX7_covers 300 = .ok (.aload_n 0, 1) := by decide +kernel
theorem dX7_covers_301 : decode cX7_covers 301 = .ok (.iload_n 3, 1) := by decide +kernel
theorem dX7_covers_302 : decode cX7_covers 302 = .ok (.iconst 1, 1) := by decide +kernel
theorem dX7_covers_303 : decode cX7_covers 303 = .ok (.isub, 1) := by decide +kernel
theorem dX7_covers_304 : decode cX7_covers 304 = .ok (.iload_n 3, 1) := by decide +kernel
theorem dX7_covers_305 : decode cX7_covers 305 = .ok (.invokevirtual 231, 3) := by decide +kernel
theorem dX7_covers_308 : decode cX7_covers 308 = .ok (.iadd, 1) := by decide +kernel
theorem dX7_covers_309 : decode cX7_covers 309 = .ok (.putfield 250, 3) := by decide +kernel
theorem dX7_covers_312 : decode cX7_covers 312 = .ok (.iload_n 3, 1) := by decide +kernel
theorem dX7_covers_313 : decode cX7_covers 313 = .ok (.bipush 6, 2) := by decide +kernel
theorem dX7_covers_315 : decode cX7_covers 315 = .ok (.idiv, 1) := by decide +kernel
theorem dX7_covers_316 : decode cX7_covers 316 = .ok (.bipush 6, 2) := by decide +kernel
theorem dX7_covers_318 : decode cX7_covers 318 = .ok (.irem, 1) := by decide +kernel
theorem dX7_covers_319 : decode cX7_covers 319 = .ok (.ifCond .le 33, 3) := by decide +kernel
theorem dX7_covers_322 : decode cX7_covers 322 = .ok (.aload_n 0, 1) := by decide +kernel
theorem dX7_covers_323 : decode cX7_covers 323 = .ok (.getfield 16, 3) := by decide +kernel
theorem dX7_covers_326 : decode cX7_covers 326 = .ok (.iload_n 3, 1) := by decide +kernel
theorem dX7_covers_327 : decode cX7_covers 327 = .ok (.bipush 6, 2) := by decide +kernel
theorem dX7_covers_329 : decode cX7_covers 329 = .ok (.isub, 1) := by decide +kernel
theorem dX7_covers_330 : decode cX7_covers 330 = .ok (.iaload, 1) := by decide +kernel
theorem dX7_covers_331 : decode cX7_covers 331 = .ok (.ifCond .lt 21, 3) := by decide +kernel
theorem dX7_covers_334 : decode cX7_covers 334 = .ok (.aload_n 0, 1) := by decide +kernel
theorem dX7_covers_335 : decode cX7_covers 335 = .ok (.dup, 1) := by decide +kernel
theorem dX7_covers_336 : decode cX7_covers 336 = .ok (.getfield 250, 3) := by decide +kernel
theorem dX7_covers_339 : decode cX7_covers 339 = .ok (.aload_n 0, 1) := by decide +kernel
theorem dX7_covers_340 : decode cX7_covers 340 = .ok (.iload_n 3, 1) := by decide +kernel
theorem dX7_covers_341 : decode cX7_covers 341 = .ok (.bipush 6, 2) := by decide +kernel
theorem dX7_covers_343 : decode cX7_covers 343 = .ok (.isub, 1) := by decide +kernel
theorem dX7_covers_344 : decode cX7_covers 344 = .ok (.iload_n 3, 1) := by decide +kernel
theorem dX7_covers_345 : decode cX7_covers 345 = .ok (.invokevirtual 231, 3) := by decide +kernel
theorem dX7_covers_348 : decode cX7_covers 348 = .ok (.iadd, 1) := by decide +kernel
theorem dX7_covers_349 : decode cX7_covers 349 = .ok (.putfield 250, 3) := by decide +kernel
theorem dX7_covers_352 : decode cX7_covers 352 = .ok (.iinc 2 1, 3) := by decide +kernel
theorem dX7_covers_355 : decode cX7_covers 355 = .ok (.goto (-147), 3) := by decide +kernel
theorem dX7_covers_358 : decode cX7_covers 358 = .ok (.return_, 1) := by decide +kernel
theorem dX7_parted_0 : decode cX7_parted 0 = .ok (.aload_n 0, 1) := by decide +kernel
theorem dX7_parted_1 : decode cX7_parted 1 = .ok (.getfield 16, 3) := by decide +kernel
theorem dX7_parted_4 : decode cX7_parted 4 = .ok (.iload_n 2, 1) := by decide +kernel
theorem dX7_parted_5 : decode cX7_parted 5 = .ok (.iaload, 1) := by decide +kernel
theorem dX7_parted_6 : decode cX7_parted 6 = .ok (.ifCond .ge 15, 3) := by decide +kernel
theorem dX7_parted_9 : decode cX7_parted 9 = .ok (.aload_n 0, 1) := by decide +kernel
theorem dX7_parted_10 : decode cX7_parted 10 = .ok (.getfield 73, 3) := by decide +kernel
theorem dX7_parted_13 : decode cX7_parted 13 = .ok (.iload_n 2, 1) := by decide +kernel
theorem dX7_parted_14 : decode cX7_parted 14 = .ok (.bipush 36, 2) := by decide +kernel
theorem dX7_parted_16 : decode cX7_parted 16 = .ok (.irem, 1) := by decide +kernel
theorem dX7_parted_17 : decode cX7_parted 17 = .ok (.iaload, 1) := by decide +kernel
theorem dX7_parted_18 : decode cX7_parted 18 = .ok (.ifCond .lt 12, 3) := by decide +kernel
theorem dX7_parted_21 : decode cX7_parted 21 = .ok (.aload_n 0, 1) := by decide +kernel
theorem dX7_parted_22 : decode cX7_parted 22 = .ok (.iload_n 1, 1) := by decide +kernel
theorem dX7_parted_23 : decode cX7_parted 23 = .ok (.iload_n 2, 1) := by decide +kernel
theorem dX7_parted_24 : decode cX7_parted 24 = .ok (.invokevirtual 231, 3) := by decide +kernel
theorem dX7_parted_27 : decode cX7_parted 27 = .ok (.goto 4, 3) := by decide +kernel
theorem dX7_parted_30 : decode cX7_parted 30 = .ok (.iconst 0, 1) := by decide +kernel
theorem dX7_parted_31 : decode cX7_parted 31 = .ok (.ireturn, 1) := by decide +kernel
theorem dX7_firstOpen_0 : decode cX7_firstOpen 0 = .ok (.iconst 0, 1) := by decide +kernel
theorem dX7_firstOpen_1 : decode cX7_firstOpen 1 = .ok (.istore_n 1, 1) := by decide +kernel
theorem dX7_firstOpen_2 : decode cX7_firstOpen 2 = .ok (.iload_n 0, 1) := by decide +kernel
theorem dX7_firstOpen_3 : decode cX7_firstOpen 3 = .ok (.iload_n 1, 1) := by decide +kernel
theorem dX7_firstOpen_4 : decode cX7_firstOpen 4 = .ok (.ishr, 1) := by decide +kernel
theorem dX7_firstOpen_5 : decode cX7_firstOpen 5 = .ok (.iconst 1, 1) := by decide +kernel
theorem dX7_firstOpen_6 : decode cX7_firstOpen 6 = .ok (.iand, 1) := by decide +kernel
theorem dX7_firstOpen_7 : decode cX7_firstOpen 7 = .ok (.iconst 1, 1) := by decide +kernel
theorem dX7_firstOpen_8 : decode cX7_firstOpen 8 = .ok (.if_icmp .ne 9, 3) := by decide +kernel
theorem dX7_firstOpen_11 : decode cX7_firstOpen 11 = .ok (.iinc 1 1, 3) := by decide +kernel
theorem dX7_firstOpen_14 : decode cX7_firstOpen 14 = .ok (.goto (-12), 3) := by decide +kernel
theorem dX7_firstOpen_17 : decode cX7_firstOpen 17 = .ok (.iload_n 1, 1) := by decide +kernel
theorem dX7_firstOpen_18 : decode cX7_firstOpen 18 = .ok (.ireturn, 1) := by decide +kernel
theorem dX7_tries_0 : decode cX7_tries 0 = .ok (.aload_n 0, 1) := by decide +kernel
theorem dX7_tries_1 : decode cX7_tries 1 = .ok (.getfield 76, 3) := by decide +kernel
theorem dX7_tries_4 : decode cX7_tries 4 = .ok (.iload_n 2, 1) := by decide +kernel
theorem dX7_tries_5 : decode cX7_tries 5 = .ok (.iload_n 3, 1) := by decide +kernel
theorem dX7_tries_6 : decode cX7_tries 6 = .ok (.iload 4, 2) := by decide +kernel
theorem dX7_tries_8 : decode cX7_tries 8 = .ok (.invokestatic 237, 3) := by decide +kernel
theorem dX7_tries_11 : decode cX7_tries 11 = .ok (.iaload, 1) := by decide +kernel
theorem dX7_tries_12 : decode cX7_tries 12 = .ok (.istore 5, 2) := by decide +kernel
theorem dX7_tries_14 : decode cX7_tries 14 = .ok (.iload 5, 2) := by decide +kernel
theorem dX7_tries_16 : decode cX7_tries 16 = .ok (.ifCond .eq 10, 3) := by decide +kernel
theorem dX7_tries_19 : decode cX7_tries 19 = .ok (.iload 5, 2) := by decide +kernel
theorem dX7_tries_21 : decode cX7_tries 21 = .ok (.iload_n 1, 1) := by decide +kernel
theorem dX7_tries_22 : decode cX7_tries 22 = .ok (.iand, 1) := by decide +kernel
theorem dX7_tries_23 : decode cX7_tries 23 = .ok (.ifCond .eq 4, 3) := by decide +kernel
theorem dX7_tries_26 : decode cX7_tries 26 = .ok (.return_, 1) := by decide +kernel
theorem dX7_tries_27 : decode cX7_tries 27 = .ok (.iconst 1, 1) := by decide +kernel
theorem dX7_tries_28 : decode cX7_tries 28 = .ok (.aload_n 0, 1) := by decide +kernel
theorem dX7_tries_29 : decode cX7_tries 29 = .ok (.getfield 67, 3) := by decide +kernel
theorem dX7_tries_32 : decode cX7_tries 32 = .ok (.iload_n 1, 1) := by decide +kernel
theorem dX7_tries_33 : decode cX7_tries 33 = .ok (.iload 5, 2) := by decide +kernel
theorem dX7_tries_35 : decode cX7_tries 35 = .ok (.ior, 1) := by decide +kernel
theorem dX7_tries_36 : decode cX7_tries 36 = .ok (.iaload, 1) := by decide +kernel
theorem dX7_tries_37 : decode cX7_tries 37 = .ok (.iadd, 1) := by decide +kernel
theorem dX7_tries_38 : decode cX7_tries 38 = .ok (.istore 6, 2) := by decide +kernel
theorem dX7_tries_40 : decode cX7_tries 40 = .ok (.aload_n 0, 1) := by decide +kernel
theorem dX7_tries_41 : decode cX7_tries 41 = .ok (.getfield 70, 3) := by decide +kernel
theorem dX7_tries_44 : decode cX7_tries 44 = .ok (.iload_n 1, 1) := by decide +kernel
theorem dX7_tries_45 : decode cX7_tries 45 = .ok (.iload 5, 2) := by decide +kernel
theorem dX7_tries_47 : decode cX7_tries 47 = .ok (.ior, 1) := by decide +kernel
theorem dX7_tries_48 : decode cX7_tries 48 = .ok (.iaload, 1) := by decide +kernel
theorem dX7_tries_49 : decode cX7_tries 49 = .ok (.aload_n 0, 1) := by decide +kernel
theorem dX7_tries_50 : decode cX7_tries 50 = .ok (.getfield 79, 3) := by decide +kernel
theorem dX7_tries_53 : decode cX7_tries 53 = .ok (.iload_n 2, 1) := by decide +kernel
theorem dX7_tries_54 : decode cX7_tries 54 = .ok (.iload_n 3, 1) := by decide +kernel
theorem dX7_tries_55 : decode cX7_tries 55 = .ok (.iload 4, 2) := by decide +kernel
theorem dX7_tries_57 : decode cX7_tries 57 = .ok (.invokestatic 237, 3) := by decide +kernel
theorem dX7_tries_60 : decode cX7_tries 60 = .ok (.iaload, 1) := by decide +kernel
theorem dX7_tries_61 : decode cX7_tries 61 = .ok (.isub, 1) := by decide +kernel
theorem dX7_tries_62 : decode cX7_tries 62 = .ok (.istore 7, 2) := by decide +kernel
theorem dX7_tries_64 : decode cX7_tries 64 = .ok (.iload 6, 2) := by decide +kernel
theorem dX7_tries_66 : decode cX7_tries 66 = .ok (.aload_n 0, 1) := by decide +kernel
theorem dX7_tries_67 : decode cX7_tries 67 = .ok (.getfield 67, 3) := by decide +kernel
theorem dX7_tries_70 : decode cX7_tries 70 = .ok (.iload_n 1, 1) := by decide +kernel
theorem dX7_tries_71 : decode cX7_tries 71 = .ok (.iaload, 1) := by decide +kernel
theorem dX7_tries_72 : decode cX7_tries 72 = .ok (.if_icmp .gt 25, 3) := by decide +kernel
theorem dX7_tries_75 : decode cX7_tries 75 = .ok (.iload 6, 2) := by decide +kernel
theorem dX7_tries_77 : decode cX7_tries 77 = .ok (.aload_n 0, 1) := by decide +kernel
theorem dX7_tries_78 : decode cX7_tries 78 = .ok (.getfield 67, 3) := by decide +kernel
theorem dX7_tries_81 : decode cX7_tries 81 = .ok (.iload_n 1, 1) := by decide +kernel
theorem dX7_tries_82 : decode cX7_tries 82 = .ok (.iaload, 1) := by decide +kernel
theorem dX7_tries_83 : decode cX7_tries 83 = .ok (.if_icmp .ne 15, 3) := by decide +kernel
theorem dX7_tries_86 : decode cX7_tries 86 = .ok (.iload 7, 2) := by decide +kernel
theorem dX7_tries_88 : decode cX7_tries 88 = .ok (.aload_n 0, 1) := by decide +kernel
theorem dX7_tries_89 : decode cX7_tries 89 = .ok (.getfield 70, 3) := by decide +kernel
theorem dX7_tries_92 : decode cX7_tries 92 = .ok (.iload_n 1, 1) := by decide +kernel
theorem dX7_tries_93 : decode cX7_tries 93 = .ok (.iaload, 1) := by decide +kernel
theorem dX7_tries_94 : decode cX7_tries 94 = .ok (.if_icmp .lt 4, 3) := by decide +kernel
theorem dX7_tries_97 : decode cX7_tries 97 = .ok (.return_, 1) := by decide +kernel
theorem dX7_tries_98 : decode cX7_tries 98 = .ok (.aload_n 0, 1) := by decide +kernel
theorem dX7_tries_99 : decode cX7_tries 99 = .ok (.getfield 67, 3) := by decide +kernel
theorem dX7_tries_102 : decode cX7_tries 102 = .ok (.iload_n 1, 1) := by decide +kernel
theorem dX7_tries_103 : decode cX7_tries 103 = .ok (.iload 6, 2) := by decide +kernel
theorem dX7_tries_105 : decode cX7_tries 105 = .ok (.iastore, 1) := by decide +kernel
theorem dX7_tries_106 : decode cX7_tries 106 = .ok (.aload_n 0, 1) := by decide +kernel
theorem dX7_tries_107 : decode cX7_tries 107 = .ok (.getfield 70, 3) := by decide +kernel
theorem dX7_tries_110 : decode cX7_tries 110 = .ok (.iload_n 1, 1) := by decide +kernel
theorem dX7_tries_111 : decode cX7_tries 111 = .ok (.iload 7, 2) := by decide +kernel
theorem dX7_tries_113 : decode cX7_tries 113 = .ok (.iastore, 1) := by decide +kernel
theorem dX7_tries_114 : decode cX7_tries 114 = .ok (.return_, 1) := by decide +kernel
theorem dX7_next_0 : decode cX7_next 0 = .ok (.iload_n 1, 1) := by decide +kernel
theorem dX7_next_1 : decode cX7_next 1 = .ok (.invokestatic 243, 3) := by decide +kernel
theorem dX7_next_4 : decode cX7_next 4 = .ok (.istore_n 2, 1) := by decide +kernel
theorem dX7_next_5 : decode cX7_next 5 = .ok (.bipush 6, 2) := by decide +kernel
theorem dX7_next_7 : decode cX7_next 7 = .ok (.istore_n 3, 1) := by decide +kernel
theorem dX7_next_8 : decode cX7_next 8 = .ok (.iload_n 3, 1) := by decide +kernel
theorem dX7_next_9 : decode cX7_next 9 = .ok (.ifCond .lt 109, 3) := by decide +kernel
theorem dX7_next_12 : decode cX7_next 12 = .ok (.iconst 0, 1) := by decide +kernel
theorem dX7_next_13 : decode cX7_next 13 = .ok (.istore 4, 2) := by decide +kernel
theorem dX7_next_15 : decode cX7_next 15 = .ok (.iload 4, 2) := by decide +kernel
theorem dX7_next_17 : decode cX7_next 17 = .ok (.iconst 2, 1) := by decide +kernel
theorem dX7_next_18 : decode cX7_next 18 = .ok (.if_icmp .ge 94, 3) := by decide +kernel
theorem dX7_next_21 : decode cX7_next 21 = .ok (.aload_n 0, 1) := by decide +kernel
theorem dX7_next_22 : decode cX7_next 22 = .ok (.getfield 76, 3) := by decide +kernel
theorem dX7_next_25 : decode cX7_next 25 = .ok (.iload_n 2, 1) := by decide +kernel
theorem dX7_next_26 : decode cX7_next 26 = .ok (.iload_n 3, 1) := by decide +kernel
theorem dX7_next_27 : decode cX7_next 27 = .ok (.iload 4, 2) := by decide +kernel
theorem dX7_next_29 : decode cX7_next 29 = .ok (.invokestatic 237, 3) := by decide +kernel
theorem dX7_next_32 : decode cX7_next 32 = .ok (.iaload, 1) := by decide +kernel
theorem dX7_next_33 : decode cX7_next 33 = .ok (.istore 5, 2) := by decide +kernel
theorem dX7_next_35 : decode cX7_next 35 = .ok (.iload 5, 2) := by decide +kernel
theorem dX7_next_37 : decode cX7_next 37 = .ok (.ifCond .eq 69, 3) := by decide +kernel
theorem dX7_next_40 : decode cX7_next 40 = .ok (.iload 5, 2) := by decide +kernel
theorem dX7_next_42 : decode cX7_next 42 = .ok (.iload_n 1, 1) := by decide +kernel
theorem dX7_next_43 : decode cX7_next 43 = .ok (.iand, 1) := by decide +kernel
theorem dX7_next_44 : decode cX7_next 44 = .ok (.ifCond .ne 62, 3) := by decide +kernel
theorem dX7_next_47 : decode cX7_next 47 = .ok (.iconst 1, 1) := by decide +kernel
theorem dX7_next_48 : decode cX7_next 48 = .ok (.aload_n 0, 1) := by decide +kernel
theorem dX7_next_49 : decode cX7_next 49 = .ok (.getfield 67, 3) := by decide +kernel
theorem dX7_next_52 : decode cX7_next 52 = .ok (.iload_n 1, 1) := by decide +kernel
theorem dX7_next_53 : decode cX7_next 53 = .ok (.iload 5, 2) := by decide +kernel
theorem dX7_next_55 : decode cX7_next 55 = .ok (.ior, 1) := by decide +kernel
theorem dX7_next_56 : decode cX7_next 56 = .ok (.iaload, 1) := by decide +kernel
theorem dX7_next_57 : decode cX7_next 57 = .ok (.iadd, 1) := by decide +kernel
theorem dX7_next_58 : decode cX7_next 58 = .ok (.aload_n 0, 1) := by decide +kernel
theorem dX7_next_59 : decode cX7_next 59 = .ok (.getfield 67, 3) := by decide +kernel
theorem dX7_next_62 : decode cX7_next 62 = .ok (.iload_n 1, 1) := by decide +kernel
theorem dX7_next_63 : decode cX7_next 63 = .ok (.iaload, 1) := by decide +kernel
theorem dX7_next_64 : decode cX7_next 64 = .ok (.if_icmp .ne 42, 3) := by decide +kernel
theorem dX7_next_67 : decode cX7_next 67 = .ok (.aload_n 0, 1) := by decide +kernel
theorem dX7_next_68 : decode cX7_next 68 = .ok (.getfield 70, 3) := by decide +kernel
theorem dX7_next_71 : decode cX7_next 71 = .ok (.iload_n 1, 1) := by decide +kernel
theorem dX7_next_72 : decode cX7_next 72 = .ok (.iload 5, 2) := by decide +kernel
theorem dX7_next_74 : decode cX7_next 74 = .ok (.ior, 1) := by decide +kernel
theorem dX7_next_75 : decode cX7_next 75 = .ok (.iaload, 1) := by decide +kernel
theorem dX7_next_76 : decode cX7_next 76 = .ok (.aload_n 0, 1) := by decide +kernel
theorem dX7_next_77 : decode cX7_next 77 = .ok (.getfield 79, 3) := by decide +kernel
theorem dX7_next_80 : decode cX7_next 80 = .ok (.iload_n 2, 1) := by decide +kernel
theorem dX7_next_81 : decode cX7_next 81 = .ok (.iload_n 3, 1) := by decide +kernel
theorem dX7_next_82 : decode cX7_next 82 = .ok (.iload 4, 2) := by decide +kernel
theorem dX7_next_84 : decode cX7_next 84 = .ok (.invokestatic 237, 3) := by decide +kernel
theorem dX7_next_87 : decode cX7_next 87 = .ok (.iaload, 1) := by decide +kernel
theorem dX7_next_88 : decode cX7_next 88 = .ok (.isub, 1) := by decide +kernel
theorem dX7_next_89 : decode cX7_next 89 = .ok (.aload_n 0, 1) := by decide +kernel
theorem dX7_next_90 : decode cX7_next 90 = .ok (.getfield 70, 3) := by decide +kernel
theorem dX7_next_93 : decode cX7_next 93 = .ok (.iload_n 1, 1) := by decide +kernel
theorem dX7_next_94 : decode cX7_next 94 = .ok (.iaload, 1) := by decide +kernel
theorem dX7_next_95 : decode cX7_next 95 = .ok (.if_icmp .ne 11, 3) := by decide +kernel
theorem dX7_next_98 : decode cX7_next 98 = .ok (.iload_n 3, 1) := by decide +kernel
theorem dX7_next_99 : decode cX7_next 99 = .ok (.bipush 10, 2) := by decide +kernel
theorem dX7_next_101 : decode cX7_next 101 = .ok (.iload 4, 2) := by decide +kernel
theorem dX7_next_103 : decode cX7_next 103 = .ok (.imul, 1) := by decide +kernel
theorem dX7_next_104 : decode cX7_next 104 = .ok (.iadd, 1) := by decide +kernel
theorem dX7_next_105 : decode cX7_next 105 = .ok (.ireturn, 1) := by decide +kernel
theorem dX7_next_106 : decode cX7_next 106 = .ok (.iinc 4 1, 3) := by decide +kernel
theorem dX7_next_109 : decode cX7_next 109 = .ok (.goto (-94), 3) := by decide +kernel
theorem dX7_next_112 : decode cX7_next 112 = .ok (.iinc 3 (-1), 3) := by decide +kernel
theorem dX7_next_115 : decode cX7_next 115 = .ok (.goto (-107), 3) := by decide +kernel
theorem dX7_next_118 : decode cX7_next 118 = .ok (.bipush (-9), 2) := by decide +kernel
theorem dX7_next_120 : decode cX7_next 120 = .ok (.ireturn, 1) := by decide +kernel
theorem dX7_cover_0 : decode cX7_cover 0 = .ok (.aload_n 0, 1) := by decide +kernel
theorem dX7_cover_1 : decode cX7_cover 1 = .ok (.iload_n 1, 1) := by decide +kernel
theorem dX7_cover_2 : decode cX7_cover 2 = .ok (.iload_n 2, 1) := by decide +kernel
theorem dX7_cover_3 : decode cX7_cover 3 = .ok (.invokevirtual 256, 3) := by decide +kernel
theorem dX7_cover_6 : decode cX7_cover 6 = .ok (.istore_n 3, 1) := by decide +kernel
theorem dX7_cover_7 : decode cX7_cover 7 = .ok (.iload_n 3, 1) := by decide +kernel
theorem dX7_cover_8 : decode cX7_cover 8 = .ok (.ifCond .eq 9, 3) := by decide +kernel
theorem dX7_cover_11 : decode cX7_cover 11 = .ok (.aload_n 0, 1) := by decide +kernel
theorem dX7_cover_12 : decode cX7_cover 12 = .ok (.iload_n 3, 1) := by decide +kernel
theorem dX7_cover_13 : decode cX7_cover 13 = .ok (.invokevirtual 106, 3) := by decide +kernel
theorem dX7_cover_16 : decode cX7_cover 16 = .ok (.ireturn, 1) := by decide +kernel
theorem dX7_cover_17 : decode cX7_cover 17 = .ok (.aload_n 0, 1) := by decide +kernel
theorem dX7_cover_18 : decode cX7_cover 18 = .ok (.invokevirtual 259, 3) := by decide +kernel
theorem dX7_cover_21 : decode cX7_cover 21 = .ok (.aload_n 0, 1) := by decide +kernel
theorem dX7_cover_22 : decode cX7_cover 22 = .ok (.getfield 67, 3) := by decide +kernel
theorem dX7_cover_25 : decode cX7_cover 25 = .ok (.iconst 0, 1) := by decide +kernel
theorem dX7_cover_26 : decode cX7_cover 26 = .ok (.iaload, 1) := by decide +kernel
theorem dX7_cover_27 : decode cX7_cover 27 = .ok (.ireturn, 1) := by decide +kernel
theorem dX7_coverSeams_0 : decode cX7_coverSeams 0 = .ok (.aload_n 0, 1) := by decide +kernel
theorem dX7_coverSeams_1 : decode cX7_coverSeams 1 = .ok (.iload_n 1, 1) := by decide +kernel
theorem dX7_coverSeams_2 : decode cX7_coverSeams 2 = .ok (.iload_n 2, 1) := by decide +kernel
theorem dX7_coverSeams_3 : decode cX7_coverSeams 3 = .ok (.invokevirtual 256, 3) := by decide +kernel
theorem dX7_coverSeams_6 : decode cX7_coverSeams 6 = .ok (.istore_n 3, 1) := by decide +kernel
theorem dX7_coverSeams_7 : decode cX7_coverSeams 7 = .ok (.iload_n 3, 1) := by decide +kernel
theorem dX7_coverSeams_8 : decode cX7_coverSeams 8 = .ok (.ifCond .eq 9, 3) := by decide +kernel
theorem dX7_coverSeams_11 : decode cX7_coverSeams 11 = .ok (.aload_n 0, 1) := by decide +kernel
theorem dX7_coverSeams_12 : decode cX7_coverSeams 12 = .ok (.iload_n 3, 1) := by decide +kernel
theorem dX7_coverSeams_13 : decode cX7_coverSeams 13 = .ok (.invokevirtual 106, 3) := by decide +kernel
theorem dX7_coverSeams_16 : decode cX7_coverSeams 16 = .ok (.ireturn, 1) := by decide +kernel
theorem dX7_coverSeams_17 : decode cX7_coverSeams 17 = .ok (.aload_n 0, 1) := by decide +kernel
theorem dX7_coverSeams_18 : decode cX7_coverSeams 18 = .ok (.invokevirtual 259, 3) := by decide +kernel
theorem dX7_coverSeams_21 : decode cX7_coverSeams 21 = .ok (.aload_n 0, 1) := by decide +kernel
theorem dX7_coverSeams_22 : decode cX7_coverSeams 22 = .ok (.getfield 250, 3) := by decide +kernel
theorem dX7_coverSeams_25 : decode cX7_coverSeams 25 = .ok (.aload_n 0, 1) := by decide +kernel
theorem dX7_coverSeams_26 : decode cX7_coverSeams 26 = .ok (.getfield 70, 3) := by decide +kernel
theorem dX7_coverSeams_29 : decode cX7_coverSeams 29 = .ok (.iconst 0, 1) := by decide +kernel
theorem dX7_coverSeams_30 : decode cX7_coverSeams 30 = .ok (.iaload, 1) := by decide +kernel
theorem dX7_coverSeams_31 : decode cX7_coverSeams 31 = .ok (.iadd, 1) := by decide +kernel
theorem dX7_coverSeams_32 : decode cX7_coverSeams 32 = .ok (.ireturn, 1) := by decide +kernel
theorem dX7_coverAt_0 : decode cX7_coverAt 0 = .ok (.aload_n 0, 1) := by decide +kernel
theorem dX7_coverAt_1 : decode cX7_coverAt 1 = .ok (.iload_n 1, 1) := by decide +kernel
theorem dX7_coverAt_2 : decode cX7_coverAt 2 = .ok (.iload_n 2, 1) := by decide +kernel
theorem dX7_coverAt_3 : decode cX7_coverAt 3 = .ok (.invokevirtual 256, 3) := by decide +kernel
theorem dX7_coverAt_6 : decode cX7_coverAt 6 = .ok (.istore 4, 2) := by decide +kernel
theorem dX7_coverAt_8 : decode cX7_coverAt 8 = .ok (.iload 4, 2) := by decide +kernel
theorem dX7_coverAt_10 : decode cX7_coverAt 10 = .ok (.ifCond .eq 10, 3) := by decide +kernel
theorem dX7_coverAt_13 : decode cX7_coverAt 13 = .ok (.aload_n 0, 1) := by decide +kernel
theorem dX7_coverAt_14 : decode cX7_coverAt 14 = .ok (.iload 4, 2) := by decide +kernel
theorem dX7_coverAt_16 : decode cX7_coverAt 16 = .ok (.invokevirtual 106, 3) := by decide +kernel
theorem dX7_coverAt_19 : decode cX7_coverAt 19 = .ok (.ireturn, 1) := by decide +kernel
theorem dX7_coverAt_20 : decode cX7_coverAt 20 = .ok (.aload_n 0, 1) := by decide +kernel
theorem dX7_coverAt_21 : decode cX7_coverAt 21 = .ok (.invokevirtual 259, 3) := by decide +kernel
theorem dX7_coverAt_24 : decode cX7_coverAt 24 = .ok (.iload_n 3, 1) := by decide +kernel
theorem dX7_coverAt_25 : decode cX7_coverAt 25 = .ok (.aload_n 0, 1) := by decide +kernel
theorem dX7_coverAt_26 : decode cX7_coverAt 26 = .ok (.getfield 67, 3) := by decide +kernel
theorem dX7_coverAt_29 : decode cX7_coverAt 29 = .ok (.iconst 0, 1) := by decide +kernel
theorem dX7_coverAt_30 : decode cX7_coverAt 30 = .ok (.iaload, 1) := by decide +kernel
theorem dX7_coverAt_31 : decode cX7_coverAt 31 = .ok (.invokestatic 98, 3) := by decide +kernel
theorem dX7_coverAt_34 : decode cX7_coverAt 34 = .ok (.ifCond .ne 6, 3) := by decide +kernel
theorem dX7_coverAt_37 : decode cX7_coverAt 37 = .ok (.bipush (-9), 2) := by decide +kernel
theorem dX7_coverAt_39 : decode cX7_coverAt 39 = .ok (.ireturn, 1) := by decide +kernel
theorem dX7_coverAt_40 : decode cX7_coverAt 40 = .ok (.iconst 0, 1) := by decide +kernel
theorem dX7_coverAt_41 : decode cX7_coverAt 41 = .ok (.istore 5, 2) := by decide +kernel
theorem dX7_coverAt_43 : decode cX7_coverAt 43 = .ok (.iconst 0, 1) := by decide +kernel
theorem dX7_coverAt_44 : decode cX7_coverAt 44 = .ok (.istore 6, 2) := by decide +kernel
theorem dX7_coverAt_46 : decode cX7_coverAt 46 = .ok (.iload 6, 2) := by decide +kernel
theorem dX7_coverAt_48 : decode cX7_coverAt 48 = .ok (.iload_n 3, 1) := by decide +kernel
theorem dX7_coverAt_49 : decode cX7_coverAt 49 = .ok (.if_icmp .ge 45, 3) := by decide +kernel
theorem dX7_coverAt_52 : decode cX7_coverAt 52 = .ok (.aload_n 0, 1) := by decide +kernel
theorem dX7_coverAt_53 : decode cX7_coverAt 53 = .ok (.iload 5, 2) := by decide +kernel
theorem dX7_coverAt_55 : decode cX7_coverAt 55 = .ok (.invokevirtual 262, 3) := by decide +kernel
theorem dX7_coverAt_58 : decode cX7_coverAt 58 = .ok (.istore 7, 2) := by decide +kernel
theorem dX7_coverAt_60 : decode cX7_coverAt 60 = .ok (.iload 5, 2) := by decide +kernel
theorem dX7_coverAt_62 : decode cX7_coverAt 62 = .ok (.aload_n 0, 1) := by decide +kernel
theorem dX7_coverAt_63 : decode cX7_coverAt 63 = .ok (.getfield 76, 3) := by decide +kernel
theorem dX7_coverAt_66 : decode cX7_coverAt 66 = .ok (.iload 5, 2) := by decide +kernel
theorem dX7_coverAt_68 : decode cX7_coverAt 68 = .ok (.invokestatic 243, 3) := by decide +kernel
theorem dX7_coverAt_71 : decode cX7_coverAt 71 = .ok (.iload 7, 2) := by decide +kernel
theorem dX7_coverAt_73 : decode cX7_coverAt 73 = .ok (.bipush 10, 2) := by decide +kernel
theorem dX7_coverAt_75 : decode cX7_coverAt 75 = .ok (.irem, 1) := by decide +kernel
theorem dX7_coverAt_76 : decode cX7_coverAt 76 = .ok (.iload 7, 2) := by decide +kernel
theorem dX7_coverAt_78 : decode cX7_coverAt 78 = .ok (.bipush 10, 2) := by decide +kernel
theorem dX7_coverAt_80 : decode cX7_coverAt 80 = .ok (.idiv, 1) := by decide +kernel
theorem dX7_coverAt_81 : decode cX7_coverAt 81 = .ok (.invokestatic 237, 3) := by decide +kernel
theorem dX7_coverAt_84 : decode cX7_coverAt 84 = .ok (.iaload, 1) := by decide +kernel
theorem dX7_coverAt_85 : decode cX7_coverAt 85 = .ok (.ior, 1) := by decide +kernel
theorem dX7_coverAt_86 : decode cX7_coverAt 86 = .ok (.istore 5, 2) := by decide +kernel
theorem dX7_coverAt_88 : decode cX7_coverAt 88 = .ok (.iinc 6 1, 3) := by decide +kernel
theorem dX7_coverAt_91 : decode cX7_coverAt 91 = .ok (.goto (-45), 3) := by decide +kernel
theorem dX7_coverAt_94 : decode cX7_coverAt 94 = .ok (.aload_n 0, 1) := by decide +kernel
theorem dX7_coverAt_95 : decode cX7_coverAt 95 = .ok (.getfield 63, 3) := by decide +kernel
theorem dX7_coverAt_98 : decode cX7_coverAt 98 = .ok (.iload 5, 2) := by decide +kernel
theorem dX7_coverAt_100 : decode cX7_coverAt 100 = .ok (.invokestatic 243, 3) := by decide +kernel
theorem dX7_coverAt_103 : decode cX7_coverAt 103 = .ok (.iaload, 1) := by decide +kernel
theorem dX7_coverAt_104 : decode cX7_coverAt 104 = .ok (.bipush 36, 2) := by decide +kernel
theorem dX7_coverAt_106 : decode cX7_coverAt 106 = .ok (.irem, 1) := by decide +kernel
theorem dX7_coverAt_107 : decode cX7_coverAt 107 = .ok (.istore 6, 2) := by decide +kernel
theorem dX7_coverAt_109 : decode cX7_coverAt 109 = .ok (.aload_n 0, 1) := by decide +kernel
theorem dX7_coverAt_110 : decode cX7_coverAt 110 = .ok (.iload 5, 2) := by decide +kernel
theorem dX7_coverAt_112 : decode cX7_coverAt 112 = .ok (.invokevirtual 262, 3) := by decide +kernel
theorem dX7_coverAt_115 : decode cX7_coverAt 115 = .ok (.bipush 100, 2) := by decide +kernel
theorem dX7_coverAt_117 : decode cX7_coverAt 117 = .ok (.iload 6, 2) := by decide +kernel
theorem dX7_coverAt_119 : decode cX7_coverAt 119 = .ok (.bipush 6, 2) := by decide +kernel
theorem dX7_coverAt_121 : decode cX7_coverAt 121 = .ok (.irem, 1) := by decide +kernel
theorem dX7_coverAt_122 : decode cX7_coverAt 122 = .ok (.imul, 1) := by decide +kernel
theorem dX7_coverAt_123 : decode cX7_coverAt 123 = .ok (.iadd, 1) := by decide +kernel
theorem dX7_coverAt_124 : decode cX7_coverAt 124 = .ok (.sipush 1000, 3) := by decide +kernel
theorem dX7_coverAt_127 : decode cX7_coverAt 127 = .ok (.iload 6, 2) := by decide +kernel
theorem dX7_coverAt_129 : decode cX7_coverAt 129 = .ok (.bipush 6, 2) := by decide +kernel
theorem dX7_coverAt_131 : decode cX7_coverAt 131 = .ok (.idiv, 1) := by decide +kernel
theorem dX7_coverAt_132 : decode cX7_coverAt 132 = .ok (.imul, 1) := by decide +kernel
theorem dX7_coverAt_133 : decode cX7_coverAt 133 = .ok (.iadd, 1) := by decide +kernel
theorem dX7_coverAt_134 : decode cX7_coverAt 134 = .ok (.ireturn, 1) := by decide +kernel
theorem dX7_lay_0 : decode cX7_lay 0 = .ok (.aload_n 0, 1) := by decide +kernel
theorem dX7_lay_1 : decode cX7_lay 1 = .ok (.iload_n 1, 1) := by decide +kernel
theorem dX7_lay_2 : decode cX7_lay 2 = .ok (.iload_n 2, 1) := by decide +kernel
theorem dX7_lay_3 : decode cX7_lay 3 = .ok (.invokevirtual 256, 3) := by decide +kernel
theorem dX7_lay_6 : decode cX7_lay 6 = .ok (.istore_n 3, 1) := by decide +kernel
theorem dX7_lay_7 : decode cX7_lay 7 = .ok (.iload_n 3, 1) := by decide +kernel
theorem dX7_lay_8 : decode cX7_lay 8 = .ok (.ifCond .eq 9, 3) := by decide +kernel
theorem dX7_lay_11 : decode cX7_lay 11 = .ok (.aload_n 0, 1) := by decide +kernel
theorem dX7_lay_12 : decode cX7_lay 12 = .ok (.iload_n 3, 1) := by decide +kernel
theorem dX7_lay_13 : decode cX7_lay 13 = .ok (.invokevirtual 106, 3) := by decide +kernel
theorem dX7_lay_16 : decode cX7_lay 16 = .ok (.ireturn, 1) := by decide +kernel
theorem dX7_lay_17 : decode cX7_lay 17 = .ok (.aload_n 0, 1) := by decide +kernel
theorem dX7_lay_18 : decode cX7_lay 18 = .ok (.invokevirtual 259, 3) := by decide +kernel
theorem dX7_lay_21 : decode cX7_lay 21 = .ok (.aload_n 0, 1) := by decide +kernel
theorem dX7_lay_22 : decode cX7_lay 22 = .ok (.getfield 67, 3) := by decide +kernel
theorem dX7_lay_25 : decode cX7_lay 25 = .ok (.iconst 0, 1) := by decide +kernel
theorem dX7_lay_26 : decode cX7_lay 26 = .ok (.iaload, 1) := by decide +kernel
theorem dX7_lay_27 : decode cX7_lay 27 = .ok (.istore 4, 2) := by decide +kernel
theorem dX7_lay_29 : decode cX7_lay 29 = .ok (.aload_n 0, 1) := by decide +kernel
theorem dX7_lay_30 : decode cX7_lay 30 = .ok (.getfield 133, 3) := by decide +kernel
theorem dX7_lay_33 : decode cX7_lay 33 = .ok (.iload 4, 2) := by decide +kernel
theorem dX7_lay_35 : decode cX7_lay 35 = .ok (.iadd, 1) := by decide +kernel
theorem dX7_lay_36 : decode cX7_lay 36 = .ok (.bipush 40, 2) := by decide +kernel
theorem dX7_lay_38 : decode cX7_lay 38 = .ok (.if_icmp .le 10, 3) := by decide +kernel
theorem dX7_lay_41 : decode cX7_lay 41 = .ok (.aload_n 0, 1) := by decide +kernel
theorem dX7_lay_42 : decode cX7_lay 42 = .ok (.bipush (-6), 2) := by decide +kernel
theorem dX7_lay_44 : decode cX7_lay 44 = .ok (.invokevirtual 106, 3) := by decide +kernel
theorem dX7_lay_47 : decode cX7_lay 47 = .ok (.ireturn, 1) := by decide +kernel
theorem dX7_lay_48 : decode cX7_lay 48 = .ok (.iconst 0, 1) := by decide +kernel
theorem dX7_lay_49 : decode cX7_lay 49 = .ok (.istore 5, 2) := by decide +kernel
theorem dX7_lay_51 : decode cX7_lay 51 = .ok (.iconst 0, 1) := by decide +kernel
theorem dX7_lay_52 : decode cX7_lay 52 = .ok (.istore 6, 2) := by decide +kernel
theorem dX7_lay_54 : decode cX7_lay 54 = .ok (.iload 6, 2) := by decide +kernel
theorem dX7_lay_56 : decode cX7_lay 56 = .ok (.iload 4, 2) := by decide +kernel
theorem dX7_lay_58 : decode cX7_lay 58 = .ok (.if_icmp .ge 86, 3) := by decide +kernel
theorem dX7_lay_61 : decode cX7_lay 61 = .ok (.aload_n 0, 1) := by decide +kernel
theorem dX7_lay_62 : decode cX7_lay 62 = .ok (.iload 5, 2) := by decide +kernel
theorem dX7_lay_64 : decode cX7_lay 64 = .ok (.invokevirtual 262, 3) := by decide +kernel
theorem dX7_lay_67 : decode cX7_lay 67 = .ok (.istore 7, 2) := by decide +kernel
theorem dX7_lay_69 : decode cX7_lay 69 = .ok (.aload_n 0, 1) := by decide +kernel
theorem dX7_lay_70 : decode cX7_lay 70 = .ok (.getfield 63, 3) := by decide +kernel
theorem dX7_lay_73 : decode cX7_lay 73 = .ok (.iload 5, 2) := by decide +kernel
theorem dX7_lay_75 : decode cX7_lay 75 = .ok (.invokestatic 243, 3) := by decide +kernel
theorem dX7_lay_78 : decode cX7_lay 78 = .ok (.iaload, 1) := by decide +kernel
theorem dX7_lay_79 : decode cX7_lay 79 = .ok (.bipush 36, 2) := by decide +kernel
theorem dX7_lay_81 : decode cX7_lay 81 = .ok (.irem, 1) := by decide +kernel
theorem dX7_lay_82 : decode cX7_lay 82 = .ok (.istore 8, 2) := by decide +kernel
theorem dX7_lay_84 : decode cX7_lay 84 = .ok (.iload 5, 2) := by decide +kernel
theorem dX7_lay_86 : decode cX7_lay 86 = .ok (.aload_n 0, 1) := by decide +kernel
theorem dX7_lay_87 : decode cX7_lay 87 = .ok (.getfield 76, 3) := by decide +kernel
theorem dX7_lay_90 : decode cX7_lay 90 = .ok (.iload 5, 2) := by decide +kernel
theorem dX7_lay_92 : decode cX7_lay 92 = .ok (.invokestatic 243, 3) := by decide +kernel
theorem dX7_lay_95 : decode cX7_lay 95 = .ok (.iload 7, 2) := by decide +kernel
theorem dX7_lay_97 : decode cX7_lay 97 = .ok (.bipush 10, 2) := by decide +kernel
theorem dX7_lay_99 : decode cX7_lay 99 = .ok (.irem, 1) := by decide +kernel
theorem dX7_lay_100 : decode cX7_lay 100 = .ok (.iload 7, 2) := by decide +kernel
theorem dX7_lay_102 : decode cX7_lay 102 = .ok (.bipush 10, 2) := by decide +kernel
theorem dX7_lay_104 : decode cX7_lay 104 = .ok (.idiv, 1) := by decide +kernel
theorem dX7_lay_105 : decode cX7_lay 105 = .ok (.invokestatic 237, 3) := by decide +kernel
theorem dX7_lay_108 : decode cX7_lay 108 = .ok (.iaload, 1) := by decide +kernel
theorem dX7_lay_109 : decode cX7_lay 109 = .ok (.ior, 1) := by decide +kernel
theorem dX7_lay_110 : decode cX7_lay 110 = .ok (.istore 5, 2) := by decide +kernel
theorem dX7_lay_112 : decode cX7_lay 112 = .ok (.aload_n 0, 1) := by decide +kernel
theorem dX7_lay_113 : decode cX7_lay 113 = .ok (.iload 7, 2) := by decide +kernel
theorem dX7_lay_115 : decode cX7_lay 115 = .ok (.bipush 10, 2) := by decide +kernel
theorem dX7_lay_117 : decode cX7_lay 117 = .ok (.irem, 1) := by decide +kernel
theorem dX7_lay_118 : decode cX7_lay 118 = .ok (.iload 7, 2) := by decide +kernel
theorem dX7_lay_120 : decode cX7_lay 120 = .ok (.bipush 10, 2) := by decide +kernel
theorem dX7_lay_122 : decode cX7_lay 122 = .ok (.idiv, 1) := by decide +kernel
theorem dX7_lay_123 : decode cX7_lay 123 = .ok (.iload 8, 2) := by decide +kernel
theorem dX7_lay_125 : decode cX7_lay 125 = .ok (.bipush 6, 2) := by decide +kernel
theorem dX7_lay_127 : decode cX7_lay 127 = .ok (.irem, 1) := by decide +kernel
theorem dX7_lay_128 : decode cX7_lay 128 = .ok (.iload 8, 2) := by decide +kernel
theorem dX7_lay_130 : decode cX7_lay 130 = .ok (.bipush 6, 2) := by decide +kernel
theorem dX7_lay_132 : decode cX7_lay 132 = .ok (.idiv, 1) := by decide +kernel
theorem dX7_lay_133 : decode cX7_lay 133 = .ok (.iload_n 2, 1) := by decide +kernel
theorem dX7_lay_134 : decode cX7_lay 134 = .ok (.iload_n 1, 1) := by decide +kernel
theorem dX7_lay_135 : decode cX7_lay 135 = .ok (.invokevirtual 144, 3) := by decide +kernel
theorem dX7_lay_138 : decode cX7_lay 138 = .ok (.iinc 6 1, 3) := by decide +kernel
theorem dX7_lay_141 : decode cX7_lay 141 = .ok (.goto (-87), 3) := by decide +kernel
theorem dX7_lay_144 : decode cX7_lay 144 = .ok (.iload 4, 2) := by decide +kernel
theorem dX7_lay_146 : decode cX7_lay 146 = .ok (.ireturn, 1) := by decide +kernel
theorem dX7_box_0 : decode cX7_box 0 = .ok (.iload_n 1, 1) := by decide +kernel
theorem dX7_box_1 : decode cX7_box 1 = .ok (.bipush 7, 2) := by decide +kernel
theorem dX7_box_3 : decode cX7_box 3 = .ok (.invokestatic 98, 3) := by decide +kernel
theorem dX7_box_6 : decode cX7_box 6 = .ok (.ifCond .eq 13, 3) := by decide +kernel
theorem dX7_box_9 : decode cX7_box 9 = .ok (.iload_n 2, 1) := by decide +kernel
theorem dX7_box_10 : decode cX7_box 10 = .ok (.iconst 0, 1) := by decide +kernel
theorem dX7_box_11 : decode cX7_box 11 = .ok (.bipush 99, 2) := by decide +kernel
theorem dX7_box_13 : decode cX7_box 13 = .ok (.invokestatic 219, 3) := by decide +kernel
theorem dX7_box_16 : decode cX7_box 16 = .ok (.goto 4, 3) := by decide +kernel
theorem dX7_box_19 : decode cX7_box 19 = .ok (.iconst (-1), 1) := by decide +kernel
theorem dX7_box_20 : decode cX7_box 20 = .ok (.istore_n 3, 1) := by decide +kernel
theorem dX7_box_21 : decode cX7_box 21 = .ok (.iload_n 3, 1) := by decide +kernel
theorem dX7_box_22 : decode cX7_box 22 = .ok (.ifCond .eq 9, 3) := by decide +kernel
theorem dX7_box_25 : decode cX7_box 25 = .ok (.aload_n 0, 1) := by decide +kernel
theorem dX7_box_26 : decode cX7_box 26 = .ok (.iload_n 3, 1) := by decide +kernel
theorem dX7_box_27 : decode cX7_box 27 = .ok (.invokevirtual 106, 3) := by decide +kernel
theorem dX7_box_30 : decode cX7_box 30 = .ok (.ireturn, 1) := by decide +kernel
theorem dX7_box_31 : decode cX7_box 31 = .ok (.aload_n 0, 1) := by decide +kernel
theorem dX7_box_32 : decode cX7_box 32 = .ok (.getfield 19, 3) := by decide +kernel
theorem dX7_box_35 : decode cX7_box 35 = .ok (.iload_n 1, 1) := by decide +kernel
theorem dX7_box_36 : decode cX7_box 36 = .ok (.iaload, 1) := by decide +kernel
theorem dX7_box_37 : decode cX7_box 37 = .ok (.istore 4, 2) := by decide +kernel
theorem dX7_box_39 : decode cX7_box 39 = .ok (.aload_n 0, 1) := by decide +kernel
theorem dX7_box_40 : decode cX7_box 40 = .ok (.getfield 19, 3) := by decide +kernel
theorem dX7_box_43 : decode cX7_box 43 = .ok (.iload_n 1, 1) := by decide +kernel
theorem dX7_box_44 : decode cX7_box 44 = .ok (.iload_n 2, 1) := by decide +kernel
theorem dX7_box_45 : decode cX7_box 45 = .ok (.iastore, 1) := by decide +kernel
theorem dX7_box_46 : decode cX7_box 46 = .ok (.iload 4, 2) := by decide +kernel
theorem dX7_box_48 : decode cX7_box 48 = .ok (.ireturn, 1) := by decide +kernel
theorem dX7_findLacking_0 : decode cX7_findLacking 0 = .ok (.iconst 0, 1) := by decide +kernel
theorem dX7_findLacking_1 : decode cX7_findLacking 1 = .ok (.istore_n 1, 1) := by decide +kernel
theorem dX7_findLacking_2 : decode cX7_findLacking 2 = .ok (.iload_n 1, 1) := by decide +kernel
theorem dX7_findLacking_3 : decode cX7_findLacking 3 = .ok (.bipush 7, 2) := by decide +kernel
theorem dX7_findLacking_5 : decode cX7_findLacking 5 = .ok (.if_icmp .ge 21, 3) := by decide +kernel
theorem dX7_findLacking_8 : decode cX7_findLacking 8 = .ok (.aload_n 0, 1) := by decide +kernel
theorem dX7_findLacking_9 : decode cX7_findLacking 9 = .ok (.getfield 82, 3) := by decide +kernel
theorem dX7_findLacking_12 : decode cX7_findLacking 12 = .ok (.iload_n 1, 1) := by decide +kernel
theorem dX7_findLacking_13 : decode cX7_findLacking 13 = .ok (.aload_n 0, 1) := by decide +kernel
theorem dX7_findLacking_14 : decode cX7_findLacking 14 = .ok (.getfield 19, 3) := by decide +kernel
theorem dX7_findLacking_17 : decode cX7_findLacking 17 = .ok (.iload_n 1, 1) := by decide +kernel
theorem dX7_findLacking_18 : decode cX7_findLacking 18 = .ok (.iaload, 1) := by decide +kernel
theorem dX7_findLacking_19 : decode cX7_findLacking 19 = .ok (.iastore, 1) := by decide +kernel
theorem dX7_findLacking_20 : decode cX7_findLacking 20 = .ok (.iinc 1 1, 3) := by decide +kernel
theorem dX7_findLacking_23 : decode cX7_findLacking 23 = .ok (.goto (-21), 3) := by decide +kernel
theorem dX7_findLacking_26 : decode cX7_findLacking 26 = .ok (.iconst 0, 1) := by decide +kernel
theorem dX7_findLacking_27 : decode cX7_findLacking 27 = .ok (.istore_n 1, 1) := by decide +kernel
theorem dX7_findLacking_28 : decode cX7_findLacking 28 = .ok (.iload_n 1, 1) := by decide +kernel
theorem dX7_findLacking_29 : decode cX7_findLacking 29 = .ok (.aload_n 0, 1) := by decide +kernel
theorem dX7_findLacking_30 : decode cX7_findLacking 30 = .ok (.getfield 133, 3) := by decide +kernel
theorem dX7_findLacking_33 : decode cX7_findLacking 33 = .ok (.if_icmp .ge 36, 3) := by decide +kernel
theorem dX7_findLacking_36 : decode cX7_findLacking 36 = .ok (.aload_n 0, 1) := by decide +kernel
theorem dX7_findLacking_37 : decode cX7_findLacking 37 = .ok (.getfield 82, 3) := by decide +kernel
theorem dX7_findLacking_40 : decode cX7_findLacking 40 = .ok (.aload_n 0, 1) := by decide +kernel
theorem dX7_findLacking_41 : decode cX7_findLacking 41 = .ok (.getfield 22, 3) := by decide +kernel
theorem dX7_findLacking_44 : decode cX7_findLacking 44 = .ok (.iload_n 1, 1) := by decide +kernel
theorem dX7_findLacking_45 : decode cX7_findLacking 45 = .ok (.iaload, 1) := by decide +kernel
theorem dX7_findLacking_46 : decode cX7_findLacking 46 = .ok (.dup2, 1) := by decide +kernel
theorem dX7_findLacking_47 : decode cX7_findLacking 47 = .ok (.iaload, 1) := by decide +kernel
theorem dX7_findLacking_48 : decode cX7_findLacking 48 = .ok (.aload_n 0, 1) := by decide +kernel
theorem dX7_findLacking_49 : decode cX7_findLacking 49 = .ok (.iload_n 1, 1) := by decide +kernel
theorem dX7_findLacking_50 : decode cX7_findLacking 50 = .ok (.invokevirtual 152, 3) := by decide +kernel
theorem dX7_findLacking_53 : decode cX7_findLacking 53 = .ok (.ifCond .eq 7, 3) := by decide +kernel
theorem dX7_findLacking_56 : decode cX7_findLacking 56 = .ok (.iconst 1, 1) := by decide +kernel
theorem dX7_findLacking_57 : decode cX7_findLacking 57 = .ok (.goto 4, 3) := by decide +kernel
theorem dX7_findLacking_60 : decode cX7_findLacking 60 = .ok (.iconst 0, 1) := by decide +kernel
theorem dX7_findLacking_61 : decode cX7_findLacking 61 = .ok (.isub, 1) := by decide +kernel
theorem dX7_findLacking_62 : decode cX7_findLacking 62 = .ok (.iastore, 1) := by decide +kernel
theorem dX7_findLacking_63 : decode cX7_findLacking 63 = .ok (.iinc 1 1, 3) := by decide +kernel
theorem dX7_findLacking_66 : decode cX7_findLacking 66 = .ok (.goto (-38), 3) := by decide +kernel
theorem dX7_findLacking_69 : decode cX7_findLacking 69 = .ok (.iconst 0, 1) := by decide +kernel
theorem dX7_findLacking_70 : decode cX7_findLacking 70 = .ok (.istore_n 1, 1) := by decide +kernel
theorem dX7_findLacking_71 : decode cX7_findLacking 71 = .ok (.iload_n 1, 1) := by decide +kernel
theorem dX7_findLacking_72 : decode cX7_findLacking 72 = .ok (.bipush 7, 2) := by decide +kernel
theorem dX7_findLacking_74 : decode cX7_findLacking 74 = .ok (.if_icmp .ge 42, 3) := by decide +kernel
theorem dX7_findLacking_77 : decode cX7_findLacking 77 = .ok (.aload_n 0, 1) := by decide +kernel
theorem dX7_findLacking_78 : decode cX7_findLacking 78 = .ok (.getfield 85, 3) := by decide +kernel
theorem dX7_findLacking_81 : decode cX7_findLacking 81 = .ok (.iload_n 1, 1) := by decide +kernel
theorem dX7_findLacking_82 : decode cX7_findLacking 82 = .ok (.iconst 0, 1) := by decide +kernel
theorem dX7_findLacking_83 : decode cX7_findLacking 83 = .ok (.aload_n 0, 1) := by decide +kernel
theorem dX7_findLacking_84 : decode cX7_findLacking 84 = .ok (.getfield 82, 3) := by decide +kernel
theorem dX7_findLacking_87 : decode cX7_findLacking 87 = .ok (.iload_n 1, 1) := by decide +kernel
theorem dX7_findLacking_88 : decode cX7_findLacking 88 = .ok (.iaload, 1) := by decide +kernel
theorem dX7_findLacking_89 : decode cX7_findLacking 89 = .ok (.ineg, 1) := by decide +kernel
theorem dX7_findLacking_90 : decode cX7_findLacking 90 = .ok (.invokestatic 165, 3) := by decide +kernel
theorem dX7_findLacking_93 : decode cX7_findLacking 93 = .ok (.iastore, 1) := by decide +kernel
theorem dX7_findLacking_94 : decode cX7_findLacking 94 = .ok (.aload_n 0, 1) := by decide +kernel
theorem dX7_findLacking_95 : decode cX7_findLacking 95 = .ok (.getfield 82, 3) := by decide +kernel
theorem dX7_findLacking_98 : decode cX7_findLacking 98 = .ok (.iload_n 1, 1) := by decide +kernel
theorem dX7_findLacking_99 : decode cX7_findLacking 99 = .ok (.iconst 0, 1) := by decide +kernel
theorem dX7_findLacking_100 : decode cX7_findLacking 100 = .ok (.aload_n 0, 1) := by decide +kernel
theorem dX7_findLacking_101 : decode cX7_findLacking 101 = .ok (.getfield 82, 3) := by decide +kernel
theorem dX7_findLacking_104 : decode cX7_findLacking 104 = .ok (.iload_n 1, 1) := by decide +kernel
theorem dX7_findLacking_105 : decode cX7_findLacking 105 = .ok (.iaload, 1) := by decide +kernel
theorem dX7_findLacking_106 : decode cX7_findLacking 106 = .ok (.invokestatic 165, 3) := by decide +kernel
theorem dX7_findLacking_109 : decode cX7_findLacking 109 = .ok (.iastore, 1) := by decide +kernel
theorem dX7_findLacking_110 : decode cX7_findLacking 110 = .ok (.iinc 1 1, 3) := by decide +kernel
theorem dX7_findLacking_113 : decode cX7_findLacking 113 = .ok (.goto (-42), 3) := by decide +kernel
theorem dX7_findLacking_116 : decode cX7_findLacking 116 = .ok (.bipush 6, 2) := by decide +kernel
theorem dX7_findLacking_118 : decode cX7_findLacking 118 = .ok (.istore_n 1, 1) := by decide +kernel
theorem dX7_findLacking_119 : decode cX7_findLacking 119 = .ok (.iload_n 1, 1) := by decide +kernel
theorem dX7_findLacking_120 : decode cX7_findLacking 120 = .ok (.ifCond .le 103, 3) := by decide +kernel
theorem dX7_findLacking_123 : decode cX7_findLacking 123 = .ok (.aload_n 0, 1) := by decide +kernel
theorem dX7_findLacking_124 : decode cX7_findLacking 124 = .ok (.getfield 85, 3) := by decide +kernel
theorem dX7_findLacking_127 : decode cX7_findLacking 127 = .ok (.iload_n 1, 1) := by decide +kernel
theorem dX7_findLacking_128 : decode cX7_findLacking 128 = .ok (.iaload, 1) := by decide +kernel
theorem dX7_findLacking_129 : decode cX7_findLacking 129 = .ok (.ifCond .le 88, 3) := by decide +kernel
theorem dX7_findLacking_132 : decode cX7_findLacking 132 = .ok (.aload_n 0, 1) := by decide +kernel
theorem dX7_findLacking_133 : decode cX7_findLacking 133 = .ok (.getfield 82, 3) := by decide +kernel
theorem dX7_findLacking_136 : decode cX7_findLacking 136 = .ok (.getstatic 265, 3) := by decide +kernel
theorem dX7_findLacking_139 : decode cX7_findLacking 139 = .ok (.iload_n 1, 1) := by decide +kernel
theorem dX7_findLacking_140 : decode cX7_findLacking 140 = .ok (.iaload, 1) := by decide +kernel
theorem dX7_findLacking_141 : decode cX7_findLacking 141 = .ok (.iaload, 1) := by decide +kernel
theorem dX7_findLacking_142 : decode cX7_findLacking 142 = .ok (.ifCond .le 75, 3) := by decide +kernel
theorem dX7_findLacking_145 : decode cX7_findLacking 145 = .ok (.aload_n 0, 1) := by decide +kernel
theorem dX7_findLacking_146 : decode cX7_findLacking 146 = .ok (.getfield 82, 3) := by decide +kernel
theorem dX7_findLacking_149 : decode cX7_findLacking 149 = .ok (.getstatic 268, 3) := by decide +kernel
theorem dX7_findLacking_152 : decode cX7_findLacking 152 = .ok (.iload_n 1, 1) := by decide +kernel
theorem dX7_findLacking_153 : decode cX7_findLacking 153 = .ok (.iaload, 1) := by decide +kernel
theorem dX7_findLacking_154 : decode cX7_findLacking 154 = .ok (.iaload, 1) := by decide +kernel
theorem dX7_findLacking_155 : decode cX7_findLacking 155 = .ok (.getstatic 265, 3) := by decide +kernel
theorem dX7_findLacking_158 : decode cX7_findLacking 158 = .ok (.iload_n 1, 1) := by decide +kernel
theorem dX7_findLacking_159 : decode cX7_findLacking 159 = .ok (.iaload, 1) := by decide +kernel
theorem dX7_findLacking_160 : decode cX7_findLacking 160 = .ok (.getstatic 268, 3) := by decide +kernel
theorem dX7_findLacking_163 : decode cX7_findLacking 163 = .ok (.iload_n 1, 1) := by decide +kernel
theorem dX7_findLacking_164 : decode cX7_findLacking 164 = .ok (.iaload, 1) := by decide +kernel
theorem dX7_findLacking_165 : decode cX7_findLacking 165 = .ok (.if_icmp .ne 7, 3) := by decide +kernel
theorem dX7_findLacking_168 : decode cX7_findLacking 168 = .ok (.iconst 1, 1) := by decide +kernel
theorem dX7_findLacking_169 : decode cX7_findLacking 169 = .ok (.goto 4, 3) := by decide +kernel
theorem dX7_findLacking_172 : decode cX7_findLacking 172 = .ok (.iconst 0, 1) := by decide +kernel
theorem dX7_findLacking_173 : decode cX7_findLacking 173 = .ok (.if_icmp .le 44, 3) := by decide +kernel
theorem dX7_findLacking_176 : decode cX7_findLacking 176 = .ok (.aload_n 0, 1) := by decide +kernel
theorem dX7_findLacking_177 : decode cX7_findLacking 177 = .ok (.getfield 82, 3) := by decide +kernel
theorem dX7_findLacking_180 : decode cX7_findLacking 180 = .ok (.getstatic 265, 3) := by decide +kernel
theorem dX7_findLacking_183 : decode cX7_findLacking 183 = .ok (.iload_n 1, 1) := by decide +kernel
theorem dX7_findLacking_184 : decode cX7_findLacking 184 = .ok (.iaload, 1) := by decide +kernel
theorem dX7_findLacking_185 : decode cX7_findLacking 185 = .ok (.dup2, 1) := by decide +kernel
theorem dX7_findLacking_186 : decode cX7_findLacking 186 = .ok (.iaload, 1) := by decide +kernel
theorem dX7_findLacking_187 : decode cX7_findLacking 187 = .ok (.iconst 1, 1) := by decide +kernel
theorem dX7_findLacking_188 : decode cX7_findLacking 188 = .ok (.isub, 1) := by decide +kernel
theorem dX7_findLacking_189 : decode cX7_findLacking 189 = .ok (.iastore, 1) := by decide +kernel
theorem dX7_findLacking_190 : decode cX7_findLacking 190 = .ok (.aload_n 0, 1) := by decide +kernel
theorem dX7_findLacking_191 : decode cX7_findLacking 191 = .ok (.getfield 82, 3) := by decide +kernel
theorem dX7_findLacking_194 : decode cX7_findLacking 194 = .ok (.getstatic 268, 3) := by decide +kernel
theorem dX7_findLacking_197 : decode cX7_findLacking 197 = .ok (.iload_n 1, 1) := by decide +kernel
theorem dX7_findLacking_198 : decode cX7_findLacking 198 = .ok (.iaload, 1) := by decide +kernel
theorem dX7_findLacking_199 : decode cX7_findLacking 199 = .ok (.dup2, 1) := by decide +kernel
theorem dX7_findLacking_200 : decode cX7_findLacking 200 = .ok (.iaload, 1) := by decide +kernel
theorem dX7_findLacking_201 : decode cX7_findLacking 201 = .ok (.iconst 1, 1) := by decide +kernel
theorem dX7_findLacking_202 : decode cX7_findLacking 202 = .ok (.isub, 1) := by decide +kernel
theorem dX7_findLacking_203 : decode cX7_findLacking 203 = .ok (.iastore, 1) := by decide +kernel
theorem dX7_findLacking_204 : decode cX7_findLacking 204 = .ok (.aload_n 0, 1) := by decide +kernel
theorem dX7_findLacking_205 : decode cX7_findLacking 205 = .ok (.getfield 85, 3) := by decide +kernel
theorem dX7_findLacking_208 : decode cX7_findLacking 208 = .ok (.iload_n 1, 1) := by decide +kernel
theorem dX7_findLacking_209 : decode cX7_findLacking 209 = .ok (.dup2, 1) := by decide +kernel
theorem dX7_findLacking_210 : decode cX7_findLacking 210 = .ok (.iaload, 1) := by decide +kernel
theorem dX7_findLacking_211 : decode cX7_findLacking 211 = .ok (.iconst 1, 1) := by decide +kernel
theorem dX7_findLacking_212 : decode cX7_findLacking 212 = .ok (.isub, 1) := by decide +kernel
theorem dX7_findLacking_213 : decode cX7_findLacking 213 = .ok (.iastore, 1) := by decide +kernel
theorem dX7_findLacking_214 : decode cX7_findLacking 214 = .ok (.goto (-91), 3) := by decide +kernel
theorem dX7_findLacking_217 : decode cX7_findLacking 217 = .ok (.iinc 1 (-1), 3) := by decide +kernel
theorem dX7_findLacking_220 : decode cX7_findLacking 220 = .ok (.goto (-101), 3) := by decide +kernel
theorem dX7_findLacking_223 : decode cX7_findLacking 223 = .ok (.return_, 1) := by decide +kernel
theorem dX7_lacking_0 : decode cX7_lacking 0 = .ok (.aload_n 0, 1) := by decide +kernel
theorem dX7_lacking_1 : decode cX7_lacking 1 = .ok (.invokevirtual 271, 3) := by decide +kernel
theorem dX7_lacking_4 : decode cX7_lacking 4 = .ok (.iconst 0, 1) := by decide +kernel
theorem dX7_lacking_5 : decode cX7_lacking 5 = .ok (.istore_n 1, 1) := by decide +kernel
theorem dX7_lacking_6 : decode cX7_lacking 6 = .ok (.iconst 0, 1) := by decide +kernel
theorem dX7_lacking_7 : decode cX7_lacking 7 = .ok (.istore_n 2, 1) := by decide +kernel
theorem dX7_lacking_8 : decode cX7_lacking 8 = .ok (.iload_n 2, 1) := by decide +kernel
theorem dX7_lacking_9 : decode cX7_lacking 9 = .ok (.bipush 7, 2) := by decide +kernel
theorem dX7_lacking_11 : decode cX7_lacking 11 = .ok (.if_icmp .ge 18, 3) := by decide +kernel
theorem dX7_lacking_14 : decode cX7_lacking 14 = .ok (.iload_n 1, 1) := by decide +kernel
theorem dX7_lacking_15 : decode cX7_lacking 15 = .ok (.aload_n 0, 1) := by decide +kernel
theorem dX7_lacking_16 : decode cX7_lacking 16 = .ok (.getfield 85, 3) := by decide +kernel
theorem dX7_lacking_19 : decode cX7_lacking 19 = .ok (.iload_n 2, 1) := by decide +kernel
theorem dX7_lacking_20 : decode cX7_lacking 20 = .ok (.iaload, 1) := by decide +kernel
theorem dX7_lacking_21 : decode cX7_lacking 21 = .ok (.iadd, 1) := by decide +kernel
theorem dX7_lacking_22 : decode cX7_lacking 22 = .ok (.istore_n 1, 1) := by decide +kernel
theorem dX7_lacking_23 : decode cX7_lacking 23 = .ok (.iinc 2 1, 3) := by decide +kernel
theorem dX7_lacking_26 : decode cX7_lacking 26 = .ok (.goto (-18), 3) := by decide +kernel
theorem dX7_lacking_29 : decode cX7_lacking 29 = .ok (.iload_n 1, 1) := by decide +kernel
theorem dX7_lacking_30 : decode cX7_lacking 30 = .ok (.ireturn, 1) := by decide +kernel
theorem dX7_lacks_0 : decode cX7_lacks 0 = .ok (.iload_n 1, 1) := by decide +kernel
theorem dX7_lacks_1 : decode cX7_lacks 1 = .ok (.bipush 7, 2) := by decide +kernel
theorem dX7_lacks_3 : decode cX7_lacks 3 = .ok (.invokestatic 98, 3) := by decide +kernel
theorem dX7_lacks_6 : decode cX7_lacks 6 = .ok (.ifCond .ne 9, 3) := by decide +kernel
theorem dX7_lacks_9 : decode cX7_lacks 9 = .ok (.aload_n 0, 1) := by decide +kernel
theorem dX7_lacks_10 : decode cX7_lacks 10 = .ok (.iconst (-1), 1) := by decide +kernel
theorem dX7_lacks_11 : decode cX7_lacks 11 = .ok (.invokevirtual 106, 3) := by decide +kernel
theorem dX7_lacks_14 : decode cX7_lacks 14 = .ok (.ireturn, 1) := by decide +kernel
theorem dX7_lacks_15 : decode cX7_lacks 15 = .ok (.aload_n 0, 1) := by decide +kernel
theorem dX7_lacks_16 : decode cX7_lacks 16 = .ok (.invokevirtual 271, 3) := by decide +kernel
theorem dX7_lacks_19 : decode cX7_lacks 19 = .ok (.aload_n 0, 1) := by decide +kernel
theorem dX7_lacks_20 : decode cX7_lacks 20 = .ok (.getfield 85, 3) := by decide +kernel
theorem dX7_lacks_23 : decode cX7_lacks 23 = .ok (.iload_n 1, 1) := by decide +kernel
theorem dX7_lacks_24 : decode cX7_lacks 24 = .ok (.iaload, 1) := by decide +kernel
theorem dX7_lacks_25 : decode cX7_lacks 25 = .ok (.ireturn, 1) := by decide +kernel
theorem dX7_covered_0 : decode cX7_covered 0 = .ok (.iconst 0, 1) := by decide +kernel
theorem dX7_covered_1 : decode cX7_covered 1 = .ok (.istore 4, 2) := by decide +kernel
theorem dX7_covered_3 : decode cX7_covered 3 = .ok (.lload_n 2, 1) := by decide +kernel
theorem dX7_covered_4 : decode cX7_covered 4 = .ok (.lstore 5, 2) := by decide +kernel
theorem dX7_covered_6 : decode cX7_covered 6 = .ok (.lload 5, 2) := by decide +kernel
theorem dX7_covered_8 : decode cX7_covered 8 = .ok (.lconst 0, 1) := by decide +kernel
theorem dX7_covered_9 : decode cX7_covered 9 = .ok (.lcmp, 1) := by decide +kernel
theorem dX7_covered_10 : decode cX7_covered 10 = .ok (.ifCond .eq 40, 3) := by decide +kernel
theorem dX7_covered_13 : decode cX7_covered 13 = .ok (.iload 4, 2) := by decide +kernel
theorem dX7_covered_15 : decode cX7_covered 15 = .ok (.ifCond .ne 16, 3) := by decide +kernel
theorem dX7_covered_18 : decode cX7_covered 18 = .ok (.aload_n 0, 1) := by decide +kernel
theorem dX7_covered_19 : decode cX7_covered 19 = .ok (.lload 5, 2) := by decide +kernel
theorem dX7_covered_21 : decode cX7_covered 21 = .ok (.invokestatic 171, 3) := by decide +kernel
theorem dX7_covered_24 : decode cX7_covered 24 = .ok (.iload_n 1, 1) := by decide +kernel
theorem dX7_covered_25 : decode cX7_covered 25 = .ok (.invokevirtual 274, 3) := by decide +kernel
theorem dX7_covered_28 : decode cX7_covered 28 = .ok (.ifCond .eq 7, 3) := by decide +kernel
theorem dX7_covered_31 : decode cX7_covered 31 = .ok (.iconst 1, 1) := by decide +kernel
theorem dX7_covered_32 : decode cX7_covered 32 = .ok (.goto 4, 3) := by decide +kernel
theorem dX7_covered_35 : decode cX7_covered 35 = .ok (.iconst 0, 1) := by decide +kernel
theorem dX7_covered_36 : decode cX7_covered 36 = .ok (.istore 4, 2) := by decide +kernel
theorem dX7_covered_38 : decode cX7_covered 38 = .ok (.lload 5, 2) := by decide +kernel
theorem dX7_covered_40 : decode cX7_covered 40 = .ok (.lload 5, 2) := by decide +kernel
theorem dX7_covered_42 : decode cX7_covered 42 = .ok (.lconst 1, 1) := by decide +kernel
theorem dX7_covered_43 : decode cX7_covered 43 = .ok (.lsub, 1) := by decide +kernel
theorem dX7_covered_44 : decode cX7_covered 44 = .ok (.land, 1) := by decide +kernel
theorem dX7_covered_45 : decode cX7_covered 45 = .ok (.lstore 5, 2) := by decide +kernel
theorem dX7_covered_47 : decode cX7_covered 47 = .ok (.goto (-41), 3) := by decide +kernel
theorem dX7_covered_50 : decode cX7_covered 50 = .ok (.iload 4, 2) := by decide +kernel
theorem dX7_covered_52 : decode cX7_covered 52 = .ok (.ireturn, 1) := by decide +kernel
theorem dX7_isAbove_0 : decode cX7_isAbove 0 = .ok (.aload_n 0, 1) := by decide +kernel
theorem dX7_isAbove_1 : decode cX7_isAbove 1 = .ok (.getfield 28, 3) := by decide +kernel
theorem dX7_isAbove_4 : decode cX7_isAbove 4 = .ok (.iload_n 1, 1) := by decide +kernel
theorem dX7_isAbove_5 : decode cX7_isAbove 5 = .ok (.iaload, 1) := by decide +kernel
theorem dX7_isAbove_6 : decode cX7_isAbove 6 = .ok (.aload_n 0, 1) := by decide +kernel
theorem dX7_isAbove_7 : decode cX7_isAbove 7 = .ok (.getfield 22, 3) := by decide +kernel
theorem dX7_isAbove_10 : decode cX7_isAbove 10 = .ok (.iload_n 1, 1) := by decide +kernel
theorem dX7_isAbove_11 : decode cX7_isAbove 11 = .ok (.iaload, 1) := by decide +kernel
theorem dX7_isAbove_12 : decode cX7_isAbove 12 = .ok (.aload_n 0, 1) := by decide +kernel
theorem dX7_isAbove_13 : decode cX7_isAbove 13 = .ok (.getfield 25, 3) := by decide +kernel
theorem dX7_isAbove_16 : decode cX7_isAbove 16 = .ok (.iload_n 1, 1) := by decide +kernel
theorem dX7_isAbove_17 : decode cX7_isAbove 17 = .ok (.iaload, 1) := by decide +kernel
theorem dX7_isAbove_18 : decode cX7_isAbove 18 = .ok (.invokestatic 130, 3) := by decide +kernel
theorem dX7_isAbove_21 : decode cX7_isAbove 21 = .ok (.iadd, 1) := by decide +kernel
theorem dX7_isAbove_22 : decode cX7_isAbove 22 = .ok (.aload_n 0, 1) := by decide +kernel
theorem dX7_isAbove_23 : decode cX7_isAbove 23 = .ok (.getfield 28, 3) := by decide +kernel
theorem dX7_isAbove_26 : decode cX7_isAbove 26 = .ok (.iload_n 2, 1) := by decide +kernel
theorem dX7_isAbove_27 : decode cX7_isAbove 27 = .ok (.iaload, 1) := by decide +kernel
theorem dX7_isAbove_28 : decode cX7_isAbove 28 = .ok (.aload_n 0, 1) := by decide +kernel
theorem dX7_isAbove_29 : decode cX7_isAbove 29 = .ok (.getfield 22, 3) := by decide +kernel
theorem dX7_isAbove_32 : decode cX7_isAbove 32 = .ok (.iload_n 2, 1) := by decide +kernel
theorem dX7_isAbove_33 : decode cX7_isAbove 33 = .ok (.iaload, 1) := by decide +kernel
theorem dX7_isAbove_34 : decode cX7_isAbove 34 = .ok (.aload_n 0, 1) := by decide +kernel
theorem dX7_isAbove_35 : decode cX7_isAbove 35 = .ok (.getfield 25, 3) := by decide +kernel
theorem dX7_isAbove_38 : decode cX7_isAbove 38 = .ok (.iload_n 2, 1) := by decide +kernel
theorem dX7_isAbove_39 : decode cX7_isAbove 39 = .ok (.iaload, 1) := by decide +kernel
theorem dX7_isAbove_40 : decode cX7_isAbove 40 = .ok (.invokestatic 130, 3) := by decide +kernel
theorem dX7_isAbove_43 : decode cX7_isAbove 43 = .ok (.iadd, 1) := by decide +kernel
theorem dX7_isAbove_44 : decode cX7_isAbove 44 = .ok (.invokestatic 162, 3) := by decide +kernel
theorem dX7_isAbove_47 : decode cX7_isAbove 47 = .ok (.aload_n 0, 1) := by decide +kernel
theorem dX7_isAbove_48 : decode cX7_isAbove 48 = .ok (.getfield 28, 3) := by decide +kernel
theorem dX7_isAbove_51 : decode cX7_isAbove 51 = .ok (.iload_n 1, 1) := by decide +kernel
theorem dX7_isAbove_52 : decode cX7_isAbove 52 = .ok (.iaload, 1) := by decide +kernel
theorem dX7_isAbove_53 : decode cX7_isAbove 53 = .ok (.aload_n 0, 1) := by decide +kernel
theorem dX7_isAbove_54 : decode cX7_isAbove 54 = .ok (.getfield 28, 3) := by decide +kernel
theorem dX7_isAbove_57 : decode cX7_isAbove 57 = .ok (.iload_n 2, 1) := by decide +kernel
theorem dX7_isAbove_58 : decode cX7_isAbove 58 = .ok (.iaload, 1) := by decide +kernel
theorem dX7_isAbove_59 : decode cX7_isAbove 59 = .ok (.invokestatic 165, 3) := by decide +kernel
theorem dX7_isAbove_62 : decode cX7_isAbove 62 = .ok (.isub, 1) := by decide +kernel
theorem dX7_isAbove_63 : decode cX7_isAbove 63 = .ok (.istore_n 3, 1) := by decide +kernel
theorem dX7_isAbove_64 : decode cX7_isAbove 64 = .ok (.aload_n 0, 1) := by decide +kernel
theorem dX7_isAbove_65 : decode cX7_isAbove 65 = .ok (.getfield 31, 3) := by decide +kernel
theorem dX7_isAbove_68 : decode cX7_isAbove 68 = .ok (.iload_n 1, 1) := by decide +kernel
theorem dX7_isAbove_69 : decode cX7_isAbove 69 = .ok (.iaload, 1) := by decide +kernel
theorem dX7_isAbove_70 : decode cX7_isAbove 70 = .ok (.aload_n 0, 1) := by decide +kernel
theorem dX7_isAbove_71 : decode cX7_isAbove 71 = .ok (.getfield 22, 3) := by decide +kernel
theorem dX7_isAbove_74 : decode cX7_isAbove 74 = .ok (.iload_n 1, 1) := by decide +kernel
theorem dX7_isAbove_75 : decode cX7_isAbove 75 = .ok (.iaload, 1) := by decide +kernel
theorem dX7_isAbove_76 : decode cX7_isAbove 76 = .ok (.aload_n 0, 1) := by decide +kernel
theorem dX7_isAbove_77 : decode cX7_isAbove 77 = .ok (.getfield 25, 3) := by decide +kernel
theorem dX7_isAbove_80 : decode cX7_isAbove 80 = .ok (.iload_n 1, 1) := by decide +kernel
theorem dX7_isAbove_81 : decode cX7_isAbove 81 = .ok (.iaload, 1) := by decide +kernel
theorem dX7_isAbove_82 : decode cX7_isAbove 82 = .ok (.invokestatic 126, 3) := by decide +kernel
theorem dX7_isAbove_85 : decode cX7_isAbove 85 = .ok (.iadd, 1) := by decide +kernel
theorem dX7_isAbove_86 : decode cX7_isAbove 86 = .ok (.aload_n 0, 1) := by decide +kernel
theorem dX7_isAbove_87 : decode cX7_isAbove 87 = .ok (.getfield 31, 3) := by decide +kernel
theorem dX7_isAbove_90 : decode cX7_isAbove 90 = .ok (.iload_n 2, 1) := by decide +kernel
theorem dX7_isAbove_91 : decode cX7_isAbove 91 = .ok (.iaload, 1) := by decide +kernel
theorem dX7_isAbove_92 : decode cX7_isAbove 92 = .ok (.aload_n 0, 1) := by decide +kernel
theorem dX7_isAbove_93 : decode cX7_isAbove 93 = .ok (.getfield 22, 3) := by decide +kernel
theorem dX7_isAbove_96 : decode cX7_isAbove 96 = .ok (.iload_n 2, 1) := by decide +kernel
theorem dX7_isAbove_97 : decode cX7_isAbove 97 = .ok (.iaload, 1) := by decide +kernel
theorem dX7_isAbove_98 : decode cX7_isAbove 98 = .ok (.aload_n 0, 1) := by decide +kernel
theorem dX7_isAbove_99 : decode cX7_isAbove 99 = .ok (.getfield 25, 3) := by decide +kernel
theorem dX7_isAbove_102 : decode cX7_isAbove 102 = .ok (.iload_n 2, 1) := by decide +kernel
theorem dX7_isAbove_103 : decode cX7_isAbove 103 = .ok (.iaload, 1) := by decide +kernel
theorem dX7_isAbove_104 : decode cX7_isAbove 104 = .ok (.invokestatic 126, 3) := by decide +kernel
theorem dX7_isAbove_107 : decode cX7_isAbove 107 = .ok (.iadd, 1) := by decide +kernel
theorem dX7_isAbove_108 : decode cX7_isAbove 108 = .ok (.invokestatic 162, 3) := by decide +kernel
theorem dX7_isAbove_111 : decode cX7_isAbove 111 = .ok (.aload_n 0, 1) := by decide +kernel
theorem dX7_isAbove_112 : decode cX7_isAbove 112 = .ok (.getfield 31, 3) := by decide +kernel
theorem dX7_isAbove_115 : decode cX7_isAbove 115 = .ok (.iload_n 1, 1) := by decide +kernel
theorem dX7_isAbove_116 : decode cX7_isAbove 116 = .ok (.iaload, 1) := by decide +kernel
theorem dX7_isAbove_117 : decode cX7_isAbove 117 = .ok (.aload_n 0, 1) := by decide +kernel
theorem dX7_isAbove_118 : decode cX7_isAbove 118 = .ok (.getfield 31, 3) := by decide +kernel
theorem dX7_isAbove_121 : decode cX7_isAbove 121 = .ok (.iload_n 2, 1) := by decide +kernel
theorem dX7_isAbove_122 : decode cX7_isAbove 122 = .ok (.iaload, 1) := by decide +kernel
theorem dX7_isAbove_123 : decode cX7_isAbove 123 = .ok (.invokestatic 165, 3) := by decide +kernel
theorem dX7_isAbove_126 : decode cX7_isAbove 126 = .ok (.isub, 1) := by decide +kernel
theorem dX7_isAbove_127 : decode cX7_isAbove 127 = .ok (.istore 4, 2) := by decide +kernel
theorem dX7_isAbove_129 : decode cX7_isAbove 129 = .ok (.aload_n 0, 1) := by decide +kernel
theorem dX7_isAbove_130 : decode cX7_isAbove 130 = .ok (.getfield 34, 3) := by decide +kernel
theorem dX7_isAbove_133 : decode cX7_isAbove 133 = .ok (.iload_n 1, 1) := by decide +kernel
theorem dX7_isAbove_134 : decode cX7_isAbove 134 = .ok (.iaload, 1) := by decide +kernel
theorem dX7_isAbove_135 : decode cX7_isAbove 135 = .ok (.aload_n 0, 1) := by decide +kernel
theorem dX7_isAbove_136 : decode cX7_isAbove 136 = .ok (.getfield 34, 3) := by decide +kernel
theorem dX7_isAbove_139 : decode cX7_isAbove 139 = .ok (.iload_n 2, 1) := by decide +kernel
theorem dX7_isAbove_140 : decode cX7_isAbove 140 = .ok (.iaload, 1) := by decide +kernel
theorem dX7_isAbove_141 : decode cX7_isAbove 141 = .ok (.if_icmp .le 16, 3) := by decide +kernel
theorem dX7_isAbove_144 : decode cX7_isAbove 144 = .ok (.iload_n 3, 1) := by decide +kernel
theorem dX7_isAbove_145 : decode cX7_isAbove 145 = .ok (.ifCond .le 12, 3) := by decide +kernel
theorem dX7_isAbove_148 : decode cX7_isAbove 148 = .ok (.iload 4, 2) := by decide +kernel
theorem dX7_isAbove_150 : decode cX7_isAbove 150 = .ok (.ifCond .le 7, 3) := by decide +kernel
theorem dX7_isAbove_153 : decode cX7_isAbove 153 = .ok (.iconst 1, 1) := by decide +kernel
theorem dX7_isAbove_154 : decode cX7_isAbove 154 = .ok (.goto 4, 3) := by decide +kernel
theorem dX7_isAbove_157 : decode cX7_isAbove 157 = .ok (.iconst 0, 1) := by decide +kernel
theorem dX7_isAbove_158 : decode cX7_isAbove 158 = .ok (.ireturn, 1) := by decide +kernel
theorem dX7_goes_0 : decode cX7_goes 0 = .ok (.iload_n 1, 1) := by decide +kernel
theorem dX7_goes_1 : decode cX7_goes 1 = .ok (.aload_n 0, 1) := by decide +kernel
theorem dX7_goes_2 : decode cX7_goes 2 = .ok (.getfield 277, 3) := by decide +kernel
theorem dX7_goes_5 : decode cX7_goes 5 = .ok (.if_icmp .ne 5, 3) := by decide +kernel
theorem dX7_goes_8 : decode cX7_goes 8 = .ok (.iconst 1, 1) := by decide +kernel
theorem dX7_goes_9 : decode cX7_goes 9 = .ok (.ireturn, 1) := by decide +kernel
theorem dX7_goes_10 : decode cX7_goes 10 = .ok (.aload_n 0, 1) := by decide +kernel
theorem dX7_goes_11 : decode cX7_goes 11 = .ok (.getfield 91, 3) := by decide +kernel
theorem dX7_goes_14 : decode cX7_goes 14 = .ok (.iload_n 2, 1) := by decide +kernel
theorem dX7_goes_15 : decode cX7_goes 15 = .ok (.baload, 1) := by decide +kernel
theorem dX7_goes_16 : decode cX7_goes 16 = .ok (.ifCond .eq 5, 3) := by decide +kernel
theorem dX7_goes_19 : decode cX7_goes 19 = .ok (.iconst 0, 1) := by decide +kernel
theorem dX7_goes_20 : decode cX7_goes 20 = .ok (.ireturn, 1) := by decide +kernel
theorem dX7_goes_21 : decode cX7_goes 21 = .ok (.iconst 0, 1) := by decide +kernel
theorem dX7_goes_22 : decode cX7_goes 22 = .ok (.istore 5, 2) := by decide +kernel
theorem dX7_goes_24 : decode cX7_goes 24 = .ok (.iload 5, 2) := by decide +kernel
theorem dX7_goes_26 : decode cX7_goes 26 = .ok (.aload_n 0, 1) := by decide +kernel
theorem dX7_goes_27 : decode cX7_goes 27 = .ok (.getfield 277, 3) := by decide +kernel
theorem dX7_goes_30 : decode cX7_goes 30 = .ok (.if_icmp .ge 97, 3) := by decide +kernel
theorem dX7_goes_33 : decode cX7_goes 33 = .ok (.iload_n 2, 1) := by decide +kernel
theorem dX7_goes_34 : decode cX7_goes 34 = .ok (.iload 5, 2) := by decide +kernel
theorem dX7_goes_36 : decode cX7_goes 36 = .ok (.ishr, 1) := by decide +kernel
theorem dX7_goes_37 : decode cX7_goes 37 = .ok (.iconst 1, 1) := by decide +kernel
theorem dX7_goes_38 : decode cX7_goes 38 = .ok (.iand, 1) := by decide +kernel
theorem dX7_goes_39 : decode cX7_goes 39 = .ok (.iconst 1, 1) := by decide +kernel
theorem dX7_goes_40 : decode cX7_goes 40 = .ok (.if_icmp .eq 81, 3) := by decide +kernel
theorem dX7_goes_43 : decode cX7_goes 43 = .ok (.aload_n 0, 1) := by decide +kernel
theorem dX7_goes_44 : decode cX7_goes 44 = .ok (.aload_n 0, 1) := by decide +kernel
theorem dX7_goes_45 : decode cX7_goes 45 = .ok (.getfield 95, 3) := by decide +kernel
theorem dX7_goes_48 : decode cX7_goes 48 = .ok (.iload 5, 2) := by decide +kernel
theorem dX7_goes_50 : decode cX7_goes 50 = .ok (.iaload, 1) := by decide +kernel
theorem dX7_goes_51 : decode cX7_goes 51 = .ok (.lload_n 3, 1) := by decide +kernel
theorem dX7_goes_52 : decode cX7_goes 52 = .ok (.invokevirtual 280, 3) := by decide +kernel
theorem dX7_goes_55 : decode cX7_goes 55 = .ok (.ifCond .ne 66, 3) := by decide +kernel
theorem dX7_goes_58 : decode cX7_goes 58 = .ok (.aload_n 0, 1) := by decide +kernel
theorem dX7_goes_59 : decode cX7_goes 59 = .ok (.lload_n 3, 1) := by decide +kernel
theorem dX7_goes_60 : decode cX7_goes 60 = .ok (.lconst 1, 1) := by decide +kernel
theorem dX7_goes_61 : decode cX7_goes 61 = .ok (.aload_n 0, 1) := by decide +kernel
theorem dX7_goes_62 : decode cX7_goes 62 = .ok (.getfield 95, 3) := by decide +kernel
theorem dX7_goes_65 : decode cX7_goes 65 = .ok (.iload 5, 2) := by decide +kernel
theorem dX7_goes_67 : decode cX7_goes 67 = .ok (.iaload, 1) := by decide +kernel
theorem dX7_goes_68 : decode cX7_goes 68 = .ok (.lshl, 1) := by decide +kernel
theorem dX7_goes_69 : decode cX7_goes 69 = .ok (.lor, 1) := by decide +kernel
theorem dX7_goes_70 : decode cX7_goes 70 = .ok (.invokevirtual 216, 3) := by decide +kernel
theorem dX7_goes_73 : decode cX7_goes 73 = .ok (.ifCond .ne 6, 3) := by decide +kernel
theorem dX7_goes_76 : decode cX7_goes 76 = .ok (.goto 45, 3) := by decide +kernel
theorem dX7_goes_79 : decode cX7_goes 79 = .ok (.aload_n 0, 1) := by decide +kernel
theorem dX7_goes_80 : decode cX7_goes 80 = .ok (.getfield 88, 3) := by decide +kernel
theorem dX7_goes_83 : decode cX7_goes 83 = .ok (.iload_n 1, 1) := by decide +kernel
theorem dX7_goes_84 : decode cX7_goes 84 = .ok (.aload_n 0, 1) := by decide +kernel
theorem dX7_goes_85 : decode cX7_goes 85 = .ok (.getfield 95, 3) := by decide +kernel
theorem dX7_goes_88 : decode cX7_goes 88 = .ok (.iload 5, 2) := by decide +kernel
theorem dX7_goes_90 : decode cX7_goes 90 = .ok (.iaload, 1) := by decide +kernel
theorem dX7_goes_91 : decode cX7_goes 91 = .ok (.iastore, 1) := by decide +kernel
theorem dX7_goes_92 : decode cX7_goes 92 = .ok (.aload_n 0, 1) := by decide +kernel
theorem dX7_goes_93 : decode cX7_goes 93 = .ok (.iload_n 1, 1) := by decide +kernel
theorem dX7_goes_94 : decode cX7_goes 94 = .ok (.iconst 1, 1) := by decide +kernel
theorem dX7_goes_95 : decode cX7_goes 95 = .ok (.iadd, 1) := by decide +kernel
theorem dX7_goes_96 : decode cX7_goes 96 = .ok (.iload_n 2, 1) := by decide +kernel
theorem dX7_goes_97 : decode cX7_goes 97 = .ok (.iconst 1, 1) := by decide +kernel
theorem dX7_goes_98 : decode cX7_goes 98 = .ok (.iload 5, 2) := by decide +kernel
theorem dX7_goes_100 : decode cX7_goes 100 = .ok (.ishl, 1) := by decide +kernel
theorem dX7_goes_101 : decode cX7_goes 101 = .ok (.ior, 1) := by decide +kernel
theorem dX7_goes_102 : decode cX7_goes 102 = .ok (.lload_n 3, 1) := by decide +kernel
theorem dX7_goes_103 : decode cX7_goes 103 = .ok (.lconst 1, 1) := by decide +kernel
theorem dX7_goes_104 : decode cX7_goes 104 = .ok (.aload_n 0, 1) := by decide +kernel
theorem dX7_goes_105 : decode cX7_goes 105 = .ok (.getfield 95, 3) := by decide +kernel
theorem dX7_goes_108 : decode cX7_goes 108 = .ok (.iload 5, 2) := by decide +kernel
theorem dX7_goes_110 : decode cX7_goes 110 = .ok (.iaload, 1) := by decide +kernel
theorem dX7_goes_111 : decode cX7_goes 111 = .ok (.lshl, 1) := by decide +kernel
theorem dX7_goes_112 : decode cX7_goes 112 = .ok (.lor, 1) := by decide +kernel
theorem dX7_goes_113 : decode cX7_goes 113 = .ok (.invokevirtual 284, 3) := by decide +kernel
theorem dX7_goes_116 : decode cX7_goes 116 = .ok (.ifCond .eq 5, 3) := by decide +kernel
theorem dX7_goes_119 : decode cX7_goes 119 = .ok (.iconst 1, 1) := by decide +kernel
theorem dX7_goes_120 : decode cX7_goes 120 = .ok (.ireturn, 1) := by decide +kernel
theorem dX7_goes_121 : decode cX7_goes 121 = .ok (.iinc 5 1, 3) := by decide +kernel
theorem dX7_goes_124 : decode cX7_goes 124 = .ok (.goto (-100), 3) := by decide +kernel
theorem dX7_goes_127 : decode cX7_goes 127 = .ok (.aload_n 0, 1) := by decide +kernel
theorem dX7_goes_128 : decode cX7_goes 128 = .ok (.getfield 91, 3) := by decide +kernel
theorem dX7_goes_131 : decode cX7_goes 131 = .ok (.iload_n 2, 1) := by decide +kernel
theorem dX7_goes_132 : decode cX7_goes 132 = .ok (.iconst 1, 1) := by decide +kernel
theorem dX7_goes_133 : decode cX7_goes 133 = .ok (.bastore, 1) := by decide +kernel
theorem dX7_goes_134 : decode cX7_goes 134 = .ok (.iconst 0, 1) := by decide +kernel
theorem dX7_goes_135 : decode cX7_goes 135 = .ok (.ireturn, 1) := by decide +kernel
theorem dX7_order_0 : decode cX7_order 0 = .ok (.aload_n 0, 1) := by decide +kernel
theorem dX7_order_1 : decode cX7_order 1 = .ok (.iconst 0, 1) := by decide +kernel
theorem dX7_order_2 : decode cX7_order 2 = .ok (.putfield 277, 3) := by decide +kernel
theorem dX7_order_5 : decode cX7_order 5 = .ok (.iconst 0, 1) := by decide +kernel
theorem dX7_order_6 : decode cX7_order 6 = .ok (.istore_n 2, 1) := by decide +kernel
theorem dX7_order_7 : decode cX7_order 7 = .ok (.iload_n 2, 1) := by decide +kernel
theorem dX7_order_8 : decode cX7_order 8 = .ok (.aload_n 0, 1) := by decide +kernel
theorem dX7_order_9 : decode cX7_order 9 = .ok (.getfield 133, 3) := by decide +kernel
theorem dX7_order_12 : decode cX7_order 12 = .ok (.if_icmp .ge 56, 3) := by decide +kernel
theorem dX7_order_15 : decode cX7_order 15 = .ok (.aload_n 0, 1) := by decide +kernel
theorem dX7_order_16 : decode cX7_order 16 = .ok (.iload_n 2, 1) := by decide +kernel
theorem dX7_order_17 : decode cX7_order 17 = .ok (.invokevirtual 152, 3) := by decide +kernel
theorem dX7_order_20 : decode cX7_order 20 = .ok (.ifCond .ne 6, 3) := by decide +kernel
theorem dX7_order_23 : decode cX7_order 23 = .ok (.goto 39, 3) := by decide +kernel
theorem dX7_order_26 : decode cX7_order 26 = .ok (.aload_n 0, 1) := by decide +kernel
theorem dX7_order_27 : decode cX7_order 27 = .ok (.getfield 277, 3) := by decide +kernel
theorem dX7_order_30 : decode cX7_order 30 = .ok (.bipush 12, 2) := by decide +kernel
theorem dX7_order_32 : decode cX7_order 32 = .ok (.if_icmp .ne 10, 3) := by decide +kernel
theorem dX7_order_35 : decode cX7_order 35 = .ok (.aload_n 0, 1) := by decide +kernel
theorem dX7_order_36 : decode cX7_order 36 = .ok (.bipush (-6), 2) := by decide +kernel
theorem dX7_order_38 : decode cX7_order 38 = .ok (.invokevirtual 106, 3) := by decide +kernel
theorem dX7_order_41 : decode cX7_order 41 = .ok (.ireturn, 1) := by decide +kernel
theorem dX7_order_42 : decode cX7_order 42 = .ok (.aload_n 0, 1) := by decide +kernel
theorem dX7_order_43 : decode cX7_order 43 = .ok (.getfield 95, 3) := by decide +kernel
theorem dX7_order_46 : decode cX7_order 46 = .ok (.aload_n 0, 1) := by decide +kernel
theorem dX7_order_47 : decode cX7_order 47 = .ok (.getfield 277, 3) := by decide +kernel
theorem dX7_order_50 : decode cX7_order 50 = .ok (.iload_n 2, 1) := by decide +kernel
theorem dX7_order_51 : decode cX7_order 51 = .ok (.iastore, 1) := by decide +kernel
theorem dX7_order_52 : decode cX7_order 52 = .ok (.aload_n 0, 1) := by decide +kernel
theorem dX7_order_53 : decode cX7_order 53 = .ok (.dup, 1) := by decide +kernel
theorem dX7_order_54 : decode cX7_order 54 = .ok (.getfield 277, 3) := by decide +kernel
theorem dX7_order_57 : decode cX7_order 57 = .ok (.iconst 1, 1) := by decide +kernel
theorem dX7_order_58 : decode cX7_order 58 = .ok (.iadd, 1) := by decide +kernel
theorem dX7_order_59 : decode cX7_order 59 = .ok (.putfield 277, 3) := by decide +kernel
theorem dX7_order_62 : decode cX7_order 62 = .ok (.iinc 2 1, 3) := by decide +kernel
theorem dX7_order_65 : decode cX7_order 65 = .ok (.goto (-58), 3) := by decide +kernel
theorem dX7_order_68 : decode cX7_order 68 = .ok (.aload_n 0, 1) := by decide +kernel
theorem dX7_order_69 : decode cX7_order 69 = .ok (.invokevirtual 201, 3) := by decide +kernel
theorem dX7_order_72 : decode cX7_order 72 = .ok (.iconst 0, 1) := by decide +kernel
theorem dX7_order_73 : decode cX7_order 73 = .ok (.istore_n 2, 1) := by decide +kernel
theorem dX7_order_74 : decode cX7_order 74 = .ok (.iload_n 2, 1) := by decide +kernel
theorem dX7_order_75 : decode cX7_order 75 = .ok (.iconst 1, 1) := by decide +kernel
theorem dX7_order_76 : decode cX7_order 76 = .ok (.aload_n 0, 1) := by decide +kernel
theorem dX7_order_77 : decode cX7_order 77 = .ok (.getfield 277, 3) := by decide +kernel
theorem dX7_order_80 : decode cX7_order 80 = .ok (.ishl, 1) := by decide +kernel
theorem dX7_order_81 : decode cX7_order 81 = .ok (.if_icmp .ge 16, 3) := by decide +kernel
theorem dX7_order_84 : decode cX7_order 84 = .ok (.aload_n 0, 1) := by decide +kernel
theorem dX7_order_85 : decode cX7_order 85 = .ok (.getfield 91, 3) := by decide +kernel
theorem dX7_order_88 : decode cX7_order 88 = .ok (.iload_n 2, 1) := by decide +kernel
theorem dX7_order_89 : decode cX7_order 89 = .ok (.iconst 0, 1) := by decide +kernel
theorem dX7_order_90 : decode cX7_order 90 = .ok (.bastore, 1) := by decide +kernel
theorem dX7_order_91 : decode cX7_order 91 = .ok (.iinc 2 1, 3) := by decide +kernel
theorem dX7_order_94 : decode cX7_order 94 = .ok (.goto (-20), 3) := by decide +kernel
theorem dX7_order_97 : decode cX7_order 97 = .ok (.iload_n 1, 1) := by decide +kernel
theorem dX7_order_98 : decode cX7_order 98 = .ok (.aload_n 0, 1) := by decide +kernel
theorem dX7_order_99 : decode cX7_order 99 = .ok (.getfield 277, 3) := by decide +kernel
theorem dX7_order_102 : decode cX7_order 102 = .ok (.invokestatic 98, 3) := by decide +kernel
theorem dX7_order_105 : decode cX7_order 105 = .ok (.ifCond .eq 22, 3) := by decide +kernel
theorem dX7_order_108 : decode cX7_order 108 = .ok (.aload_n 0, 1) := by decide +kernel
theorem dX7_order_109 : decode cX7_order 109 = .ok (.iconst 0, 1) := by decide +kernel
theorem dX7_order_110 : decode cX7_order 110 = .ok (.iconst 0, 1) := by decide +kernel
theorem dX7_order_111 : decode cX7_order 111 = .ok (.lconst 0, 1) := by decide +kernel
theorem dX7_order_112 : decode cX7_order 112 = .ok (.invokevirtual 284, 3) := by decide +kernel
theorem dX7_order_115 : decode cX7_order 115 = .ok (.ifCond .eq 12, 3) := by decide +kernel
theorem dX7_order_118 : decode cX7_order 118 = .ok (.aload_n 0, 1) := by decide +kernel
theorem dX7_order_119 : decode cX7_order 119 = .ok (.getfield 88, 3) := by decide +kernel
theorem dX7_order_122 : decode cX7_order 122 = .ok (.iload_n 1, 1) := by decide +kernel
theorem dX7_order_123 : decode cX7_order 123 = .ok (.iaload, 1) := by decide +kernel
theorem dX7_order_124 : decode cX7_order 124 = .ok (.goto 5, 3) := by decide +kernel
theorem dX7_order_127 : decode cX7_order 127 = .ok (.bipush (-9), 2) := by decide +kernel
theorem dX7_order_129 : decode cX7_order 129 = .ok (.ireturn, 1) := by decide +kernel
theorem dX7_seen_0 : decode cX7_seen 0 = .ok (.iload_n 1, 1) := by decide +kernel
theorem dX7_seen_1 : decode cX7_seen 1 = .ok (.iconst 5, 1) := by decide +kernel
theorem dX7_seen_2 : decode cX7_seen 2 = .ok (.invokestatic 98, 3) := by decide +kernel
theorem dX7_seen_5 : decode cX7_seen 5 = .ok (.ifCond .ne 10, 3) := by decide +kernel
theorem dX7_seen_8 : decode cX7_seen 8 = .ok (.aload_n 0, 1) := by decide +kernel
theorem dX7_seen_9 : decode cX7_seen 9 = .ok (.bipush (-2), 2) := by decide +kernel
theorem dX7_seen_11 : decode cX7_seen 11 = .ok (.invokevirtual 106, 3) := by decide +kernel
theorem dX7_seen_14 : decode cX7_seen 14 = .ok (.ireturn, 1) := by decide +kernel
theorem dX7_seen_15 : decode cX7_seen 15 = .ok (.iload_n 2, 1) := by decide +kernel
theorem dX7_seen_16 : decode cX7_seen 16 = .ok (.bipush 6, 2) := by decide +kernel
theorem dX7_seen_18 : decode cX7_seen 18 = .ok (.invokestatic 98, 3) := by decide +kernel
theorem dX7_seen_21 : decode cX7_seen 21 = .ok (.ifCond .eq 21, 3) := by decide +kernel
theorem dX7_seen_24 : decode cX7_seen 24 = .ok (.iload_n 3, 1) := by decide +kernel
theorem dX7_seen_25 : decode cX7_seen 25 = .ok (.iload_n 1, 1) := by decide +kernel
theorem dX7_seen_26 : decode cX7_seen 26 = .ok (.iconst 4, 1) := by decide +kernel
theorem dX7_seen_27 : decode cX7_seen 27 = .ok (.if_icmp .ne 8, 3) := by decide +kernel
theorem dX7_seen_30 : decode cX7_seen 30 = .ok (.bipush 6, 2) := by decide +kernel
theorem dX7_seen_32 : decode cX7_seen 32 = .ok (.goto 4, 3) := by decide +kernel
theorem dX7_seen_35 : decode cX7_seen 35 = .ok (.iconst 5, 1) := by decide +kernel
theorem dX7_seen_36 : decode cX7_seen 36 = .ok (.invokestatic 98, 3) := by decide +kernel
theorem dX7_seen_39 : decode cX7_seen 39 = .ok (.ifCond .ne 9, 3) := by decide +kernel
theorem dX7_seen_42 : decode cX7_seen 42 = .ok (.aload_n 0, 1) := by decide +kernel
theorem dX7_seen_43 : decode cX7_seen 43 = .ok (.iconst (-1), 1) := by decide +kernel
theorem dX7_seen_44 : decode cX7_seen 44 = .ok (.invokevirtual 106, 3) := by decide +kernel
theorem dX7_seen_47 : decode cX7_seen 47 = .ok (.ireturn, 1) := by decide +kernel
theorem dX7_seen_48 : decode cX7_seen 48 = .ok (.iconst 0, 1) := by decide +kernel
theorem dX7_seen_49 : decode cX7_seen 49 = .ok (.istore 4, 2) := by decide +kernel
theorem dX7_seen_51 : decode cX7_seen 51 = .ok (.iload 4, 2) := by decide +kernel
theorem dX7_seen_53 : decode cX7_seen 53 = .ok (.iload_n 1, 1) := by decide +kernel
theorem dX7_seen_54 : decode cX7_seen 54 = .ok (.iconst 4, 1) := by decide +kernel
theorem dX7_seen_55 : decode cX7_seen 55 = .ok (.if_icmp .ne 7, 3) := by decide +kernel
theorem dX7_seen_58 : decode cX7_seen 58 = .ok (.iconst 5, 1) := by decide +kernel
theorem dX7_seen_59 : decode cX7_seen 59 = .ok (.goto 5, 3) := by decide +kernel
theorem dX7_seen_62 : decode cX7_seen 62 = .ok (.bipush 6, 2) := by decide +kernel
theorem dX7_seen_64 : decode cX7_seen 64 = .ok (.if_icmp .ge 106, 3) := by decide +kernel
theorem dX7_seen_67 : decode cX7_seen 67 = .ok (.iload_n 1, 1) := by decide +kernel
theorem dX7_seen_68 : decode cX7_seen 68 = .ok (.ifCond .ne 13, 3) := by decide +kernel
theorem dX7_seen_71 : decode cX7_seen 71 = .ok (.iload_n 2, 1) := by decide +kernel
theorem dX7_seen_72 : decode cX7_seen 72 = .ok (.iload 4, 2) := by decide +kernel
theorem dX7_seen_74 : decode cX7_seen 74 = .ok (.iload_n 3, 1) := by decide +kernel
theorem dX7_seen_75 : decode cX7_seen 75 = .ok (.invokestatic 110, 3) := by decide +kernel
theorem dX7_seen_78 : decode cX7_seen 78 = .ok (.goto 61, 3) := by decide +kernel
theorem dX7_seen_81 : decode cX7_seen 81 = .ok (.iload_n 1, 1) := by decide +kernel
theorem dX7_seen_82 : decode cX7_seen 82 = .ok (.iconst 1, 1) := by decide +kernel
theorem dX7_seen_83 : decode cX7_seen 83 = .ok (.if_icmp .ne 15, 3) := by decide +kernel
theorem dX7_seen_86 : decode cX7_seen 86 = .ok (.iconst 5, 1) := by decide +kernel
theorem dX7_seen_87 : decode cX7_seen 87 = .ok (.iload 4, 2) := by decide +kernel
theorem dX7_seen_89 : decode cX7_seen 89 = .ok (.isub, 1) := by decide +kernel
theorem dX7_seen_90 : decode cX7_seen 90 = .ok (.iload_n 2, 1) := by decide +kernel
theorem dX7_seen_91 : decode cX7_seen 91 = .ok (.iload_n 3, 1) := by decide +kernel
theorem dX7_seen_92 : decode cX7_seen 92 = .ok (.invokestatic 110, 3) := by decide +kernel
theorem dX7_seen_95 : decode cX7_seen 95 = .ok (.goto 44, 3) := by decide +kernel
theorem dX7_seen_98 : decode cX7_seen 98 = .ok (.iload_n 1, 1) := by decide +kernel
theorem dX7_seen_99 : decode cX7_seen 99 = .ok (.iconst 2, 1) := by decide +kernel
theorem dX7_seen_100 : decode cX7_seen 100 = .ok (.if_icmp .ne 15, 3) := by decide +kernel
theorem dX7_seen_103 : decode cX7_seen 103 = .ok (.iload_n 2, 1) := by decide +kernel
theorem dX7_seen_104 : decode cX7_seen 104 = .ok (.iconst 5, 1) := by decide +kernel
theorem dX7_seen_105 : decode cX7_seen 105 = .ok (.iload 4, 2) := by decide +kernel
theorem dX7_seen_107 : decode cX7_seen 107 = .ok (.isub, 1) := by decide +kernel
theorem dX7_seen_108 : decode cX7_seen 108 = .ok (.iload_n 3, 1) := by decide +kernel
theorem dX7_seen_109 : decode cX7_seen 109 = .ok (.invokestatic 110, 3) := by decide +kernel
theorem dX7_seen_112 : decode cX7_seen 112 = .ok (.goto 27, 3) := by decide +kernel
theorem dX7_seen_115 : decode cX7_seen 115 = .ok (.iload_n 1, 1) := by decide +kernel
theorem dX7_seen_116 : decode cX7_seen 116 = .ok (.iconst 3, 1) := by decide +kernel
theorem dX7_seen_117 : decode cX7_seen 117 = .ok (.if_icmp .ne 13, 3) := by decide +kernel
theorem dX7_seen_120 : decode cX7_seen 120 = .ok (.iload 4, 2) := by decide +kernel
theorem dX7_seen_122 : decode cX7_seen 122 = .ok (.iload_n 2, 1) := by decide +kernel
theorem dX7_seen_123 : decode cX7_seen 123 = .ok (.iload_n 3, 1) := by decide +kernel
theorem dX7_seen_124 : decode cX7_seen 124 = .ok (.invokestatic 110, 3) := by decide +kernel
theorem dX7_seen_127 : decode cX7_seen 127 = .ok (.goto 12, 3) := by decide +kernel
theorem dX7_seen_130 : decode cX7_seen 130 = .ok (.iload_n 2, 1) := by decide +kernel
theorem dX7_seen_131 : decode cX7_seen 131 = .ok (.iload_n 3, 1) := by decide +kernel
theorem dX7_seen_132 : decode cX7_seen 132 = .ok (.iconst 4, 1) := by decide +kernel
theorem dX7_seen_133 : decode cX7_seen 133 = .ok (.iload 4, 2) := by decide +kernel
theorem dX7_seen_135 : decode cX7_seen 135 = .ok (.isub, 1) := by decide +kernel
theorem dX7_seen_136 : decode cX7_seen 136 = .ok (.invokestatic 110, 3) := by decide +kernel
theorem dX7_seen_139 : decode cX7_seen 139 = .ok (.istore 5, 2) := by decide +kernel
theorem dX7_seen_141 : decode cX7_seen 141 = .ok (.aload_n 0, 1) := by decide +kernel
theorem dX7_seen_142 : decode cX7_seen 142 = .ok (.getfield 16, 3) := by decide +kernel
theorem dX7_seen_145 : decode cX7_seen 145 = .ok (.iload 5, 2) := by decide +kernel
theorem dX7_seen_147 : decode cX7_seen 147 = .ok (.iaload, 1) := by decide +kernel
theorem dX7_seen_148 : decode cX7_seen 148 = .ok (.ifCond .lt 16, 3) := by decide +kernel
theorem dX7_seen_151 : decode cX7_seen 151 = .ok (.aload_n 0, 1) := by decide +kernel
theorem dX7_seen_152 : decode cX7_seen 152 = .ok (.getfield 37, 3) := by decide +kernel
theorem dX7_seen_155 : decode cX7_seen 155 = .ok (.aload_n 0, 1) := by decide +kernel
theorem dX7_seen_156 : decode cX7_seen 156 = .ok (.getfield 16, 3) := by decide +kernel
theorem dX7_seen_159 : decode cX7_seen 159 = .ok (.iload 5, 2) := by decide +kernel
theorem dX7_seen_161 : decode cX7_seen 161 = .ok (.iaload, 1) := by decide +kernel
theorem dX7_seen_162 : decode cX7_seen 162 = .ok (.iaload, 1) := by decide +kernel
theorem dX7_seen_163 : decode cX7_seen 163 = .ok (.ireturn, 1) := by decide +kernel
theorem dX7_seen_164 : decode cX7_seen 164 = .ok (.iinc 4 1, 3) := by decide +kernel
theorem dX7_seen_167 : decode cX7_seen 167 = .ok (.goto (-116), 3) := by decide +kernel
theorem dX7_seen_170 : decode cX7_seen 170 = .ok (.iconst 0, 1) := by decide +kernel
theorem dX7_seen_171 : decode cX7_seen 171 = .ok (.ireturn, 1) := by decide +kernel
theorem dX7_brickOf_0 : decode cX7_brickOf 0 = .ok (.aload_n 0, 1) := by decide +kernel
theorem dX7_brickOf_1 : decode cX7_brickOf 1 = .ok (.iload_n 1, 1) := by decide +kernel
theorem dX7_brickOf_2 : decode cX7_brickOf 2 = .ok (.invokevirtual 148, 3) := by decide +kernel
theorem dX7_brickOf_5 : decode cX7_brickOf 5 = .ok (.ifCond .ne 9, 3) := by decide +kernel
theorem dX7_brickOf_8 : decode cX7_brickOf 8 = .ok (.aload_n 0, 1) := by decide +kernel
theorem dX7_brickOf_9 : decode cX7_brickOf 9 = .ok (.iconst (-1), 1) := by decide +kernel
theorem dX7_brickOf_10 : decode cX7_brickOf 10 = .ok (.invokevirtual 106, 3) := by decide +kernel
theorem dX7_brickOf_13 : decode cX7_brickOf 13 = .ok (.ireturn, 1) := by decide +kernel
theorem dX7_brickOf_14 : decode cX7_brickOf 14 = .ok (.iload_n 2, 1) := by decide +kernel
theorem dX7_brickOf_15 : decode cX7_brickOf 15 = .ok (.tableswitch 97 0 6 #[41, 48, 55, 62, 69, 76, 83], 41) := by decide +kernel
theorem dX7_brickOf_56 : decode cX7_brickOf 56 = .ok (.aload_n 0, 1) := by decide +kernel
theorem dX7_brickOf_57 : decode cX7_brickOf 57 = .ok (.getfield 22, 3) := by decide +kernel
theorem dX7_brickOf_60 : decode cX7_brickOf 60 = .ok (.iload_n 1, 1) := by decide +kernel
theorem dX7_brickOf_61 : decode cX7_brickOf 61 = .ok (.iaload, 1) := by decide +kernel
theorem dX7_brickOf_62 : decode cX7_brickOf 62 = .ok (.ireturn, 1) := by decide +kernel
theorem dX7_brickOf_63 : decode cX7_brickOf 63 = .ok (.aload_n 0, 1) := by decide +kernel
theorem dX7_brickOf_64 : decode cX7_brickOf 64 = .ok (.getfield 25, 3) := by decide +kernel
theorem dX7_brickOf_67 : decode cX7_brickOf 67 = .ok (.iload_n 1, 1) := by decide +kernel
theorem dX7_brickOf_68 : decode cX7_brickOf 68 = .ok (.iaload, 1) := by decide +kernel
theorem dX7_brickOf_69 : decode cX7_brickOf 69 = .ok (.ireturn, 1) := by decide +kernel
theorem dX7_brickOf_70 : decode cX7_brickOf 70 = .ok (.aload_n 0, 1) := by decide +kernel
theorem dX7_brickOf_71 : decode cX7_brickOf 71 = .ok (.getfield 28, 3) := by decide +kernel
theorem dX7_brickOf_74 : decode cX7_brickOf 74 = .ok (.iload_n 1, 1) := by decide +kernel
theorem dX7_brickOf_75 : decode cX7_brickOf 75 = .ok (.iaload, 1) := by decide +kernel
theorem dX7_brickOf_76 : decode cX7_brickOf 76 = .ok (.ireturn, 1) := by decide +kernel
theorem dX7_brickOf_77 : decode cX7_brickOf 77 = .ok (.aload_n 0, 1) := by decide +kernel
theorem dX7_brickOf_78 : decode cX7_brickOf 78 = .ok (.getfield 31, 3) := by decide +kernel
theorem dX7_brickOf_81 : decode cX7_brickOf 81 = .ok (.iload_n 1, 1) := by decide +kernel
theorem dX7_brickOf_82 : decode cX7_brickOf 82 = .ok (.iaload, 1) := by decide +kernel
theorem dX7_brickOf_83 : decode cX7_brickOf 83 = .ok (.ireturn, 1) := by decide +kernel
theorem dX7_brickOf_84 : decode cX7_brickOf 84 = .ok (.aload_n 0, 1) := by decide +kernel
theorem dX7_brickOf_85 : decode cX7_brickOf 85 = .ok (.getfield 34, 3) := by decide +kernel
theorem dX7_brickOf_88 : decode cX7_brickOf 88 = .ok (.iload_n 1, 1) := by decide +kernel
theorem dX7_brickOf_89 : decode cX7_brickOf 89 = .ok (.iaload, 1) := by decide +kernel
theorem dX7_brickOf_90 : decode cX7_brickOf 90 = .ok (.ireturn, 1) := by decide +kernel
theorem dX7_brickOf_91 : decode cX7_brickOf 91 = .ok (.aload_n 0, 1) := by decide +kernel
theorem dX7_brickOf_92 : decode cX7_brickOf 92 = .ok (.getfield 37, 3) := by decide +kernel
theorem dX7_brickOf_95 : decode cX7_brickOf 95 = .ok (.iload_n 1, 1) := by decide +kernel
theorem dX7_brickOf_96 : decode cX7_brickOf 96 = .ok (.iaload, 1) := by decide +kernel
theorem dX7_brickOf_97 : decode cX7_brickOf 97 = .ok (.ireturn, 1) := by decide +kernel
theorem dX7_brickOf_98 : decode cX7_brickOf 98 = .ok (.aload_n 0, 1) := by decide +kernel
theorem dX7_brickOf_99 : decode cX7_brickOf 99 = .ok (.iload_n 1, 1) := by decide +kernel
theorem dX7_brickOf_100 : decode cX7_brickOf 100 = .ok (.invokevirtual 152, 3) := by decide +kernel
theorem dX7_brickOf_103 : decode cX7_brickOf 103 = .ok (.ifCond .eq 7, 3) := by decide +kernel
theorem dX7_brickOf_106 : decode cX7_brickOf 106 = .ok (.iconst 0, 1) := by decide +kernel
theorem dX7_brickOf_107 : decode cX7_brickOf 107 = .ok (.goto 4, 3) := by decide +kernel
theorem dX7_brickOf_110 : decode cX7_brickOf 110 = .ok (.iconst 1, 1) := by decide +kernel
theorem dX7_brickOf_111 : decode cX7_brickOf 111 = .ok (.ireturn, 1) := by decide +kernel
theorem dX7_brickOf_112 : decode cX7_brickOf 112 = .ok (.aload_n 0, 1) := by decide +kernel
theorem dX7_brickOf_113 : decode cX7_brickOf 113 = .ok (.bipush (-2), 2) := by decide +kernel
theorem dX7_brickOf_115 : decode cX7_brickOf 115 = .ok (.invokevirtual 106, 3) := by decide +kernel
theorem dX7_brickOf_118 : decode cX7_brickOf 118 = .ok (.ireturn, 1) := by decide +kernel
theorem dX7_count_0 : decode cX7_count 0 = .ok (.iload_n 1, 1) := by decide +kernel
theorem dX7_count_1 : decode cX7_count 1 = .ok (.bipush 10, 2) := by decide +kernel
theorem dX7_count_3 : decode cX7_count 3 = .ok (.if_icmp .le 19, 3) := by decide +kernel
theorem dX7_count_6 : decode cX7_count 6 = .ok (.iload_n 1, 1) := by decide +kernel
theorem dX7_count_7 : decode cX7_count 7 = .ok (.bipush 17, 2) := by decide +kernel
theorem dX7_count_9 : decode cX7_count 9 = .ok (.if_icmp .ge 13, 3) := by decide +kernel
theorem dX7_count_12 : decode cX7_count 12 = .ok (.aload_n 0, 1) := by decide +kernel
theorem dX7_count_13 : decode cX7_count 13 = .ok (.getfield 7, 3) := by decide +kernel
theorem dX7_count_16 : decode cX7_count 16 = .ok (.iload_n 1, 1) := by decide +kernel
theorem dX7_count_17 : decode cX7_count 17 = .ok (.bipush 10, 2) := by decide +kernel
theorem dX7_count_19 : decode cX7_count 19 = .ok (.isub, 1) := by decide +kernel
theorem dX7_count_20 : decode cX7_count 20 = .ok (.iaload, 1) := by decide +kernel
theorem dX7_count_21 : decode cX7_count 21 = .ok (.ireturn, 1) := by decide +kernel
theorem dX7_count_22 : decode cX7_count 22 = .ok (.iconst 0, 1) := by decide +kernel
theorem dX7_count_23 : decode cX7_count 23 = .ok (.istore_n 2, 1) := by decide +kernel
theorem dX7_count_24 : decode cX7_count 24 = .ok (.iload_n 1, 1) := by decide +kernel
theorem dX7_count_25 : decode cX7_count 25 = .ok (.tableswitch 209 0 5 #[39, 73, 81, 86, 161, 204], 39) := by decide +kernel
theorem dX7_count_64 : decode cX7_count 64 = .ok (.iconst 0, 1) := by decide +kernel
theorem dX7_count_65 : decode cX7_count 65 = .ok (.istore_n 3, 1) := by decide +kernel
theorem dX7_count_66 : decode cX7_count 66 = .ok (.iload_n 3, 1) := by decide +kernel
theorem dX7_count_67 : decode cX7_count 67 = .ok (.sipush 180, 3) := by decide +kernel
theorem dX7_count_70 : decode cX7_count 70 = .ok (.if_icmp .ge 26, 3) := by decide +kernel
theorem dX7_count_73 : decode cX7_count 73 = .ok (.iload_n 2, 1) := by decide +kernel
theorem dX7_count_74 : decode cX7_count 74 = .ok (.aload_n 0, 1) := by decide +kernel
theorem dX7_count_75 : decode cX7_count 75 = .ok (.getfield 13, 3) := by decide +kernel
theorem dX7_count_78 : decode cX7_count 78 = .ok (.iload_n 3, 1) := by decide +kernel
theorem dX7_count_79 : decode cX7_count 79 = .ok (.iaload, 1) := by decide +kernel
theorem dX7_count_80 : decode cX7_count 80 = .ok (.ifCond .le 7, 3) := by decide +kernel
theorem dX7_count_83 : decode cX7_count 83 = .ok (.iconst 1, 1) := by decide +kernel
theorem dX7_count_84 : decode cX7_count 84 = .ok (.goto 4, 3) := by decide +kernel
theorem dX7_count_87 : decode cX7_count 87 = .ok (.iconst 0, 1) := by decide +kernel
theorem dX7_count_88 : decode cX7_count 88 = .ok (.iadd, 1) := by decide +kernel
theorem dX7_count_89 : decode cX7_count 89 = .ok (.istore_n 2, 1) := by decide +kernel
theorem dX7_count_90 : decode cX7_count 90 = .ok (.iinc 3 1, 3) := by decide +kernel
theorem dX7_count_93 : decode cX7_count 93 = .ok (.goto (-27), 3) := by decide +kernel
theorem dX7_count_96 : decode cX7_count 96 = .ok (.iload_n 2, 1) := by decide +kernel
theorem dX7_count_97 : decode cX7_count 97 = .ok (.ireturn, 1) := by decide +kernel
theorem dX7_count_98 : decode cX7_count 98 = .ok (.aload_n 0, 1) := by decide +kernel
theorem dX7_count_99 : decode cX7_count 99 = .ok (.getfield 140, 3) := by decide +kernel
theorem dX7_count_102 : decode cX7_count 102 = .ok (.invokestatic 213, 3) := by decide +kernel
theorem dX7_count_105 : decode cX7_count 105 = .ok (.ireturn, 1) := by decide +kernel
theorem dX7_count_106 : decode cX7_count 106 = .ok (.aload_n 0, 1) := by decide +kernel
theorem dX7_count_107 : decode cX7_count 107 = .ok (.getfield 133, 3) := by decide +kernel
theorem dX7_count_110 : decode cX7_count 110 = .ok (.ireturn, 1) := by decide +kernel
theorem dX7_count_111 : decode cX7_count 111 = .ok (.aload_n 0, 1) := by decide +kernel
theorem dX7_count_112 : decode cX7_count 112 = .ok (.invokevirtual 207, 3) := by decide +kernel
theorem dX7_count_115 : decode cX7_count 115 = .ok (.iconst 0, 1) := by decide +kernel
theorem dX7_count_116 : decode cX7_count 116 = .ok (.istore_n 3, 1) := by decide +kernel
theorem dX7_count_117 : decode cX7_count 117 = .ok (.iload_n 3, 1) := by decide +kernel
theorem dX7_count_118 : decode cX7_count 118 = .ok (.aload_n 0, 1) := by decide +kernel
theorem dX7_count_119 : decode cX7_count 119 = .ok (.getfield 204, 3) := by decide +kernel
theorem dX7_count_122 : decode cX7_count 122 = .ok (.if_icmp .ge 62, 3) := by decide +kernel
theorem dX7_count_125 : decode cX7_count 125 = .ok (.aload_n 0, 1) := by decide +kernel
theorem dX7_count_126 : decode cX7_count 126 = .ok (.getfield 60, 3) := by decide +kernel
theorem dX7_count_129 : decode cX7_count 129 = .ok (.iload_n 3, 1) := by decide +kernel
theorem dX7_count_130 : decode cX7_count 130 = .ok (.laload, 1) := by decide +kernel
theorem dX7_count_131 : decode cX7_count 131 = .ok (.lstore 4, 2) := by decide +kernel
theorem dX7_count_133 : decode cX7_count 133 = .ok (.lload 4, 2) := by decide +kernel
theorem dX7_count_135 : decode cX7_count 135 = .ok (.lconst 0, 1) := by decide +kernel
theorem dX7_count_136 : decode cX7_count 136 = .ok (.lcmp, 1) := by decide +kernel
theorem dX7_count_137 : decode cX7_count 137 = .ok (.ifCond .eq 41, 3) := by decide +kernel
theorem dX7_count_140 : decode cX7_count 140 = .ok (.iload_n 2, 1) := by decide +kernel
theorem dX7_count_141 : decode cX7_count 141 = .ok (.aload_n 0, 1) := by decide +kernel
theorem dX7_count_142 : decode cX7_count 142 = .ok (.aload_n 0, 1) := by decide +kernel
theorem dX7_count_143 : decode cX7_count 143 = .ok (.getfield 60, 3) := by decide +kernel
theorem dX7_count_146 : decode cX7_count 146 = .ok (.iload_n 3, 1) := by decide +kernel
theorem dX7_count_147 : decode cX7_count 147 = .ok (.laload, 1) := by decide +kernel
theorem dX7_count_148 : decode cX7_count 148 = .ok (.lload 4, 2) := by decide +kernel
theorem dX7_count_150 : decode cX7_count 150 = .ok (.invokestatic 171, 3) := by decide +kernel
theorem dX7_count_153 : decode cX7_count 153 = .ok (.invokevirtual 197, 3) := by decide +kernel
theorem dX7_count_156 : decode cX7_count 156 = .ok (.ifCond .lt 7, 3) := by decide +kernel
theorem dX7_count_159 : decode cX7_count 159 = .ok (.iconst 1, 1) := by decide +kernel
theorem dX7_count_160 : decode cX7_count 160 = .ok (.goto 4, 3) := by decide +kernel
theorem dX7_count_163 : decode cX7_count 163 = .ok (.iconst 0, 1) := by decide +kernel
theorem dX7_count_164 : decode cX7_count 164 = .ok (.iadd, 1) := by decide +kernel
theorem dX7_count_165 : decode cX7_count 165 = .ok (.istore_n 2, 1) := by decide +kernel
theorem dX7_count_166 : decode cX7_count 166 = .ok (.lload 4, 2) := by decide +kernel
theorem dX7_count_168 : decode cX7_count 168 = .ok (.lload 4, 2) := by decide +kernel
theorem dX7_count_170 : decode cX7_count 170 = .ok (.lconst 1, 1) := by decide +kernel
theorem dX7_count_171 : decode cX7_count 171 = .ok (.lsub, 1) := by decide +kernel
theorem dX7_count_172 : decode cX7_count 172 = .ok (.land, 1) := by decide +kernel
theorem dX7_count_173 : decode cX7_count 173 = .ok (.lstore 4, 2) := by decide +kernel
theorem dX7_count_175 : decode cX7_count 175 = .ok (.goto (-42), 3) := by decide +kernel
theorem dX7_count_178 : decode cX7_count 178 = .ok (.iinc 3 1, 3) := by decide +kernel
theorem dX7_count_181 : decode cX7_count 181 = .ok (.goto (-64), 3) := by decide +kernel
theorem dX7_count_184 : decode cX7_count 184 = .ok (.iload_n 2, 1) := by decide +kernel
theorem dX7_count_185 : decode cX7_count 185 = .ok (.ireturn, 1) := by decide +kernel
theorem dX7_count_186 : decode cX7_count 186 = .ok (.aload_n 0, 1) := by decide +kernel
theorem dX7_count_187 : decode cX7_count 187 = .ok (.invokevirtual 207, 3) := by decide +kernel
theorem dX7_count_190 : decode cX7_count 190 = .ok (.iconst 0, 1) := by decide +kernel
theorem dX7_count_191 : decode cX7_count 191 = .ok (.istore_n 3, 1) := by decide +kernel
theorem dX7_count_192 : decode cX7_count 192 = .ok (.iload_n 3, 1) := by decide +kernel
theorem dX7_count_193 : decode cX7_count 193 = .ok (.aload_n 0, 1) := by decide +kernel
theorem dX7_count_194 : decode cX7_count 194 = .ok (.getfield 204, 3) := by decide +kernel
theorem dX7_count_197 : decode cX7_count 197 = .ok (.if_icmp .ge 30, 3) := by decide +kernel
theorem dX7_count_200 : decode cX7_count 200 = .ok (.iload_n 2, 1) := by decide +kernel
theorem dX7_count_201 : decode cX7_count 201 = .ok (.aload_n 0, 1) := by decide +kernel
theorem dX7_count_202 : decode cX7_count 202 = .ok (.aload_n 0, 1) := by decide +kernel
theorem dX7_count_203 : decode cX7_count 203 = .ok (.getfield 60, 3) := by decide +kernel
theorem dX7_count_206 : decode cX7_count 206 = .ok (.iload_n 3, 1) := by decide +kernel
theorem dX7_count_207 : decode cX7_count 207 = .ok (.laload, 1) := by decide +kernel
theorem dX7_count_208 : decode cX7_count 208 = .ok (.invokevirtual 190, 3) := by decide +kernel
theorem dX7_count_211 : decode cX7_count 211 = .ok (.ifCond .eq 7, 3) := by decide +kernel
theorem dX7_count_214 : decode cX7_count 214 = .ok (.iconst 1, 1) := by decide +kernel
theorem dX7_count_215 : decode cX7_count 215 = .ok (.goto 4, 3) := by decide +kernel
theorem dX7_count_218 : decode cX7_count 218 = .ok (.iconst 0, 1) := by decide +kernel
theorem dX7_count_219 : decode cX7_count 219 = .ok (.iadd, 1) := by decide +kernel
theorem dX7_count_220 : decode cX7_count 220 = .ok (.istore_n 2, 1) := by decide +kernel
theorem dX7_count_221 : decode cX7_count 221 = .ok (.iinc 3 1, 3) := by decide +kernel
theorem dX7_count_224 : decode cX7_count 224 = .ok (.goto (-32), 3) := by decide +kernel
theorem dX7_count_227 : decode cX7_count 227 = .ok (.iload_n 2, 1) := by decide +kernel
theorem dX7_count_228 : decode cX7_count 228 = .ok (.ireturn, 1) := by decide +kernel
theorem dX7_count_229 : decode cX7_count 229 = .ok (.aload_n 0, 1) := by decide +kernel
theorem dX7_count_230 : decode cX7_count 230 = .ok (.getfield 40, 3) := by decide +kernel
theorem dX7_count_233 : decode cX7_count 233 = .ok (.ireturn, 1) := by decide +kernel
theorem dX7_count_234 : decode cX7_count 234 = .ok (.bipush (-9), 2) := by decide +kernel
theorem dX7_count_236 : decode cX7_count 236 = .ok (.ireturn, 1) := by decide +kernel
theorem dJ6_bitCount_0f7a4_0 : decode cJ6_bitCount_0f7a4 0 = .ok (.iload_n 0, 1) := by decide +kernel
theorem dJ6_bitCount_0f7a4_1 : decode cJ6_bitCount_0f7a4 1 = .ok (.iload_n 0, 1) := by decide +kernel
theorem dJ6_bitCount_0f7a4_2 : decode cJ6_bitCount_0f7a4 2 = .ok (.iconst 1, 1) := by decide +kernel
theorem dJ6_bitCount_0f7a4_3 : decode cJ6_bitCount_0f7a4 3 = .ok (.iushr, 1) := by decide +kernel
theorem dJ6_bitCount_0f7a4_4 : decode cJ6_bitCount_0f7a4 4 = .ok (.ldc_w 265, 3) := by decide +kernel
theorem dJ6_bitCount_0f7a4_7 : decode cJ6_bitCount_0f7a4 7 = .ok (.iand, 1) := by decide +kernel
theorem dJ6_bitCount_0f7a4_8 : decode cJ6_bitCount_0f7a4 8 = .ok (.isub, 1) := by decide +kernel
theorem dJ6_bitCount_0f7a4_9 : decode cJ6_bitCount_0f7a4 9 = .ok (.istore_n 0, 1) := by decide +kernel
theorem dJ6_bitCount_0f7a4_10 : decode cJ6_bitCount_0f7a4 10 = .ok (.iload_n 0, 1) := by decide +kernel
theorem dJ6_bitCount_0f7a4_11 : decode cJ6_bitCount_0f7a4 11 = .ok (.ldc_w 266, 3) := by decide +kernel
theorem dJ6_bitCount_0f7a4_14 : decode cJ6_bitCount_0f7a4 14 = .ok (.iand, 1) := by decide +kernel
theorem dJ6_bitCount_0f7a4_15 : decode cJ6_bitCount_0f7a4 15 = .ok (.iload_n 0, 1) := by decide +kernel
theorem dJ6_bitCount_0f7a4_16 : decode cJ6_bitCount_0f7a4 16 = .ok (.iconst 2, 1) := by decide +kernel
theorem dJ6_bitCount_0f7a4_17 : decode cJ6_bitCount_0f7a4 17 = .ok (.iushr, 1) := by decide +kernel
theorem dJ6_bitCount_0f7a4_18 : decode cJ6_bitCount_0f7a4 18 = .ok (.ldc_w 266, 3) := by decide +kernel
theorem dJ6_bitCount_0f7a4_21 : decode cJ6_bitCount_0f7a4 21 = .ok (.iand, 1) := by decide +kernel
theorem dJ6_bitCount_0f7a4_22 : decode cJ6_bitCount_0f7a4 22 = .ok (.iadd, 1) := by decide +kernel
theorem dJ6_bitCount_0f7a4_23 : decode cJ6_bitCount_0f7a4 23 = .ok (.istore_n 0, 1) := by decide +kernel
theorem dJ6_bitCount_0f7a4_24 : decode cJ6_bitCount_0f7a4 24 = .ok (.iload_n 0, 1) := by decide +kernel
theorem dJ6_bitCount_0f7a4_25 : decode cJ6_bitCount_0f7a4 25 = .ok (.iload_n 0, 1) := by decide +kernel
theorem dJ6_bitCount_0f7a4_26 : decode cJ6_bitCount_0f7a4 26 = .ok (.iconst 4, 1) := by decide +kernel
theorem dJ6_bitCount_0f7a4_27 : decode cJ6_bitCount_0f7a4 27 = .ok (.iushr, 1) := by decide +kernel
theorem dJ6_bitCount_0f7a4_28 : decode cJ6_bitCount_0f7a4 28 = .ok (.iadd, 1) := by decide +kernel
theorem dJ6_bitCount_0f7a4_29 : decode cJ6_bitCount_0f7a4 29 = .ok (.ldc_w 267, 3) := by decide +kernel
theorem dJ6_bitCount_0f7a4_32 : decode cJ6_bitCount_0f7a4 32 = .ok (.iand, 1) := by decide +kernel
theorem dJ6_bitCount_0f7a4_33 : decode cJ6_bitCount_0f7a4 33 = .ok (.istore_n 0, 1) := by decide +kernel
theorem dJ6_bitCount_0f7a4_34 : decode cJ6_bitCount_0f7a4 34 = .ok (.iload_n 0, 1) := by decide +kernel
theorem dJ6_bitCount_0f7a4_35 : decode cJ6_bitCount_0f7a4 35 = .ok (.iload_n 0, 1) := by decide +kernel
theorem dJ6_bitCount_0f7a4_36 : decode cJ6_bitCount_0f7a4 36 = .ok (.bipush 8, 2) := by decide +kernel
theorem dJ6_bitCount_0f7a4_38 : decode cJ6_bitCount_0f7a4 38 = .ok (.iushr, 1) := by decide +kernel
theorem dJ6_bitCount_0f7a4_39 : decode cJ6_bitCount_0f7a4 39 = .ok (.iadd, 1) := by decide +kernel
theorem dJ6_bitCount_0f7a4_40 : decode cJ6_bitCount_0f7a4 40 = .ok (.istore_n 0, 1) := by decide +kernel
theorem dJ6_bitCount_0f7a4_41 : decode cJ6_bitCount_0f7a4 41 = .ok (.iload_n 0, 1) := by decide +kernel
theorem dJ6_bitCount_0f7a4_42 : decode cJ6_bitCount_0f7a4 42 = .ok (.iload_n 0, 1) := by decide +kernel
theorem dJ6_bitCount_0f7a4_43 : decode cJ6_bitCount_0f7a4 43 = .ok (.bipush 16, 2) := by decide +kernel
theorem dJ6_bitCount_0f7a4_45 : decode cJ6_bitCount_0f7a4 45 = .ok (.iushr, 1) := by decide +kernel
theorem dJ6_bitCount_0f7a4_46 : decode cJ6_bitCount_0f7a4 46 = .ok (.iadd, 1) := by decide +kernel
theorem dJ6_bitCount_0f7a4_47 : decode cJ6_bitCount_0f7a4 47 = .ok (.istore_n 0, 1) := by decide +kernel
theorem dJ6_bitCount_0f7a4_48 : decode cJ6_bitCount_0f7a4 48 = .ok (.iload_n 0, 1) := by decide +kernel
theorem dJ6_bitCount_0f7a4_49 : decode cJ6_bitCount_0f7a4 49 = .ok (.bipush 63, 2) := by decide +kernel
theorem dJ6_bitCount_0f7a4_51 : decode cJ6_bitCount_0f7a4 51 = .ok (.iand, 1) := by decide +kernel
theorem dJ6_bitCount_0f7a4_52 : decode cJ6_bitCount_0f7a4 52 = .ok (.ireturn, 1) := by decide +kernel
theorem dJ13_bitCount_95d88_0 : decode cJ13_bitCount_95d88 0 = .ok (.lload_n 0, 1) := by decide +kernel
theorem dJ13_bitCount_95d88_1 : decode cJ13_bitCount_95d88 1 = .ok (.lload_n 0, 1) := by decide +kernel
theorem dJ13_bitCount_95d88_2 : decode cJ13_bitCount_95d88 2 = .ok (.iconst 1, 1) := by decide +kernel
theorem dJ13_bitCount_95d88_3 : decode cJ13_bitCount_95d88 3 = .ok (.lushr, 1) := by decide +kernel
theorem dJ13_bitCount_95d88_4 : decode cJ13_bitCount_95d88 4 = .ok (.ldc2_w 314, 3) := by decide +kernel
theorem dJ13_bitCount_95d88_7 : decode cJ13_bitCount_95d88 7 = .ok (.land, 1) := by decide +kernel
theorem dJ13_bitCount_95d88_8 : decode cJ13_bitCount_95d88 8 = .ok (.lsub, 1) := by decide +kernel
theorem dJ13_bitCount_95d88_9 : decode cJ13_bitCount_95d88 9 = .ok (.lstore_n 0, 1) := by decide +kernel
theorem dJ13_bitCount_95d88_10 : decode cJ13_bitCount_95d88 10 = .ok (.lload_n 0, 1) := by decide +kernel
theorem dJ13_bitCount_95d88_11 : decode cJ13_bitCount_95d88 11 = .ok (.ldc2_w 316, 3) := by decide +kernel
theorem dJ13_bitCount_95d88_14 : decode cJ13_bitCount_95d88 14 = .ok (.land, 1) := by decide +kernel
theorem dJ13_bitCount_95d88_15 : decode cJ13_bitCount_95d88 15 = .ok (.lload_n 0, 1) := by decide +kernel
theorem dJ13_bitCount_95d88_16 : decode cJ13_bitCount_95d88 16 = .ok (.iconst 2, 1) := by decide +kernel
theorem dJ13_bitCount_95d88_17 : decode cJ13_bitCount_95d88 17 = .ok (.lushr, 1) := by decide +kernel
theorem dJ13_bitCount_95d88_18 : decode cJ13_bitCount_95d88 18 = .ok (.ldc2_w 316, 3) := by decide +kernel
theorem dJ13_bitCount_95d88_21 : decode cJ13_bitCount_95d88 21 = .ok (.land, 1) := by decide +kernel
theorem dJ13_bitCount_95d88_22 : decode cJ13_bitCount_95d88 22 = .ok (.ladd, 1) := by decide +kernel
theorem dJ13_bitCount_95d88_23 : decode cJ13_bitCount_95d88 23 = .ok (.lstore_n 0, 1) := by decide +kernel
theorem dJ13_bitCount_95d88_24 : decode cJ13_bitCount_95d88 24 = .ok (.lload_n 0, 1) := by decide +kernel
theorem dJ13_bitCount_95d88_25 : decode cJ13_bitCount_95d88 25 = .ok (.lload_n 0, 1) := by decide +kernel
theorem dJ13_bitCount_95d88_26 : decode cJ13_bitCount_95d88 26 = .ok (.iconst 4, 1) := by decide +kernel
theorem dJ13_bitCount_95d88_27 : decode cJ13_bitCount_95d88 27 = .ok (.lushr, 1) := by decide +kernel
theorem dJ13_bitCount_95d88_28 : decode cJ13_bitCount_95d88 28 = .ok (.ladd, 1) := by decide +kernel
theorem dJ13_bitCount_95d88_29 : decode cJ13_bitCount_95d88 29 = .ok (.ldc2_w 318, 3) := by decide +kernel
theorem dJ13_bitCount_95d88_32 : decode cJ13_bitCount_95d88 32 = .ok (.land, 1) := by decide +kernel
theorem dJ13_bitCount_95d88_33 : decode cJ13_bitCount_95d88 33 = .ok (.lstore_n 0, 1) := by decide +kernel
theorem dJ13_bitCount_95d88_34 : decode cJ13_bitCount_95d88 34 = .ok (.lload_n 0, 1) := by decide +kernel
theorem dJ13_bitCount_95d88_35 : decode cJ13_bitCount_95d88 35 = .ok (.lload_n 0, 1) := by decide +kernel
theorem dJ13_bitCount_95d88_36 : decode cJ13_bitCount_95d88 36 = .ok (.bipush 8, 2) := by decide +kernel
theorem dJ13_bitCount_95d88_38 : decode cJ13_bitCount_95d88 38 = .ok (.lushr, 1) := by decide +kernel
theorem dJ13_bitCount_95d88_39 : decode cJ13_bitCount_95d88 39 = .ok (.ladd, 1) := by decide +kernel
theorem dJ13_bitCount_95d88_40 : decode cJ13_bitCount_95d88 40 = .ok (.lstore_n 0, 1) := by decide +kernel
theorem dJ13_bitCount_95d88_41 : decode cJ13_bitCount_95d88 41 = .ok (.lload_n 0, 1) := by decide +kernel
theorem dJ13_bitCount_95d88_42 : decode cJ13_bitCount_95d88 42 = .ok (.lload_n 0, 1) := by decide +kernel
theorem dJ13_bitCount_95d88_43 : decode cJ13_bitCount_95d88 43 = .ok (.bipush 16, 2) := by decide +kernel
theorem dJ13_bitCount_95d88_45 : decode cJ13_bitCount_95d88 45 = .ok (.lushr, 1) := by decide +kernel
theorem dJ13_bitCount_95d88_46 : decode cJ13_bitCount_95d88 46 = .ok (.ladd, 1) := by decide +kernel
theorem dJ13_bitCount_95d88_47 : decode cJ13_bitCount_95d88 47 = .ok (.lstore_n 0, 1) := by decide +kernel
theorem dJ13_bitCount_95d88_48 : decode cJ13_bitCount_95d88 48 = .ok (.lload_n 0, 1) := by decide +kernel
theorem dJ13_bitCount_95d88_49 : decode cJ13_bitCount_95d88 49 = .ok (.lload_n 0, 1) := by decide +kernel
theorem dJ13_bitCount_95d88_50 : decode cJ13_bitCount_95d88 50 = .ok (.bipush 32, 2) := by decide +kernel
theorem dJ13_bitCount_95d88_52 : decode cJ13_bitCount_95d88 52 = .ok (.lushr, 1) := by decide +kernel
theorem dJ13_bitCount_95d88_53 : decode cJ13_bitCount_95d88 53 = .ok (.ladd, 1) := by decide +kernel
theorem dJ13_bitCount_95d88_54 : decode cJ13_bitCount_95d88 54 = .ok (.lstore_n 0, 1) := by decide +kernel
theorem dJ13_bitCount_95d88_55 : decode cJ13_bitCount_95d88 55 = .ok (.lload_n 0, 1) := by decide +kernel
theorem dJ13_bitCount_95d88_56 : decode cJ13_bitCount_95d88 56 = .ok (.l2i, 1) := by decide +kernel
theorem dJ13_bitCount_95d88_57 : decode cJ13_bitCount_95d88 57 = .ok (.bipush 127, 2) := by decide +kernel
theorem dJ13_bitCount_95d88_59 : decode cJ13_bitCount_95d88 59 = .ok (.iand, 1) := by decide +kernel
theorem dJ13_bitCount_95d88_60 : decode cJ13_bitCount_95d88 60 = .ok (.ireturn, 1) := by decide +kernel
theorem dJ9_abs_0f7a4_0 : decode cJ9_abs_0f7a4 0 = .ok (.iload_n 0, 1) := by decide +kernel
theorem dJ9_abs_0f7a4_1 : decode cJ9_abs_0f7a4 1 = .ok (.ifCond .ge 8, 3) := by decide +kernel
theorem dJ9_abs_0f7a4_4 : decode cJ9_abs_0f7a4 4 = .ok (.iload_n 0, 1) := by decide +kernel
theorem dJ9_abs_0f7a4_5 : decode cJ9_abs_0f7a4 5 = .ok (.ineg, 1) := by decide +kernel
theorem dJ9_abs_0f7a4_6 : decode cJ9_abs_0f7a4 6 = .ok (.goto 4, 3) := by decide +kernel
theorem dJ9_abs_0f7a4_9 : decode cJ9_abs_0f7a4 9 = .ok (.iload_n 0, 1) := by decide +kernel
theorem dJ9_abs_0f7a4_10 : decode cJ9_abs_0f7a4 10 = .ok (.ireturn, 1) := by decide +kernel
theorem dJ9_max_7cf53_0 : decode cJ9_max_7cf53 0 = .ok (.iload_n 0, 1) := by decide +kernel
theorem dJ9_max_7cf53_1 : decode cJ9_max_7cf53 1 = .ok (.iload_n 1, 1) := by decide +kernel
theorem dJ9_max_7cf53_2 : decode cJ9_max_7cf53 2 = .ok (.if_icmp .lt 7, 3) := by decide +kernel
theorem dJ9_max_7cf53_5 : decode cJ9_max_7cf53 5 = .ok (.iload_n 0, 1) := by decide +kernel
theorem dJ9_max_7cf53_6 : decode cJ9_max_7cf53 6 = .ok (.goto 4, 3) := by decide +kernel
theorem dJ9_max_7cf53_9 : decode cJ9_max_7cf53 9 = .ok (.iload_n 1, 1) := by decide +kernel
theorem dJ9_max_7cf53_10 : decode cJ9_max_7cf53 10 = .ok (.ireturn, 1) := by decide +kernel
theorem dJ9_min_7cf53_0 : decode cJ9_min_7cf53 0 = .ok (.iload_n 0, 1) := by decide +kernel
theorem dJ9_min_7cf53_1 : decode cJ9_min_7cf53 1 = .ok (.iload_n 1, 1) := by decide +kernel
theorem dJ9_min_7cf53_2 : decode cJ9_min_7cf53 2 = .ok (.if_icmp .gt 7, 3) := by decide +kernel
theorem dJ9_min_7cf53_5 : decode cJ9_min_7cf53 5 = .ok (.iload_n 0, 1) := by decide +kernel
theorem dJ9_min_7cf53_6 : decode cJ9_min_7cf53 6 = .ok (.goto 4, 3) := by decide +kernel
theorem dJ9_min_7cf53_9 : decode cJ9_min_7cf53 9 = .ok (.iload_n 1, 1) := by decide +kernel
theorem dJ9_min_7cf53_10 : decode cJ9_min_7cf53 10 = .ok (.ireturn, 1) := by decide +kernel
theorem dJ7_fill_53178_0 : decode cJ7_fill_53178 0 = .ok (.iconst 0, 1) := by decide +kernel
theorem dJ7_fill_53178_1 : decode cJ7_fill_53178 1 = .ok (.istore_n 2, 1) := by decide +kernel
theorem dJ7_fill_53178_2 : decode cJ7_fill_53178 2 = .ok (.aload_n 0, 1) := by decide +kernel
theorem dJ7_fill_53178_3 : decode cJ7_fill_53178 3 = .ok (.arraylength, 1) := by decide +kernel
theorem dJ7_fill_53178_4 : decode cJ7_fill_53178 4 = .ok (.istore_n 3, 1) := by decide +kernel
theorem dJ7_fill_53178_5 : decode cJ7_fill_53178 5 = .ok (.iload_n 2, 1) := by decide +kernel
theorem dJ7_fill_53178_6 : decode cJ7_fill_53178 6 = .ok (.iload_n 3, 1) := by decide +kernel
theorem dJ7_fill_53178_7 : decode cJ7_fill_53178 7 = .ok (.if_icmp .ge 13, 3) := by decide +kernel
theorem dJ7_fill_53178_10 : decode cJ7_fill_53178 10 = .ok (.aload_n 0, 1) := by decide +kernel
theorem dJ7_fill_53178_11 : decode cJ7_fill_53178 11 = .ok (.iload_n 2, 1) := by decide +kernel
theorem dJ7_fill_53178_12 : decode cJ7_fill_53178 12 = .ok (.iload_n 1, 1) := by decide +kernel
theorem dJ7_fill_53178_13 : decode cJ7_fill_53178 13 = .ok (.iastore, 1) := by decide +kernel
theorem dJ7_fill_53178_14 : decode cJ7_fill_53178 14 = .ok (.iinc 2 1, 3) := by decide +kernel
theorem dJ7_fill_53178_17 : decode cJ7_fill_53178 17 = .ok (.goto (-12), 3) := by decide +kernel
theorem dJ7_fill_53178_20 : decode cJ7_fill_53178 20 = .ok (.return_, 1) := by decide +kernel
theorem dL_law_0 : decode cL_law 0 = .ok (.new 7, 3) := by decide +kernel
theorem dL_law_3 : decode cL_law 3 = .ok (.dup, 1) := by decide +kernel
theorem dL_law_4 : decode cL_law 4 = .ok (.invokespecial 9, 3) := by decide +kernel
theorem dL_law_7 : decode cL_law 7 = .ok (.astore_n 1, 1) := by decide +kernel
theorem dL_law_8 : decode cL_law 8 = .ok (.new 10, 3) := by decide +kernel
theorem dL_law_11 : decode cL_law 11 = .ok (.dup, 1) := by decide +kernel
theorem dL_law_12 : decode cL_law 12 = .ok (.invokespecial 12, 3) := by decide +kernel
theorem dL_law_15 : decode cL_law 15 = .ok (.astore_n 2, 1) := by decide +kernel
theorem dL_law_16 : decode cL_law 16 = .ok (.iconst 0, 1) := by decide +kernel
theorem dL_law_17 : decode cL_law 17 = .ok (.istore_n 3, 1) := by decide +kernel
theorem dL_law_18 : decode cL_law 18 = .ok (.iload_n 3, 1) := by decide +kernel
theorem dL_law_19 : decode cL_law 19 = .ok (.aload_n 0, 1) := by decide +kernel
theorem dL_law_20 : decode cL_law 20 = .ok (.arraylength, 1) := by decide +kernel
theorem dL_law_21 : decode cL_law 21 = .ok (.bipush 7, 2) := by decide +kernel
theorem dL_law_23 : decode cL_law 23 = .ok (.isub, 1) := by decide +kernel
theorem dL_law_24 : decode cL_law 24 = .ok (.if_icmp .gt 967, 3) := by decide +kernel
theorem dL_law_27 : decode cL_law 27 = .ok (.aload_n 0, 1) := by decide +kernel
theorem dL_law_28 : decode cL_law 28 = .ok (.iload_n 3, 1) := by decide +kernel
theorem dL_law_29 : decode cL_law 29 = .ok (.iaload, 1) := by decide +kernel
theorem dL_law_30 : decode cL_law 30 = .ok (.bipush 31, 2) := by decide +kernel
theorem dL_law_32 : decode cL_law 32 = .ok (.iand, 1) := by decide +kernel
theorem dL_law_33 : decode cL_law 33 = .ok (.tableswitch 952 0 26 #[123, 176, 219, 232, 307, 330, 373, 406, 419, 442, 475, 498, 521, 534, 557, 580, 619, 652, 685, 728, 761, 794, 807, 830, 853, 896, 929], 123) := by decide +kernel
theorem dL_law_156 : decode cL_law 156 = .ok (.aload_n 1, 1) := by decide +kernel
theorem dL_law_157 : decode cL_law 157 = .ok (.aload_n 0, 1) := by decide +kernel
theorem dL_law_158 : decode cL_law 158 = .ok (.iload_n 3, 1) := by decide +kernel
theorem dL_law_159 : decode cL_law 159 = .ok (.iconst 1, 1) := by decide +kernel
theorem dL_law_160 : decode cL_law 160 = .ok (.iadd, 1) := by decide +kernel
theorem dL_law_161 : decode cL_law 161 = .ok (.iaload, 1) := by decide +kernel
theorem dL_law_162 : decode cL_law 162 = .ok (.aload_n 0, 1) := by decide +kernel
theorem dL_law_163 : decode cL_law 163 = .ok (.iload_n 3, 1) := by decide +kernel
theorem dL_law_164 : decode cL_law 164 = .ok (.iconst 2, 1) := by decide +kernel
theorem dL_law_165 : decode cL_law 165 = .ok (.iadd, 1) := by decide +kernel
theorem dL_law_166 : decode cL_law 166 = .ok (.iaload, 1) := by decide +kernel
theorem dL_law_167 : decode cL_law 167 = .ok (.aload_n 0, 1) := by decide +kernel
theorem dL_law_168 : decode cL_law 168 = .ok (.iload_n 3, 1) := by decide +kernel
theorem dL_law_169 : decode cL_law 169 = .ok (.iconst 3, 1) := by decide +kernel
theorem dL_law_170 : decode cL_law 170 = .ok (.iadd, 1) := by decide +kernel
theorem dL_law_171 : decode cL_law 171 = .ok (.iaload, 1) := by decide +kernel
theorem dL_law_172 : decode cL_law 172 = .ok (.aload_n 0, 1) := by decide +kernel
theorem dL_law_173 : decode cL_law 173 = .ok (.iload_n 3, 1) := by decide +kernel
theorem dL_law_174 : decode cL_law 174 = .ok (.iconst 4, 1) := by decide +kernel
theorem dL_law_175 : decode cL_law 175 = .ok (.iadd, 1) := by decide +kernel
theorem dL_law_176 : decode cL_law 176 = .ok (.iaload, 1) := by decide +kernel
theorem dL_law_177 : decode cL_law 177 = .ok (.invokevirtual 13, 3) := by decide +kernel
theorem dL_law_180 : decode cL_law 180 = .ok (.aload_n 2, 1) := by decide +kernel
theorem dL_law_181 : decode cL_law 181 = .ok (.aload_n 0, 1) := by decide +kernel
theorem dL_law_182 : decode cL_law 182 = .ok (.iload_n 3, 1) := by decide +kernel
theorem dL_law_183 : decode cL_law 183 = .ok (.iconst 1, 1) := by decide +kernel
theorem dL_law_184 : decode cL_law 184 = .ok (.iadd, 1) := by decide +kernel
theorem dL_law_185 : decode cL_law 185 = .ok (.iaload, 1) := by decide +kernel
theorem dL_law_186 : decode cL_law 186 = .ok (.aload_n 0, 1) := by decide +kernel
theorem dL_law_187 : decode cL_law 187 = .ok (.iload_n 3, 1) := by decide +kernel
theorem dL_law_188 : decode cL_law 188 = .ok (.iconst 2, 1) := by decide +kernel
theorem dL_law_189 : decode cL_law 189 = .ok (.iadd, 1) := by decide +kernel
theorem dL_law_190 : decode cL_law 190 = .ok (.iaload, 1) := by decide +kernel
theorem dL_law_191 : decode cL_law 191 = .ok (.aload_n 0, 1) := by decide +kernel
theorem dL_law_192 : decode cL_law 192 = .ok (.iload_n 3, 1) := by decide +kernel
theorem dL_law_193 : decode cL_law 193 = .ok (.iconst 3, 1) := by decide +kernel
theorem dL_law_194 : decode cL_law 194 = .ok (.iadd, 1) := by decide +kernel
theorem dL_law_195 : decode cL_law 195 = .ok (.iaload, 1) := by decide +kernel
theorem dL_law_196 : decode cL_law 196 = .ok (.aload_n 0, 1) := by decide +kernel
theorem dL_law_197 : decode cL_law 197 = .ok (.iload_n 3, 1) := by decide +kernel
theorem dL_law_198 : decode cL_law 198 = .ok (.iconst 4, 1) := by decide +kernel
theorem dL_law_199 : decode cL_law 199 = .ok (.iadd, 1) := by decide +kernel
theorem dL_law_200 : decode cL_law 200 = .ok (.iaload, 1) := by decide +kernel
theorem dL_law_201 : decode cL_law 201 = .ok (.invokevirtual 17, 3) := by decide +kernel
theorem dL_law_204 : decode cL_law 204 = .ok (.if_icmp .eq 781, 3) := by decide +kernel
theorem dL_law_207 : decode cL_law 207 = .ok (.iconst 0, 1) := by decide +kernel
theorem dL_law_208 : decode cL_law 208 = .ok (.ireturn, 1) := by decide +kernel
theorem dL_law_209 : decode cL_law 209 = .ok (.aload_n 1, 1) := by decide +kernel
theorem dL_law_210 : decode cL_law 210 = .ok (.aload_n 0, 1) := by decide +kernel
theorem dL_law_211 : decode cL_law 211 = .ok (.iload_n 3, 1) := by decide +kernel
theorem dL_law_212 : decode cL_law 212 = .ok (.iconst 1, 1) := by decide +kernel
theorem dL_law_213 : decode cL_law 213 = .ok (.iadd, 1) := by decide +kernel
theorem dL_law_214 : decode cL_law 214 = .ok (.iaload, 1) := by decide +kernel
theorem dL_law_215 : decode cL_law 215 = .ok (.aload_n 0, 1) := by decide +kernel
theorem dL_law_216 : decode cL_law 216 = .ok (.iload_n 3, 1) := by decide +kernel
theorem dL_law_217 : decode cL_law 217 = .ok (.iconst 2, 1) := by decide +kernel
theorem dL_law_218 : decode cL_law 218 = .ok (.iadd, 1) := by decide +kernel
theorem dL_law_219 : decode cL_law 219 = .ok (.iaload, 1) := by decide +kernel
theorem dL_law_220 : decode cL_law 220 = .ok (.aload_n 0, 1) := by decide +kernel
theorem dL_law_221 : decode cL_law 221 = .ok (.iload_n 3, 1) := by decide +kernel
theorem dL_law_222 : decode cL_law 222 = .ok (.iconst 3, 1) := by decide +kernel
theorem dL_law_223 : decode cL_law 223 = .ok (.iadd, 1) := by decide +kernel
theorem dL_law_224 : decode cL_law 224 = .ok (.iaload, 1) := by decide +kernel
theorem dL_law_225 : decode cL_law 225 = .ok (.invokevirtual 18, 3) := by decide +kernel
theorem dL_law_228 : decode cL_law 228 = .ok (.aload_n 2, 1) := by decide +kernel
theorem dL_law_229 : decode cL_law 229 = .ok (.aload_n 0, 1) := by decide +kernel
theorem dL_law_230 : decode cL_law 230 = .ok (.iload_n 3, 1) := by decide +kernel
theorem dL_law_231 : decode cL_law 231 = .ok (.iconst 1, 1) := by decide +kernel
theorem dL_law_232 : decode cL_law 232 = .ok (.iadd, 1) := by decide +kernel
theorem dL_law_233 : decode cL_law 233 = .ok (.iaload, 1) := by decide +kernel
theorem dL_law_234 : decode cL_law 234 = .ok (.aload_n 0, 1) := by decide +kernel
theorem dL_law_235 : decode cL_law 235 = .ok (.iload_n 3, 1) := by decide +kernel
theorem dL_law_236 : decode cL_law 236 = .ok (.iconst 2, 1) := by decide +kernel
theorem dL_law_237 : decode cL_law 237 = .ok (.iadd, 1) := by decide +kernel
theorem dL_law_238 : decode cL_law 238 = .ok (.iaload, 1) := by decide +kernel
theorem dL_law_239 : decode cL_law 239 = .ok (.aload_n 0, 1) := by decide +kernel
theorem dL_law_240 : decode cL_law 240 = .ok (.iload_n 3, 1) := by decide +kernel
theorem dL_law_241 : decode cL_law 241 = .ok (.iconst 3, 1) := by decide +kernel
theorem dL_law_242 : decode cL_law 242 = .ok (.iadd, 1) := by decide +kernel
theorem dL_law_243 : decode cL_law 243 = .ok (.iaload, 1) := by decide +kernel
theorem dL_law_244 : decode cL_law 244 = .ok (.invokevirtual 22, 3) := by decide +kernel
theorem dL_law_247 : decode cL_law 247 = .ok (.if_icmp .eq 738, 3) := by decide +kernel
theorem dL_law_250 : decode cL_law 250 = .ok (.iconst 0, 1) := by decide +kernel
theorem dL_law_251 : decode cL_law 251 = .ok (.ireturn, 1) := by decide +kernel
theorem dL_law_252 : decode cL_law 252 = .ok (.aload_n 1, 1) := by decide +kernel
theorem dL_law_253 : decode cL_law 253 = .ok (.invokevirtual 23, 3) := by decide +kernel
theorem dL_law_256 : decode cL_law 256 = .ok (.aload_n 2, 1) := by decide +kernel
theorem dL_law_257 : decode cL_law 257 = .ok (.invokevirtual 27, 3) := by decide +kernel
theorem dL_law_260 : decode cL_law 260 = .ok (.if_icmp .eq 725, 3) := by decide +kernel
theorem dL_law_263 : decode cL_law 263 = .ok (.iconst 0, 1) := by decide +kernel
theorem dL_law_264 : decode cL_law 264 = .ok (.ireturn, 1) := by decide +kernel
theorem dL_law_265 : decode cL_law 265 = .ok (.aload_n 1, 1) := by decide +kernel
theorem dL_law_266 : decode cL_law 266 = .ok (.aload_n 0, 1) := by decide +kernel
theorem dL_law_267 : decode cL_law 267 = .ok (.iload_n 3, 1) := by decide +kernel
theorem dL_law_268 : decode cL_law 268 = .ok (.iconst 1, 1) := by decide +kernel
theorem dL_law_269 : decode cL_law 269 = .ok (.iadd, 1) := by decide +kernel
theorem dL_law_270 : decode cL_law 270 = .ok (.iaload, 1) := by decide +kernel
theorem dL_law_271 : decode cL_law 271 = .ok (.aload_n 0, 1) := by decide +kernel
theorem dL_law_272 : decode cL_law 272 = .ok (.iload_n 3, 1) := by decide +kernel
theorem dL_law_273 : decode cL_law 273 = .ok (.iconst 2, 1) := by decide +kernel
theorem dL_law_274 : decode cL_law 274 = .ok (.iadd, 1) := by decide +kernel
theorem dL_law_275 : decode cL_law 275 = .ok (.iaload, 1) := by decide +kernel
theorem dL_law_276 : decode cL_law 276 = .ok (.aload_n 0, 1) := by decide +kernel
theorem dL_law_277 : decode cL_law 277 = .ok (.iload_n 3, 1) := by decide +kernel
theorem dL_law_278 : decode cL_law 278 = .ok (.iconst 3, 1) := by decide +kernel
theorem dL_law_279 : decode cL_law 279 = .ok (.iadd, 1) := by decide +kernel
theorem dL_law_280 : decode cL_law 280 = .ok (.iaload, 1) := by decide +kernel
theorem dL_law_281 : decode cL_law 281 = .ok (.aload_n 0, 1) := by decide +kernel
theorem dL_law_282 : decode cL_law 282 = .ok (.iload_n 3, 1) := by decide +kernel
theorem dL_law_283 : decode cL_law 283 = .ok (.iconst 4, 1) := by decide +kernel
theorem dL_law_284 : decode cL_law 284 = .ok (.iadd, 1) := by decide +kernel
theorem dL_law_285 : decode cL_law 285 = .ok (.iaload, 1) := by decide +kernel
theorem dL_law_286 : decode cL_law 286 = .ok (.aload_n 0, 1) := by decide +kernel
theorem dL_law_287 : decode cL_law 287 = .ok (.iload_n 3, 1) := by decide +kernel
theorem dL_law_288 : decode cL_law 288 = .ok (.iconst 5, 1) := by decide +kernel
theorem dL_law_289 : decode cL_law 289 = .ok (.iadd, 1) := by decide +kernel
theorem dL_law_290 : decode cL_law 290 = .ok (.iaload, 1) := by decide +kernel
theorem dL_law_291 : decode cL_law 291 = .ok (.aload_n 0, 1) := by decide +kernel
theorem dL_law_292 : decode cL_law 292 = .ok (.iload_n 3, 1) := by decide +kernel
theorem dL_law_293 : decode cL_law 293 = .ok (.bipush 6, 2) := by decide +kernel
theorem dL_law_295 : decode cL_law 295 = .ok (.iadd, 1) := by decide +kernel
theorem dL_law_296 : decode cL_law 296 = .ok (.iaload, 1) := by decide +kernel
theorem dL_law_297 : decode cL_law 297 = .ok (.invokevirtual 28, 3) := by decide +kernel
theorem dL_law_300 : decode cL_law 300 = .ok (.aload_n 2, 1) := by decide +kernel
theorem dL_law_301 : decode cL_law 301 = .ok (.aload_n 0, 1) := by decide +kernel
theorem dL_law_302 : decode cL_law 302 = .ok (.iload_n 3, 1) := by decide +kernel
theorem dL_law_303 : decode cL_law 303 = .ok (.iconst 1, 1) := by decide +kernel
theorem dL_law_304 : decode cL_law 304 = .ok (.iadd, 1) := by decide +kernel
theorem dL_law_305 : decode cL_law 305 = .ok (.iaload, 1) := by decide +kernel
theorem dL_law_306 : decode cL_law 306 = .ok (.aload_n 0, 1) := by decide +kernel
theorem dL_law_307 : decode cL_law 307 = .ok (.iload_n 3, 1) := by decide +kernel
theorem dL_law_308 : decode cL_law 308 = .ok (.iconst 2, 1) := by decide +kernel
theorem dL_law_309 : decode cL_law 309 = .ok (.iadd, 1) := by decide +kernel
theorem dL_law_310 : decode cL_law 310 = .ok (.iaload, 1) := by decide +kernel
theorem dL_law_311 : decode cL_law 311 = .ok (.aload_n 0, 1) := by decide +kernel
theorem dL_law_312 : decode cL_law 312 = .ok (.iload_n 3, 1) := by decide +kernel
theorem dL_law_313 : decode cL_law 313 = .ok (.iconst 3, 1) := by decide +kernel
theorem dL_law_314 : decode cL_law 314 = .ok (.iadd, 1) := by decide +kernel
theorem dL_law_315 : decode cL_law 315 = .ok (.iaload, 1) := by decide +kernel
theorem dL_law_316 : decode cL_law 316 = .ok (.aload_n 0, 1) := by decide +kernel
theorem dL_law_317 : decode cL_law 317 = .ok (.iload_n 3, 1) := by decide +kernel
theorem dL_law_318 : decode cL_law 318 = .ok (.iconst 4, 1) := by decide +kernel
theorem dL_law_319 : decode cL_law 319 = .ok (.iadd, 1) := by decide +kernel
theorem dL_law_320 : decode cL_law 320 = .ok (.iaload, 1) := by decide +kernel
theorem dL_law_321 : decode cL_law 321 = .ok (.aload_n 0, 1) := by decide +kernel
theorem dL_law_322 : decode cL_law 322 = .ok (.iload_n 3, 1) := by decide +kernel
theorem dL_law_323 : decode cL_law 323 = .ok (.iconst 5, 1) := by decide +kernel
theorem dL_law_324 : decode cL_law 324 = .ok (.iadd, 1) := by decide +kernel
theorem dL_law_325 : decode cL_law 325 = .ok (.iaload, 1) := by decide +kernel
theorem dL_law_326 : decode cL_law 326 = .ok (.aload_n 0, 1) := by decide +kernel
theorem dL_law_327 : decode cL_law 327 = .ok (.iload_n 3, 1) := by decide +kernel
theorem dL_law_328 : decode cL_law 328 = .ok (.bipush 6, 2) := by decide +kernel
theorem dL_law_330 : decode cL_law 330 = .ok (.iadd, 1) := by decide +kernel
theorem dL_law_331 : decode cL_law 331 = .ok (.iaload, 1) := by decide +kernel
theorem dL_law_332 : decode cL_law 332 = .ok (.invokevirtual 32, 3) := by decide +kernel
theorem dL_law_335 : decode cL_law 335 = .ok (.if_icmp .eq 650, 3) := by decide +kernel
theorem dL_law_338 : decode cL_law 338 = .ok (.iconst 0, 1) := by decide +kernel
theorem dL_law_339 : decode cL_law 339 = .ok (.ireturn, 1) := by decide +kernel
theorem dL_law_340 : decode cL_law 340 = .ok (.aload_n 1, 1) := by decide +kernel
theorem dL_law_341 : decode cL_law 341 = .ok (.aload_n 0, 1) := by decide +kernel
theorem dL_law_342 : decode cL_law 342 = .ok (.iload_n 3, 1) := by decide +kernel
theorem dL_law_343 : decode cL_law 343 = .ok (.iconst 1, 1) := by decide +kernel
theorem dL_law_344 : decode cL_law 344 = .ok (.iadd, 1) := by decide +kernel
theorem dL_law_345 : decode cL_law 345 = .ok (.iaload, 1) := by decide +kernel
theorem dL_law_346 : decode cL_law 346 = .ok (.invokevirtual 33, 3) := by decide +kernel
theorem dL_law_349 : decode cL_law 349 = .ok (.aload_n 2, 1) := by decide +kernel
theorem dL_law_350 : decode cL_law 350 = .ok (.aload_n 0, 1) := by decide +kernel
theorem dL_law_351 : decode cL_law 351 = .ok (.iload_n 3, 1) := by decide +kernel
theorem dL_law_352 : decode cL_law 352 = .ok (.iconst 1, 1) := by decide +kernel
theorem dL_law_353 : decode cL_law 353 = .ok (.iadd, 1) := by decide +kernel
theorem dL_law_354 : decode cL_law 354 = .ok (.iaload, 1) := by decide +kernel
theorem dL_law_355 : decode cL_law 355 = .ok (.invokevirtual 37, 3) := by decide +kernel
theorem dL_law_358 : decode cL_law 358 = .ok (.if_icmp .eq 627, 3) := by decide +kernel
theorem dL_law_361 : decode cL_law 361 = .ok (.iconst 0, 1) := by decide +kernel
theorem dL_law_362 : decode cL_law 362 = .ok (.ireturn, 1) := by decide +kernel
theorem dL_law_363 : decode cL_law 363 = .ok (.aload_n 1, 1) := by decide +kernel
theorem dL_law_364 : decode cL_law 364 = .ok (.aload_n 0, 1) := by decide +kernel
theorem dL_law_365 : decode cL_law 365 = .ok (.iload_n 3, 1) := by decide +kernel
theorem dL_law_366 : decode cL_law 366 = .ok (.iconst 1, 1) := by decide +kernel
theorem dL_law_367 : decode cL_law 367 = .ok (.iadd, 1) := by decide +kernel
theorem dL_law_368 : decode cL_law 368 = .ok (.iaload, 1) := by decide +kernel
theorem dL_law_369 : decode cL_law 369 = .ok (.aload_n 0, 1) := by decide +kernel
theorem dL_law_370 : decode cL_law 370 = .ok (.iload_n 3, 1) := by decide +kernel
theorem dL_law_371 : decode cL_law 371 = .ok (.iconst 2, 1) := by decide +kernel
theorem dL_law_372 : decode cL_law 372 = .ok (.iadd, 1) := by decide +kernel
theorem dL_law_373 : decode cL_law 373 = .ok (.iaload, 1) := by decide +kernel
theorem dL_law_374 : decode cL_law 374 = .ok (.aload_n 0, 1) := by decide +kernel
theorem dL_law_375 : decode cL_law 375 = .ok (.iload_n 3, 1) := by decide +kernel
theorem dL_law_376 : decode cL_law 376 = .ok (.iconst 3, 1) := by decide +kernel
theorem dL_law_377 : decode cL_law 377 = .ok (.iadd, 1) := by decide +kernel
theorem dL_law_378 : decode cL_law 378 = .ok (.iaload, 1) := by decide +kernel
theorem dL_law_379 : decode cL_law 379 = .ok (.invokevirtual 38, 3) := by decide +kernel
theorem dL_law_382 : decode cL_law 382 = .ok (.aload_n 2, 1) := by decide +kernel
theorem dL_law_383 : decode cL_law 383 = .ok (.aload_n 0, 1) := by decide +kernel
theorem dL_law_384 : decode cL_law 384 = .ok (.iload_n 3, 1) := by decide +kernel
theorem dL_law_385 : decode cL_law 385 = .ok (.iconst 1, 1) := by decide +kernel
theorem dL_law_386 : decode cL_law 386 = .ok (.iadd, 1) := by decide +kernel
theorem dL_law_387 : decode cL_law 387 = .ok (.iaload, 1) := by decide +kernel
theorem dL_law_388 : decode cL_law 388 = .ok (.aload_n 0, 1) := by decide +kernel
theorem dL_law_389 : decode cL_law 389 = .ok (.iload_n 3, 1) := by decide +kernel
theorem dL_law_390 : decode cL_law 390 = .ok (.iconst 2, 1) := by decide +kernel
theorem dL_law_391 : decode cL_law 391 = .ok (.iadd, 1) := by decide +kernel
theorem dL_law_392 : decode cL_law 392 = .ok (.iaload, 1) := by decide +kernel
theorem dL_law_393 : decode cL_law 393 = .ok (.aload_n 0, 1) := by decide +kernel
theorem dL_law_394 : decode cL_law 394 = .ok (.iload_n 3, 1) := by decide +kernel
theorem dL_law_395 : decode cL_law 395 = .ok (.iconst 3, 1) := by decide +kernel
theorem dL_law_396 : decode cL_law 396 = .ok (.iadd, 1) := by decide +kernel
theorem dL_law_397 : decode cL_law 397 = .ok (.iaload, 1) := by decide +kernel
theorem dL_law_398 : decode cL_law 398 = .ok (.invokevirtual 41, 3) := by decide +kernel
theorem dL_law_401 : decode cL_law 401 = .ok (.if_icmp .eq 584, 3) := by decide +kernel
theorem dL_law_404 : decode cL_law 404 = .ok (.iconst 0, 1) := by decide +kernel
theorem dL_law_405 : decode cL_law 405 = .ok (.ireturn, 1) := by decide +kernel
theorem dL_law_406 : decode cL_law 406 = .ok (.aload_n 1, 1) := by decide +kernel
theorem dL_law_407 : decode cL_law 407 = .ok (.aload_n 0, 1) := by decide +kernel
theorem dL_law_408 : decode cL_law 408 = .ok (.iload_n 3, 1) := by decide +kernel
theorem dL_law_409 : decode cL_law 409 = .ok (.iconst 1, 1) := by decide +kernel
theorem dL_law_410 : decode cL_law 410 = .ok (.iadd, 1) := by decide +kernel
theorem dL_law_411 : decode cL_law 411 = .ok (.iaload, 1) := by decide +kernel
theorem dL_law_412 : decode cL_law 412 = .ok (.aload_n 0, 1) := by decide +kernel
theorem dL_law_413 : decode cL_law 413 = .ok (.iload_n 3, 1) := by decide +kernel
theorem dL_law_414 : decode cL_law 414 = .ok (.iconst 2, 1) := by decide +kernel
theorem dL_law_415 : decode cL_law 415 = .ok (.iadd, 1) := by decide +kernel
theorem dL_law_416 : decode cL_law 416 = .ok (.iaload, 1) := by decide +kernel
theorem dL_law_417 : decode cL_law 417 = .ok (.invokevirtual 42, 3) := by decide +kernel
theorem dL_law_420 : decode cL_law 420 = .ok (.aload_n 2, 1) := by decide +kernel
theorem dL_law_421 : decode cL_law 421 = .ok (.aload_n 0, 1) := by decide +kernel
theorem dL_law_422 : decode cL_law 422 = .ok (.iload_n 3, 1) := by decide +kernel
theorem dL_law_423 : decode cL_law 423 = .ok (.iconst 1, 1) := by decide +kernel
theorem dL_law_424 : decode cL_law 424 = .ok (.iadd, 1) := by decide +kernel
theorem dL_law_425 : decode cL_law 425 = .ok (.iaload, 1) := by decide +kernel
theorem dL_law_426 : decode cL_law 426 = .ok (.aload_n 0, 1) := by decide +kernel
theorem dL_law_427 : decode cL_law 427 = .ok (.iload_n 3, 1) := by decide +kernel
theorem dL_law_428 : decode cL_law 428 = .ok (.iconst 2, 1) := by decide +kernel
theorem dL_law_429 : decode cL_law 429 = .ok (.iadd, 1) := by decide +kernel
theorem dL_law_430 : decode cL_law 430 = .ok (.iaload, 1) := by decide +kernel
theorem dL_law_431 : decode cL_law 431 = .ok (.invokevirtual 46, 3) := by decide +kernel
theorem dL_law_434 : decode cL_law 434 = .ok (.if_icmp .eq 551, 3) := by decide +kernel
theorem dL_law_437 : decode cL_law 437 = .ok (.iconst 0, 1) := by decide +kernel
theorem dL_law_438 : decode cL_law 438 = .ok (.ireturn, 1) := by decide +kernel
theorem dL_law_439 : decode cL_law 439 = .ok (.aload_n 1, 1) := by decide +kernel
theorem dL_law_440 : decode cL_law 440 = .ok (.invokevirtual 47, 3) := by decide +kernel
theorem dL_law_443 : decode cL_law 443 = .ok (.aload_n 2, 1) := by decide +kernel
theorem dL_law_444 : decode cL_law 444 = .ok (.invokevirtual 50, 3) := by decide +kernel
theorem dL_law_447 : decode cL_law 447 = .ok (.if_icmp .eq 538, 3) := by decide +kernel
theorem dL_law_450 : decode cL_law 450 = .ok (.iconst 0, 1) := by decide +kernel
theorem dL_law_451 : decode cL_law 451 = .ok (.ireturn, 1) := by decide +kernel
theorem dL_law_452 : decode cL_law 452 = .ok (.aload_n 1, 1) := by decide +kernel
theorem dL_law_453 : decode cL_law 453 = .ok (.aload_n 0, 1) := by decide +kernel
theorem dL_law_454 : decode cL_law 454 = .ok (.iload_n 3, 1) := by decide +kernel
theorem dL_law_455 : decode cL_law 455 = .ok (.iconst 1, 1) := by decide +kernel
theorem dL_law_456 : decode cL_law 456 = .ok (.iadd, 1) := by decide +kernel
theorem dL_law_457 : decode cL_law 457 = .ok (.iaload, 1) := by decide +kernel
theorem dL_law_458 : decode cL_law 458 = .ok (.invokevirtual 51, 3) := by decide +kernel
theorem dL_law_461 : decode cL_law 461 = .ok (.aload_n 2, 1) := by decide +kernel
theorem dL_law_462 : decode cL_law 462 = .ok (.aload_n 0, 1) := by decide +kernel
theorem dL_law_463 : decode cL_law 463 = .ok (.iload_n 3, 1) := by decide +kernel
theorem dL_law_464 : decode cL_law 464 = .ok (.iconst 1, 1) := by decide +kernel
theorem dL_law_465 : decode cL_law 465 = .ok (.iadd, 1) := by decide +kernel
theorem dL_law_466 : decode cL_law 466 = .ok (.iaload, 1) := by decide +kernel
theorem dL_law_467 : decode cL_law 467 = .ok (.invokevirtual 54, 3) := by decide +kernel
theorem dL_law_470 : decode cL_law 470 = .ok (.if_icmp .eq 515, 3) := by decide +kernel
theorem dL_law_473 : decode cL_law 473 = .ok (.iconst 0, 1) := by decide +kernel
theorem dL_law_474 : decode cL_law 474 = .ok (.ireturn, 1) := by decide +kernel
theorem dL_law_475 : decode cL_law 475 = .ok (.aload_n 1, 1) := by decide +kernel
theorem dL_law_476 : decode cL_law 476 = .ok (.aload_n 0, 1) := by decide +kernel
theorem dL_law_477 : decode cL_law 477 = .ok (.iload_n 3, 1) := by decide +kernel
theorem dL_law_478 : decode cL_law 478 = .ok (.iconst 1, 1) := by decide +kernel
theorem dL_law_479 : decode cL_law 479 = .ok (.iadd, 1) := by decide +kernel
theorem dL_law_480 : decode cL_law 480 = .ok (.iaload, 1) := by decide +kernel
theorem dL_law_481 : decode cL_law 481 = .ok (.aload_n 0, 1) := by decide +kernel
theorem dL_law_482 : decode cL_law 482 = .ok (.iload_n 3, 1) := by decide +kernel
theorem dL_law_483 : decode cL_law 483 = .ok (.iconst 2, 1) := by decide +kernel
theorem dL_law_484 : decode cL_law 484 = .ok (.iadd, 1) := by decide +kernel
theorem dL_law_485 : decode cL_law 485 = .ok (.iaload, 1) := by decide +kernel
theorem dL_law_486 : decode cL_law 486 = .ok (.invokevirtual 55, 3) := by decide +kernel
theorem dL_law_489 : decode cL_law 489 = .ok (.aload_n 2, 1) := by decide +kernel
theorem dL_law_490 : decode cL_law 490 = .ok (.aload_n 0, 1) := by decide +kernel
theorem dL_law_491 : decode cL_law 491 = .ok (.iload_n 3, 1) := by decide +kernel
theorem dL_law_492 : decode cL_law 492 = .ok (.iconst 1, 1) := by decide +kernel
theorem dL_law_493 : decode cL_law 493 = .ok (.iadd, 1) := by decide +kernel
theorem dL_law_494 : decode cL_law 494 = .ok (.iaload, 1) := by decide +kernel
theorem dL_law_495 : decode cL_law 495 = .ok (.aload_n 0, 1) := by decide +kernel
theorem dL_law_496 : decode cL_law 496 = .ok (.iload_n 3, 1) := by decide +kernel
theorem dL_law_497 : decode cL_law 497 = .ok (.iconst 2, 1) := by decide +kernel
theorem dL_law_498 : decode cL_law 498 = .ok (.iadd, 1) := by decide +kernel
theorem dL_law_499 : decode cL_law 499 = .ok (.iaload, 1) := by decide +kernel
theorem dL_law_500 : decode cL_law 500 = .ok (.invokevirtual 58, 3) := by decide +kernel
theorem dL_law_503 : decode cL_law 503 = .ok (.if_icmp .eq 482, 3) := by decide +kernel
theorem dL_law_506 : decode cL_law 506 = .ok (.iconst 0, 1) := by decide +kernel
theorem dL_law_507 : decode cL_law 507 = .ok (.ireturn, 1) := by decide +kernel
theorem dL_law_508 : decode cL_law 508 = .ok (.aload_n 1, 1) := by decide +kernel
theorem dL_law_509 : decode cL_law 509 = .ok (.aload_n 0, 1) := by decide +kernel
theorem dL_law_510 : decode cL_law 510 = .ok (.iload_n 3, 1) := by decide +kernel
theorem dL_law_511 : decode cL_law 511 = .ok (.iconst 1, 1) := by decide +kernel
theorem dL_law_512 : decode cL_law 512 = .ok (.iadd, 1) := by decide +kernel
theorem dL_law_513 : decode cL_law 513 = .ok (.iaload, 1) := by decide +kernel
theorem dL_law_514 : decode cL_law 514 = .ok (.invokevirtual 59, 3) := by decide +kernel
theorem dL_law_517 : decode cL_law 517 = .ok (.aload_n 2, 1) := by decide +kernel
theorem dL_law_518 : decode cL_law 518 = .ok (.aload_n 0, 1) := by decide +kernel
theorem dL_law_519 : decode cL_law 519 = .ok (.iload_n 3, 1) := by decide +kernel
theorem dL_law_520 : decode cL_law 520 = .ok (.iconst 1, 1) := by decide +kernel
theorem dL_law_521 : decode cL_law 521 = .ok (.iadd, 1) := by decide +kernel
theorem dL_law_522 : decode cL_law 522 = .ok (.iaload, 1) := by decide +kernel
theorem dL_law_523 : decode cL_law 523 = .ok (.invokevirtual 62, 3) := by decide +kernel
theorem dL_law_526 : decode cL_law 526 = .ok (.if_icmp .eq 459, 3) := by decide +kernel
theorem dL_law_529 : decode cL_law 529 = .ok (.iconst 0, 1) := by decide +kernel
theorem dL_law_530 : decode cL_law 530 = .ok (.ireturn, 1) := by decide +kernel
theorem dL_law_531 : decode cL_law 531 = .ok (.aload_n 1, 1) := by decide +kernel
theorem dL_law_532 : decode cL_law 532 = .ok (.aload_n 0, 1) := by decide +kernel
theorem dL_law_533 : decode cL_law 533 = .ok (.iload_n 3, 1) := by decide +kernel
theorem dL_law_534 : decode cL_law 534 = .ok (.iconst 1, 1) := by decide +kernel
theorem dL_law_535 : decode cL_law 535 = .ok (.iadd, 1) := by decide +kernel
theorem dL_law_536 : decode cL_law 536 = .ok (.iaload, 1) := by decide +kernel
theorem dL_law_537 : decode cL_law 537 = .ok (.invokevirtual 63, 3) := by decide +kernel
theorem dL_law_540 : decode cL_law 540 = .ok (.aload_n 2, 1) := by decide +kernel
theorem dL_law_541 : decode cL_law 541 = .ok (.aload_n 0, 1) := by decide +kernel
theorem dL_law_542 : decode cL_law 542 = .ok (.iload_n 3, 1) := by decide +kernel
theorem dL_law_543 : decode cL_law 543 = .ok (.iconst 1, 1) := by decide +kernel
theorem dL_law_544 : decode cL_law 544 = .ok (.iadd, 1) := by decide +kernel
theorem dL_law_545 : decode cL_law 545 = .ok (.iaload, 1) := by decide +kernel
theorem dL_law_546 : decode cL_law 546 = .ok (.invokevirtual 66, 3) := by decide +kernel
theorem dL_law_549 : decode cL_law 549 = .ok (.if_icmp .eq 436, 3) := by decide +kernel
theorem dL_law_552 : decode cL_law 552 = .ok (.iconst 0, 1) := by decide +kernel
theorem dL_law_553 : decode cL_law 553 = .ok (.ireturn, 1) := by decide +kernel
theorem dL_law_554 : decode cL_law 554 = .ok (.aload_n 1, 1) := by decide +kernel
theorem dL_law_555 : decode cL_law 555 = .ok (.invokevirtual 67, 3) := by decide +kernel
theorem dL_law_558 : decode cL_law 558 = .ok (.aload_n 2, 1) := by decide +kernel
theorem dL_law_559 : decode cL_law 559 = .ok (.invokevirtual 70, 3) := by decide +kernel
theorem dL_law_562 : decode cL_law 562 = .ok (.if_icmp .eq 423, 3) := by decide +kernel
theorem dL_law_565 : decode cL_law 565 = .ok (.iconst 0, 1) := by decide +kernel
theorem dL_law_566 : decode cL_law 566 = .ok (.ireturn, 1) := by decide +kernel
theorem dL_law_567 : decode cL_law 567 = .ok (.aload_n 1, 1) := by decide +kernel
theorem dL_law_568 : decode cL_law 568 = .ok (.aload_n 0, 1) := by decide +kernel
theorem dL_law_569 : decode cL_law 569 = .ok (.iload_n 3, 1) := by decide +kernel
theorem dL_law_570 : decode cL_law 570 = .ok (.iconst 1, 1) := by decide +kernel
theorem dL_law_571 : decode cL_law 571 = .ok (.iadd, 1) := by decide +kernel
theorem dL_law_572 : decode cL_law 572 = .ok (.iaload, 1) := by decide +kernel
theorem dL_law_573 : decode cL_law 573 = .ok (.invokevirtual 71, 3) := by decide +kernel
theorem dL_law_576 : decode cL_law 576 = .ok (.aload_n 2, 1) := by decide +kernel
theorem dL_law_577 : decode cL_law 577 = .ok (.aload_n 0, 1) := by decide +kernel
theorem dL_law_578 : decode cL_law 578 = .ok (.iload_n 3, 1) := by decide +kernel
theorem dL_law_579 : decode cL_law 579 = .ok (.iconst 1, 1) := by decide +kernel
theorem dL_law_580 : decode cL_law 580 = .ok (.iadd, 1) := by decide +kernel
theorem dL_law_581 : decode cL_law 581 = .ok (.iaload, 1) := by decide +kernel
theorem dL_law_582 : decode cL_law 582 = .ok (.invokevirtual 74, 3) := by decide +kernel
theorem dL_law_585 : decode cL_law 585 = .ok (.if_icmp .eq 400, 3) := by decide +kernel
theorem dL_law_588 : decode cL_law 588 = .ok (.iconst 0, 1) := by decide +kernel
theorem dL_law_589 : decode cL_law 589 = .ok (.ireturn, 1) := by decide +kernel
theorem dL_law_590 : decode cL_law 590 = .ok (.aload_n 1, 1) := by decide +kernel
theorem dL_law_591 : decode cL_law 591 = .ok (.aload_n 0, 1) := by decide +kernel
theorem dL_law_592 : decode cL_law 592 = .ok (.iload_n 3, 1) := by decide +kernel
theorem dL_law_593 : decode cL_law 593 = .ok (.iconst 1, 1) := by decide +kernel
theorem dL_law_594 : decode cL_law 594 = .ok (.iadd, 1) := by decide +kernel
theorem dL_law_595 : decode cL_law 595 = .ok (.iaload, 1) := by decide +kernel
theorem dL_law_596 : decode cL_law 596 = .ok (.invokevirtual 75, 3) := by decide +kernel
theorem dL_law_599 : decode cL_law 599 = .ok (.aload_n 2, 1) := by decide +kernel
theorem dL_law_600 : decode cL_law 600 = .ok (.aload_n 0, 1) := by decide +kernel
theorem dL_law_601 : decode cL_law 601 = .ok (.iload_n 3, 1) := by decide +kernel
theorem dL_law_602 : decode cL_law 602 = .ok (.iconst 1, 1) := by decide +kernel
theorem dL_law_603 : decode cL_law 603 = .ok (.iadd, 1) := by decide +kernel
theorem dL_law_604 : decode cL_law 604 = .ok (.iaload, 1) := by decide +kernel
theorem dL_law_605 : decode cL_law 605 = .ok (.invokevirtual 78, 3) := by decide +kernel
theorem dL_law_608 : decode cL_law 608 = .ok (.if_icmp .eq 377, 3) := by decide +kernel
theorem dL_law_611 : decode cL_law 611 = .ok (.iconst 0, 1) := by decide +kernel
theorem dL_law_612 : decode cL_law 612 = .ok (.ireturn, 1) := by decide +kernel
theorem dL_law_613 : decode cL_law 613 = .ok (.aload_n 1, 1) := by decide +kernel
theorem dL_law_614 : decode cL_law 614 = .ok (.aload_n 0, 1) := by decide +kernel
theorem dL_law_615 : decode cL_law 615 = .ok (.iload_n 3, 1) := by decide +kernel
theorem dL_law_616 : decode cL_law 616 = .ok (.iconst 1, 1) := by decide +kernel
theorem dL_law_617 : decode cL_law 617 = .ok (.iadd, 1) := by decide +kernel
theorem dL_law_618 : decode cL_law 618 = .ok (.iaload, 1) := by decide +kernel
theorem dL_law_619 : decode cL_law 619 = .ok (.ifCond .eq 7, 3) := by decide +kernel
theorem dL_law_622 : decode cL_law 622 = .ok (.iconst 1, 1) := by decide +kernel
theorem dL_law_623 : decode cL_law 623 = .ok (.goto 4, 3) := by decide +kernel
theorem dL_law_626 : decode cL_law 626 = .ok (.iconst 0, 1) := by decide +kernel
theorem dL_law_627 : decode cL_law 627 = .ok (.invokevirtual 79, 3) := by decide +kernel
theorem dL_law_630 : decode cL_law 630 = .ok (.aload_n 2, 1) := by decide +kernel
theorem dL_law_631 : decode cL_law 631 = .ok (.aload_n 0, 1) := by decide +kernel
theorem dL_law_632 : decode cL_law 632 = .ok (.iload_n 3, 1) := by decide +kernel
theorem dL_law_633 : decode cL_law 633 = .ok (.iconst 1, 1) := by decide +kernel
theorem dL_law_634 : decode cL_law 634 = .ok (.iadd, 1) := by decide +kernel
theorem dL_law_635 : decode cL_law 635 = .ok (.iaload, 1) := by decide +kernel
theorem dL_law_636 : decode cL_law 636 = .ok (.ifCond .eq 7, 3) := by decide +kernel
theorem dL_law_639 : decode cL_law 639 = .ok (.iconst 1, 1) := by decide +kernel
theorem dL_law_640 : decode cL_law 640 = .ok (.goto 4, 3) := by decide +kernel
theorem dL_law_643 : decode cL_law 643 = .ok (.iconst 0, 1) := by decide +kernel
theorem dL_law_644 : decode cL_law 644 = .ok (.invokevirtual 83, 3) := by decide +kernel
theorem dL_law_647 : decode cL_law 647 = .ok (.if_icmp .eq 338, 3) := by decide +kernel
theorem dL_law_650 : decode cL_law 650 = .ok (.iconst 0, 1) := by decide +kernel
theorem dL_law_651 : decode cL_law 651 = .ok (.ireturn, 1) := by decide +kernel
theorem dL_law_652 : decode cL_law 652 = .ok (.aload_n 1, 1) := by decide +kernel
theorem dL_law_653 : decode cL_law 653 = .ok (.aload_n 0, 1) := by decide +kernel
theorem dL_law_654 : decode cL_law 654 = .ok (.iload_n 3, 1) := by decide +kernel
theorem dL_law_655 : decode cL_law 655 = .ok (.iconst 1, 1) := by decide +kernel
theorem dL_law_656 : decode cL_law 656 = .ok (.iadd, 1) := by decide +kernel
theorem dL_law_657 : decode cL_law 657 = .ok (.iaload, 1) := by decide +kernel
theorem dL_law_658 : decode cL_law 658 = .ok (.aload_n 0, 1) := by decide +kernel
theorem dL_law_659 : decode cL_law 659 = .ok (.iload_n 3, 1) := by decide +kernel
theorem dL_law_660 : decode cL_law 660 = .ok (.iconst 2, 1) := by decide +kernel
theorem dL_law_661 : decode cL_law 661 = .ok (.iadd, 1) := by decide +kernel
theorem dL_law_662 : decode cL_law 662 = .ok (.iaload, 1) := by decide +kernel
theorem dL_law_663 : decode cL_law 663 = .ok (.invokevirtual 84, 3) := by decide +kernel
theorem dL_law_666 : decode cL_law 666 = .ok (.aload_n 2, 1) := by decide +kernel
theorem dL_law_667 : decode cL_law 667 = .ok (.aload_n 0, 1) := by decide +kernel
theorem dL_law_668 : decode cL_law 668 = .ok (.iload_n 3, 1) := by decide +kernel
theorem dL_law_669 : decode cL_law 669 = .ok (.iconst 1, 1) := by decide +kernel
theorem dL_law_670 : decode cL_law 670 = .ok (.iadd, 1) := by decide +kernel
theorem dL_law_671 : decode cL_law 671 = .ok (.iaload, 1) := by decide +kernel
theorem dL_law_672 : decode cL_law 672 = .ok (.aload_n 0, 1) := by decide +kernel
theorem dL_law_673 : decode cL_law 673 = .ok (.iload_n 3, 1) := by decide +kernel
theorem dL_law_674 : decode cL_law 674 = .ok (.iconst 2, 1) := by decide +kernel
theorem dL_law_675 : decode cL_law 675 = .ok (.iadd, 1) := by decide +kernel
theorem dL_law_676 : decode cL_law 676 = .ok (.iaload, 1) := by decide +kernel
theorem dL_law_677 : decode cL_law 677 = .ok (.invokevirtual 87, 3) := by decide +kernel
theorem dL_law_680 : decode cL_law 680 = .ok (.if_icmp .eq 305, 3) := by decide +kernel
theorem dL_law_683 : decode cL_law 683 = .ok (.iconst 0, 1) := by decide +kernel
theorem dL_law_684 : decode cL_law 684 = .ok (.ireturn, 1) := by decide +kernel
theorem dL_law_685 : decode cL_law 685 = .ok (.aload_n 1, 1) := by decide +kernel
theorem dL_law_686 : decode cL_law 686 = .ok (.aload_n 0, 1) := by decide +kernel
theorem dL_law_687 : decode cL_law 687 = .ok (.iload_n 3, 1) := by decide +kernel
theorem dL_law_688 : decode cL_law 688 = .ok (.iconst 1, 1) := by decide +kernel
theorem dL_law_689 : decode cL_law 689 = .ok (.iadd, 1) := by decide +kernel
theorem dL_law_690 : decode cL_law 690 = .ok (.iaload, 1) := by decide +kernel
theorem dL_law_691 : decode cL_law 691 = .ok (.aload_n 0, 1) := by decide +kernel
theorem dL_law_692 : decode cL_law 692 = .ok (.iload_n 3, 1) := by decide +kernel
theorem dL_law_693 : decode cL_law 693 = .ok (.iconst 2, 1) := by decide +kernel
theorem dL_law_694 : decode cL_law 694 = .ok (.iadd, 1) := by decide +kernel
theorem dL_law_695 : decode cL_law 695 = .ok (.iaload, 1) := by decide +kernel
theorem dL_law_696 : decode cL_law 696 = .ok (.invokevirtual 88, 3) := by decide +kernel
theorem dL_law_699 : decode cL_law 699 = .ok (.aload_n 2, 1) := by decide +kernel
theorem dL_law_700 : decode cL_law 700 = .ok (.aload_n 0, 1) := by decide +kernel
theorem dL_law_701 : decode cL_law 701 = .ok (.iload_n 3, 1) := by decide +kernel
theorem dL_law_702 : decode cL_law 702 = .ok (.iconst 1, 1) := by decide +kernel
theorem dL_law_703 : decode cL_law 703 = .ok (.iadd, 1) := by decide +kernel
theorem dL_law_704 : decode cL_law 704 = .ok (.iaload, 1) := by decide +kernel
theorem dL_law_705 : decode cL_law 705 = .ok (.aload_n 0, 1) := by decide +kernel
theorem dL_law_706 : decode cL_law 706 = .ok (.iload_n 3, 1) := by decide +kernel
theorem dL_law_707 : decode cL_law 707 = .ok (.iconst 2, 1) := by decide +kernel
theorem dL_law_708 : decode cL_law 708 = .ok (.iadd, 1) := by decide +kernel
theorem dL_law_709 : decode cL_law 709 = .ok (.iaload, 1) := by decide +kernel
theorem dL_law_710 : decode cL_law 710 = .ok (.invokevirtual 91, 3) := by decide +kernel
theorem dL_law_713 : decode cL_law 713 = .ok (.if_icmp .eq 272, 3) := by decide +kernel
theorem dL_law_716 : decode cL_law 716 = .ok (.iconst 0, 1) := by decide +kernel
theorem dL_law_717 : decode cL_law 717 = .ok (.ireturn, 1) := by decide +kernel
theorem dL_law_718 : decode cL_law 718 = .ok (.aload_n 1, 1) := by decide +kernel
theorem dL_law_719 : decode cL_law 719 = .ok (.aload_n 0, 1) := by decide +kernel
theorem dL_law_720 : decode cL_law 720 = .ok (.iload_n 3, 1) := by decide +kernel
theorem dL_law_721 : decode cL_law 721 = .ok (.iconst 1, 1) := by decide +kernel
theorem dL_law_722 : decode cL_law 722 = .ok (.iadd, 1) := by decide +kernel
theorem dL_law_723 : decode cL_law 723 = .ok (.iaload, 1) := by decide +kernel
theorem dL_law_724 : decode cL_law 724 = .ok (.aload_n 0, 1) := by decide +kernel
theorem dL_law_725 : decode cL_law 725 = .ok (.iload_n 3, 1) := by decide +kernel
theorem dL_law_726 : decode cL_law 726 = .ok (.iconst 2, 1) := by decide +kernel
theorem dL_law_727 : decode cL_law 727 = .ok (.iadd, 1) := by decide +kernel
theorem dL_law_728 : decode cL_law 728 = .ok (.iaload, 1) := by decide +kernel
theorem dL_law_729 : decode cL_law 729 = .ok (.aload_n 0, 1) := by decide +kernel
theorem dL_law_730 : decode cL_law 730 = .ok (.iload_n 3, 1) := by decide +kernel
theorem dL_law_731 : decode cL_law 731 = .ok (.iconst 3, 1) := by decide +kernel
theorem dL_law_732 : decode cL_law 732 = .ok (.iadd, 1) := by decide +kernel
theorem dL_law_733 : decode cL_law 733 = .ok (.iaload, 1) := by decide +kernel
theorem dL_law_734 : decode cL_law 734 = .ok (.invokevirtual 92, 3) := by decide +kernel
theorem dL_law_737 : decode cL_law 737 = .ok (.aload_n 2, 1) := by decide +kernel
theorem dL_law_738 : decode cL_law 738 = .ok (.aload_n 0, 1) := by decide +kernel
theorem dL_law_739 : decode cL_law 739 = .ok (.iload_n 3, 1) := by decide +kernel
theorem dL_law_740 : decode cL_law 740 = .ok (.iconst 1, 1) := by decide +kernel
theorem dL_law_741 : decode cL_law 741 = .ok (.iadd, 1) := by decide +kernel
theorem dL_law_742 : decode cL_law 742 = .ok (.iaload, 1) := by decide +kernel
theorem dL_law_743 : decode cL_law 743 = .ok (.aload_n 0, 1) := by decide +kernel
theorem dL_law_744 : decode cL_law 744 = .ok (.iload_n 3, 1) := by decide +kernel
theorem dL_law_745 : decode cL_law 745 = .ok (.iconst 2, 1) := by decide +kernel
theorem dL_law_746 : decode cL_law 746 = .ok (.iadd, 1) := by decide +kernel
theorem dL_law_747 : decode cL_law 747 = .ok (.iaload, 1) := by decide +kernel
theorem dL_law_748 : decode cL_law 748 = .ok (.aload_n 0, 1) := by decide +kernel
theorem dL_law_749 : decode cL_law 749 = .ok (.iload_n 3, 1) := by decide +kernel
theorem dL_law_750 : decode cL_law 750 = .ok (.iconst 3, 1) := by decide +kernel
theorem dL_law_751 : decode cL_law 751 = .ok (.iadd, 1) := by decide +kernel
theorem dL_law_752 : decode cL_law 752 = .ok (.iaload, 1) := by decide +kernel
theorem dL_law_753 : decode cL_law 753 = .ok (.invokevirtual 95, 3) := by decide +kernel
theorem dL_law_756 : decode cL_law 756 = .ok (.if_icmp .eq 229, 3) := by decide +kernel
theorem dL_law_759 : decode cL_law 759 = .ok (.iconst 0, 1) := by decide +kernel
theorem dL_law_760 : decode cL_law 760 = .ok (.ireturn, 1) := by decide +kernel
theorem dL_law_761 : decode cL_law 761 = .ok (.aload_n 1, 1) := by decide +kernel
theorem dL_law_762 : decode cL_law 762 = .ok (.aload_n 0, 1) := by decide +kernel
theorem dL_law_763 : decode cL_law 763 = .ok (.iload_n 3, 1) := by decide +kernel
theorem dL_law_764 : decode cL_law 764 = .ok (.iconst 1, 1) := by decide +kernel
theorem dL_law_765 : decode cL_law 765 = .ok (.iadd, 1) := by decide +kernel
theorem dL_law_766 : decode cL_law 766 = .ok (.iaload, 1) := by decide +kernel
theorem dL_law_767 : decode cL_law 767 = .ok (.aload_n 0, 1) := by decide +kernel
theorem dL_law_768 : decode cL_law 768 = .ok (.iload_n 3, 1) := by decide +kernel
theorem dL_law_769 : decode cL_law 769 = .ok (.iconst 2, 1) := by decide +kernel
theorem dL_law_770 : decode cL_law 770 = .ok (.iadd, 1) := by decide +kernel
theorem dL_law_771 : decode cL_law 771 = .ok (.iaload, 1) := by decide +kernel
theorem dL_law_772 : decode cL_law 772 = .ok (.invokevirtual 96, 3) := by decide +kernel
theorem dL_law_775 : decode cL_law 775 = .ok (.aload_n 2, 1) := by decide +kernel
theorem dL_law_776 : decode cL_law 776 = .ok (.aload_n 0, 1) := by decide +kernel
theorem dL_law_777 : decode cL_law 777 = .ok (.iload_n 3, 1) := by decide +kernel
theorem dL_law_778 : decode cL_law 778 = .ok (.iconst 1, 1) := by decide +kernel
theorem dL_law_779 : decode cL_law 779 = .ok (.iadd, 1) := by decide +kernel
theorem dL_law_780 : decode cL_law 780 = .ok (.iaload, 1) := by decide +kernel
theorem dL_law_781 : decode cL_law 781 = .ok (.aload_n 0, 1) := by decide +kernel
theorem dL_law_782 : decode cL_law 782 = .ok (.iload_n 3, 1) := by decide +kernel
theorem dL_law_783 : decode cL_law 783 = .ok (.iconst 2, 1) := by decide +kernel
theorem dL_law_784 : decode cL_law 784 = .ok (.iadd, 1) := by decide +kernel
theorem dL_law_785 : decode cL_law 785 = .ok (.iaload, 1) := by decide +kernel
theorem dL_law_786 : decode cL_law 786 = .ok (.invokevirtual 99, 3) := by decide +kernel
theorem dL_law_789 : decode cL_law 789 = .ok (.if_icmp .eq 196, 3) := by decide +kernel
theorem dL_law_792 : decode cL_law 792 = .ok (.iconst 0, 1) := by decide +kernel
theorem dL_law_793 : decode cL_law 793 = .ok (.ireturn, 1) := by decide +kernel
theorem dL_law_794 : decode cL_law 794 = .ok (.aload_n 1, 1) := by decide +kernel
theorem dL_law_795 : decode cL_law 795 = .ok (.aload_n 0, 1) := by decide +kernel
theorem dL_law_796 : decode cL_law 796 = .ok (.iload_n 3, 1) := by decide +kernel
theorem dL_law_797 : decode cL_law 797 = .ok (.iconst 1, 1) := by decide +kernel
theorem dL_law_798 : decode cL_law 798 = .ok (.iadd, 1) := by decide +kernel
theorem dL_law_799 : decode cL_law 799 = .ok (.iaload, 1) := by decide +kernel
theorem dL_law_800 : decode cL_law 800 = .ok (.aload_n 0, 1) := by decide +kernel
theorem dL_law_801 : decode cL_law 801 = .ok (.iload_n 3, 1) := by decide +kernel
theorem dL_law_802 : decode cL_law 802 = .ok (.iconst 2, 1) := by decide +kernel
theorem dL_law_803 : decode cL_law 803 = .ok (.iadd, 1) := by decide +kernel
theorem dL_law_804 : decode cL_law 804 = .ok (.iaload, 1) := by decide +kernel
theorem dL_law_805 : decode cL_law 805 = .ok (.invokevirtual 100, 3) := by decide +kernel
theorem dL_law_808 : decode cL_law 808 = .ok (.aload_n 2, 1) := by decide +kernel
theorem dL_law_809 : decode cL_law 809 = .ok (.aload_n 0, 1) := by decide +kernel
theorem dL_law_810 : decode cL_law 810 = .ok (.iload_n 3, 1) := by decide +kernel
theorem dL_law_811 : decode cL_law 811 = .ok (.iconst 1, 1) := by decide +kernel
theorem dL_law_812 : decode cL_law 812 = .ok (.iadd, 1) := by decide +kernel
theorem dL_law_813 : decode cL_law 813 = .ok (.iaload, 1) := by decide +kernel
theorem dL_law_814 : decode cL_law 814 = .ok (.aload_n 0, 1) := by decide +kernel
theorem dL_law_815 : decode cL_law 815 = .ok (.iload_n 3, 1) := by decide +kernel
theorem dL_law_816 : decode cL_law 816 = .ok (.iconst 2, 1) := by decide +kernel
theorem dL_law_817 : decode cL_law 817 = .ok (.iadd, 1) := by decide +kernel
theorem dL_law_818 : decode cL_law 818 = .ok (.iaload, 1) := by decide +kernel
theorem dL_law_819 : decode cL_law 819 = .ok (.invokevirtual 103, 3) := by decide +kernel
theorem dL_law_822 : decode cL_law 822 = .ok (.if_icmp .eq 163, 3) := by decide +kernel
theorem dL_law_825 : decode cL_law 825 = .ok (.iconst 0, 1) := by decide +kernel
theorem dL_law_826 : decode cL_law 826 = .ok (.ireturn, 1) := by decide +kernel
theorem dL_law_827 : decode cL_law 827 = .ok (.aload_n 1, 1) := by decide +kernel
theorem dL_law_828 : decode cL_law 828 = .ok (.invokevirtual 104, 3) := by decide +kernel
theorem dL_law_831 : decode cL_law 831 = .ok (.aload_n 2, 1) := by decide +kernel
theorem dL_law_832 : decode cL_law 832 = .ok (.invokevirtual 107, 3) := by decide +kernel
theorem dL_law_835 : decode cL_law 835 = .ok (.if_icmp .eq 150, 3) := by decide +kernel
theorem dL_law_838 : decode cL_law 838 = .ok (.iconst 0, 1) := by decide +kernel
theorem dL_law_839 : decode cL_law 839 = .ok (.ireturn, 1) := by decide +kernel
theorem dL_law_840 : decode cL_law 840 = .ok (.aload_n 1, 1) := by decide +kernel
theorem dL_law_841 : decode cL_law 841 = .ok (.aload_n 0, 1) := by decide +kernel
theorem dL_law_842 : decode cL_law 842 = .ok (.iload_n 3, 1) := by decide +kernel
theorem dL_law_843 : decode cL_law 843 = .ok (.iconst 1, 1) := by decide +kernel
theorem dL_law_844 : decode cL_law 844 = .ok (.iadd, 1) := by decide +kernel
theorem dL_law_845 : decode cL_law 845 = .ok (.iaload, 1) := by decide +kernel
theorem dL_law_846 : decode cL_law 846 = .ok (.invokevirtual 108, 3) := by decide +kernel
theorem dL_law_849 : decode cL_law 849 = .ok (.aload_n 2, 1) := by decide +kernel
theorem dL_law_850 : decode cL_law 850 = .ok (.aload_n 0, 1) := by decide +kernel
theorem dL_law_851 : decode cL_law 851 = .ok (.iload_n 3, 1) := by decide +kernel
theorem dL_law_852 : decode cL_law 852 = .ok (.iconst 1, 1) := by decide +kernel
theorem dL_law_853 : decode cL_law 853 = .ok (.iadd, 1) := by decide +kernel
theorem dL_law_854 : decode cL_law 854 = .ok (.iaload, 1) := by decide +kernel
theorem dL_law_855 : decode cL_law 855 = .ok (.invokevirtual 111, 3) := by decide +kernel
theorem dL_law_858 : decode cL_law 858 = .ok (.if_icmp .eq 127, 3) := by decide +kernel
theorem dL_law_861 : decode cL_law 861 = .ok (.iconst 0, 1) := by decide +kernel
theorem dL_law_862 : decode cL_law 862 = .ok (.ireturn, 1) := by decide +kernel
theorem dL_law_863 : decode cL_law 863 = .ok (.aload_n 1, 1) := by decide +kernel
theorem dL_law_864 : decode cL_law 864 = .ok (.aload_n 0, 1) := by decide +kernel
theorem dL_law_865 : decode cL_law 865 = .ok (.iload_n 3, 1) := by decide +kernel
theorem dL_law_866 : decode cL_law 866 = .ok (.iconst 1, 1) := by decide +kernel
theorem dL_law_867 : decode cL_law 867 = .ok (.iadd, 1) := by decide +kernel
theorem dL_law_868 : decode cL_law 868 = .ok (.iaload, 1) := by decide +kernel
theorem dL_law_869 : decode cL_law 869 = .ok (.invokevirtual 112, 3) := by decide +kernel
theorem dL_law_872 : decode cL_law 872 = .ok (.aload_n 2, 1) := by decide +kernel
theorem dL_law_873 : decode cL_law 873 = .ok (.aload_n 0, 1) := by decide +kernel
theorem dL_law_874 : decode cL_law 874 = .ok (.iload_n 3, 1) := by decide +kernel
theorem dL_law_875 : decode cL_law 875 = .ok (.iconst 1, 1) := by decide +kernel
theorem dL_law_876 : decode cL_law 876 = .ok (.iadd, 1) := by decide +kernel
theorem dL_law_877 : decode cL_law 877 = .ok (.iaload, 1) := by decide +kernel
theorem dL_law_878 : decode cL_law 878 = .ok (.invokevirtual 115, 3) := by decide +kernel
theorem dL_law_881 : decode cL_law 881 = .ok (.if_icmp .eq 104, 3) := by decide +kernel
theorem dL_law_884 : decode cL_law 884 = .ok (.iconst 0, 1) := by decide +kernel
theorem dL_law_885 : decode cL_law 885 = .ok (.ireturn, 1) := by decide +kernel
theorem dL_law_886 : decode cL_law 886 = .ok (.aload_n 1, 1) := by decide +kernel
theorem dL_law_887 : decode cL_law 887 = .ok (.aload_n 0, 1) := by decide +kernel
theorem dL_law_888 : decode cL_law 888 = .ok (.iload_n 3, 1) := by decide +kernel
theorem dL_law_889 : decode cL_law 889 = .ok (.iconst 1, 1) := by decide +kernel
theorem dL_law_890 : decode cL_law 890 = .ok (.iadd, 1) := by decide +kernel
theorem dL_law_891 : decode cL_law 891 = .ok (.iaload, 1) := by decide +kernel
theorem dL_law_892 : decode cL_law 892 = .ok (.aload_n 0, 1) := by decide +kernel
theorem dL_law_893 : decode cL_law 893 = .ok (.iload_n 3, 1) := by decide +kernel
theorem dL_law_894 : decode cL_law 894 = .ok (.iconst 2, 1) := by decide +kernel
theorem dL_law_895 : decode cL_law 895 = .ok (.iadd, 1) := by decide +kernel
theorem dL_law_896 : decode cL_law 896 = .ok (.iaload, 1) := by decide +kernel
theorem dL_law_897 : decode cL_law 897 = .ok (.aload_n 0, 1) := by decide +kernel
theorem dL_law_898 : decode cL_law 898 = .ok (.iload_n 3, 1) := by decide +kernel
theorem dL_law_899 : decode cL_law 899 = .ok (.iconst 3, 1) := by decide +kernel
theorem dL_law_900 : decode cL_law 900 = .ok (.iadd, 1) := by decide +kernel
theorem dL_law_901 : decode cL_law 901 = .ok (.iaload, 1) := by decide +kernel
theorem dL_law_902 : decode cL_law 902 = .ok (.invokevirtual 116, 3) := by decide +kernel
theorem dL_law_905 : decode cL_law 905 = .ok (.aload_n 2, 1) := by decide +kernel
theorem dL_law_906 : decode cL_law 906 = .ok (.aload_n 0, 1) := by decide +kernel
theorem dL_law_907 : decode cL_law 907 = .ok (.iload_n 3, 1) := by decide +kernel
theorem dL_law_908 : decode cL_law 908 = .ok (.iconst 1, 1) := by decide +kernel
theorem dL_law_909 : decode cL_law 909 = .ok (.iadd, 1) := by decide +kernel
theorem dL_law_910 : decode cL_law 910 = .ok (.iaload, 1) := by decide +kernel
theorem dL_law_911 : decode cL_law 911 = .ok (.aload_n 0, 1) := by decide +kernel
theorem dL_law_912 : decode cL_law 912 = .ok (.iload_n 3, 1) := by decide +kernel
theorem dL_law_913 : decode cL_law 913 = .ok (.iconst 2, 1) := by decide +kernel
theorem dL_law_914 : decode cL_law 914 = .ok (.iadd, 1) := by decide +kernel
theorem dL_law_915 : decode cL_law 915 = .ok (.iaload, 1) := by decide +kernel
theorem dL_law_916 : decode cL_law 916 = .ok (.aload_n 0, 1) := by decide +kernel
theorem dL_law_917 : decode cL_law 917 = .ok (.iload_n 3, 1) := by decide +kernel
theorem dL_law_918 : decode cL_law 918 = .ok (.iconst 3, 1) := by decide +kernel
theorem dL_law_919 : decode cL_law 919 = .ok (.iadd, 1) := by decide +kernel
theorem dL_law_920 : decode cL_law 920 = .ok (.iaload, 1) := by decide +kernel
theorem dL_law_921 : decode cL_law 921 = .ok (.invokevirtual 119, 3) := by decide +kernel
theorem dL_law_924 : decode cL_law 924 = .ok (.if_icmp .eq 61, 3) := by decide +kernel
theorem dL_law_927 : decode cL_law 927 = .ok (.iconst 0, 1) := by decide +kernel
