theorem dX11_minute_0 : decode cX11_minute 0 = .ok (.aload_n 0, 1) := by decide +kernel
theorem dX11_minute_1 : decode cX11_minute 1 = .ok (.getfield 33, 3) := by decide +kernel
theorem dX11_minute_4 : decode cX11_minute 4 = .ok (.sipush 919, 3) := by decide +kernel
theorem dX11_minute_7 : decode cX11_minute 7 = .ok (.iconst 0, 1) := by decide +kernel
theorem dX11_minute_8 : decode cX11_minute 8 = .ok (.iastore, 1) := by decide +kernel
theorem dX11_minute_9 : decode cX11_minute 9 = .ok (.iconst 0, 1) := by decide +kernel
theorem dX11_minute_10 : decode cX11_minute 10 = .ok (.istore_n 2, 1) := by decide +kernel
theorem dX11_minute_11 : decode cX11_minute 11 = .ok (.iload_n 2, 1) := by decide +kernel
theorem dX11_minute_12 : decode cX11_minute 12 = .ok (.aload_n 0, 1) := by decide +kernel
theorem dX11_minute_13 : decode cX11_minute 13 = .ok (.getfield 33, 3) := by decide +kernel
theorem dX11_minute_16 : decode cX11_minute 16 = .ok (.iconst 2, 1) := by decide +kernel
theorem dX11_minute_17 : decode cX11_minute 17 = .ok (.iaload, 1) := by decide +kernel
theorem dX11_minute_18 : decode cX11_minute 18 = .ok (.if_icmp .ge 34, 3) := by decide +kernel
theorem dX11_minute_21 : decode cX11_minute 21 = .ok (.aload_n 0, 1) := by decide +kernel
theorem dX11_minute_22 : decode cX11_minute 22 = .ok (.iload_n 2, 1) := by decide +kernel
theorem dX11_minute_23 : decode cX11_minute 23 = .ok (.aload_n 0, 1) := by decide +kernel
theorem dX11_minute_24 : decode cX11_minute 24 = .ok (.getfield 33, 3) := by decide +kernel
theorem dX11_minute_27 : decode cX11_minute 27 = .ok (.sipush 456, 3) := by decide +kernel
theorem dX11_minute_30 : decode cX11_minute 30 = .ok (.iaload, 1) := by decide +kernel
theorem dX11_minute_31 : decode cX11_minute 31 = .ok (.invokevirtual 300, 3) := by decide +kernel
theorem dX11_minute_34 : decode cX11_minute 34 = .ok (.istore_n 3, 1) := by decide +kernel
theorem dX11_minute_35 : decode cX11_minute 35 = .ok (.iload_n 3, 1) := by decide +kernel
theorem dX11_minute_36 : decode cX11_minute 36 = .ok (.ifCond .lt 10, 3) := by decide +kernel
theorem dX11_minute_39 : decode cX11_minute 39 = .ok (.aload_n 0, 1) := by decide +kernel
theorem dX11_minute_40 : decode cX11_minute 40 = .ok (.iload_n 2, 1) := by decide +kernel
theorem dX11_minute_41 : decode cX11_minute 41 = .ok (.iload_n 3, 1) := by decide +kernel
theorem dX11_minute_42 : decode cX11_minute 42 = .ok (.iload_n 1, 1) := by decide +kernel
theorem dX11_minute_43 : decode cX11_minute 43 = .ok (.invokevirtual 303, 3) := by decide +kernel
theorem dX11_minute_46 : decode cX11_minute 46 = .ok (.iinc 2 1, 3) := by decide +kernel
theorem dX11_minute_49 : decode cX11_minute 49 = .ok (.goto (-38), 3) := by decide +kernel
theorem dX11_minute_52 : decode cX11_minute 52 = .ok (.aload_n 0, 1) := by decide +kernel
theorem dX11_minute_53 : decode cX11_minute 53 = .ok (.invokevirtual 307, 3) := by decide +kernel
theorem dX11_minute_56 : decode cX11_minute 56 = .ok (.iconst 0, 1) := by decide +kernel
theorem dX11_minute_57 : decode cX11_minute 57 = .ok (.istore_n 2, 1) := by decide +kernel
theorem dX11_minute_58 : decode cX11_minute 58 = .ok (.iload_n 2, 1) := by decide +kernel
theorem dX11_minute_59 : decode cX11_minute 59 = .ok (.aload_n 0, 1) := by decide +kernel
theorem dX11_minute_60 : decode cX11_minute 60 = .ok (.getfield 33, 3) := by decide +kernel
theorem dX11_minute_63 : decode cX11_minute 63 = .ok (.iconst 3, 1) := by decide +kernel
theorem dX11_minute_64 : decode cX11_minute 64 = .ok (.iaload, 1) := by decide +kernel
theorem dX11_minute_65 : decode cX11_minute 65 = .ok (.if_icmp .ge 236, 3) := by decide +kernel
theorem dX11_minute_68 : decode cX11_minute 68 = .ok (.aload_n 0, 1) := by decide +kernel
theorem dX11_minute_69 : decode cX11_minute 69 = .ok (.iload_n 2, 1) := by decide +kernel
theorem dX11_minute_70 : decode cX11_minute 70 = .ok (.aload_n 0, 1) := by decide +kernel
theorem dX11_minute_71 : decode cX11_minute 71 = .ok (.getfield 33, 3) := by decide +kernel
theorem dX11_minute_74 : decode cX11_minute 74 = .ok (.sipush 456, 3) := by decide +kernel
theorem dX11_minute_77 : decode cX11_minute 77 = .ok (.iaload, 1) := by decide +kernel
theorem dX11_minute_78 : decode cX11_minute 78 = .ok (.invokevirtual 268, 3) := by decide +kernel
theorem dX11_minute_81 : decode cX11_minute 81 = .ok (.ifCond .eq 214, 3) := by decide +kernel
theorem dX11_minute_84 : decode cX11_minute 84 = .ok (.aload_n 0, 1) := by decide +kernel
theorem dX11_minute_85 : decode cX11_minute 85 = .ok (.getfield 33, 3) := by decide +kernel
theorem dX11_minute_88 : decode cX11_minute 88 = .ok (.sipush 674, 3) := by decide +kernel
theorem dX11_minute_91 : decode cX11_minute 91 = .ok (.iload_n 2, 1) := by decide +kernel
theorem dX11_minute_92 : decode cX11_minute 92 = .ok (.iadd, 1) := by decide +kernel
theorem dX11_minute_93 : decode cX11_minute 93 = .ok (.iaload, 1) := by decide +kernel
theorem dX11_minute_94 : decode cX11_minute 94 = .ok (.ifCond .ne 6, 3) := by decide +kernel
theorem dX11_minute_97 : decode cX11_minute 97 = .ok (.goto 198, 3) := by decide +kernel
theorem dX11_minute_100 : decode cX11_minute 100 = .ok (.iconst (-1), 1) := by decide +kernel
theorem dX11_minute_101 : decode cX11_minute 101 = .ok (.istore_n 3, 1) := by decide +kernel
theorem dX11_minute_102 : decode cX11_minute 102 = .ok (.iconst 0, 1) := by decide +kernel
theorem dX11_minute_103 : decode cX11_minute 103 = .ok (.istore 4, 2) := by decide +kernel
theorem dX11_minute_105 : decode cX11_minute 105 = .ok (.iload 4, 2) := by decide +kernel
theorem dX11_minute_107 : decode cX11_minute 107 = .ok (.aload_n 0, 1) := by decide +kernel
theorem dX11_minute_108 : decode cX11_minute 108 = .ok (.getfield 33, 3) := by decide +kernel
theorem dX11_minute_111 : decode cX11_minute 111 = .ok (.iconst 2, 1) := by decide +kernel
theorem dX11_minute_112 : decode cX11_minute 112 = .ok (.iaload, 1) := by decide +kernel
theorem dX11_minute_113 : decode cX11_minute 113 = .ok (.if_icmp .ge 89, 3) := by decide +kernel
theorem dX11_minute_116 : decode cX11_minute 116 = .ok (.aload_n 0, 1) := by decide +kernel
theorem dX11_minute_117 : decode cX11_minute 117 = .ok (.getfield 33, 3) := by decide +kernel
theorem dX11_minute_120 : decode cX11_minute 120 = .ok (.bipush 11, 2) := by decide +kernel
theorem dX11_minute_122 : decode cX11_minute 122 = .ok (.iload 4, 2) := by decide +kernel
theorem dX11_minute_124 : decode cX11_minute 124 = .ok (.iadd, 1) := by decide +kernel
theorem dX11_minute_125 : decode cX11_minute 125 = .ok (.iaload, 1) := by decide +kernel
theorem dX11_minute_126 : decode cX11_minute 126 = .ok (.aload_n 0, 1) := by decide +kernel
theorem dX11_minute_127 : decode cX11_minute 127 = .ok (.getfield 33, 3) := by decide +kernel
theorem dX11_minute_130 : decode cX11_minute 130 = .ok (.bipush 67, 2) := by decide +kernel
theorem dX11_minute_132 : decode cX11_minute 132 = .ok (.iload_n 2, 1) := by decide +kernel
theorem dX11_minute_133 : decode cX11_minute 133 = .ok (.iadd, 1) := by decide +kernel
theorem dX11_minute_134 : decode cX11_minute 134 = .ok (.iaload, 1) := by decide +kernel
theorem dX11_minute_135 : decode cX11_minute 135 = .ok (.invokestatic 278, 3) := by decide +kernel
theorem dX11_minute_138 : decode cX11_minute 138 = .ok (.bipush 6, 2) := by decide +kernel
theorem dX11_minute_140 : decode cX11_minute 140 = .ok (.if_icmp .gt 56, 3) := by decide +kernel
theorem dX11_minute_143 : decode cX11_minute 143 = .ok (.iload_n 3, 1) := by decide +kernel
theorem dX11_minute_144 : decode cX11_minute 144 = .ok (.ifCond .lt 49, 3) := by decide +kernel
theorem dX11_minute_147 : decode cX11_minute 147 = .ok (.aload_n 0, 1) := by decide +kernel
theorem dX11_minute_148 : decode cX11_minute 148 = .ok (.getfield 33, 3) := by decide +kernel
theorem dX11_minute_151 : decode cX11_minute 151 = .ok (.bipush 11, 2) := by decide +kernel
theorem dX11_minute_153 : decode cX11_minute 153 = .ok (.iload 4, 2) := by decide +kernel
theorem dX11_minute_155 : decode cX11_minute 155 = .ok (.iadd, 1) := by decide +kernel
theorem dX11_minute_156 : decode cX11_minute 156 = .ok (.iaload, 1) := by decide +kernel
theorem dX11_minute_157 : decode cX11_minute 157 = .ok (.aload_n 0, 1) := by decide +kernel
theorem dX11_minute_158 : decode cX11_minute 158 = .ok (.getfield 33, 3) := by decide +kernel
theorem dX11_minute_161 : decode cX11_minute 161 = .ok (.bipush 67, 2) := by decide +kernel
theorem dX11_minute_163 : decode cX11_minute 163 = .ok (.iload_n 2, 1) := by decide +kernel
theorem dX11_minute_164 : decode cX11_minute 164 = .ok (.iadd, 1) := by decide +kernel
theorem dX11_minute_165 : decode cX11_minute 165 = .ok (.iaload, 1) := by decide +kernel
theorem dX11_minute_166 : decode cX11_minute 166 = .ok (.invokestatic 278, 3) := by decide +kernel
theorem dX11_minute_169 : decode cX11_minute 169 = .ok (.aload_n 0, 1) := by decide +kernel
theorem dX11_minute_170 : decode cX11_minute 170 = .ok (.getfield 33, 3) := by decide +kernel
theorem dX11_minute_173 : decode cX11_minute 173 = .ok (.bipush 11, 2) := by decide +kernel
theorem dX11_minute_175 : decode cX11_minute 175 = .ok (.iload_n 3, 1) := by decide +kernel
theorem dX11_minute_176 : decode cX11_minute 176 = .ok (.iadd, 1) := by decide +kernel
theorem dX11_minute_177 : decode cX11_minute 177 = .ok (.iaload, 1) := by decide +kernel
theorem dX11_minute_178 : decode cX11_minute 178 = .ok (.aload_n 0, 1) := by decide +kernel
theorem dX11_minute_179 : decode cX11_minute 179 = .ok (.getfield 33, 3) := by decide +kernel
theorem dX11_minute_182 : decode cX11_minute 182 = .ok (.bipush 67, 2) := by decide +kernel
theorem dX11_minute_184 : decode cX11_minute 184 = .ok (.iload_n 2, 1) := by decide +kernel
theorem dX11_minute_185 : decode cX11_minute 185 = .ok (.iadd, 1) := by decide +kernel
theorem dX11_minute_186 : decode cX11_minute 186 = .ok (.iaload, 1) := by decide +kernel
theorem dX11_minute_187 : decode cX11_minute 187 = .ok (.invokestatic 278, 3) := by decide +kernel
theorem dX11_minute_190 : decode cX11_minute 190 = .ok (.if_icmp .ge 6, 3) := by decide +kernel
theorem dX11_minute_193 : decode cX11_minute 193 = .ok (.iload 4, 2) := by decide +kernel
theorem dX11_minute_195 : decode cX11_minute 195 = .ok (.istore_n 3, 1) := by decide +kernel
theorem dX11_minute_196 : decode cX11_minute 196 = .ok (.iinc 4 1, 3) := by decide +kernel
theorem dX11_minute_199 : decode cX11_minute 199 = .ok (.goto (-94), 3) := by decide +kernel
theorem dX11_minute_202 : decode cX11_minute 202 = .ok (.iload_n 3, 1) := by decide +kernel
theorem dX11_minute_203 : decode cX11_minute 203 = .ok (.ifCond .ge 6, 3) := by decide +kernel
theorem dX11_minute_206 : decode cX11_minute 206 = .ok (.goto 89, 3) := by decide +kernel
theorem dX11_minute_209 : decode cX11_minute 209 = .ok (.aload_n 0, 1) := by decide +kernel
theorem dX11_minute_210 : decode cX11_minute 210 = .ok (.getfield 33, 3) := by decide +kernel
theorem dX11_minute_213 : decode cX11_minute 213 = .ok (.sipush 674, 3) := by decide +kernel
theorem dX11_minute_216 : decode cX11_minute 216 = .ok (.iload_n 2, 1) := by decide +kernel
theorem dX11_minute_217 : decode cX11_minute 217 = .ok (.iadd, 1) := by decide +kernel
theorem dX11_minute_218 : decode cX11_minute 218 = .ok (.dup2, 1) := by decide +kernel
theorem dX11_minute_219 : decode cX11_minute 219 = .ok (.iaload, 1) := by decide +kernel
theorem dX11_minute_220 : decode cX11_minute 220 = .ok (.iconst 1, 1) := by decide +kernel
theorem dX11_minute_221 : decode cX11_minute 221 = .ok (.isub, 1) := by decide +kernel
theorem dX11_minute_222 : decode cX11_minute 222 = .ok (.iastore, 1) := by decide +kernel
theorem dX11_minute_223 : decode cX11_minute 223 = .ok (.aload_n 0, 1) := by decide +kernel
theorem dX11_minute_224 : decode cX11_minute 224 = .ok (.getfield 33, 3) := by decide +kernel
theorem dX11_minute_227 : decode cX11_minute 227 = .ok (.sipush 915, 3) := by decide +kernel
theorem dX11_minute_230 : decode cX11_minute 230 = .ok (.dup2, 1) := by decide +kernel
theorem dX11_minute_231 : decode cX11_minute 231 = .ok (.iaload, 1) := by decide +kernel
theorem dX11_minute_232 : decode cX11_minute 232 = .ok (.iconst 1, 1) := by decide +kernel
theorem dX11_minute_233 : decode cX11_minute 233 = .ok (.iadd, 1) := by decide +kernel
theorem dX11_minute_234 : decode cX11_minute 234 = .ok (.iastore, 1) := by decide +kernel
theorem dX11_minute_235 : decode cX11_minute 235 = .ok (.aload_n 0, 1) := by decide +kernel
theorem dX11_minute_236 : decode cX11_minute 236 = .ok (.getfield 33, 3) := by decide +kernel
theorem dX11_minute_239 : decode cX11_minute 239 = .ok (.sipush 714, 3) := by decide +kernel
theorem dX11_minute_242 : decode cX11_minute 242 = .ok (.aload_n 0, 1) := by decide +kernel
theorem dX11_minute_243 : decode cX11_minute 243 = .ok (.getfield 33, 3) := by decide +kernel
theorem dX11_minute_246 : decode cX11_minute 246 = .ok (.bipush 11, 2) := by decide +kernel
theorem dX11_minute_248 : decode cX11_minute 248 = .ok (.iload_n 3, 1) := by decide +kernel
theorem dX11_minute_249 : decode cX11_minute 249 = .ok (.iadd, 1) := by decide +kernel
theorem dX11_minute_250 : decode cX11_minute 250 = .ok (.iaload, 1) := by decide +kernel
theorem dX11_minute_251 : decode cX11_minute 251 = .ok (.iadd, 1) := by decide +kernel
theorem dX11_minute_252 : decode cX11_minute 252 = .ok (.dup2, 1) := by decide +kernel
theorem dX11_minute_253 : decode cX11_minute 253 = .ok (.iaload, 1) := by decide +kernel
theorem dX11_minute_254 : decode cX11_minute 254 = .ok (.iconst 2, 1) := by decide +kernel
theorem dX11_minute_255 : decode cX11_minute 255 = .ok (.iadd, 1) := by decide +kernel
theorem dX11_minute_256 : decode cX11_minute 256 = .ok (.iastore, 1) := by decide +kernel
theorem dX11_minute_257 : decode cX11_minute 257 = .ok (.aload_n 0, 1) := by decide +kernel
theorem dX11_minute_258 : decode cX11_minute 258 = .ok (.getfield 33, 3) := by decide +kernel
theorem dX11_minute_261 : decode cX11_minute 261 = .ok (.sipush 476, 3) := by decide +kernel
theorem dX11_minute_264 : decode cX11_minute 264 = .ok (.iload_n 3, 1) := by decide +kernel
theorem dX11_minute_265 : decode cX11_minute 265 = .ok (.iadd, 1) := by decide +kernel
theorem dX11_minute_266 : decode cX11_minute 266 = .ok (.dup2, 1) := by decide +kernel
theorem dX11_minute_267 : decode cX11_minute 267 = .ok (.iaload, 1) := by decide +kernel
theorem dX11_minute_268 : decode cX11_minute 268 = .ok (.iconst 3, 1) := by decide +kernel
theorem dX11_minute_269 : decode cX11_minute 269 = .ok (.aload_n 0, 1) := by decide +kernel
theorem dX11_minute_270 : decode cX11_minute 270 = .ok (.getfield 33, 3) := by decide +kernel
theorem dX11_minute_273 : decode cX11_minute 273 = .ok (.bipush 11, 2) := by decide +kernel
theorem dX11_minute_275 : decode cX11_minute 275 = .ok (.iload_n 3, 1) := by decide +kernel
theorem dX11_minute_276 : decode cX11_minute 276 = .ok (.iadd, 1) := by decide +kernel
theorem dX11_minute_277 : decode cX11_minute 277 = .ok (.iaload, 1) := by decide +kernel
theorem dX11_minute_278 : decode cX11_minute 278 = .ok (.aload_n 0, 1) := by decide +kernel
theorem dX11_minute_279 : decode cX11_minute 279 = .ok (.getfield 33, 3) := by decide +kernel
theorem dX11_minute_282 : decode cX11_minute 282 = .ok (.bipush 67, 2) := by decide +kernel
theorem dX11_minute_284 : decode cX11_minute 284 = .ok (.iload_n 2, 1) := by decide +kernel
theorem dX11_minute_285 : decode cX11_minute 285 = .ok (.iadd, 1) := by decide +kernel
theorem dX11_minute_286 : decode cX11_minute 286 = .ok (.iaload, 1) := by decide +kernel
theorem dX11_minute_287 : decode cX11_minute 287 = .ok (.invokestatic 278, 3) := by decide +kernel
theorem dX11_minute_290 : decode cX11_minute 290 = .ok (.iconst 2, 1) := by decide +kernel
theorem dX11_minute_291 : decode cX11_minute 291 = .ok (.idiv, 1) := by decide +kernel
theorem dX11_minute_292 : decode cX11_minute 292 = .ok (.isub, 1) := by decide +kernel
theorem dX11_minute_293 : decode cX11_minute 293 = .ok (.iadd, 1) := by decide +kernel
theorem dX11_minute_294 : decode cX11_minute 294 = .ok (.iastore, 1) := by decide +kernel
theorem dX11_minute_295 : decode cX11_minute 295 = .ok (.iinc 2 1, 3) := by decide +kernel
theorem dX11_minute_298 : decode cX11_minute 298 = .ok (.goto (-240), 3) := by decide +kernel
theorem dX11_minute_301 : decode cX11_minute 301 = .ok (.iconst 0, 1) := by decide +kernel
theorem dX11_minute_302 : decode cX11_minute 302 = .ok (.istore_n 2, 1) := by decide +kernel
theorem dX11_minute_303 : decode cX11_minute 303 = .ok (.iload_n 2, 1) := by decide +kernel
theorem dX11_minute_304 : decode cX11_minute 304 = .ok (.bipush 100, 2) := by decide +kernel
theorem dX11_minute_306 : decode cX11_minute 306 = .ok (.if_icmp .ge 62, 3) := by decide +kernel
theorem dX11_minute_309 : decode cX11_minute 309 = .ok (.aload_n 0, 1) := by decide +kernel
theorem dX11_minute_310 : decode cX11_minute 310 = .ok (.getfield 33, 3) := by decide +kernel
theorem dX11_minute_313 : decode cX11_minute 313 = .ok (.sipush 227, 3) := by decide +kernel
theorem dX11_minute_316 : decode cX11_minute 316 = .ok (.iload_n 2, 1) := by decide +kernel
theorem dX11_minute_317 : decode cX11_minute 317 = .ok (.iadd, 1) := by decide +kernel
theorem dX11_minute_318 : decode cX11_minute 318 = .ok (.iaload, 1) := by decide +kernel
theorem dX11_minute_319 : decode cX11_minute 319 = .ok (.ifCond .ne 6, 3) := by decide +kernel
theorem dX11_minute_322 : decode cX11_minute 322 = .ok (.goto 40, 3) := by decide +kernel
theorem dX11_minute_325 : decode cX11_minute 325 = .ok (.aload_n 0, 1) := by decide +kernel
theorem dX11_minute_326 : decode cX11_minute 326 = .ok (.iload_n 2, 1) := by decide +kernel
theorem dX11_minute_327 : decode cX11_minute 327 = .ok (.invokevirtual 310, 3) := by decide +kernel
theorem dX11_minute_330 : decode cX11_minute 330 = .ok (.iconst 0, 1) := by decide +kernel
theorem dX11_minute_331 : decode cX11_minute 331 = .ok (.istore_n 3, 1) := by decide +kernel
theorem dX11_minute_332 : decode cX11_minute 332 = .ok (.iload_n 3, 1) := by decide +kernel
theorem dX11_minute_333 : decode cX11_minute 333 = .ok (.iconst 4, 1) := by decide +kernel
theorem dX11_minute_334 : decode cX11_minute 334 = .ok (.if_icmp .ge 28, 3) := by decide +kernel
theorem dX11_minute_337 : decode cX11_minute 337 = .ok (.aload_n 0, 1) := by decide +kernel
theorem dX11_minute_338 : decode cX11_minute 338 = .ok (.iload_n 2, 1) := by decide +kernel
theorem dX11_minute_339 : decode cX11_minute 339 = .ok (.iload_n 3, 1) := by decide +kernel
theorem dX11_minute_340 : decode cX11_minute 340 = .ok (.invokevirtual 281, 3) := by decide +kernel
theorem dX11_minute_343 : decode cX11_minute 343 = .ok (.ifCond .lt 13, 3) := by decide +kernel
theorem dX11_minute_346 : decode cX11_minute 346 = .ok (.aload_n 0, 1) := by decide +kernel
theorem dX11_minute_347 : decode cX11_minute 347 = .ok (.aload_n 0, 1) := by decide +kernel
theorem dX11_minute_348 : decode cX11_minute 348 = .ok (.iload_n 2, 1) := by decide +kernel
theorem dX11_minute_349 : decode cX11_minute 349 = .ok (.iload_n 3, 1) := by decide +kernel
theorem dX11_minute_350 : decode cX11_minute 350 = .ok (.invokevirtual 281, 3) := by decide +kernel
theorem dX11_minute_353 : decode cX11_minute 353 = .ok (.invokevirtual 310, 3) := by decide +kernel
theorem dX11_minute_356 : decode cX11_minute 356 = .ok (.iinc 3 1, 3) := by decide +kernel
theorem dX11_minute_359 : decode cX11_minute 359 = .ok (.goto (-27), 3) := by decide +kernel
theorem dX11_minute_362 : decode cX11_minute 362 = .ok (.iinc 2 1, 3) := by decide +kernel
theorem dX11_minute_365 : decode cX11_minute 365 = .ok (.goto (-62), 3) := by decide +kernel
theorem dX11_minute_368 : decode cX11_minute 368 = .ok (.aload_n 0, 1) := by decide +kernel
theorem dX11_minute_369 : decode cX11_minute 369 = .ok (.getfield 33, 3) := by decide +kernel
theorem dX11_minute_372 : decode cX11_minute 372 = .ok (.sipush 456, 3) := by decide +kernel
theorem dX11_minute_375 : decode cX11_minute 375 = .ok (.dup2, 1) := by decide +kernel
theorem dX11_minute_376 : decode cX11_minute 376 = .ok (.iaload, 1) := by decide +kernel
theorem dX11_minute_377 : decode cX11_minute 377 = .ok (.iconst 1, 1) := by decide +kernel
theorem dX11_minute_378 : decode cX11_minute 378 = .ok (.iadd, 1) := by decide +kernel
theorem dX11_minute_379 : decode cX11_minute 379 = .ok (.iastore, 1) := by decide +kernel
theorem dX11_minute_380 : decode cX11_minute 380 = .ok (.aload_n 0, 1) := by decide +kernel
theorem dX11_minute_381 : decode cX11_minute 381 = .ok (.getfield 33, 3) := by decide +kernel
theorem dX11_minute_384 : decode cX11_minute 384 = .ok (.sipush 456, 3) := by decide +kernel
theorem dX11_minute_387 : decode cX11_minute 387 = .ok (.iaload, 1) := by decide +kernel
theorem dX11_minute_388 : decode cX11_minute 388 = .ok (.sipush 240, 3) := by decide +kernel
theorem dX11_minute_391 : decode cX11_minute 391 = .ok (.if_icmp .ge 4, 3) := by decide +kernel
theorem dX11_minute_394 : decode cX11_minute 394 = .ok (.return_, 1) := by decide +kernel
theorem dX11_minute_395 : decode cX11_minute 395 = .ok (.aload_n 0, 1) := by decide +kernel
theorem dX11_minute_396 : decode cX11_minute 396 = .ok (.getfield 33, 3) := by decide +kernel
theorem dX11_minute_399 : decode cX11_minute 399 = .ok (.sipush 455, 3) := by decide +kernel
theorem dX11_minute_402 : decode cX11_minute 402 = .ok (.dup2, 1) := by decide +kernel
theorem dX11_minute_403 : decode cX11_minute 403 = .ok (.iaload, 1) := by decide +kernel
theorem dX11_minute_404 : decode cX11_minute 404 = .ok (.iconst 1, 1) := by decide +kernel
theorem dX11_minute_405 : decode cX11_minute 405 = .ok (.iadd, 1) := by decide +kernel
theorem dX11_minute_406 : decode cX11_minute 406 = .ok (.iastore, 1) := by decide +kernel
theorem dX11_minute_407 : decode cX11_minute 407 = .ok (.aload_n 0, 1) := by decide +kernel
theorem dX11_minute_408 : decode cX11_minute 408 = .ok (.getfield 33, 3) := by decide +kernel
theorem dX11_minute_411 : decode cX11_minute 411 = .ok (.sipush 455, 3) := by decide +kernel
theorem dX11_minute_414 : decode cX11_minute 414 = .ok (.iaload, 1) := by decide +kernel
theorem dX11_minute_415 : decode cX11_minute 415 = .ok (.iconst 3, 1) := by decide +kernel
theorem dX11_minute_416 : decode cX11_minute 416 = .ok (.if_icmp .ne 4, 3) := by decide +kernel
theorem dX11_minute_419 : decode cX11_minute 419 = .ok (.return_, 1) := by decide +kernel
theorem dX11_minute_420 : decode cX11_minute 420 = .ok (.aload_n 0, 1) := by decide +kernel
theorem dX11_minute_421 : decode cX11_minute 421 = .ok (.getfield 33, 3) := by decide +kernel
theorem dX11_minute_424 : decode cX11_minute 424 = .ok (.sipush 456, 3) := by decide +kernel
theorem dX11_minute_427 : decode cX11_minute 427 = .ok (.iconst 0, 1) := by decide +kernel
theorem dX11_minute_428 : decode cX11_minute 428 = .ok (.iastore, 1) := by decide +kernel
theorem dX11_minute_429 : decode cX11_minute 429 = .ok (.iconst 0, 1) := by decide +kernel
theorem dX11_minute_430 : decode cX11_minute 430 = .ok (.istore_n 2, 1) := by decide +kernel
theorem dX11_minute_431 : decode cX11_minute 431 = .ok (.iload_n 2, 1) := by decide +kernel
theorem dX11_minute_432 : decode cX11_minute 432 = .ok (.bipush 100, 2) := by decide +kernel
theorem dX11_minute_434 : decode cX11_minute 434 = .ok (.if_icmp .ge 20, 3) := by decide +kernel
theorem dX11_minute_437 : decode cX11_minute 437 = .ok (.aload_n 0, 1) := by decide +kernel
theorem dX11_minute_438 : decode cX11_minute 438 = .ok (.getfield 33, 3) := by decide +kernel
theorem dX11_minute_441 : decode cX11_minute 441 = .ok (.sipush 714, 3) := by decide +kernel
theorem dX11_minute_444 : decode cX11_minute 444 = .ok (.iload_n 2, 1) := by decide +kernel
theorem dX11_minute_445 : decode cX11_minute 445 = .ok (.iadd, 1) := by decide +kernel
theorem dX11_minute_446 : decode cX11_minute 446 = .ok (.iconst 0, 1) := by decide +kernel
theorem dX11_minute_447 : decode cX11_minute 447 = .ok (.iastore, 1) := by decide +kernel
theorem dX11_minute_448 : decode cX11_minute 448 = .ok (.iinc 2 1, 3) := by decide +kernel
theorem dX11_minute_451 : decode cX11_minute 451 = .ok (.goto (-20), 3) := by decide +kernel
theorem dX11_minute_454 : decode cX11_minute 454 = .ok (.aload_n 0, 1) := by decide +kernel
theorem dX11_minute_455 : decode cX11_minute 455 = .ok (.invokevirtual 275, 3) := by decide +kernel
theorem dX11_minute_458 : decode cX11_minute 458 = .ok (.return_, 1) := by decide +kernel
theorem dX11_on_0 : decode cX11_on 0 = .ok (.aload_n 0, 1) := by decide +kernel
theorem dX11_on_1 : decode cX11_on 1 = .ok (.iconst 0, 1) := by decide +kernel
theorem dX11_on_2 : decode cX11_on 2 = .ok (.putfield 1, 3) := by decide +kernel
theorem dX11_on_5 : decode cX11_on 5 = .ok (.iload_n 1, 1) := by decide +kernel
theorem dX11_on_6 : decode cX11_on 6 = .ok (.iconst 1, 1) := by decide +kernel
theorem dX11_on_7 : decode cX11_on 7 = .ok (.sipush 720, 3) := by decide +kernel
theorem dX11_on_10 : decode cX11_on 10 = .ok (.invokestatic 194, 3) := by decide +kernel
theorem dX11_on_13 : decode cX11_on 13 = .ok (.ifCond .ne 5, 3) := by decide +kernel
theorem dX11_on_16 : decode cX11_on 16 = .ok (.iconst (-1), 1) := by decide +kernel
theorem dX11_on_17 : decode cX11_on 17 = .ok (.ireturn, 1) := by decide +kernel
theorem dX11_on_18 : decode cX11_on 18 = .ok (.iconst 0, 1) := by decide +kernel
theorem dX11_on_19 : decode cX11_on 19 = .ok (.istore_n 2, 1) := by decide +kernel
theorem dX11_on_20 : decode cX11_on 20 = .ok (.iload_n 2, 1) := by decide +kernel
theorem dX11_on_21 : decode cX11_on 21 = .ok (.iload_n 1, 1) := by decide +kernel
theorem dX11_on_22 : decode cX11_on 22 = .ok (.if_icmp .ge 26, 3) := by decide +kernel
theorem dX11_on_25 : decode cX11_on 25 = .ok (.aload_n 0, 1) := by decide +kernel
theorem dX11_on_26 : decode cX11_on 26 = .ok (.getfield 33, 3) := by decide +kernel
theorem dX11_on_29 : decode cX11_on 29 = .ok (.sipush 455, 3) := by decide +kernel
theorem dX11_on_32 : decode cX11_on 32 = .ok (.iaload, 1) := by decide +kernel
theorem dX11_on_33 : decode cX11_on 33 = .ok (.iconst 3, 1) := by decide +kernel
theorem dX11_on_34 : decode cX11_on 34 = .ok (.if_icmp .ge 14, 3) := by decide +kernel
theorem dX11_on_37 : decode cX11_on 37 = .ok (.aload_n 0, 1) := by decide +kernel
theorem dX11_on_38 : decode cX11_on 38 = .ok (.iconst 0, 1) := by decide +kernel
theorem dX11_on_39 : decode cX11_on 39 = .ok (.invokevirtual 313, 3) := by decide +kernel
theorem dX11_on_42 : decode cX11_on 42 = .ok (.iinc 2 1, 3) := by decide +kernel
theorem dX11_on_45 : decode cX11_on 45 = .ok (.goto (-25), 3) := by decide +kernel
theorem dX11_on_48 : decode cX11_on 48 = .ok (.iload_n 2, 1) := by decide +kernel
theorem dX11_on_49 : decode cX11_on 49 = .ok (.ireturn, 1) := by decide +kernel
theorem dX11_now_0 : decode cX11_now 0 = .ok (.aload_n 0, 1) := by decide +kernel
theorem dX11_now_1 : decode cX11_now 1 = .ok (.iconst 0, 1) := by decide +kernel
theorem dX11_now_2 : decode cX11_now 2 = .ok (.putfield 1, 3) := by decide +kernel
theorem dX11_now_5 : decode cX11_now 5 = .ok (.iconst 0, 1) := by decide +kernel
theorem dX11_now_6 : decode cX11_now 6 = .ok (.istore_n 2, 1) := by decide +kernel
theorem dX11_now_7 : decode cX11_now 7 = .ok (.iconst 0, 1) := by decide +kernel
theorem dX11_now_8 : decode cX11_now 8 = .ok (.istore_n 3, 1) := by decide +kernel
theorem dX11_now_9 : decode cX11_now 9 = .ok (.iload_n 3, 1) := by decide +kernel
theorem dX11_now_10 : decode cX11_now 10 = .ok (.bipush 100, 2) := by decide +kernel
theorem dX11_now_12 : decode cX11_now 12 = .ok (.if_icmp .ge 22, 3) := by decide +kernel
theorem dX11_now_15 : decode cX11_now 15 = .ok (.iload_n 2, 1) := by decide +kernel
theorem dX11_now_16 : decode cX11_now 16 = .ok (.aload_n 0, 1) := by decide +kernel
theorem dX11_now_17 : decode cX11_now 17 = .ok (.getfield 33, 3) := by decide +kernel
theorem dX11_now_20 : decode cX11_now 20 = .ok (.sipush 714, 3) := by decide +kernel
theorem dX11_now_23 : decode cX11_now 23 = .ok (.iload_n 3, 1) := by decide +kernel
theorem dX11_now_24 : decode cX11_now 24 = .ok (.iadd, 1) := by decide +kernel
theorem dX11_now_25 : decode cX11_now 25 = .ok (.iaload, 1) := by decide +kernel
theorem dX11_now_26 : decode cX11_now 26 = .ok (.iadd, 1) := by decide +kernel
theorem dX11_now_27 : decode cX11_now 27 = .ok (.istore_n 2, 1) := by decide +kernel
theorem dX11_now_28 : decode cX11_now 28 = .ok (.iinc 3 1, 3) := by decide +kernel
theorem dX11_now_31 : decode cX11_now 31 = .ok (.goto (-22), 3) := by decide +kernel
theorem dX11_now_34 : decode cX11_now 34 = .ok (.iload_n 1, 1) := by decide +kernel
theorem dX11_now_35 : decode cX11_now 35 = .ok (.tableswitch 110 0 7 #[45, 54, 63, 72, 81, 90, 99, 108], 45) := by decide +kernel
theorem dX11_now_80 : decode cX11_now 80 = .ok (.aload_n 0, 1) := by decide +kernel
theorem dX11_now_81 : decode cX11_now 81 = .ok (.getfield 33, 3) := by decide +kernel
theorem dX11_now_84 : decode cX11_now 84 = .ok (.sipush 455, 3) := by decide +kernel
theorem dX11_now_87 : decode cX11_now 87 = .ok (.iaload, 1) := by decide +kernel
theorem dX11_now_88 : decode cX11_now 88 = .ok (.ireturn, 1) := by decide +kernel
theorem dX11_now_89 : decode cX11_now 89 = .ok (.aload_n 0, 1) := by decide +kernel
theorem dX11_now_90 : decode cX11_now 90 = .ok (.getfield 33, 3) := by decide +kernel
theorem dX11_now_93 : decode cX11_now 93 = .ok (.sipush 456, 3) := by decide +kernel
theorem dX11_now_96 : decode cX11_now 96 = .ok (.iaload, 1) := by decide +kernel
theorem dX11_now_97 : decode cX11_now 97 = .ok (.ireturn, 1) := by decide +kernel
theorem dX11_now_98 : decode cX11_now 98 = .ok (.aload_n 0, 1) := by decide +kernel
theorem dX11_now_99 : decode cX11_now 99 = .ok (.getfield 33, 3) := by decide +kernel
theorem dX11_now_102 : decode cX11_now 102 = .ok (.sipush 914, 3) := by decide +kernel
theorem dX11_now_105 : decode cX11_now 105 = .ok (.iaload, 1) := by decide +kernel
theorem dX11_now_106 : decode cX11_now 106 = .ok (.ireturn, 1) := by decide +kernel
theorem dX11_now_107 : decode cX11_now 107 = .ok (.aload_n 0, 1) := by decide +kernel
theorem dX11_now_108 : decode cX11_now 108 = .ok (.getfield 33, 3) := by decide +kernel
theorem dX11_now_111 : decode cX11_now 111 = .ok (.sipush 915, 3) := by decide +kernel
theorem dX11_now_114 : decode cX11_now 114 = .ok (.iaload, 1) := by decide +kernel
theorem dX11_now_115 : decode cX11_now 115 = .ok (.ireturn, 1) := by decide +kernel
theorem dX11_now_116 : decode cX11_now 116 = .ok (.aload_n 0, 1) := by decide +kernel
theorem dX11_now_117 : decode cX11_now 117 = .ok (.getfield 33, 3) := by decide +kernel
theorem dX11_now_120 : decode cX11_now 120 = .ok (.sipush 916, 3) := by decide +kernel
theorem dX11_now_123 : decode cX11_now 123 = .ok (.iaload, 1) := by decide +kernel
theorem dX11_now_124 : decode cX11_now 124 = .ok (.ireturn, 1) := by decide +kernel
theorem dX11_now_125 : decode cX11_now 125 = .ok (.aload_n 0, 1) := by decide +kernel
theorem dX11_now_126 : decode cX11_now 126 = .ok (.getfield 33, 3) := by decide +kernel
theorem dX11_now_129 : decode cX11_now 129 = .ok (.sipush 917, 3) := by decide +kernel
theorem dX11_now_132 : decode cX11_now 132 = .ok (.iaload, 1) := by decide +kernel
theorem dX11_now_133 : decode cX11_now 133 = .ok (.ireturn, 1) := by decide +kernel
theorem dX11_now_134 : decode cX11_now 134 = .ok (.aload_n 0, 1) := by decide +kernel
theorem dX11_now_135 : decode cX11_now 135 = .ok (.getfield 33, 3) := by decide +kernel
theorem dX11_now_138 : decode cX11_now 138 = .ok (.sipush 918, 3) := by decide +kernel
theorem dX11_now_141 : decode cX11_now 141 = .ok (.iaload, 1) := by decide +kernel
theorem dX11_now_142 : decode cX11_now 142 = .ok (.ireturn, 1) := by decide +kernel
theorem dX11_now_143 : decode cX11_now 143 = .ok (.iload_n 2, 1) := by decide +kernel
theorem dX11_now_144 : decode cX11_now 144 = .ok (.ireturn, 1) := by decide +kernel
theorem dX11_now_145 : decode cX11_now 145 = .ok (.iconst (-1), 1) := by decide +kernel
theorem dX11_now_146 : decode cX11_now 146 = .ok (.ireturn, 1) := by decide +kernel
theorem dX11_thrown__0 : decode cX11_thrown_ 0 = .ok (.aload_n 0, 1) := by decide +kernel
theorem dX11_thrown__1 : decode cX11_thrown_ 1 = .ok (.iconst 0, 1) := by decide +kernel
theorem dX11_thrown__2 : decode cX11_thrown_ 2 = .ok (.putfield 1, 3) := by decide +kernel
theorem dX11_thrown__5 : decode cX11_thrown_ 5 = .ok (.iload_n 1, 1) := by decide +kernel
theorem dX11_thrown__6 : decode cX11_thrown_ 6 = .ok (.iconst 0, 1) := by decide +kernel
theorem dX11_thrown__7 : decode cX11_thrown_ 7 = .ok (.aload_n 0, 1) := by decide +kernel
theorem dX11_thrown__8 : decode cX11_thrown_ 8 = .ok (.getfield 33, 3) := by decide +kernel
theorem dX11_thrown__11 : decode cX11_thrown_ 11 = .ok (.sipush 919, 3) := by decide +kernel
theorem dX11_thrown__14 : decode cX11_thrown_ 14 = .ok (.iaload, 1) := by decide +kernel
theorem dX11_thrown__15 : decode cX11_thrown_ 15 = .ok (.iconst 1, 1) := by decide +kernel
theorem dX11_thrown__16 : decode cX11_thrown_ 16 = .ok (.isub, 1) := by decide +kernel
theorem dX11_thrown__17 : decode cX11_thrown_ 17 = .ok (.invokestatic 194, 3) := by decide +kernel
theorem dX11_thrown__20 : decode cX11_thrown_ 20 = .ok (.ifCond .eq 30, 3) := by decide +kernel
theorem dX11_thrown__23 : decode cX11_thrown_ 23 = .ok (.iload_n 2, 1) := by decide +kernel
theorem dX11_thrown__24 : decode cX11_thrown_ 24 = .ok (.iconst 0, 1) := by decide +kernel
theorem dX11_thrown__25 : decode cX11_thrown_ 25 = .ok (.iconst 5, 1) := by decide +kernel
theorem dX11_thrown__26 : decode cX11_thrown_ 26 = .ok (.invokestatic 194, 3) := by decide +kernel
theorem dX11_thrown__29 : decode cX11_thrown_ 29 = .ok (.ifCond .eq 21, 3) := by decide +kernel
theorem dX11_thrown__32 : decode cX11_thrown_ 32 = .ok (.aload_n 0, 1) := by decide +kernel
theorem dX11_thrown__33 : decode cX11_thrown_ 33 = .ok (.getfield 33, 3) := by decide +kernel
theorem dX11_thrown__36 : decode cX11_thrown_ 36 = .ok (.sipush 920, 3) := by decide +kernel
theorem dX11_thrown__39 : decode cX11_thrown_ 39 = .ok (.bipush 6, 2) := by decide +kernel
theorem dX11_thrown__41 : decode cX11_thrown_ 41 = .ok (.iload_n 1, 1) := by decide +kernel
theorem dX11_thrown__42 : decode cX11_thrown_ 42 = .ok (.imul, 1) := by decide +kernel
theorem dX11_thrown__43 : decode cX11_thrown_ 43 = .ok (.iadd, 1) := by decide +kernel
theorem dX11_thrown__44 : decode cX11_thrown_ 44 = .ok (.iload_n 2, 1) := by decide +kernel
theorem dX11_thrown__45 : decode cX11_thrown_ 45 = .ok (.iadd, 1) := by decide +kernel
theorem dX11_thrown__46 : decode cX11_thrown_ 46 = .ok (.iaload, 1) := by decide +kernel
theorem dX11_thrown__47 : decode cX11_thrown_ 47 = .ok (.goto 4, 3) := by decide +kernel
theorem dX11_thrown__50 : decode cX11_thrown_ 50 = .ok (.iconst (-1), 1) := by decide +kernel
theorem dX11_thrown__51 : decode cX11_thrown_ 51 = .ok (.ireturn, 1) := by decide +kernel
theorem dX11_sand_0 : decode cX11_sand 0 = .ok (.aload_n 0, 1) := by decide +kernel
theorem dX11_sand_1 : decode cX11_sand 1 = .ok (.iconst 0, 1) := by decide +kernel
theorem dX11_sand_2 : decode cX11_sand 2 = .ok (.putfield 1, 3) := by decide +kernel
theorem dX11_sand_5 : decode cX11_sand 5 = .ok (.aload_n 0, 1) := by decide +kernel
theorem dX11_sand_6 : decode cX11_sand 6 = .ok (.iload_n 1, 1) := by decide +kernel
theorem dX11_sand_7 : decode cX11_sand 7 = .ok (.invokevirtual 271, 3) := by decide +kernel
theorem dX11_sand_10 : decode cX11_sand 10 = .ok (.ifCond .eq 17, 3) := by decide +kernel
theorem dX11_sand_13 : decode cX11_sand 13 = .ok (.aload_n 0, 1) := by decide +kernel
theorem dX11_sand_14 : decode cX11_sand 14 = .ok (.getfield 33, 3) := by decide +kernel
theorem dX11_sand_17 : decode cX11_sand 17 = .ok (.sipush 814, 3) := by decide +kernel
theorem dX11_sand_20 : decode cX11_sand 20 = .ok (.iload_n 1, 1) := by decide +kernel
theorem dX11_sand_21 : decode cX11_sand 21 = .ok (.iadd, 1) := by decide +kernel
theorem dX11_sand_22 : decode cX11_sand 22 = .ok (.iaload, 1) := by decide +kernel
theorem dX11_sand_23 : decode cX11_sand 23 = .ok (.iconst 1, 1) := by decide +kernel
theorem dX11_sand_24 : decode cX11_sand 24 = .ok (.if_icmp .ne 5, 3) := by decide +kernel
theorem dX11_sand_27 : decode cX11_sand 27 = .ok (.iconst 0, 1) := by decide +kernel
theorem dX11_sand_28 : decode cX11_sand 28 = .ok (.ireturn, 1) := by decide +kernel
theorem dX11_sand_29 : decode cX11_sand 29 = .ok (.aload_n 0, 1) := by decide +kernel
theorem dX11_sand_30 : decode cX11_sand 30 = .ok (.getfield 33, 3) := by decide +kernel
theorem dX11_sand_33 : decode cX11_sand 33 = .ok (.sipush 814, 3) := by decide +kernel
theorem dX11_sand_36 : decode cX11_sand 36 = .ok (.iload_n 1, 1) := by decide +kernel
theorem dX11_sand_37 : decode cX11_sand 37 = .ok (.iadd, 1) := by decide +kernel
theorem dX11_sand_38 : decode cX11_sand 38 = .ok (.iconst 1, 1) := by decide +kernel
theorem dX11_sand_39 : decode cX11_sand 39 = .ok (.iastore, 1) := by decide +kernel
theorem dX11_sand_40 : decode cX11_sand 40 = .ok (.iconst 1, 1) := by decide +kernel
theorem dX11_sand_41 : decode cX11_sand 41 = .ok (.ireturn, 1) := by decide +kernel
theorem dX11_aims_0 : decode cX11_aims 0 = .ok (.aload_n 0, 1) := by decide +kernel
theorem dX11_aims_1 : decode cX11_aims 1 = .ok (.iconst 0, 1) := by decide +kernel
theorem dX11_aims_2 : decode cX11_aims 2 = .ok (.putfield 1, 3) := by decide +kernel
theorem dX11_aims_5 : decode cX11_aims 5 = .ok (.aload_n 0, 1) := by decide +kernel
theorem dX11_aims_6 : decode cX11_aims 6 = .ok (.iload_n 1, 1) := by decide +kernel
theorem dX11_aims_7 : decode cX11_aims 7 = .ok (.invokevirtual 258, 3) := by decide +kernel
theorem dX11_aims_10 : decode cX11_aims 10 = .ok (.ifCond .eq 23, 3) := by decide +kernel
theorem dX11_aims_13 : decode cX11_aims 13 = .ok (.iload_n 2, 1) := by decide +kernel
theorem dX11_aims_14 : decode cX11_aims 14 = .ok (.iconst 0, 1) := by decide +kernel
theorem dX11_aims_15 : decode cX11_aims 15 = .ok (.sipush 239, 3) := by decide +kernel
theorem dX11_aims_18 : decode cX11_aims 18 = .ok (.invokestatic 194, 3) := by decide +kernel
theorem dX11_aims_21 : decode cX11_aims 21 = .ok (.ifCond .eq 12, 3) := by decide +kernel
theorem dX11_aims_24 : decode cX11_aims 24 = .ok (.aload_n 0, 1) := by decide +kernel
theorem dX11_aims_25 : decode cX11_aims 25 = .ok (.iload_n 1, 1) := by decide +kernel
theorem dX11_aims_26 : decode cX11_aims 26 = .ok (.iload_n 2, 1) := by decide +kernel
theorem dX11_aims_27 : decode cX11_aims 27 = .ok (.invokevirtual 300, 3) := by decide +kernel
theorem dX11_aims_30 : decode cX11_aims 30 = .ok (.goto 4, 3) := by decide +kernel
theorem dX11_aims_33 : decode cX11_aims 33 = .ok (.iconst (-1), 1) := by decide +kernel
theorem dX11_aims_34 : decode cX11_aims 34 = .ok (.ireturn, 1) := by decide +kernel
theorem dX11_tries_0 : decode cX11_tries 0 = .ok (.iconst 0, 1) := by decide +kernel
theorem dX11_tries_1 : decode cX11_tries 1 = .ok (.istore_n 1, 1) := by decide +kernel
theorem dX11_tries_2 : decode cX11_tries 2 = .ok (.iload_n 1, 1) := by decide +kernel
theorem dX11_tries_3 : decode cX11_tries 3 = .ok (.sipush 519, 3) := by decide +kernel
theorem dX11_tries_6 : decode cX11_tries 6 = .ok (.if_icmp .ge 25, 3) := by decide +kernel
theorem dX11_tries_9 : decode cX11_tries 9 = .ok (.aload_n 0, 1) := by decide +kernel
theorem dX11_tries_10 : decode cX11_tries 10 = .ok (.getfield 50, 3) := by decide +kernel
theorem dX11_tries_13 : decode cX11_tries 13 = .ok (.iload_n 1, 1) := by decide +kernel
theorem dX11_tries_14 : decode cX11_tries 14 = .ok (.aload_n 0, 1) := by decide +kernel
theorem dX11_tries_15 : decode cX11_tries 15 = .ok (.getfield 33, 3) := by decide +kernel
theorem dX11_tries_18 : decode cX11_tries 18 = .ok (.sipush 455, 3) := by decide +kernel
theorem dX11_tries_21 : decode cX11_tries 21 = .ok (.iload_n 1, 1) := by decide +kernel
theorem dX11_tries_22 : decode cX11_tries 22 = .ok (.iadd, 1) := by decide +kernel
theorem dX11_tries_23 : decode cX11_tries 23 = .ok (.iaload, 1) := by decide +kernel
theorem dX11_tries_24 : decode cX11_tries 24 = .ok (.iastore, 1) := by decide +kernel
theorem dX11_tries_25 : decode cX11_tries 25 = .ok (.iinc 1 1, 3) := by decide +kernel
theorem dX11_tries_28 : decode cX11_tries 28 = .ok (.goto (-26), 3) := by decide +kernel
theorem dX11_tries_31 : decode cX11_tries 31 = .ok (.return_, 1) := by decide +kernel
theorem dX11_back_0 : decode cX11_back 0 = .ok (.iconst 0, 1) := by decide +kernel
theorem dX11_back_1 : decode cX11_back 1 = .ok (.istore_n 1, 1) := by decide +kernel
theorem dX11_back_2 : decode cX11_back 2 = .ok (.iload_n 1, 1) := by decide +kernel
theorem dX11_back_3 : decode cX11_back 3 = .ok (.sipush 519, 3) := by decide +kernel
theorem dX11_back_6 : decode cX11_back 6 = .ok (.if_icmp .ge 25, 3) := by decide +kernel
theorem dX11_back_9 : decode cX11_back 9 = .ok (.aload_n 0, 1) := by decide +kernel
theorem dX11_back_10 : decode cX11_back 10 = .ok (.getfield 33, 3) := by decide +kernel
theorem dX11_back_13 : decode cX11_back 13 = .ok (.sipush 455, 3) := by decide +kernel
theorem dX11_back_16 : decode cX11_back 16 = .ok (.iload_n 1, 1) := by decide +kernel
theorem dX11_back_17 : decode cX11_back 17 = .ok (.iadd, 1) := by decide +kernel
theorem dX11_back_18 : decode cX11_back 18 = .ok (.aload_n 0, 1) := by decide +kernel
theorem dX11_back_19 : decode cX11_back 19 = .ok (.getfield 50, 3) := by decide +kernel
theorem dX11_back_22 : decode cX11_back 22 = .ok (.iload_n 1, 1) := by decide +kernel
theorem dX11_back_23 : decode cX11_back 23 = .ok (.iaload, 1) := by decide +kernel
theorem dX11_back_24 : decode cX11_back 24 = .ok (.iastore, 1) := by decide +kernel
theorem dX11_back_25 : decode cX11_back 25 = .ok (.iinc 1 1, 3) := by decide +kernel
theorem dX11_back_28 : decode cX11_back 28 = .ok (.goto (-26), 3) := by decide +kernel
theorem dX11_back_31 : decode cX11_back 31 = .ok (.return_, 1) := by decide +kernel
theorem dX11_sureDay_0 : decode cX11_sureDay 0 = .ok (.aload_n 0, 1) := by decide +kernel
theorem dX11_sureDay_1 : decode cX11_sureDay 1 = .ok (.invokevirtual 317, 3) := by decide +kernel
theorem dX11_sureDay_4 : decode cX11_sureDay 4 = .ok (.aload_n 0, 1) := by decide +kernel
theorem dX11_sureDay_5 : decode cX11_sureDay 5 = .ok (.iconst 0, 1) := by decide +kernel
theorem dX11_sureDay_6 : decode cX11_sureDay 6 = .ok (.invokevirtual 248, 3) := by decide +kernel
theorem dX11_sureDay_9 : decode cX11_sureDay 9 = .ok (.aload_n 0, 1) := by decide +kernel
theorem dX11_sureDay_10 : decode cX11_sureDay 10 = .ok (.getfield 33, 3) := by decide +kernel
theorem dX11_sureDay_13 : decode cX11_sureDay 13 = .ok (.sipush 455, 3) := by decide +kernel
theorem dX11_sureDay_16 : decode cX11_sureDay 16 = .ok (.iaload, 1) := by decide +kernel
theorem dX11_sureDay_17 : decode cX11_sureDay 17 = .ok (.ifCond .ne 11, 3) := by decide +kernel
theorem dX11_sureDay_20 : decode cX11_sureDay 20 = .ok (.aload_n 0, 1) := by decide +kernel
theorem dX11_sureDay_21 : decode cX11_sureDay 21 = .ok (.iconst 1, 1) := by decide +kernel
theorem dX11_sureDay_22 : decode cX11_sureDay 22 = .ok (.invokevirtual 313, 3) := by decide +kernel
theorem dX11_sureDay_25 : decode cX11_sureDay 25 = .ok (.goto (-16), 3) := by decide +kernel
theorem dX11_sureDay_28 : decode cX11_sureDay 28 = .ok (.iconst 0, 1) := by decide +kernel
theorem dX11_sureDay_29 : decode cX11_sureDay 29 = .ok (.istore_n 1, 1) := by decide +kernel
theorem dX11_sureDay_30 : decode cX11_sureDay 30 = .ok (.iload_n 1, 1) := by decide +kernel
theorem dX11_sureDay_31 : decode cX11_sureDay 31 = .ok (.bipush 9, 2) := by decide +kernel
theorem dX11_sureDay_33 : decode cX11_sureDay 33 = .ok (.if_icmp .ge 25, 3) := by decide +kernel
theorem dX11_sureDay_36 : decode cX11_sureDay 36 = .ok (.aload_n 0, 1) := by decide +kernel
theorem dX11_sureDay_37 : decode cX11_sureDay 37 = .ok (.getfield 53, 3) := by decide +kernel
theorem dX11_sureDay_40 : decode cX11_sureDay 40 = .ok (.iload_n 1, 1) := by decide +kernel
theorem dX11_sureDay_41 : decode cX11_sureDay 41 = .ok (.aload_n 0, 1) := by decide +kernel
theorem dX11_sureDay_42 : decode cX11_sureDay 42 = .ok (.getfield 33, 3) := by decide +kernel
theorem dX11_sureDay_45 : decode cX11_sureDay 45 = .ok (.sipush 467, 3) := by decide +kernel
theorem dX11_sureDay_48 : decode cX11_sureDay 48 = .ok (.iload_n 1, 1) := by decide +kernel
theorem dX11_sureDay_49 : decode cX11_sureDay 49 = .ok (.iadd, 1) := by decide +kernel
theorem dX11_sureDay_50 : decode cX11_sureDay 50 = .ok (.iaload, 1) := by decide +kernel
theorem dX11_sureDay_51 : decode cX11_sureDay 51 = .ok (.iastore, 1) := by decide +kernel
theorem dX11_sureDay_52 : decode cX11_sureDay 52 = .ok (.iinc 1 1, 3) := by decide +kernel
theorem dX11_sureDay_55 : decode cX11_sureDay 55 = .ok (.goto (-25), 3) := by decide +kernel
theorem dX11_sureDay_58 : decode cX11_sureDay 58 = .ok (.aload_n 0, 1) := by decide +kernel
theorem dX11_sureDay_59 : decode cX11_sureDay 59 = .ok (.invokevirtual 320, 3) := by decide +kernel
theorem dX11_sureDay_62 : decode cX11_sureDay 62 = .ok (.return_, 1) := by decide +kernel
theorem dX11_sure_0 : decode cX11_sure 0 = .ok (.aload_n 0, 1) := by decide +kernel
theorem dX11_sure_1 : decode cX11_sure 1 = .ok (.iconst 0, 1) := by decide +kernel
theorem dX11_sure_2 : decode cX11_sure 2 = .ok (.putfield 1, 3) := by decide +kernel
theorem dX11_sure_5 : decode cX11_sure 5 = .ok (.aload_n 0, 1) := by decide +kernel
theorem dX11_sure_6 : decode cX11_sure 6 = .ok (.iload_n 1, 1) := by decide +kernel
theorem dX11_sure_7 : decode cX11_sure 7 = .ok (.invokevirtual 258, 3) := by decide +kernel
theorem dX11_sure_10 : decode cX11_sure 10 = .ok (.ifCond .ne 7, 3) := by decide +kernel
theorem dX11_sure_13 : decode cX11_sure 13 = .ok (.sipush (-10001), 3) := by decide +kernel
theorem dX11_sure_16 : decode cX11_sure 16 = .ok (.ireturn, 1) := by decide +kernel
theorem dX11_sure_17 : decode cX11_sure 17 = .ok (.aload_n 0, 1) := by decide +kernel
theorem dX11_sure_18 : decode cX11_sure 18 = .ok (.invokevirtual 323, 3) := by decide +kernel
theorem dX11_sure_21 : decode cX11_sure 21 = .ok (.aload_n 0, 1) := by decide +kernel
theorem dX11_sure_22 : decode cX11_sure 22 = .ok (.getfield 53, 3) := by decide +kernel
theorem dX11_sure_25 : decode cX11_sure 25 = .ok (.iload_n 1, 1) := by decide +kernel
theorem dX11_sure_26 : decode cX11_sure 26 = .ok (.iaload, 1) := by decide +kernel
theorem dX11_sure_27 : decode cX11_sure 27 = .ok (.ireturn, 1) := by decide +kernel
theorem dX11_gridOf_0 : decode cX11_gridOf 0 = .ok (.aload_n 0, 1) := by decide +kernel
theorem dX11_gridOf_1 : decode cX11_gridOf 1 = .ok (.getfield 33, 3) := by decide +kernel
theorem dX11_gridOf_4 : decode cX11_gridOf 4 = .ok (.sipush 427, 3) := by decide +kernel
theorem dX11_gridOf_7 : decode cX11_gridOf 7 = .ok (.iload_n 1, 1) := by decide +kernel
theorem dX11_gridOf_8 : decode cX11_gridOf 8 = .ok (.iadd, 1) := by decide +kernel
theorem dX11_gridOf_9 : decode cX11_gridOf 9 = .ok (.iaload, 1) := by decide +kernel
theorem dX11_gridOf_10 : decode cX11_gridOf 10 = .ok (.istore 4, 2) := by decide +kernel
theorem dX11_gridOf_12 : decode cX11_gridOf 12 = .ok (.aload_n 0, 1) := by decide +kernel
theorem dX11_gridOf_13 : decode cX11_gridOf 13 = .ok (.getfield 33, 3) := by decide +kernel
theorem dX11_gridOf_16 : decode cX11_gridOf 16 = .ok (.sipush 436, 3) := by decide +kernel
theorem dX11_gridOf_19 : decode cX11_gridOf 19 = .ok (.iload_n 1, 1) := by decide +kernel
theorem dX11_gridOf_20 : decode cX11_gridOf 20 = .ok (.iadd, 1) := by decide +kernel
theorem dX11_gridOf_21 : decode cX11_gridOf 21 = .ok (.iaload, 1) := by decide +kernel
theorem dX11_gridOf_22 : decode cX11_gridOf 22 = .ok (.istore 5, 2) := by decide +kernel
theorem dX11_gridOf_24 : decode cX11_gridOf 24 = .ok (.aload_n 0, 1) := by decide +kernel
theorem dX11_gridOf_25 : decode cX11_gridOf 25 = .ok (.getfield 33, 3) := by decide +kernel
theorem dX11_gridOf_28 : decode cX11_gridOf 28 = .ok (.sipush 427, 3) := by decide +kernel
theorem dX11_gridOf_31 : decode cX11_gridOf 31 = .ok (.iload_n 1, 1) := by decide +kernel
theorem dX11_gridOf_32 : decode cX11_gridOf 32 = .ok (.iadd, 1) := by decide +kernel
theorem dX11_gridOf_33 : decode cX11_gridOf 33 = .ok (.iload_n 2, 1) := by decide +kernel
theorem dX11_gridOf_34 : decode cX11_gridOf 34 = .ok (.iconst 1, 1) := by decide +kernel
theorem dX11_gridOf_35 : decode cX11_gridOf 35 = .ok (.iadd, 1) := by decide +kernel
theorem dX11_gridOf_36 : decode cX11_gridOf 36 = .ok (.iastore, 1) := by decide +kernel
theorem dX11_gridOf_37 : decode cX11_gridOf 37 = .ok (.aload_n 0, 1) := by decide +kernel
theorem dX11_gridOf_38 : decode cX11_gridOf 38 = .ok (.getfield 33, 3) := by decide +kernel
theorem dX11_gridOf_41 : decode cX11_gridOf 41 = .ok (.sipush 436, 3) := by decide +kernel
theorem dX11_gridOf_44 : decode cX11_gridOf 44 = .ok (.iload_n 1, 1) := by decide +kernel
theorem dX11_gridOf_45 : decode cX11_gridOf 45 = .ok (.iadd, 1) := by decide +kernel
theorem dX11_gridOf_46 : decode cX11_gridOf 46 = .ok (.iload_n 3, 1) := by decide +kernel
theorem dX11_gridOf_47 : decode cX11_gridOf 47 = .ok (.iastore, 1) := by decide +kernel
theorem dX11_gridOf_48 : decode cX11_gridOf 48 = .ok (.aload_n 0, 1) := by decide +kernel
theorem dX11_gridOf_49 : decode cX11_gridOf 49 = .ok (.invokevirtual 323, 3) := by decide +kernel
theorem dX11_gridOf_52 : decode cX11_gridOf 52 = .ok (.aload_n 0, 1) := by decide +kernel
theorem dX11_gridOf_53 : decode cX11_gridOf 53 = .ok (.getfield 33, 3) := by decide +kernel
theorem dX11_gridOf_56 : decode cX11_gridOf 56 = .ok (.sipush 427, 3) := by decide +kernel
theorem dX11_gridOf_59 : decode cX11_gridOf 59 = .ok (.iload_n 1, 1) := by decide +kernel
theorem dX11_gridOf_60 : decode cX11_gridOf 60 = .ok (.iadd, 1) := by decide +kernel
theorem dX11_gridOf_61 : decode cX11_gridOf 61 = .ok (.iload 4, 2) := by decide +kernel
theorem dX11_gridOf_63 : decode cX11_gridOf 63 = .ok (.iastore, 1) := by decide +kernel
theorem dX11_gridOf_64 : decode cX11_gridOf 64 = .ok (.aload_n 0, 1) := by decide +kernel
theorem dX11_gridOf_65 : decode cX11_gridOf 65 = .ok (.getfield 33, 3) := by decide +kernel
theorem dX11_gridOf_68 : decode cX11_gridOf 68 = .ok (.sipush 436, 3) := by decide +kernel
theorem dX11_gridOf_71 : decode cX11_gridOf 71 = .ok (.iload_n 1, 1) := by decide +kernel
theorem dX11_gridOf_72 : decode cX11_gridOf 72 = .ok (.iadd, 1) := by decide +kernel
theorem dX11_gridOf_73 : decode cX11_gridOf 73 = .ok (.iload 5, 2) := by decide +kernel
theorem dX11_gridOf_75 : decode cX11_gridOf 75 = .ok (.iastore, 1) := by decide +kernel
theorem dX11_gridOf_76 : decode cX11_gridOf 76 = .ok (.aload_n 0, 1) := by decide +kernel
theorem dX11_gridOf_77 : decode cX11_gridOf 77 = .ok (.getfield 53, 3) := by decide +kernel
theorem dX11_gridOf_80 : decode cX11_gridOf 80 = .ok (.iload_n 1, 1) := by decide +kernel
theorem dX11_gridOf_81 : decode cX11_gridOf 81 = .ok (.iaload, 1) := by decide +kernel
theorem dX11_gridOf_82 : decode cX11_gridOf 82 = .ok (.ireturn, 1) := by decide +kernel
theorem dX11_grid_0 : decode cX11_grid 0 = .ok (.aload_n 0, 1) := by decide +kernel
theorem dX11_grid_1 : decode cX11_grid 1 = .ok (.iconst 0, 1) := by decide +kernel
theorem dX11_grid_2 : decode cX11_grid 2 = .ok (.putfield 1, 3) := by decide +kernel
theorem dX11_grid_5 : decode cX11_grid 5 = .ok (.aload_n 0, 1) := by decide +kernel
theorem dX11_grid_6 : decode cX11_grid 6 = .ok (.iload_n 1, 1) := by decide +kernel
theorem dX11_grid_7 : decode cX11_grid 7 = .ok (.invokevirtual 258, 3) := by decide +kernel
theorem dX11_grid_10 : decode cX11_grid 10 = .ok (.ifCond .eq 33, 3) := by decide +kernel
theorem dX11_grid_13 : decode cX11_grid 13 = .ok (.iload_n 2, 1) := by decide +kernel
theorem dX11_grid_14 : decode cX11_grid 14 = .ok (.iconst 0, 1) := by decide +kernel
theorem dX11_grid_15 : decode cX11_grid 15 = .ok (.bipush 18, 2) := by decide +kernel
theorem dX11_grid_17 : decode cX11_grid 17 = .ok (.invokestatic 194, 3) := by decide +kernel
theorem dX11_grid_20 : decode cX11_grid 20 = .ok (.ifCond .eq 23, 3) := by decide +kernel
theorem dX11_grid_23 : decode cX11_grid 23 = .ok (.iload_n 3, 1) := by decide +kernel
theorem dX11_grid_24 : decode cX11_grid 24 = .ok (.iconst 0, 1) := by decide +kernel
theorem dX11_grid_25 : decode cX11_grid 25 = .ok (.bipush 99, 2) := by decide +kernel
theorem dX11_grid_27 : decode cX11_grid 27 = .ok (.invokestatic 194, 3) := by decide +kernel
theorem dX11_grid_30 : decode cX11_grid 30 = .ok (.ifCond .eq 13, 3) := by decide +kernel
theorem dX11_grid_33 : decode cX11_grid 33 = .ok (.aload_n 0, 1) := by decide +kernel
theorem dX11_grid_34 : decode cX11_grid 34 = .ok (.iload_n 1, 1) := by decide +kernel
theorem dX11_grid_35 : decode cX11_grid 35 = .ok (.iload_n 2, 1) := by decide +kernel
theorem dX11_grid_36 : decode cX11_grid 36 = .ok (.iload_n 3, 1) := by decide +kernel
theorem dX11_grid_37 : decode cX11_grid 37 = .ok (.invokevirtual 326, 3) := by decide +kernel
theorem dX11_grid_40 : decode cX11_grid 40 = .ok (.goto 6, 3) := by decide +kernel
theorem dX11_grid_43 : decode cX11_grid 43 = .ok (.sipush (-10001), 3) := by decide +kernel
theorem dX11_grid_46 : decode cX11_grid 46 = .ok (.ireturn, 1) := by decide +kernel
theorem dX11_best_0 : decode cX11_best 0 = .ok (.aload_n 0, 1) := by decide +kernel
theorem dX11_best_1 : decode cX11_best 1 = .ok (.iconst 0, 1) := by decide +kernel
theorem dX11_best_2 : decode cX11_best 2 = .ok (.putfield 1, 3) := by decide +kernel
theorem dX11_best_5 : decode cX11_best 5 = .ok (.aload_n 0, 1) := by decide +kernel
theorem dX11_best_6 : decode cX11_best 6 = .ok (.iload_n 1, 1) := by decide +kernel
theorem dX11_best_7 : decode cX11_best 7 = .ok (.invokevirtual 258, 3) := by decide +kernel
theorem dX11_best_10 : decode cX11_best 10 = .ok (.ifCond .ne 5, 3) := by decide +kernel
theorem dX11_best_13 : decode cX11_best 13 = .ok (.iconst (-1), 1) := by decide +kernel
theorem dX11_best_14 : decode cX11_best 14 = .ok (.ireturn, 1) := by decide +kernel
theorem dX11_best_15 : decode cX11_best 15 = .ok (.iconst (-1), 1) := by decide +kernel
theorem dX11_best_16 : decode cX11_best 16 = .ok (.istore_n 2, 1) := by decide +kernel
theorem dX11_best_17 : decode cX11_best 17 = .ok (.iconst 0, 1) := by decide +kernel
theorem dX11_best_18 : decode cX11_best 18 = .ok (.istore_n 3, 1) := by decide +kernel
theorem dX11_best_19 : decode cX11_best 19 = .ok (.iconst 0, 1) := by decide +kernel
theorem dX11_best_20 : decode cX11_best 20 = .ok (.istore 4, 2) := by decide +kernel
theorem dX11_best_22 : decode cX11_best 22 = .ok (.iload 4, 2) := by decide +kernel
theorem dX11_best_24 : decode cX11_best 24 = .ok (.bipush 20, 2) := by decide +kernel
theorem dX11_best_26 : decode cX11_best 26 = .ok (.if_icmp .gt 61, 3) := by decide +kernel
theorem dX11_best_29 : decode cX11_best 29 = .ok (.iconst 0, 1) := by decide +kernel
theorem dX11_best_30 : decode cX11_best 30 = .ok (.istore 5, 2) := by decide +kernel
theorem dX11_best_32 : decode cX11_best 32 = .ok (.iload 5, 2) := by decide +kernel
theorem dX11_best_34 : decode cX11_best 34 = .ok (.bipush 12, 2) := by decide +kernel
theorem dX11_best_36 : decode cX11_best 36 = .ok (.if_icmp .gt 45, 3) := by decide +kernel
theorem dX11_best_39 : decode cX11_best 39 = .ok (.aload_n 0, 1) := by decide +kernel
theorem dX11_best_40 : decode cX11_best 40 = .ok (.iload_n 1, 1) := by decide +kernel
theorem dX11_best_41 : decode cX11_best 41 = .ok (.iload 5, 2) := by decide +kernel
theorem dX11_best_43 : decode cX11_best 43 = .ok (.iload 4, 2) := by decide +kernel
theorem dX11_best_45 : decode cX11_best 45 = .ok (.invokevirtual 326, 3) := by decide +kernel
theorem dX11_best_48 : decode cX11_best 48 = .ok (.istore 6, 2) := by decide +kernel
theorem dX11_best_50 : decode cX11_best 50 = .ok (.iload_n 2, 1) := by decide +kernel
theorem dX11_best_51 : decode cX11_best 51 = .ok (.ifCond .lt 12, 3) := by decide +kernel
theorem dX11_best_54 : decode cX11_best 54 = .ok (.iload 6, 2) := by decide +kernel
theorem dX11_best_56 : decode cX11_best 56 = .ok (.iload_n 3, 1) := by decide +kernel
theorem dX11_best_57 : decode cX11_best 57 = .ok (.if_icmp .gt 6, 3) := by decide +kernel
theorem dX11_best_60 : decode cX11_best 60 = .ok (.goto 15, 3) := by decide +kernel
theorem dX11_best_63 : decode cX11_best 63 = .ok (.iload 6, 2) := by decide +kernel
theorem dX11_best_65 : decode cX11_best 65 = .ok (.istore_n 3, 1) := by decide +kernel
theorem dX11_best_66 : decode cX11_best 66 = .ok (.bipush 100, 2) := by decide +kernel
theorem dX11_best_68 : decode cX11_best 68 = .ok (.iload 5, 2) := by decide +kernel
theorem dX11_best_70 : decode cX11_best 70 = .ok (.imul, 1) := by decide +kernel
theorem dX11_best_71 : decode cX11_best 71 = .ok (.iload 4, 2) := by decide +kernel
theorem dX11_best_73 : decode cX11_best 73 = .ok (.iadd, 1) := by decide +kernel
theorem dX11_best_74 : decode cX11_best 74 = .ok (.istore_n 2, 1) := by decide +kernel
theorem dX11_best_75 : decode cX11_best 75 = .ok (.iinc 5 1, 3) := by decide +kernel
theorem dX11_best_78 : decode cX11_best 78 = .ok (.goto (-46), 3) := by decide +kernel
theorem dX11_best_81 : decode cX11_best 81 = .ok (.iinc 4 1, 3) := by decide +kernel
theorem dX11_best_84 : decode cX11_best 84 = .ok (.goto (-62), 3) := by decide +kernel
theorem dX11_best_87 : decode cX11_best 87 = .ok (.iload_n 2, 1) := by decide +kernel
theorem dX11_best_88 : decode cX11_best 88 = .ok (.ireturn, 1) := by decide +kernel
theorem dX11_days_0 : decode cX11_days 0 = .ok (.aload_n 0, 1) := by decide +kernel
theorem dX11_days_1 : decode cX11_days 1 = .ok (.iconst 0, 1) := by decide +kernel
theorem dX11_days_2 : decode cX11_days 2 = .ok (.putfield 1, 3) := by decide +kernel
theorem dX11_days_5 : decode cX11_days 5 = .ok (.aload_n 0, 1) := by decide +kernel
theorem dX11_days_6 : decode cX11_days 6 = .ok (.sipush 940, 3) := by decide +kernel
theorem dX11_days_9 : decode cX11_days 9 = .ok (.invokevirtual 236, 3) := by decide +kernel
theorem dX11_days_12 : decode cX11_days 12 = .ok (.iload_n 1, 1) := by decide +kernel
theorem dX11_days_13 : decode cX11_days 13 = .ok (.iconst 0, 1) := by decide +kernel
theorem dX11_days_14 : decode cX11_days 14 = .ok (.sipush 9999, 3) := by decide +kernel
theorem dX11_days_17 : decode cX11_days 17 = .ok (.invokestatic 194, 3) := by decide +kernel
theorem dX11_days_20 : decode cX11_days 20 = .ok (.ifCond .eq 16, 3) := by decide +kernel
theorem dX11_days_23 : decode cX11_days 23 = .ok (.aload_n 0, 1) := by decide +kernel
theorem dX11_days_24 : decode cX11_days 24 = .ok (.getfield 18, 3) := by decide +kernel
theorem dX11_days_27 : decode cX11_days 27 = .ok (.iconst 4, 1) := by decide +kernel
theorem dX11_days_28 : decode cX11_days 28 = .ok (.bipush 12, 2) := by decide +kernel
theorem dX11_days_30 : decode cX11_days 30 = .ok (.invokestatic 194, 3) := by decide +kernel
theorem dX11_days_33 : decode cX11_days 33 = .ok (.ifCond .ne 5, 3) := by decide +kernel
theorem dX11_days_36 : decode cX11_days 36 = .ok (.iconst (-1), 1) := by decide +kernel
theorem dX11_days_37 : decode cX11_days 37 = .ok (.ireturn, 1) := by decide +kernel
theorem dX11_days_38 : decode cX11_days 38 = .ok (.aload_n 0, 1) := by decide +kernel
theorem dX11_days_39 : decode cX11_days 39 = .ok (.getfield 18, 3) := by decide +kernel
theorem dX11_days_42 : decode cX11_days 42 = .ok (.iconst 3, 1) := by decide +kernel
theorem dX11_days_43 : decode cX11_days 43 = .ok (.isub, 1) := by decide +kernel
theorem dX11_days_44 : decode cX11_days 44 = .ok (.istore_n 2, 1) := by decide +kernel
theorem dX11_days_45 : decode cX11_days 45 = .ok (.aload_n 0, 1) := by decide +kernel
theorem dX11_days_46 : decode cX11_days 46 = .ok (.getfield 59, 3) := by decide +kernel
theorem dX11_days_49 : decode cX11_days 49 = .ok (.iconst 0, 1) := by decide +kernel
theorem dX11_days_50 : decode cX11_days 50 = .ok (.iconst 0, 1) := by decide +kernel
theorem dX11_days_51 : decode cX11_days 51 = .ok (.iastore, 1) := by decide +kernel
theorem dX11_days_52 : decode cX11_days 52 = .ok (.iconst 0, 1) := by decide +kernel
theorem dX11_days_53 : decode cX11_days 53 = .ok (.istore_n 3, 1) := by decide +kernel
theorem dX11_days_54 : decode cX11_days 54 = .ok (.iload_n 3, 1) := by decide +kernel
theorem dX11_days_55 : decode cX11_days 55 = .ok (.iload_n 2, 1) := by decide +kernel
theorem dX11_days_56 : decode cX11_days 56 = .ok (.if_icmp .ge 31, 3) := by decide +kernel
theorem dX11_days_59 : decode cX11_days 59 = .ok (.aload_n 0, 1) := by decide +kernel
theorem dX11_days_60 : decode cX11_days 60 = .ok (.getfield 59, 3) := by decide +kernel
theorem dX11_days_63 : decode cX11_days 63 = .ok (.iload_n 3, 1) := by decide +kernel
theorem dX11_days_64 : decode cX11_days 64 = .ok (.iconst 1, 1) := by decide +kernel
theorem dX11_days_65 : decode cX11_days 65 = .ok (.iadd, 1) := by decide +kernel
theorem dX11_days_66 : decode cX11_days 66 = .ok (.aload_n 0, 1) := by decide +kernel
theorem dX11_days_67 : decode cX11_days 67 = .ok (.getfield 59, 3) := by decide +kernel
theorem dX11_days_70 : decode cX11_days 70 = .ok (.iload_n 3, 1) := by decide +kernel
theorem dX11_days_71 : decode cX11_days 71 = .ok (.iaload, 1) := by decide +kernel
theorem dX11_days_72 : decode cX11_days 72 = .ok (.aload_n 0, 1) := by decide +kernel
theorem dX11_days_73 : decode cX11_days 73 = .ok (.iconst 3, 1) := by decide +kernel
theorem dX11_days_74 : decode cX11_days 74 = .ok (.iload_n 3, 1) := by decide +kernel
theorem dX11_days_75 : decode cX11_days 75 = .ok (.iadd, 1) := by decide +kernel
theorem dX11_days_76 : decode cX11_days 76 = .ok (.invokevirtual 330, 3) := by decide +kernel
theorem dX11_days_79 : decode cX11_days 79 = .ok (.iadd, 1) := by decide +kernel
theorem dX11_days_80 : decode cX11_days 80 = .ok (.iastore, 1) := by decide +kernel
theorem dX11_days_81 : decode cX11_days 81 = .ok (.iinc 3 1, 3) := by decide +kernel
theorem dX11_days_84 : decode cX11_days 84 = .ok (.goto (-30), 3) := by decide +kernel
theorem dX11_days_87 : decode cX11_days 87 = .ok (.iconst (-1), 1) := by decide +kernel
theorem dX11_days_88 : decode cX11_days 88 = .ok (.istore_n 3, 1) := by decide +kernel
theorem dX11_days_89 : decode cX11_days 89 = .ok (.iconst 0, 1) := by decide +kernel
theorem dX11_days_90 : decode cX11_days 90 = .ok (.istore 4, 2) := by decide +kernel
theorem dX11_days_92 : decode cX11_days 92 = .ok (.iload 4, 2) := by decide +kernel
theorem dX11_days_94 : decode cX11_days 94 = .ok (.iload_n 2, 1) := by decide +kernel
theorem dX11_days_95 : decode cX11_days 95 = .ok (.if_icmp .gt 151, 3) := by decide +kernel
theorem dX11_days_98 : decode cX11_days 98 = .ok (.iconst 0, 1) := by decide +kernel
theorem dX11_days_99 : decode cX11_days 99 = .ok (.istore 5, 2) := by decide +kernel
theorem dX11_days_101 : decode cX11_days 101 = .ok (.iload 5, 2) := by decide +kernel
theorem dX11_days_103 : decode cX11_days 103 = .ok (.iload_n 2, 1) := by decide +kernel
theorem dX11_days_104 : decode cX11_days 104 = .ok (.if_icmp .gt 136, 3) := by decide +kernel
theorem dX11_days_107 : decode cX11_days 107 = .ok (.iconst 0, 1) := by decide +kernel
theorem dX11_days_108 : decode cX11_days 108 = .ok (.istore 6, 2) := by decide +kernel
theorem dX11_days_110 : decode cX11_days 110 = .ok (.iload 6, 2) := by decide +kernel
theorem dX11_days_112 : decode cX11_days 112 = .ok (.iload_n 2, 1) := by decide +kernel
theorem dX11_days_113 : decode cX11_days 113 = .ok (.if_icmp .gt 121, 3) := by decide +kernel
theorem dX11_days_116 : decode cX11_days 116 = .ok (.aload_n 0, 1) := by decide +kernel
theorem dX11_days_117 : decode cX11_days 117 = .ok (.iconst 0, 1) := by decide +kernel
theorem dX11_days_118 : decode cX11_days 118 = .ok (.invokevirtual 330, 3) := by decide +kernel
theorem dX11_days_121 : decode cX11_days 121 = .ok (.iload 4, 2) := by decide +kernel
theorem dX11_days_123 : decode cX11_days 123 = .ok (.imul, 1) := by decide +kernel
theorem dX11_days_124 : decode cX11_days 124 = .ok (.aload_n 0, 1) := by decide +kernel
theorem dX11_days_125 : decode cX11_days 125 = .ok (.iconst 1, 1) := by decide +kernel
theorem dX11_days_126 : decode cX11_days 126 = .ok (.invokevirtual 330, 3) := by decide +kernel
theorem dX11_days_129 : decode cX11_days 129 = .ok (.iload 5, 2) := by decide +kernel
theorem dX11_days_131 : decode cX11_days 131 = .ok (.imul, 1) := by decide +kernel
theorem dX11_days_132 : decode cX11_days 132 = .ok (.iadd, 1) := by decide +kernel
theorem dX11_days_133 : decode cX11_days 133 = .ok (.aload_n 0, 1) := by decide +kernel
theorem dX11_days_134 : decode cX11_days 134 = .ok (.iconst 2, 1) := by decide +kernel
theorem dX11_days_135 : decode cX11_days 135 = .ok (.invokevirtual 330, 3) := by decide +kernel
theorem dX11_days_138 : decode cX11_days 138 = .ok (.iload 6, 2) := by decide +kernel
theorem dX11_days_140 : decode cX11_days 140 = .ok (.imul, 1) := by decide +kernel
theorem dX11_days_141 : decode cX11_days 141 = .ok (.iadd, 1) := by decide +kernel
theorem dX11_days_142 : decode cX11_days 142 = .ok (.iload_n 1, 1) := by decide +kernel
theorem dX11_days_143 : decode cX11_days 143 = .ok (.if_icmp .le 6, 3) := by decide +kernel
theorem dX11_days_146 : decode cX11_days 146 = .ok (.goto 82, 3) := by decide +kernel
theorem dX11_days_149 : decode cX11_days 149 = .ok (.aload_n 0, 1) := by decide +kernel
theorem dX11_days_150 : decode cX11_days 150 = .ok (.iconst 0, 1) := by decide +kernel
theorem dX11_days_151 : decode cX11_days 151 = .ok (.invokevirtual 330, 3) := by decide +kernel
theorem dX11_days_154 : decode cX11_days 154 = .ok (.aload_n 0, 1) := by decide +kernel
theorem dX11_days_155 : decode cX11_days 155 = .ok (.getfield 59, 3) := by decide +kernel
theorem dX11_days_158 : decode cX11_days 158 = .ok (.iload 4, 2) := by decide +kernel
theorem dX11_days_160 : decode cX11_days 160 = .ok (.iaload, 1) := by decide +kernel
theorem dX11_days_161 : decode cX11_days 161 = .ok (.imul, 1) := by decide +kernel
theorem dX11_days_162 : decode cX11_days 162 = .ok (.aload_n 0, 1) := by decide +kernel
theorem dX11_days_163 : decode cX11_days 163 = .ok (.iconst 1, 1) := by decide +kernel
theorem dX11_days_164 : decode cX11_days 164 = .ok (.invokevirtual 330, 3) := by decide +kernel
theorem dX11_days_167 : decode cX11_days 167 = .ok (.aload_n 0, 1) := by decide +kernel
theorem dX11_days_168 : decode cX11_days 168 = .ok (.getfield 59, 3) := by decide +kernel
theorem dX11_days_171 : decode cX11_days 171 = .ok (.iload 5, 2) := by decide +kernel
theorem dX11_days_173 : decode cX11_days 173 = .ok (.iaload, 1) := by decide +kernel
theorem dX11_days_174 : decode cX11_days 174 = .ok (.imul, 1) := by decide +kernel
theorem dX11_days_175 : decode cX11_days 175 = .ok (.iadd, 1) := by decide +kernel
theorem dX11_days_176 : decode cX11_days 176 = .ok (.aload_n 0, 1) := by decide +kernel
theorem dX11_days_177 : decode cX11_days 177 = .ok (.iconst 2, 1) := by decide +kernel
theorem dX11_days_178 : decode cX11_days 178 = .ok (.invokevirtual 330, 3) := by decide +kernel
theorem dX11_days_181 : decode cX11_days 181 = .ok (.aload_n 0, 1) := by decide +kernel
theorem dX11_days_182 : decode cX11_days 182 = .ok (.getfield 59, 3) := by decide +kernel
theorem dX11_days_185 : decode cX11_days 185 = .ok (.iload 6, 2) := by decide +kernel
theorem dX11_days_187 : decode cX11_days 187 = .ok (.iaload, 1) := by decide +kernel
theorem dX11_days_188 : decode cX11_days 188 = .ok (.imul, 1) := by decide +kernel
theorem dX11_days_189 : decode cX11_days 189 = .ok (.iadd, 1) := by decide +kernel
theorem dX11_days_190 : decode cX11_days 190 = .ok (.istore 7, 2) := by decide +kernel
theorem dX11_days_192 : decode cX11_days 192 = .ok (.iload 7, 2) := by decide +kernel
theorem dX11_days_194 : decode cX11_days 194 = .ok (.iload_n 3, 1) := by decide +kernel
theorem dX11_days_195 : decode cX11_days 195 = .ok (.if_icmp .gt 6, 3) := by decide +kernel
theorem dX11_days_198 : decode cX11_days 198 = .ok (.goto 30, 3) := by decide +kernel
theorem dX11_days_201 : decode cX11_days 201 = .ok (.iload 7, 2) := by decide +kernel
theorem dX11_days_203 : decode cX11_days 203 = .ok (.istore_n 3, 1) := by decide +kernel
theorem dX11_days_204 : decode cX11_days 204 = .ok (.aload_n 0, 1) := by decide +kernel
theorem dX11_days_205 : decode cX11_days 205 = .ok (.getfield 56, 3) := by decide +kernel
theorem dX11_days_208 : decode cX11_days 208 = .ok (.iconst 0, 1) := by decide +kernel
theorem dX11_days_209 : decode cX11_days 209 = .ok (.iload 4, 2) := by decide +kernel
theorem dX11_days_211 : decode cX11_days 211 = .ok (.iastore, 1) := by decide +kernel
theorem dX11_days_212 : decode cX11_days 212 = .ok (.aload_n 0, 1) := by decide +kernel
theorem dX11_days_213 : decode cX11_days 213 = .ok (.getfield 56, 3) := by decide +kernel
theorem dX11_days_216 : decode cX11_days 216 = .ok (.iconst 1, 1) := by decide +kernel
theorem dX11_days_217 : decode cX11_days 217 = .ok (.iload 5, 2) := by decide +kernel
theorem dX11_days_219 : decode cX11_days 219 = .ok (.iastore, 1) := by decide +kernel
theorem dX11_days_220 : decode cX11_days 220 = .ok (.aload_n 0, 1) := by decide +kernel
theorem dX11_days_221 : decode cX11_days 221 = .ok (.getfield 56, 3) := by decide +kernel
theorem dX11_days_224 : decode cX11_days 224 = .ok (.iconst 2, 1) := by decide +kernel
theorem dX11_days_225 : decode cX11_days 225 = .ok (.iload 6, 2) := by decide +kernel
theorem dX11_days_227 : decode cX11_days 227 = .ok (.iastore, 1) := by decide +kernel
theorem dX11_days_228 : decode cX11_days 228 = .ok (.iinc 6 1, 3) := by decide +kernel
theorem dX11_days_231 : decode cX11_days 231 = .ok (.goto (-121), 3) := by decide +kernel
theorem dX11_days_234 : decode cX11_days 234 = .ok (.iinc 5 1, 3) := by decide +kernel
theorem dX11_days_237 : decode cX11_days 237 = .ok (.goto (-136), 3) := by decide +kernel
theorem dX11_days_240 : decode cX11_days 240 = .ok (.iinc 4 1, 3) := by decide +kernel
theorem dX11_days_243 : decode cX11_days 243 = .ok (.goto (-151), 3) := by decide +kernel
theorem dX11_days_246 : decode cX11_days 246 = .ok (.aload_n 0, 1) := by decide +kernel
theorem dX11_days_247 : decode cX11_days 247 = .ok (.iconst 1, 1) := by decide +kernel
theorem dX11_days_248 : decode cX11_days 248 = .ok (.putfield 333, 3) := by decide +kernel
theorem dX11_days_251 : decode cX11_days 251 = .ok (.iload_n 3, 1) := by decide +kernel
theorem dX11_days_252 : decode cX11_days 252 = .ok (.ireturn, 1) := by decide +kernel
theorem dX11_rows_0 : decode cX11_rows 0 = .ok (.aload_n 0, 1) := by decide +kernel
theorem dX11_rows_1 : decode cX11_rows 1 = .ok (.iconst 0, 1) := by decide +kernel
theorem dX11_rows_2 : decode cX11_rows 2 = .ok (.putfield 1, 3) := by decide +kernel
theorem dX11_rows_5 : decode cX11_rows 5 = .ok (.aload_n 0, 1) := by decide +kernel
theorem dX11_rows_6 : decode cX11_rows 6 = .ok (.getfield 333, 3) := by decide +kernel
theorem dX11_rows_9 : decode cX11_rows 9 = .ok (.ifCond .eq 21, 3) := by decide +kernel
theorem dX11_rows_12 : decode cX11_rows 12 = .ok (.iload_n 1, 1) := by decide +kernel
theorem dX11_rows_13 : decode cX11_rows 13 = .ok (.iconst 0, 1) := by decide +kernel
theorem dX11_rows_14 : decode cX11_rows 14 = .ok (.iconst 2, 1) := by decide +kernel
theorem dX11_rows_15 : decode cX11_rows 15 = .ok (.invokestatic 194, 3) := by decide +kernel
theorem dX11_rows_18 : decode cX11_rows 18 = .ok (.ifCond .eq 12, 3) := by decide +kernel
theorem dX11_rows_21 : decode cX11_rows 21 = .ok (.aload_n 0, 1) := by decide +kernel
theorem dX11_rows_22 : decode cX11_rows 22 = .ok (.getfield 56, 3) := by decide +kernel
theorem dX11_rows_25 : decode cX11_rows 25 = .ok (.iload_n 1, 1) := by decide +kernel
theorem dX11_rows_26 : decode cX11_rows 26 = .ok (.iaload, 1) := by decide +kernel
theorem dX11_rows_27 : decode cX11_rows 27 = .ok (.goto 4, 3) := by decide +kernel
theorem dX11_rows_30 : decode cX11_rows 30 = .ok (.iconst (-1), 1) := by decide +kernel
theorem dX11_rows_31 : decode cX11_rows 31 = .ok (.ireturn, 1) := by decide +kernel
theorem dX11_stands_0 : decode cX11_stands 0 = .ok (.iconst 0, 1) := by decide +kernel
theorem dX11_stands_1 : decode cX11_stands 1 = .ok (.istore_n 2, 1) := by decide +kernel
theorem dX11_stands_2 : decode cX11_stands 2 = .ok (.iload_n 2, 1) := by decide +kernel
theorem dX11_stands_3 : decode cX11_stands 3 = .ok (.bipush 9, 2) := by decide +kernel
theorem dX11_stands_5 : decode cX11_stands 5 = .ok (.if_icmp .ge 52, 3) := by decide +kernel
theorem dX11_stands_8 : decode cX11_stands 8 = .ok (.aload_n 0, 1) := by decide +kernel
theorem dX11_stands_9 : decode cX11_stands 9 = .ok (.getfield 62, 3) := by decide +kernel
theorem dX11_stands_12 : decode cX11_stands 12 = .ok (.iload_n 2, 1) := by decide +kernel
theorem dX11_stands_13 : decode cX11_stands 13 = .ok (.aload_n 0, 1) := by decide +kernel
theorem dX11_stands_14 : decode cX11_stands 14 = .ok (.getfield 33, 3) := by decide +kernel
theorem dX11_stands_17 : decode cX11_stands 17 = .ok (.bipush 11, 2) := by decide +kernel
theorem dX11_stands_19 : decode cX11_stands 19 = .ok (.iload_n 2, 1) := by decide +kernel
theorem dX11_stands_20 : decode cX11_stands 20 = .ok (.iadd, 1) := by decide +kernel
theorem dX11_stands_21 : decode cX11_stands 21 = .ok (.iaload, 1) := by decide +kernel
theorem dX11_stands_22 : decode cX11_stands 22 = .ok (.iastore, 1) := by decide +kernel
theorem dX11_stands_23 : decode cX11_stands 23 = .ok (.iload_n 1, 1) := by decide +kernel
theorem dX11_stands_24 : decode cX11_stands 24 = .ok (.iload_n 2, 1) := by decide +kernel
theorem dX11_stands_25 : decode cX11_stands 25 = .ok (.invokestatic 336, 3) := by decide +kernel
theorem dX11_stands_28 : decode cX11_stands 28 = .ok (.ifCond .eq 23, 3) := by decide +kernel
theorem dX11_stands_31 : decode cX11_stands 31 = .ok (.aload_n 0, 1) := by decide +kernel
theorem dX11_stands_32 : decode cX11_stands 32 = .ok (.getfield 33, 3) := by decide +kernel
theorem dX11_stands_35 : decode cX11_stands 35 = .ok (.bipush 11, 2) := by decide +kernel
theorem dX11_stands_37 : decode cX11_stands 37 = .ok (.iload_n 2, 1) := by decide +kernel
theorem dX11_stands_38 : decode cX11_stands 38 = .ok (.iadd, 1) := by decide +kernel
theorem dX11_stands_39 : decode cX11_stands 39 = .ok (.aload_n 0, 1) := by decide +kernel
theorem dX11_stands_40 : decode cX11_stands 40 = .ok (.getfield 33, 3) := by decide +kernel
theorem dX11_stands_43 : decode cX11_stands 43 = .ok (.bipush 38, 2) := by decide +kernel
theorem dX11_stands_45 : decode cX11_stands 45 = .ok (.iload_n 2, 1) := by decide +kernel
theorem dX11_stands_46 : decode cX11_stands 46 = .ok (.iadd, 1) := by decide +kernel
theorem dX11_stands_47 : decode cX11_stands 47 = .ok (.iaload, 1) := by decide +kernel
theorem dX11_stands_48 : decode cX11_stands 48 = .ok (.iconst 1, 1) := by decide +kernel
theorem dX11_stands_49 : decode cX11_stands 49 = .ok (.isub, 1) := by decide +kernel
theorem dX11_stands_50 : decode cX11_stands 50 = .ok (.iastore, 1) := by decide +kernel
theorem dX11_stands_51 : decode cX11_stands 51 = .ok (.iinc 2 1, 3) := by decide +kernel
theorem dX11_stands_54 : decode cX11_stands 54 = .ok (.goto (-52), 3) := by decide +kernel
theorem dX11_stands_57 : decode cX11_stands 57 = .ok (.aload_n 0, 1) := by decide +kernel
theorem dX11_stands_58 : decode cX11_stands 58 = .ok (.invokevirtual 323, 3) := by decide +kernel
theorem dX11_stands_61 : decode cX11_stands 61 = .ok (.iconst 0, 1) := by decide +kernel
theorem dX11_stands_62 : decode cX11_stands 62 = .ok (.istore_n 2, 1) := by decide +kernel
theorem dX11_stands_63 : decode cX11_stands 63 = .ok (.iload_n 2, 1) := by decide +kernel
theorem dX11_stands_64 : decode cX11_stands 64 = .ok (.bipush 9, 2) := by decide +kernel
theorem dX11_stands_66 : decode cX11_stands 66 = .ok (.if_icmp .ge 24, 3) := by decide +kernel
theorem dX11_stands_69 : decode cX11_stands 69 = .ok (.aload_n 0, 1) := by decide +kernel
theorem dX11_stands_70 : decode cX11_stands 70 = .ok (.getfield 33, 3) := by decide +kernel
theorem dX11_stands_73 : decode cX11_stands 73 = .ok (.bipush 11, 2) := by decide +kernel
theorem dX11_stands_75 : decode cX11_stands 75 = .ok (.iload_n 2, 1) := by decide +kernel
theorem dX11_stands_76 : decode cX11_stands 76 = .ok (.iadd, 1) := by decide +kernel
theorem dX11_stands_77 : decode cX11_stands 77 = .ok (.aload_n 0, 1) := by decide +kernel
theorem dX11_stands_78 : decode cX11_stands 78 = .ok (.getfield 62, 3) := by decide +kernel
theorem dX11_stands_81 : decode cX11_stands 81 = .ok (.iload_n 2, 1) := by decide +kernel
theorem dX11_stands_82 : decode cX11_stands 82 = .ok (.iaload, 1) := by decide +kernel
theorem dX11_stands_83 : decode cX11_stands 83 = .ok (.iastore, 1) := by decide +kernel
theorem dX11_stands_84 : decode cX11_stands 84 = .ok (.iinc 2 1, 3) := by decide +kernel
theorem dX11_stands_87 : decode cX11_stands 87 = .ok (.goto (-24), 3) := by decide +kernel
theorem dX11_stands_90 : decode cX11_stands 90 = .ok (.return_, 1) := by decide +kernel
theorem dX11_spotters_0 : decode cX11_spotters 0 = .ok (.iconst 0, 1) := by decide +kernel
theorem dX11_spotters_1 : decode cX11_spotters 1 = .ok (.istore_n 1, 1) := by decide +kernel
theorem dX11_spotters_2 : decode cX11_spotters 2 = .ok (.iconst 0, 1) := by decide +kernel
theorem dX11_spotters_3 : decode cX11_spotters 3 = .ok (.istore_n 2, 1) := by decide +kernel
theorem dX11_spotters_4 : decode cX11_spotters 4 = .ok (.iload_n 2, 1) := by decide +kernel
theorem dX11_spotters_5 : decode cX11_spotters 5 = .ok (.aload_n 0, 1) := by decide +kernel
theorem dX11_spotters_6 : decode cX11_spotters 6 = .ok (.getfield 33, 3) := by decide +kernel
theorem dX11_spotters_9 : decode cX11_spotters 9 = .ok (.iconst 2, 1) := by decide +kernel
theorem dX11_spotters_10 : decode cX11_spotters 10 = .ok (.iaload, 1) := by decide +kernel
theorem dX11_spotters_11 : decode cX11_spotters 11 = .ok (.if_icmp .ge 31, 3) := by decide +kernel
theorem dX11_spotters_14 : decode cX11_spotters 14 = .ok (.iload_n 1, 1) := by decide +kernel
theorem dX11_spotters_15 : decode cX11_spotters 15 = .ok (.aload_n 0, 1) := by decide +kernel
theorem dX11_spotters_16 : decode cX11_spotters 16 = .ok (.getfield 33, 3) := by decide +kernel
theorem dX11_spotters_19 : decode cX11_spotters 19 = .ok (.bipush 38, 2) := by decide +kernel
theorem dX11_spotters_21 : decode cX11_spotters 21 = .ok (.iload_n 2, 1) := by decide +kernel
theorem dX11_spotters_22 : decode cX11_spotters 22 = .ok (.iadd, 1) := by decide +kernel
theorem dX11_spotters_23 : decode cX11_spotters 23 = .ok (.iaload, 1) := by decide +kernel
theorem dX11_spotters_24 : decode cX11_spotters 24 = .ok (.ifCond .le 9, 3) := by decide +kernel
theorem dX11_spotters_27 : decode cX11_spotters 27 = .ok (.iconst 1, 1) := by decide +kernel
theorem dX11_spotters_28 : decode cX11_spotters 28 = .ok (.iload_n 2, 1) := by decide +kernel
theorem dX11_spotters_29 : decode cX11_spotters 29 = .ok (.ishl, 1) := by decide +kernel
theorem dX11_spotters_30 : decode cX11_spotters 30 = .ok (.goto 4, 3) := by decide +kernel
theorem dX11_spotters_33 : decode cX11_spotters 33 = .ok (.iconst 0, 1) := by decide +kernel
theorem dX11_spotters_34 : decode cX11_spotters 34 = .ok (.ior, 1) := by decide +kernel
theorem dX11_spotters_35 : decode cX11_spotters 35 = .ok (.istore_n 1, 1) := by decide +kernel
theorem dX11_spotters_36 : decode cX11_spotters 36 = .ok (.iinc 2 1, 3) := by decide +kernel
theorem dX11_spotters_39 : decode cX11_spotters 39 = .ok (.goto (-35), 3) := by decide +kernel
theorem dX11_spotters_42 : decode cX11_spotters 42 = .ok (.iload_n 1, 1) := by decide +kernel
theorem dX11_spotters_43 : decode cX11_spotters 43 = .ok (.ireturn, 1) := by decide +kernel
theorem dX11_stand_0 : decode cX11_stand 0 = .ok (.aload_n 0, 1) := by decide +kernel
theorem dX11_stand_1 : decode cX11_stand 1 = .ok (.iconst 0, 1) := by decide +kernel
theorem dX11_stand_2 : decode cX11_stand 2 = .ok (.putfield 1, 3) := by decide +kernel
theorem dX11_stand_5 : decode cX11_stand 5 = .ok (.aload_n 0, 1) := by decide +kernel
theorem dX11_stand_6 : decode cX11_stand 6 = .ok (.iload_n 1, 1) := by decide +kernel
theorem dX11_stand_7 : decode cX11_stand 7 = .ok (.invokevirtual 258, 3) := by decide +kernel
theorem dX11_stand_10 : decode cX11_stand 10 = .ok (.ifCond .eq 18, 3) := by decide +kernel
theorem dX11_stand_13 : decode cX11_stand 13 = .ok (.iload_n 2, 1) := by decide +kernel
theorem dX11_stand_14 : decode cX11_stand 14 = .ok (.ifCond .lt 14, 3) := by decide +kernel
theorem dX11_stand_17 : decode cX11_stand 17 = .ok (.iload_n 2, 1) := by decide +kernel
theorem dX11_stand_18 : decode cX11_stand 18 = .ok (.aload_n 0, 1) := by decide +kernel
theorem dX11_stand_19 : decode cX11_stand 19 = .ok (.invokevirtual 339, 3) := by decide +kernel
theorem dX11_stand_22 : decode cX11_stand 22 = .ok (.iconst (-1), 1) := by decide +kernel
theorem dX11_stand_23 : decode cX11_stand 23 = .ok (.ixor, 1) := by decide +kernel
theorem dX11_stand_24 : decode cX11_stand 24 = .ok (.iand, 1) := by decide +kernel
theorem dX11_stand_25 : decode cX11_stand 25 = .ok (.ifCond .eq 7, 3) := by decide +kernel
theorem dX11_stand_28 : decode cX11_stand 28 = .ok (.sipush (-10001), 3) := by decide +kernel
theorem dX11_stand_31 : decode cX11_stand 31 = .ok (.ireturn, 1) := by decide +kernel
theorem dX11_stand_32 : decode cX11_stand 32 = .ok (.aload_n 0, 1) := by decide +kernel
theorem dX11_stand_33 : decode cX11_stand 33 = .ok (.iload_n 2, 1) := by decide +kernel
theorem dX11_stand_34 : decode cX11_stand 34 = .ok (.invokevirtual 342, 3) := by decide +kernel
theorem dX11_stand_37 : decode cX11_stand 37 = .ok (.aload_n 0, 1) := by decide +kernel
theorem dX11_stand_38 : decode cX11_stand 38 = .ok (.getfield 53, 3) := by decide +kernel
theorem dX11_stand_41 : decode cX11_stand 41 = .ok (.iload_n 1, 1) := by decide +kernel
theorem dX11_stand_42 : decode cX11_stand 42 = .ok (.iaload, 1) := by decide +kernel
theorem dX11_stand_43 : decode cX11_stand 43 = .ok (.ireturn, 1) := by decide +kernel
theorem dX11_rests_0 : decode cX11_rests 0 = .ok (.aload_n 0, 1) := by decide +kernel
theorem dX11_rests_1 : decode cX11_rests 1 = .ok (.iconst 0, 1) := by decide +kernel
theorem dX11_rests_2 : decode cX11_rests 2 = .ok (.putfield 1, 3) := by decide +kernel
theorem dX11_rests_5 : decode cX11_rests 5 = .ok (.aload_n 0, 1) := by decide +kernel
theorem dX11_rests_6 : decode cX11_rests 6 = .ok (.invokevirtual 339, 3) := by decide +kernel
theorem dX11_rests_9 : decode cX11_rests 9 = .ok (.istore_n 2, 1) := by decide +kernel
theorem dX11_rests_10 : decode cX11_rests 10 = .ok (.iload_n 1, 1) := by decide +kernel
theorem dX11_rests_11 : decode cX11_rests 11 = .ok (.iconst (-1), 1) := by decide +kernel
theorem dX11_rests_12 : decode cX11_rests 12 = .ok (.if_icmp .ge 5, 3) := by decide +kernel
theorem dX11_rests_15 : decode cX11_rests 15 = .ok (.iconst (-1), 1) := by decide +kernel
theorem dX11_rests_16 : decode cX11_rests 16 = .ok (.ireturn, 1) := by decide +kernel
theorem dX11_rests_17 : decode cX11_rests 17 = .ok (.iconst 0, 1) := by decide +kernel
theorem dX11_rests_18 : decode cX11_rests 18 = .ok (.istore_n 3, 1) := by decide +kernel
theorem dX11_rests_19 : decode cX11_rests 19 = .ok (.iconst 0, 1) := by decide +kernel
theorem dX11_rests_20 : decode cX11_rests 20 = .ok (.istore 4, 2) := by decide +kernel
theorem dX11_rests_22 : decode cX11_rests 22 = .ok (.iload 4, 2) := by decide +kernel
theorem dX11_rests_24 : decode cX11_rests 24 = .ok (.iload_n 2, 1) := by decide +kernel
theorem dX11_rests_25 : decode cX11_rests 25 = .ok (.if_icmp .gt 40, 3) := by decide +kernel
theorem dX11_rests_28 : decode cX11_rests 28 = .ok (.iload 4, 2) := by decide +kernel
theorem dX11_rests_30 : decode cX11_rests 30 = .ok (.iload_n 2, 1) := by decide +kernel
theorem dX11_rests_31 : decode cX11_rests 31 = .ok (.iconst (-1), 1) := by decide +kernel
theorem dX11_rests_32 : decode cX11_rests 32 = .ok (.ixor, 1) := by decide +kernel
theorem dX11_rests_33 : decode cX11_rests 33 = .ok (.iand, 1) := by decide +kernel
theorem dX11_rests_34 : decode cX11_rests 34 = .ok (.ifCond .eq 6, 3) := by decide +kernel
theorem dX11_rests_37 : decode cX11_rests 37 = .ok (.goto 22, 3) := by decide +kernel
theorem dX11_rests_40 : decode cX11_rests 40 = .ok (.iload_n 3, 1) := by decide +kernel
theorem dX11_rests_41 : decode cX11_rests 41 = .ok (.bipush 64, 2) := by decide +kernel
theorem dX11_rests_43 : decode cX11_rests 43 = .ok (.if_icmp .ne 5, 3) := by decide +kernel
theorem dX11_rests_46 : decode cX11_rests 46 = .ok (.iconst (-1), 1) := by decide +kernel
theorem dX11_rests_47 : decode cX11_rests 47 = .ok (.ireturn, 1) := by decide +kernel
theorem dX11_rests_48 : decode cX11_rests 48 = .ok (.aload_n 0, 1) := by decide +kernel
theorem dX11_rests_49 : decode cX11_rests 49 = .ok (.getfield 68, 3) := by decide +kernel
theorem dX11_rests_52 : decode cX11_rests 52 = .ok (.iload_n 3, 1) := by decide +kernel
theorem dX11_rests_53 : decode cX11_rests 53 = .ok (.iload 4, 2) := by decide +kernel
theorem dX11_rests_55 : decode cX11_rests 55 = .ok (.iastore, 1) := by decide +kernel
theorem dX11_rests_56 : decode cX11_rests 56 = .ok (.iinc 3 1, 3) := by decide +kernel
theorem dX11_rests_59 : decode cX11_rests 59 = .ok (.iinc 4 1, 3) := by decide +kernel
theorem dX11_rests_62 : decode cX11_rests 62 = .ok (.goto (-40), 3) := by decide +kernel
theorem dX11_rests_65 : decode cX11_rests 65 = .ok (.iconst 0, 1) := by decide +kernel
theorem dX11_rests_66 : decode cX11_rests 66 = .ok (.istore 4, 2) := by decide +kernel
theorem dX11_rests_68 : decode cX11_rests 68 = .ok (.iload 4, 2) := by decide +kernel
theorem dX11_rests_70 : decode cX11_rests 70 = .ok (.iload_n 3, 1) := by decide +kernel
theorem dX11_rests_71 : decode cX11_rests 71 = .ok (.if_icmp .ge 56, 3) := by decide +kernel
theorem dX11_rests_74 : decode cX11_rests 74 = .ok (.aload_n 0, 1) := by decide +kernel
theorem dX11_rests_75 : decode cX11_rests 75 = .ok (.aload_n 0, 1) := by decide +kernel
theorem dX11_rests_76 : decode cX11_rests 76 = .ok (.getfield 68, 3) := by decide +kernel
theorem dX11_rests_79 : decode cX11_rests 79 = .ok (.iload 4, 2) := by decide +kernel
theorem dX11_rests_81 : decode cX11_rests 81 = .ok (.iaload, 1) := by decide +kernel
theorem dX11_rests_82 : decode cX11_rests 82 = .ok (.invokevirtual 342, 3) := by decide +kernel
theorem dX11_rests_85 : decode cX11_rests 85 = .ok (.iconst 0, 1) := by decide +kernel
theorem dX11_rests_86 : decode cX11_rests 86 = .ok (.istore 5, 2) := by decide +kernel
theorem dX11_rests_88 : decode cX11_rests 88 = .ok (.iload 5, 2) := by decide +kernel
theorem dX11_rests_90 : decode cX11_rests 90 = .ok (.bipush 9, 2) := by decide +kernel
theorem dX11_rests_92 : decode cX11_rests 92 = .ok (.if_icmp .ge 29, 3) := by decide +kernel
theorem dX11_rests_95 : decode cX11_rests 95 = .ok (.aload_n 0, 1) := by decide +kernel
theorem dX11_rests_96 : decode cX11_rests 96 = .ok (.getfield 65, 3) := by decide +kernel
theorem dX11_rests_99 : decode cX11_rests 99 = .ok (.bipush 9, 2) := by decide +kernel
theorem dX11_rests_101 : decode cX11_rests 101 = .ok (.iload 4, 2) := by decide +kernel
theorem dX11_rests_103 : decode cX11_rests 103 = .ok (.imul, 1) := by decide +kernel
theorem dX11_rests_104 : decode cX11_rests 104 = .ok (.iload 5, 2) := by decide +kernel
theorem dX11_rests_106 : decode cX11_rests 106 = .ok (.iadd, 1) := by decide +kernel
theorem dX11_rests_107 : decode cX11_rests 107 = .ok (.aload_n 0, 1) := by decide +kernel
theorem dX11_rests_108 : decode cX11_rests 108 = .ok (.getfield 53, 3) := by decide +kernel
theorem dX11_rests_111 : decode cX11_rests 111 = .ok (.iload 5, 2) := by decide +kernel
theorem dX11_rests_113 : decode cX11_rests 113 = .ok (.iaload, 1) := by decide +kernel
theorem dX11_rests_114 : decode cX11_rests 114 = .ok (.iastore, 1) := by decide +kernel
theorem dX11_rests_115 : decode cX11_rests 115 = .ok (.iinc 5 1, 3) := by decide +kernel
theorem dX11_rests_118 : decode cX11_rests 118 = .ok (.goto (-30), 3) := by decide +kernel
theorem dX11_rests_121 : decode cX11_rests 121 = .ok (.iinc 4 1, 3) := by decide +kernel
theorem dX11_rests_124 : decode cX11_rests 124 = .ok (.goto (-56), 3) := by decide +kernel
theorem dX11_rests_127 : decode cX11_rests 127 = .ok (.iconst 0, 1) := by decide +kernel
theorem dX11_rests_128 : decode cX11_rests 128 = .ok (.istore 4, 2) := by decide +kernel
theorem dX11_rests_130 : decode cX11_rests 130 = .ok (.iconst 0, 1) := by decide +kernel
theorem dX11_rests_131 : decode cX11_rests 131 = .ok (.istore 5, 2) := by decide +kernel
theorem dX11_rests_133 : decode cX11_rests 133 = .ok (.iload 5, 2) := by decide +kernel
theorem dX11_rests_135 : decode cX11_rests 135 = .ok (.iload_n 3, 1) := by decide +kernel
theorem dX11_rests_136 : decode cX11_rests 136 = .ok (.if_icmp .ge 146, 3) := by decide +kernel
theorem dX11_rests_139 : decode cX11_rests 139 = .ok (.iconst 1, 1) := by decide +kernel
theorem dX11_rests_140 : decode cX11_rests 140 = .ok (.istore 6, 2) := by decide +kernel
theorem dX11_rests_142 : decode cX11_rests 142 = .ok (.iconst 0, 1) := by decide +kernel
theorem dX11_rests_143 : decode cX11_rests 143 = .ok (.istore 7, 2) := by decide +kernel
theorem dX11_rests_145 : decode cX11_rests 145 = .ok (.iload 7, 2) := by decide +kernel
theorem dX11_rests_147 : decode cX11_rests 147 = .ok (.iload_n 3, 1) := by decide +kernel
theorem dX11_rests_148 : decode cX11_rests 148 = .ok (.if_icmp .ge 103, 3) := by decide +kernel
theorem dX11_rests_151 : decode cX11_rests 151 = .ok (.aload_n 0, 1) := by decide +kernel
theorem dX11_rests_152 : decode cX11_rests 152 = .ok (.getfield 68, 3) := by decide +kernel
theorem dX11_rests_155 : decode cX11_rests 155 = .ok (.iload 5, 2) := by decide +kernel
theorem dX11_rests_157 : decode cX11_rests 157 = .ok (.iaload, 1) := by decide +kernel
theorem dX11_rests_158 : decode cX11_rests 158 = .ok (.aload_n 0, 1) := by decide +kernel
theorem dX11_rests_159 : decode cX11_rests 159 = .ok (.getfield 68, 3) := by decide +kernel
theorem dX11_rests_162 : decode cX11_rests 162 = .ok (.iload 7, 2) := by decide +kernel
theorem dX11_rests_164 : decode cX11_rests 164 = .ok (.iaload, 1) := by decide +kernel
theorem dX11_rests_165 : decode cX11_rests 165 = .ok (.ixor, 1) := by decide +kernel
theorem dX11_rests_166 : decode cX11_rests 166 = .ok (.istore 8, 2) := by decide +kernel
theorem dX11_rests_168 : decode cX11_rests 168 = .ok (.iload 8, 2) := by decide +kernel
theorem dX11_rests_170 : decode cX11_rests 170 = .ok (.ifCond .eq 75, 3) := by decide +kernel
theorem dX11_rests_173 : decode cX11_rests 173 = .ok (.iload 8, 2) := by decide +kernel
theorem dX11_rests_175 : decode cX11_rests 175 = .ok (.iload 8, 2) := by decide +kernel
theorem dX11_rests_177 : decode cX11_rests 177 = .ok (.iconst 1, 1) := by decide +kernel
theorem dX11_rests_178 : decode cX11_rests 178 = .ok (.isub, 1) := by decide +kernel
theorem dX11_rests_179 : decode cX11_rests 179 = .ok (.iand, 1) := by decide +kernel
theorem dX11_rests_180 : decode cX11_rests 180 = .ok (.ifCond .eq 6, 3) := by decide +kernel
theorem dX11_rests_183 : decode cX11_rests 183 = .ok (.goto 62, 3) := by decide +kernel
theorem dX11_rests_186 : decode cX11_rests 186 = .ok (.iconst 0, 1) := by decide +kernel
theorem dX11_rests_187 : decode cX11_rests 187 = .ok (.istore 9, 2) := by decide +kernel
theorem dX11_rests_189 : decode cX11_rests 189 = .ok (.iload 8, 2) := by decide +kernel
theorem dX11_rests_191 : decode cX11_rests 191 = .ok (.iload 9, 2) := by decide +kernel
theorem dX11_rests_193 : decode cX11_rests 193 = .ok (.ishr, 1) := by decide +kernel
theorem dX11_rests_194 : decode cX11_rests 194 = .ok (.iconst 1, 1) := by decide +kernel
theorem dX11_rests_195 : decode cX11_rests 195 = .ok (.if_icmp .eq 9, 3) := by decide +kernel
theorem dX11_rests_198 : decode cX11_rests 198 = .ok (.iinc 9 1, 3) := by decide +kernel
theorem dX11_rests_201 : decode cX11_rests 201 = .ok (.goto (-12), 3) := by decide +kernel
theorem dX11_rests_204 : decode cX11_rests 204 = .ok (.iload 6, 2) := by decide +kernel
theorem dX11_rests_206 : decode cX11_rests 206 = .ok (.ifCond .eq 36, 3) := by decide +kernel
theorem dX11_rests_209 : decode cX11_rests 209 = .ok (.aload_n 0, 1) := by decide +kernel
theorem dX11_rests_210 : decode cX11_rests 210 = .ok (.getfield 65, 3) := by decide +kernel
theorem dX11_rests_213 : decode cX11_rests 213 = .ok (.bipush 9, 2) := by decide +kernel
theorem dX11_rests_215 : decode cX11_rests 215 = .ok (.iload 7, 2) := by decide +kernel
theorem dX11_rests_217 : decode cX11_rests 217 = .ok (.imul, 1) := by decide +kernel
theorem dX11_rests_218 : decode cX11_rests 218 = .ok (.iload 9, 2) := by decide +kernel
theorem dX11_rests_220 : decode cX11_rests 220 = .ok (.iadd, 1) := by decide +kernel
theorem dX11_rests_221 : decode cX11_rests 221 = .ok (.iaload, 1) := by decide +kernel
theorem dX11_rests_222 : decode cX11_rests 222 = .ok (.aload_n 0, 1) := by decide +kernel
theorem dX11_rests_223 : decode cX11_rests 223 = .ok (.getfield 65, 3) := by decide +kernel
theorem dX11_rests_226 : decode cX11_rests 226 = .ok (.bipush 9, 2) := by decide +kernel
theorem dX11_rests_228 : decode cX11_rests 228 = .ok (.iload 5, 2) := by decide +kernel
theorem dX11_rests_230 : decode cX11_rests 230 = .ok (.imul, 1) := by decide +kernel
theorem dX11_rests_231 : decode cX11_rests 231 = .ok (.iload 9, 2) := by decide +kernel
theorem dX11_rests_233 : decode cX11_rests 233 = .ok (.iadd, 1) := by decide +kernel
theorem dX11_rests_234 : decode cX11_rests 234 = .ok (.iaload, 1) := by decide +kernel
theorem dX11_rests_235 : decode cX11_rests 235 = .ok (.if_icmp .gt 7, 3) := by decide +kernel
theorem dX11_rests_238 : decode cX11_rests 238 = .ok (.iconst 1, 1) := by decide +kernel
theorem dX11_rests_239 : decode cX11_rests 239 = .ok (.goto 4, 3) := by decide +kernel
theorem dX11_rests_242 : decode cX11_rests 242 = .ok (.iconst 0, 1) := by decide +kernel
theorem dX11_rests_243 : decode cX11_rests 243 = .ok (.istore 6, 2) := by decide +kernel
theorem dX11_rests_245 : decode cX11_rests 245 = .ok (.iinc 7 1, 3) := by decide +kernel
theorem dX11_rests_248 : decode cX11_rests 248 = .ok (.goto (-103), 3) := by decide +kernel
theorem dX11_rests_251 : decode cX11_rests 251 = .ok (.iload 6, 2) := by decide +kernel
theorem dX11_rests_253 : decode cX11_rests 253 = .ok (.ifCond .ne 6, 3) := by decide +kernel
theorem dX11_rests_256 : decode cX11_rests 256 = .ok (.goto 20, 3) := by decide +kernel
theorem dX11_rests_259 : decode cX11_rests 259 = .ok (.iload 4, 2) := by decide +kernel
theorem dX11_rests_261 : decode cX11_rests 261 = .ok (.iload_n 1, 1) := by decide +kernel
theorem dX11_rests_262 : decode cX11_rests 262 = .ok (.if_icmp .ne 11, 3) := by decide +kernel
theorem dX11_rests_265 : decode cX11_rests 265 = .ok (.aload_n 0, 1) := by decide +kernel
theorem dX11_rests_266 : decode cX11_rests 266 = .ok (.getfield 68, 3) := by decide +kernel
theorem dX11_rests_269 : decode cX11_rests 269 = .ok (.iload 5, 2) := by decide +kernel
theorem dX11_rests_271 : decode cX11_rests 271 = .ok (.iaload, 1) := by decide +kernel
theorem dX11_rests_272 : decode cX11_rests 272 = .ok (.ireturn, 1) := by decide +kernel
theorem dX11_rests_273 : decode cX11_rests 273 = .ok (.iinc 4 1, 3) := by decide +kernel
theorem dX11_rests_276 : decode cX11_rests 276 = .ok (.iinc 5 1, 3) := by decide +kernel
theorem dX11_rests_279 : decode cX11_rests 279 = .ok (.goto (-146), 3) := by decide +kernel
theorem dX11_rests_282 : decode cX11_rests 282 = .ok (.iload_n 1, 1) := by decide +kernel
theorem dX11_rests_283 : decode cX11_rests 283 = .ok (.iconst (-1), 1) := by decide +kernel
theorem dX11_rests_284 : decode cX11_rests 284 = .ok (.if_icmp .ne 8, 3) := by decide +kernel
theorem dX11_rests_287 : decode cX11_rests 287 = .ok (.iload 4, 2) := by decide +kernel
theorem dX11_rests_289 : decode cX11_rests 289 = .ok (.goto 4, 3) := by decide +kernel
theorem dX11_rests_292 : decode cX11_rests 292 = .ok (.iconst (-1), 1) := by decide +kernel
theorem dX11_rests_293 : decode cX11_rests 293 = .ok (.ireturn, 1) := by decide +kernel
