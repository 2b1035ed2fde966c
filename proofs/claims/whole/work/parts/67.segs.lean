/-! THE LAW: its loop, segment by segment -/
theorem dL_law_0 : decode code 0 = .ok (.new 8, 3) := by decide +kernel
theorem dL_law_3 : decode code 3 = .ok (.dup, 1) := by decide +kernel
theorem dL_law_4 : decode code 4 = .ok (.invokespecial 34, 3) := by decide +kernel
theorem dL_law_7 : decode code 7 = .ok (.astore_n 1, 1) := by decide +kernel
theorem dL_law_8 : decode code 8 = .ok (.new 35, 3) := by decide +kernel
theorem dL_law_11 : decode code 11 = .ok (.dup, 1) := by decide +kernel
theorem dL_law_12 : decode code 12 = .ok (.invokespecial 37, 3) := by decide +kernel
theorem dL_law_15 : decode code 15 = .ok (.astore_n 2, 1) := by decide +kernel
theorem dL_law_16 : decode code 16 = .ok (.iconst 1, 1) := by decide +kernel
theorem dL_law_17 : decode code 17 = .ok (.newarray .long, 2) := by decide +kernel
theorem dL_law_19 : decode code 19 = .ok (.astore_n 3, 1) := by decide +kernel
theorem dL_law_20 : decode code 20 = .ok (.iconst 0, 1) := by decide +kernel
theorem dL_law_21 : decode code 21 = .ok (.istore 4, 2) := by decide +kernel
theorem dL_law_23 : decode code 23 = .ok (.iload 4, 2) := by decide +kernel
theorem dL_law_25 : decode code 25 = .ok (.aload_n 0, 1) := by decide +kernel
theorem dL_law_26 : decode code 26 = .ok (.arraylength, 1) := by decide +kernel
theorem dL_law_27 : decode code 27 = .ok (.bipush 6, 2) := by decide +kernel
theorem dL_law_29 : decode code 29 = .ok (.isub, 1) := by decide +kernel
theorem dL_law_30 : decode code 30 = .ok (.if_icmp .gt 396, 3) := by decide +kernel
theorem dL_law_33 : decode code 33 = .ok (.aload_n 0, 1) := by decide +kernel
theorem dL_law_34 : decode code 34 = .ok (.iload 4, 2) := by decide +kernel
theorem dL_law_36 : decode code 36 = .ok (.iaload, 1) := by decide +kernel
theorem dL_law_37 : decode code 37 = .ok (.bipush 7, 2) := by decide +kernel
theorem dL_law_39 : decode code 39 = .ok (.iand, 1) := by decide +kernel
theorem dL_law_40 : decode code 40 = .ok (.tableswitch 380 0 5 #[40, 144, 200, 244, 300, 355], 40) := by decide +kernel
theorem dL_law_80 : decode code 80 = .ok (.aload_n 1, 1) := by decide +kernel
theorem dL_law_81 : decode code 81 = .ok (.aload_n 0, 1) := by decide +kernel
theorem dL_law_82 : decode code 82 = .ok (.iload 4, 2) := by decide +kernel
theorem dL_law_84 : decode code 84 = .ok (.iconst 1, 1) := by decide +kernel
theorem dL_law_85 : decode code 85 = .ok (.iadd, 1) := by decide +kernel
theorem dL_law_86 : decode code 86 = .ok (.iaload, 1) := by decide +kernel
theorem dL_law_87 : decode code 87 = .ok (.aload_n 0, 1) := by decide +kernel
theorem dL_law_88 : decode code 88 = .ok (.iload 4, 2) := by decide +kernel
theorem dL_law_90 : decode code 90 = .ok (.iconst 2, 1) := by decide +kernel
theorem dL_law_91 : decode code 91 = .ok (.iadd, 1) := by decide +kernel
theorem dL_law_92 : decode code 92 = .ok (.iaload, 1) := by decide +kernel
theorem dL_law_93 : decode code 93 = .ok (.aload_n 0, 1) := by decide +kernel
theorem dL_law_94 : decode code 94 = .ok (.iload 4, 2) := by decide +kernel
theorem dL_law_96 : decode code 96 = .ok (.iconst 3, 1) := by decide +kernel
theorem dL_law_97 : decode code 97 = .ok (.iadd, 1) := by decide +kernel
theorem dL_law_98 : decode code 98 = .ok (.iaload, 1) := by decide +kernel
theorem dL_law_99 : decode code 99 = .ok (.aload_n 0, 1) := by decide +kernel
theorem dL_law_100 : decode code 100 = .ok (.iload 4, 2) := by decide +kernel
theorem dL_law_102 : decode code 102 = .ok (.iconst 4, 1) := by decide +kernel
theorem dL_law_103 : decode code 103 = .ok (.iadd, 1) := by decide +kernel
theorem dL_law_104 : decode code 104 = .ok (.iaload, 1) := by decide +kernel
theorem dL_law_105 : decode code 105 = .ok (.aload_n 0, 1) := by decide +kernel
theorem dL_law_106 : decode code 106 = .ok (.iload 4, 2) := by decide +kernel
theorem dL_law_108 : decode code 108 = .ok (.iconst 5, 1) := by decide +kernel
theorem dL_law_109 : decode code 109 = .ok (.iadd, 1) := by decide +kernel
theorem dL_law_110 : decode code 110 = .ok (.iaload, 1) := by decide +kernel
theorem dL_law_111 : decode code 111 = .ok (.aload_n 3, 1) := by decide +kernel
theorem dL_law_112 : decode code 112 = .ok (.invokestatic 38, 3) := by decide +kernel
theorem dL_law_115 : decode code 115 = .ok (.istore 5, 2) := by decide +kernel
theorem dL_law_117 : decode code 117 = .ok (.aload_n 2, 1) := by decide +kernel
theorem dL_law_118 : decode code 118 = .ok (.aload_n 0, 1) := by decide +kernel
theorem dL_law_119 : decode code 119 = .ok (.iload 4, 2) := by decide +kernel
theorem dL_law_121 : decode code 121 = .ok (.iconst 1, 1) := by decide +kernel
theorem dL_law_122 : decode code 122 = .ok (.iadd, 1) := by decide +kernel
theorem dL_law_123 : decode code 123 = .ok (.iaload, 1) := by decide +kernel
theorem dL_law_124 : decode code 124 = .ok (.aload_n 0, 1) := by decide +kernel
theorem dL_law_125 : decode code 125 = .ok (.iload 4, 2) := by decide +kernel
theorem dL_law_127 : decode code 127 = .ok (.iconst 2, 1) := by decide +kernel
theorem dL_law_128 : decode code 128 = .ok (.iadd, 1) := by decide +kernel
theorem dL_law_129 : decode code 129 = .ok (.iaload, 1) := by decide +kernel
theorem dL_law_130 : decode code 130 = .ok (.aload_n 0, 1) := by decide +kernel
theorem dL_law_131 : decode code 131 = .ok (.iload 4, 2) := by decide +kernel
theorem dL_law_133 : decode code 133 = .ok (.iconst 3, 1) := by decide +kernel
theorem dL_law_134 : decode code 134 = .ok (.iadd, 1) := by decide +kernel
theorem dL_law_135 : decode code 135 = .ok (.iaload, 1) := by decide +kernel
theorem dL_law_136 : decode code 136 = .ok (.aload_n 0, 1) := by decide +kernel
theorem dL_law_137 : decode code 137 = .ok (.iload 4, 2) := by decide +kernel
theorem dL_law_139 : decode code 139 = .ok (.iconst 4, 1) := by decide +kernel
theorem dL_law_140 : decode code 140 = .ok (.iadd, 1) := by decide +kernel
theorem dL_law_141 : decode code 141 = .ok (.iaload, 1) := by decide +kernel
theorem dL_law_142 : decode code 142 = .ok (.aload_n 0, 1) := by decide +kernel
theorem dL_law_143 : decode code 143 = .ok (.iload 4, 2) := by decide +kernel
theorem dL_law_145 : decode code 145 = .ok (.iconst 5, 1) := by decide +kernel
theorem dL_law_146 : decode code 146 = .ok (.iadd, 1) := by decide +kernel
theorem dL_law_147 : decode code 147 = .ok (.iaload, 1) := by decide +kernel
theorem dL_law_148 : decode code 148 = .ok (.invokevirtual 43, 3) := by decide +kernel
theorem dL_law_151 : decode code 151 = .ok (.istore 6, 2) := by decide +kernel
theorem dL_law_153 : decode code 153 = .ok (.aload_n 2, 1) := by decide +kernel
theorem dL_law_154 : decode code 154 = .ok (.invokevirtual 44, 3) := by decide +kernel
theorem dL_law_157 : decode code 157 = .ok (.iload 5, 2) := by decide +kernel
theorem dL_law_159 : decode code 159 = .ok (.if_icmp .eq 5, 3) := by decide +kernel
theorem dL_law_162 : decode code 162 = .ok (.iconst 0, 1) := by decide +kernel
theorem dL_law_163 : decode code 163 = .ok (.ireturn, 1) := by decide +kernel
theorem dL_law_164 : decode code 164 = .ok (.iload 5, 2) := by decide +kernel
theorem dL_law_166 : decode code 166 = .ok (.ifCond .ne 15, 3) := by decide +kernel
theorem dL_law_169 : decode code 169 = .ok (.aload_n 3, 1) := by decide +kernel
theorem dL_law_170 : decode code 170 = .ok (.iconst 0, 1) := by decide +kernel
theorem dL_law_171 : decode code 171 = .ok (.laload, 1) := by decide +kernel
theorem dL_law_172 : decode code 172 = .ok (.iload 6, 2) := by decide +kernel
theorem dL_law_174 : decode code 174 = .ok (.i2l, 1) := by decide +kernel
theorem dL_law_175 : decode code 175 = .ok (.lcmp, 1) := by decide +kernel
theorem dL_law_176 : decode code 176 = .ok (.ifCond .eq 5, 3) := by decide +kernel
theorem dL_law_179 : decode code 179 = .ok (.iconst 0, 1) := by decide +kernel
theorem dL_law_180 : decode code 180 = .ok (.ireturn, 1) := by decide +kernel
theorem dL_law_181 : decode code 181 = .ok (.goto 239, 3) := by decide +kernel
theorem dL_law_184 : decode code 184 = .ok (.aload_n 1, 1) := by decide +kernel
theorem dL_law_185 : decode code 185 = .ok (.aload_n 0, 1) := by decide +kernel
theorem dL_law_186 : decode code 186 = .ok (.iload 4, 2) := by decide +kernel
theorem dL_law_188 : decode code 188 = .ok (.iconst 1, 1) := by decide +kernel
theorem dL_law_189 : decode code 189 = .ok (.iadd, 1) := by decide +kernel
theorem dL_law_190 : decode code 190 = .ok (.iaload, 1) := by decide +kernel
theorem dL_law_191 : decode code 191 = .ok (.aload_n 3, 1) := by decide +kernel
theorem dL_law_192 : decode code 192 = .ok (.invokestatic 47, 3) := by decide +kernel
theorem dL_law_195 : decode code 195 = .ok (.istore 5, 2) := by decide +kernel
theorem dL_law_197 : decode code 197 = .ok (.aload_n 2, 1) := by decide +kernel
theorem dL_law_198 : decode code 198 = .ok (.aload_n 0, 1) := by decide +kernel
theorem dL_law_199 : decode code 199 = .ok (.iload 4, 2) := by decide +kernel
theorem dL_law_201 : decode code 201 = .ok (.iconst 1, 1) := by decide +kernel
theorem dL_law_202 : decode code 202 = .ok (.iadd, 1) := by decide +kernel
theorem dL_law_203 : decode code 203 = .ok (.iaload, 1) := by decide +kernel
theorem dL_law_204 : decode code 204 = .ok (.invokevirtual 50, 3) := by decide +kernel
theorem dL_law_207 : decode code 207 = .ok (.istore 6, 2) := by decide +kernel
theorem dL_law_209 : decode code 209 = .ok (.aload_n 2, 1) := by decide +kernel
theorem dL_law_210 : decode code 210 = .ok (.invokevirtual 44, 3) := by decide +kernel
theorem dL_law_213 : decode code 213 = .ok (.iload 5, 2) := by decide +kernel
theorem dL_law_215 : decode code 215 = .ok (.if_icmp .eq 5, 3) := by decide +kernel
theorem dL_law_218 : decode code 218 = .ok (.iconst 0, 1) := by decide +kernel
theorem dL_law_219 : decode code 219 = .ok (.ireturn, 1) := by decide +kernel
theorem dL_law_220 : decode code 220 = .ok (.iload 5, 2) := by decide +kernel
theorem dL_law_222 : decode code 222 = .ok (.ifCond .ne 15, 3) := by decide +kernel
theorem dL_law_225 : decode code 225 = .ok (.aload_n 3, 1) := by decide +kernel
theorem dL_law_226 : decode code 226 = .ok (.iconst 0, 1) := by decide +kernel
theorem dL_law_227 : decode code 227 = .ok (.laload, 1) := by decide +kernel
theorem dL_law_228 : decode code 228 = .ok (.iload 6, 2) := by decide +kernel
theorem dL_law_230 : decode code 230 = .ok (.i2l, 1) := by decide +kernel
theorem dL_law_231 : decode code 231 = .ok (.lcmp, 1) := by decide +kernel
theorem dL_law_232 : decode code 232 = .ok (.ifCond .eq 5, 3) := by decide +kernel
theorem dL_law_235 : decode code 235 = .ok (.iconst 0, 1) := by decide +kernel
theorem dL_law_236 : decode code 236 = .ok (.ireturn, 1) := by decide +kernel
theorem dL_law_237 : decode code 237 = .ok (.goto 183, 3) := by decide +kernel
theorem dL_law_240 : decode code 240 = .ok (.aload_n 1, 1) := by decide +kernel
theorem dL_law_241 : decode code 241 = .ok (.aload_n 3, 1) := by decide +kernel
theorem dL_law_242 : decode code 242 = .ok (.invokestatic 51, 3) := by decide +kernel
theorem dL_law_245 : decode code 245 = .ok (.istore 5, 2) := by decide +kernel
theorem dL_law_247 : decode code 247 = .ok (.aload_n 2, 1) := by decide +kernel
theorem dL_law_248 : decode code 248 = .ok (.invokevirtual 54, 3) := by decide +kernel
theorem dL_law_251 : decode code 251 = .ok (.istore 6, 2) := by decide +kernel
theorem dL_law_253 : decode code 253 = .ok (.aload_n 2, 1) := by decide +kernel
theorem dL_law_254 : decode code 254 = .ok (.invokevirtual 44, 3) := by decide +kernel
theorem dL_law_257 : decode code 257 = .ok (.iload 5, 2) := by decide +kernel
theorem dL_law_259 : decode code 259 = .ok (.if_icmp .eq 5, 3) := by decide +kernel
theorem dL_law_262 : decode code 262 = .ok (.iconst 0, 1) := by decide +kernel
theorem dL_law_263 : decode code 263 = .ok (.ireturn, 1) := by decide +kernel
theorem dL_law_264 : decode code 264 = .ok (.iload 5, 2) := by decide +kernel
theorem dL_law_266 : decode code 266 = .ok (.ifCond .ne 15, 3) := by decide +kernel
theorem dL_law_269 : decode code 269 = .ok (.aload_n 3, 1) := by decide +kernel
theorem dL_law_270 : decode code 270 = .ok (.iconst 0, 1) := by decide +kernel
theorem dL_law_271 : decode code 271 = .ok (.laload, 1) := by decide +kernel
theorem dL_law_272 : decode code 272 = .ok (.iload 6, 2) := by decide +kernel
theorem dL_law_274 : decode code 274 = .ok (.i2l, 1) := by decide +kernel
theorem dL_law_275 : decode code 275 = .ok (.lcmp, 1) := by decide +kernel
theorem dL_law_276 : decode code 276 = .ok (.ifCond .eq 5, 3) := by decide +kernel
theorem dL_law_279 : decode code 279 = .ok (.iconst 0, 1) := by decide +kernel
theorem dL_law_280 : decode code 280 = .ok (.ireturn, 1) := by decide +kernel
theorem dL_law_281 : decode code 281 = .ok (.goto 139, 3) := by decide +kernel
theorem dL_law_284 : decode code 284 = .ok (.aload_n 1, 1) := by decide +kernel
theorem dL_law_285 : decode code 285 = .ok (.aload_n 0, 1) := by decide +kernel
theorem dL_law_286 : decode code 286 = .ok (.iload 4, 2) := by decide +kernel
theorem dL_law_288 : decode code 288 = .ok (.iconst 1, 1) := by decide +kernel
theorem dL_law_289 : decode code 289 = .ok (.iadd, 1) := by decide +kernel
theorem dL_law_290 : decode code 290 = .ok (.iaload, 1) := by decide +kernel
theorem dL_law_291 : decode code 291 = .ok (.aload_n 3, 1) := by decide +kernel
theorem dL_law_292 : decode code 292 = .ok (.invokestatic 55, 3) := by decide +kernel
theorem dL_law_295 : decode code 295 = .ok (.istore 5, 2) := by decide +kernel
theorem dL_law_297 : decode code 297 = .ok (.aload_n 2, 1) := by decide +kernel
theorem dL_law_298 : decode code 298 = .ok (.aload_n 0, 1) := by decide +kernel
theorem dL_law_299 : decode code 299 = .ok (.iload 4, 2) := by decide +kernel
theorem dL_law_301 : decode code 301 = .ok (.iconst 1, 1) := by decide +kernel
theorem dL_law_302 : decode code 302 = .ok (.iadd, 1) := by decide +kernel
theorem dL_law_303 : decode code 303 = .ok (.iaload, 1) := by decide +kernel
theorem dL_law_304 : decode code 304 = .ok (.invokevirtual 57, 3) := by decide +kernel
theorem dL_law_307 : decode code 307 = .ok (.istore 6, 2) := by decide +kernel
theorem dL_law_309 : decode code 309 = .ok (.aload_n 2, 1) := by decide +kernel
theorem dL_law_310 : decode code 310 = .ok (.invokevirtual 44, 3) := by decide +kernel
theorem dL_law_313 : decode code 313 = .ok (.iload 5, 2) := by decide +kernel
theorem dL_law_315 : decode code 315 = .ok (.if_icmp .eq 5, 3) := by decide +kernel
theorem dL_law_318 : decode code 318 = .ok (.iconst 0, 1) := by decide +kernel
theorem dL_law_319 : decode code 319 = .ok (.ireturn, 1) := by decide +kernel
theorem dL_law_320 : decode code 320 = .ok (.iload 5, 2) := by decide +kernel
theorem dL_law_322 : decode code 322 = .ok (.ifCond .ne 15, 3) := by decide +kernel
theorem dL_law_325 : decode code 325 = .ok (.aload_n 3, 1) := by decide +kernel
theorem dL_law_326 : decode code 326 = .ok (.iconst 0, 1) := by decide +kernel
theorem dL_law_327 : decode code 327 = .ok (.laload, 1) := by decide +kernel
theorem dL_law_328 : decode code 328 = .ok (.iload 6, 2) := by decide +kernel
theorem dL_law_330 : decode code 330 = .ok (.i2l, 1) := by decide +kernel
theorem dL_law_331 : decode code 331 = .ok (.lcmp, 1) := by decide +kernel
theorem dL_law_332 : decode code 332 = .ok (.ifCond .eq 5, 3) := by decide +kernel
theorem dL_law_335 : decode code 335 = .ok (.iconst 0, 1) := by decide +kernel
theorem dL_law_336 : decode code 336 = .ok (.ireturn, 1) := by decide +kernel
theorem dL_law_337 : decode code 337 = .ok (.goto 83, 3) := by decide +kernel
theorem dL_law_340 : decode code 340 = .ok (.aload_n 1, 1) := by decide +kernel
theorem dL_law_341 : decode code 341 = .ok (.aload_n 0, 1) := by decide +kernel
theorem dL_law_342 : decode code 342 = .ok (.iload 4, 2) := by decide +kernel
theorem dL_law_344 : decode code 344 = .ok (.iconst 1, 1) := by decide +kernel
theorem dL_law_345 : decode code 345 = .ok (.iadd, 1) := by decide +kernel
theorem dL_law_346 : decode code 346 = .ok (.iaload, 1) := by decide +kernel
theorem dL_law_347 : decode code 347 = .ok (.aload_n 3, 1) := by decide +kernel
theorem dL_law_348 : decode code 348 = .ok (.invokestatic 58, 3) := by decide +kernel
theorem dL_law_351 : decode code 351 = .ok (.istore 5, 2) := by decide +kernel
theorem dL_law_353 : decode code 353 = .ok (.aload_n 2, 1) := by decide +kernel
theorem dL_law_354 : decode code 354 = .ok (.aload_n 0, 1) := by decide +kernel
theorem dL_law_355 : decode code 355 = .ok (.iload 4, 2) := by decide +kernel
theorem dL_law_357 : decode code 357 = .ok (.iconst 1, 1) := by decide +kernel
theorem dL_law_358 : decode code 358 = .ok (.iadd, 1) := by decide +kernel
theorem dL_law_359 : decode code 359 = .ok (.iaload, 1) := by decide +kernel
theorem dL_law_360 : decode code 360 = .ok (.invokevirtual 60, 3) := by decide +kernel
theorem dL_law_363 : decode code 363 = .ok (.lstore 6, 2) := by decide +kernel
theorem dL_law_365 : decode code 365 = .ok (.aload_n 2, 1) := by decide +kernel
theorem dL_law_366 : decode code 366 = .ok (.invokevirtual 44, 3) := by decide +kernel
theorem dL_law_369 : decode code 369 = .ok (.iload 5, 2) := by decide +kernel
theorem dL_law_371 : decode code 371 = .ok (.if_icmp .eq 5, 3) := by decide +kernel
theorem dL_law_374 : decode code 374 = .ok (.iconst 0, 1) := by decide +kernel
theorem dL_law_375 : decode code 375 = .ok (.ireturn, 1) := by decide +kernel
theorem dL_law_376 : decode code 376 = .ok (.iload 5, 2) := by decide +kernel
theorem dL_law_378 : decode code 378 = .ok (.ifCond .ne 14, 3) := by decide +kernel
theorem dL_law_381 : decode code 381 = .ok (.aload_n 3, 1) := by decide +kernel
theorem dL_law_382 : decode code 382 = .ok (.iconst 0, 1) := by decide +kernel
theorem dL_law_383 : decode code 383 = .ok (.laload, 1) := by decide +kernel
theorem dL_law_384 : decode code 384 = .ok (.lload 6, 2) := by decide +kernel
theorem dL_law_386 : decode code 386 = .ok (.lcmp, 1) := by decide +kernel
theorem dL_law_387 : decode code 387 = .ok (.ifCond .eq 5, 3) := by decide +kernel
theorem dL_law_390 : decode code 390 = .ok (.iconst 0, 1) := by decide +kernel
theorem dL_law_391 : decode code 391 = .ok (.ireturn, 1) := by decide +kernel
theorem dL_law_392 : decode code 392 = .ok (.goto 28, 3) := by decide +kernel
theorem dL_law_395 : decode code 395 = .ok (.aload_n 1, 1) := by decide +kernel
theorem dL_law_396 : decode code 396 = .ok (.aload_n 0, 1) := by decide +kernel
theorem dL_law_397 : decode code 397 = .ok (.iload 4, 2) := by decide +kernel
theorem dL_law_399 : decode code 399 = .ok (.iconst 1, 1) := by decide +kernel
theorem dL_law_400 : decode code 400 = .ok (.iadd, 1) := by decide +kernel
theorem dL_law_401 : decode code 401 = .ok (.iaload, 1) := by decide +kernel
theorem dL_law_402 : decode code 402 = .ok (.invokevirtual 61, 3) := by decide +kernel
theorem dL_law_405 : decode code 405 = .ok (.aload_n 2, 1) := by decide +kernel
theorem dL_law_406 : decode code 406 = .ok (.aload_n 0, 1) := by decide +kernel
theorem dL_law_407 : decode code 407 = .ok (.iload 4, 2) := by decide +kernel
theorem dL_law_409 : decode code 409 = .ok (.iconst 1, 1) := by decide +kernel
theorem dL_law_410 : decode code 410 = .ok (.iadd, 1) := by decide +kernel
theorem dL_law_411 : decode code 411 = .ok (.iaload, 1) := by decide +kernel
theorem dL_law_412 : decode code 412 = .ok (.invokevirtual 64, 3) := by decide +kernel
theorem dL_law_415 : decode code 415 = .ok (.if_icmp .eq 5, 3) := by decide +kernel
theorem dL_law_418 : decode code 418 = .ok (.iconst 0, 1) := by decide +kernel
theorem dL_law_419 : decode code 419 = .ok (.ireturn, 1) := by decide +kernel
theorem dL_law_420 : decode code 420 = .ok (.iinc 4 6, 3) := by decide +kernel
theorem dL_law_423 : decode code 423 = .ok (.goto (-400), 3) := by decide +kernel
theorem dL_law_426 : decode code 426 = .ok (.iconst 1, 1) := by decide +kernel
theorem dL_law_427 : decode code 427 = .ok (.ireturn, 1) := by decide +kernel
theorem izL : Cond.initialized RL ∈ TB := tb1 sg1 0 rfl rfl
def AN (k : Int32) (o : Option Int32) (r : Int32) (v : Wd) : Prop := (o = none ∧ fX12_thrown v = k) ∨ (o = some r ∧ fX12_thrown v = 0)
def ANL (k : Int32) (o : Option Int64) (r : Int64) (v : Wd) : Prop := (o = none ∧ fX12_thrown v = k) ∨ (o = some r ∧ fX12_thrown v = 0)
/-- what is to be shown of both sides' pure faces: they answer alike, call for call, from worlds that INV n holds (n: calls left) -/
def Faces (INV : Nat → Wd → Wd → Prop) : Prop :=
  (∀ n wA wM, INV (n + 1) wA wM →
    (∀ a1 a2 a3 a4 a5, ∃ o u r v, fX11_feed a1 a2 a3 a4 a5 wA = some (o, u) ∧ fX12_feed a1 a2 a3 a4 a5 wM = some (r, v) ∧ AN 1 o r v ∧ INV n u v) ∧
    (∀ a1, ∃ o u r v, fX11_end a1 wA = some (o, u) ∧ fX12_end a1 wM = (r, v) ∧ AN 1 o r v ∧ INV n u v) ∧
    (∃ o u r v, fX11_build wA = some (o, u) ∧ fX12_build wM = some (r, v) ∧ AN 1 o r v ∧ INV n u v) ∧
    (∀ a1, ∃ o u r v, fX11_run a1 wA = some (o, u) ∧ fX12_run a1 wM = some (r, v) ∧ AN (if a1 < 1 ∨ 20000 < a1 then 1 else 2) o r v ∧ INV n u v) ∧
    (∀ a1, ∃ o u r v, fX11_out a1 wA = some (o, u) ∧ fX12_out a1 wM = some (r, v) ∧ ANL 1 o r v ∧ INV n u v) ∧
    (∀ a1, ∃ r v, fX12_count a1 wM = (r, v) ∧ fX11_count a1 wA = r ∧ INV n wA v) ∧
    INV n wA wM) ∧
  ∀ n u v u', INV n u v → (∀ k, k ≠ 57 → u'.1 k = u.1 k ∧ u'.2 k = u.2 k) → INV n u' v
theorem mrg_at (u w : Wd) : ∀ k, k ≠ 57 → (mrg u w).1 k = u.1 k ∧ (mrg u w).2 k = u.2 k := fun k hk => ⟨by funext j; exact if_neg hk, by funext j; exact if_neg hk⟩
theorem mrs_at (u w : Wd) (i : Nat) (x : Int64) : ∀ k, k ≠ 57 → (sl (mrg u w) 57 i x).1 k = u.1 k ∧ (sl (mrg u w) 57 i x).2 k = u.2 k := fun k hk => ⟨(mrg_at u w k hk).1, by
  funext j
  show (if k = 57 ∧ j = i then x else (mrg u w).2 k j) = u.2 k j
  rw [if_neg (fun h => hk h.1), (mrg_at u w k hk).2]⟩
theorem mrs_57 (u w : Wd) (i : Nat) (x : Int64) : gl (sl (mrg u w) 57 i x) 57 i = x := if_pos ⟨rfl, rfl⟩
def LL (qA qM : Gq) (b : Nat) (i : Int32) : List (Nat × Value) := [(0, .ref b), (1, .ref (gad (GH qA) 0)), (2, .ref (gad (GM qM) 0)), (3, .ref (gad (GH qA) 57)), (4, .int i)]
theorem stL_feed : Cond.static yL_feed ∈ TB := tb1 sg3 11 rfl rfl
theorem stL_end : Cond.static yL_end ∈ TB := tb1 sg3 123 rfl rfl
theorem stL_build : Cond.static yL_build ∈ TB := tb1 sg3 146 rfl rfl
theorem stL_run : Cond.static yL_run ∈ TB := tb1 sg8 72 rfl rfl
theorem stL_out : Cond.static yL_out ∈ TB := tb1 sg9 13 rfl rfl
theorem cwL_feed : Cond.codeWith yL_feed cL_feed 8 (some .int) [(0, 16, 19, 13)] ∈ TB := tb1 sg3 12 rfl rfl
theorem cwL_end : Cond.codeWith yL_end cL_end 4 (some .int) [(0, 9, 12, 19)] ∈ TB := tb1 sg3 124 rfl rfl
theorem cwL_build : Cond.codeWith yL_build cL_build 3 (some .int) [(0, 8, 11, 25)] ∈ TB := tb1 sg3 147 rfl rfl
theorem cwL_run : Cond.codeWith yL_run cL_run 4 (some .int) [(0, 9, 12, 19), (0, 9, 15, 25)] ∈ TB := tb1 sg8 73 rfl rfl
theorem cwL_out : Cond.codeWith yL_out cL_out 4 (some .int) [(0, 8, 11, 19)] ∈ TB := tb1 sg9 14 rfl rfl
theorem cwM_build : Cond.codeWith yX12_build cX12_build 3 (some .int) [(4, 9, 12, 28)] ∈ TB := tb1 sg11 52 rfl rfl
theorem iyX12_build : Cond.instanceMethod yX12_build ∈ TB := tb1 sg11 50 rfl rfl
theorem syX12_build : Cond.selects RX12 yX12_build yX12_build ∈ TB := tb1 sg11 51 rfl rfl
section SEG
variable {p : Program} {l : Launch} {e : Env} {s : State} {m : MethodId} {below : List Frame} {meth : Method} {c : Code} {H : Heap} {locs : List Loc} {cells slots : Nat} {Q : State → Prop} {ls : Array Slot} {b L : Nat} {xs : Nat → Int32} {qA qM : Gq} {wA wM : Wd} {INV : Nat → Wd → Wd → Prop} {n : Nat} {i : Int32} {F : Nat → Prop}
set_option maxHeartbeats 4000000 in
set_option maxRecDepth 20000 in
theorem seg_feed (hC : LCx qA qM b L xs p s m meth c) (hfl : l.stackTraces = false) (hEF : ∀ (U : State) (H : Heap), gE (GA qA) U H → ENV F U H) (hAF : ∀ z, gAw (GA qA) z → F z) (hFc : Faces INV) (hI : INV (n + 1) wA wM) (hW : LWd qA qM s wA wM H locs) (hl : lv_has ls 8 (LL qA qM b i)) (hin1 : vp_in (i + 1) L) (hin2 : vp_in (i + 2) L) (hin3 : vp_in (i + 3) L) (hin4 : vp_in (i + 4) L) (hin5 : vp_in (i + 5) L) (hkc : cells + 1 ≤ 603072 ∧ slots + 6 ≤ 7202922) (kk : ∀ u v H1 locs1 ls1, INV n u v → LWd qA qM s u v H1 locs1 → lv_has ls1 8 (LL qA qM b i) → W p l e room_1 s m #[Value.ref b] below meth c H1 locs1 (cells + 1) (slots + 6) Q (F0 m 420 ls1 [])) : W p l e room_1 s m #[Value.ref b] below meth c H locs cells slots Q (F0 m 80 ls []) := by
  obtain ⟨o, u, r, v, e1, e2, hA, hI2⟩ := (hFc.1 n wA wM hI).1 (xs (i + 1).toNatClampNeg) (xs (i + 2).toNatClampNeg) (xs (i + 3).toNatClampNeg) (xs (i + 4).toNatClampNeg) (xs (i + 5).toNatClampNeg)
  obtain ⟨k9, zA, hJ, hth, hval, hIz⟩ : ∃ (k9 : Int32) (zA : Wd), CtJ qA l 9 yL_feed cL_feed 8 [(0, 16, 19, 13)] [.ref 0, .int (xs (i + 1).toNatClampNeg), .int (xs (i + 2).toNatClampNeg), .int (xs (i + 3).toNatClampNeg), .int (xs (i + 4).toNatClampNeg), .int (xs (i + 5).toNatClampNeg), .ref 57] wA (fun v9 z => v9 = some (.int k9) ∧ z = zA) ∧ fX12_thrown v = k9 ∧ (k9 = 0 → gl zA 57 ((0 : Int32).toNatClampNeg) = r.toInt64) ∧ INV n zA v := by
    rcases hA with ⟨ho, ht⟩ | ⟨ho, ht⟩
    · exact ⟨1, mrg u wA, kL_feed hfl hEF hAF e1 (fun r9 hr => absurd (ho.symm.trans hr) (fun q => nomatch q)) (fun _ => ⟨rfl, rfl⟩), ht, fun h => absurd h (by decide), hFc.2 n u v _ hI2 (mrg_at u wA)⟩
    · exact ⟨0, sl (mrg u wA) 57 ((0 : Int32).toNatClampNeg) r.toInt64, kL_feed hfl hEF hAF e1 (fun r9 hr => ⟨rfl, by rw [Option.some.inj (hr.symm.trans ho)]⟩) (fun h => absurd (h.symm.trans ho) (fun q => nomatch q)), ht, fun _ => mrs_57 _ _ _ _, hFc.2 n u v _ hI2 (mrs_at u wA _ _)⟩
  have hC0 := hC
  obtain ⟨⟨hx, hb, hr, hml, hown, hts, hlk⟩, ⟨hX, hbl⟩, ⟨hKA, hKM⟩, ⟨hGA, hGM⟩, hdis, ⟨hFA, hFM⟩, ⟨hEA, hEM⟩⟩ := hC
  have hbF : ¬ s.heap.size ≤ b := Nat.not_le.mpr hbl
  have hS := hW.2.2
  have hl : lv_has ls 8 [(0, .ref b), (1, .ref (gad (GH qA) 0)), (2, .ref (gad (GM qM) 0)), (3, .ref (gad (GH qA) 57)), (4, .int i)] := hl
  refine lv_aload_n (pc := 80) hx hb dL_law_80 rfl (lv_at hl 1 rfl) ?_
  refine lv_aload_n (pc := 81) hx hb dL_law_81 rfl (lv_at hl 0 rfl) ?_
  refine lv_iload (pc := 82) hx hb dL_law_82 (lv_at hl 4 rfl) ?_
  refine lv_iconst (pc := 84) hx hb dL_law_84 ki_1 ?_
  refine lv_iadd (pc := 85) hx hb dL_law_85 ?_
  refine va_sld (pc := 86) hx hb hX hbl hbF hS hin1 dL_law_86 ?_
  refine lv_aload_n (pc := 87) hx hb dL_law_87 rfl (lv_at hl 0 rfl) ?_
  refine lv_iload (pc := 88) hx hb dL_law_88 (lv_at hl 4 rfl) ?_
  refine lv_iconst (pc := 90) hx hb dL_law_90 ki_2 ?_
  refine lv_iadd (pc := 91) hx hb dL_law_91 ?_
  refine va_sld (pc := 92) hx hb hX hbl hbF hS hin2 dL_law_92 ?_
  refine lv_aload_n (pc := 93) hx hb dL_law_93 rfl (lv_at hl 0 rfl) ?_
  refine lv_iload (pc := 94) hx hb dL_law_94 (lv_at hl 4 rfl) ?_
  refine lv_iconst (pc := 96) hx hb dL_law_96 ki_3 ?_
  refine lv_iadd (pc := 97) hx hb dL_law_97 ?_
  refine va_sld (pc := 98) hx hb hX hbl hbF hS hin3 dL_law_98 ?_
  refine lv_aload_n (pc := 99) hx hb dL_law_99 rfl (lv_at hl 0 rfl) ?_
  refine lv_iload (pc := 100) hx hb dL_law_100 (lv_at hl 4 rfl) ?_
  refine lv_iconst (pc := 102) hx hb dL_law_102 ki_4 ?_
  refine lv_iadd (pc := 103) hx hb dL_law_103 ?_
  refine va_sld (pc := 104) hx hb hX hbl hbF hS hin4 dL_law_104 ?_
  refine lv_aload_n (pc := 105) hx hb dL_law_105 rfl (lv_at hl 0 rfl) ?_
  refine lv_iload (pc := 106) hx hb dL_law_106 (lv_at hl 4 rfl) ?_
  refine lv_iconst (pc := 108) hx hb dL_law_108 ki_5 ?_
  refine lv_iadd (pc := 109) hx hb dL_law_109 ?_
  refine va_sld (pc := 110) hx hb hX hbl hbF hS hin5 dL_law_110 ?_
  refine lv_aload_n (pc := 111) hx hb dL_law_111 rfl (lv_at hl 3 rfl) ?_
  refine l_callJ (pc := 112) (n := 7) (rest := []) hC0 hW cwL_feed izL stL_feed ⟨by decide, by decide, by decide +kernel⟩ mlRL_38 ⟨Nat.le_of_ble_eq_true rfl, Nat.le_of_ble_eq_true rfl⟩ rfl rfl (Nat.le_of_ble_eq_true rfl) hl.1 hkc dL_law_112 hJ ?_
  rintro v9 z9 H locs ⟨rfl, rfl⟩ hW
  have hS := hW.2.2
  show W p l e room_1 s m #[Value.ref b] below meth c H locs (cells + 1) (slots + 6) Q (F0 m 115 ls [.int k9])
  refine lv_istore (pc := 115) (lv' := [(5, .int k9), (0, .ref b), (1, .ref (gad (GH qA) 0)), (2, .ref (gad (GM qM) 0)), (3, .ref (gad (GH qA) 57)), (4, .int i)]) hx hb dL_law_115 hl (Nat.le_of_ble_eq_true rfl) rfl (fun ls hl => ?_)
  refine lv_aload_n (pc := 117) hx hb dL_law_117 rfl (lv_at hl 3 rfl) ?_
  refine lv_aload_n (pc := 118) hx hb dL_law_118 rfl (lv_at hl 1 rfl) ?_
  refine lv_iload (pc := 119) hx hb dL_law_119 (lv_at hl 5 rfl) ?_
  refine lv_iconst (pc := 121) hx hb dL_law_121 ki_1 ?_
  refine lv_iadd (pc := 122) hx hb dL_law_122 ?_
  refine va_sld (pc := 123) hx hb hX hbl hbF hS hin1 dL_law_123 ?_
  refine lv_aload_n (pc := 124) hx hb dL_law_124 rfl (lv_at hl 1 rfl) ?_
  refine lv_iload (pc := 125) hx hb dL_law_125 (lv_at hl 5 rfl) ?_
  refine lv_iconst (pc := 127) hx hb dL_law_127 ki_2 ?_
  refine lv_iadd (pc := 128) hx hb dL_law_128 ?_
  refine va_sld (pc := 129) hx hb hX hbl hbF hS hin2 dL_law_129 ?_
  refine lv_aload_n (pc := 130) hx hb dL_law_130 rfl (lv_at hl 1 rfl) ?_
  refine lv_iload (pc := 131) hx hb dL_law_131 (lv_at hl 5 rfl) ?_
  refine lv_iconst (pc := 133) hx hb dL_law_133 ki_3 ?_
  refine lv_iadd (pc := 134) hx hb dL_law_134 ?_
  refine va_sld (pc := 135) hx hb hX hbl hbF hS hin3 dL_law_135 ?_
  refine lv_aload_n (pc := 136) hx hb dL_law_136 rfl (lv_at hl 1 rfl) ?_
  refine lv_iload (pc := 137) hx hb dL_law_137 (lv_at hl 5 rfl) ?_
  refine lv_iconst (pc := 139) hx hb dL_law_139 ki_4 ?_
  refine lv_iadd (pc := 140) hx hb dL_law_140 ?_
  refine va_sld (pc := 141) hx hb hX hbl hbF hS hin4 dL_law_141 ?_
  refine lv_aload_n (pc := 142) hx hb dL_law_142 rfl (lv_at hl 1 rfl) ?_
  refine lv_iload (pc := 143) hx hb dL_law_143 (lv_at hl 5 rfl) ?_
  refine lv_iconst (pc := 145) hx hb dL_law_145 ki_5 ?_
  refine lv_iadd (pc := 146) hx hb dL_law_146 ?_
  refine va_sld (pc := 147) hx hb hX hbl hbF hS hin5 dL_law_147 ?_
  refine l_callM (pc := 148) (n := 5) (av := [.int (xs (i + 1).toNatClampNeg), .int (xs (i + 2).toNatClampNeg), .int (xs (i + 3).toNatClampNeg), .int (xs (i + 4).toNatClampNeg), .int (xs (i + 5).toNatClampNeg)]) (rest := []) (N9 := fun v9 z => v9 = some (.int r) ∧ z = v) hC0 hW wyX12_feed rfl mlRL_43 iyX12_feed syX12_feed ⟨Nat.le_of_ble_eq_true rfl, Nat.le_of_ble_eq_true rfl⟩ rfl rfl (Nat.le_of_ble_eq_true rfl) hl.1 hkc dL_law_148 (mX12_feed e2 ⟨rfl, rfl⟩) ?_
  rintro v9 z9 H locs ⟨rfl, rfl⟩ hW
  show W p l e room_1 s m #[Value.ref b] below meth c H locs (cells + 1) (slots + 6) Q (F0 m 151 ls [.int r])
  refine lv_istore (pc := 151) (lv' := [(6, .int r), (5, .int k9), (0, .ref b), (1, .ref (gad (GH qA) 0)), (2, .ref (gad (GM qM) 0)), (3, .ref (gad (GH qA) 57)), (4, .int i)]) hx hb dL_law_151 hl (Nat.le_of_ble_eq_true rfl) rfl (fun ls hl => ?_)
  refine lv_aload_n (pc := 153) hx hb dL_law_153 rfl (lv_at hl 4 rfl) ?_
  refine l_callM (pc := 154) (n := 0) (av := []) (rest := []) (N9 := fun v9 z => v9 = some (.int k9) ∧ z = z9) hC0 hW wyX12_thrown rfl mlRL_44 iyX12_thrown syX12_thrown ⟨Nat.le_of_ble_eq_true rfl, Nat.le_of_ble_eq_true rfl⟩ rfl rfl (Nat.le_of_ble_eq_true rfl) hl.1 hkc dL_law_154 (mX12_thrown hth ⟨rfl, rfl⟩) ?_
  rintro v9 z8 H locs ⟨rfl, rfl⟩ hW
  show W p l e room_1 s m #[Value.ref b] below meth c H locs (cells + 1) (slots + 6) Q (F0 m 157 ls [.int k9])
  refine lv_iload (pc := 157) hx hb dL_law_157 (lv_at hl 1 rfl) ?_
  refine lv_icmp_eq (pc := 159) (tgt := 164) hx hb dL_law_159 rfl (fun _ => ?_) (fun h => absurd rfl h)
  refine lv_iload (pc := 164) hx hb dL_law_164 (lv_at hl 1 rfl) ?_
  have hend : ∀ (ls : Array Slot), lv_has ls 8 [(6, .int r), (5, .int k9), (0, .ref b), (1, .ref (gad (GH qA) 0)), (2, .ref (gad (GM qM) 0)), (3, .ref (gad (GH qA) 57)), (4, .int i)] → W p l e room_1 s m #[Value.ref b] below meth c H locs (cells + 1) (slots + 6) Q (F0 m 181 ls []) := fun ls hl => lv_goto (pc := 181) (tgt := 420) hx hb dL_law_181 rfl (kk _ _ H locs ls hIz hW (lv_sub hl [2, 3, 4, 5, 6] rfl))
  refine lv_if_ne (pc := 166) (tgt := 181) hx hb dL_law_166 rfl (fun _ => hend ls hl) (fun hk0 => ?_)
  refine lv_aload_n (pc := 169) hx hb dL_law_169 rfl (lv_at hl 5 rfl) ?_
  refine lv_iconst (pc := 170) hx hb dL_law_170 ki_0 ?_
  refine va_lald (pc := 171) hx hb hKA hW.1 57 1 aH57.atL (gty_at aH57.2.2) vin0 dL_law_171 ?_
  rw [hval hk0]
  refine lv_iload (pc := 172) hx hb dL_law_172 (lv_at hl 0 rfl) ?_
  refine lv_i2l (pc := 174) hx hb dL_law_174 rfl ?_
  refine W.lcmp (pc := 175) hx hb dL_law_175 ?_
  exact lv_if_eq (pc := 176) (tgt := 181) hx hb dL_law_176 rfl (fun _ => hend ls hl) (fun h => absurd ((lg_cmp_eq _ _).mpr rfl) h)
set_option maxHeartbeats 4000000 in
set_option maxRecDepth 20000 in
theorem seg_end (hC : LCx qA qM b L xs p s m meth c) (hfl : l.stackTraces = false) (hEF : ∀ (U : State) (H : Heap), gE (GA qA) U H → ENV F U H) (hAF : ∀ z, gAw (GA qA) z → F z) (hFc : Faces INV) (hI : INV (n + 1) wA wM) (hW : LWd qA qM s wA wM H locs) (hl : lv_has ls 8 (LL qA qM b i)) (hin1 : vp_in (i + 1) L) (hkc : cells + 1 ≤ 603072 ∧ slots + 6 ≤ 7202922) (kk : ∀ u v H1 locs1 ls1, INV n u v → LWd qA qM s u v H1 locs1 → lv_has ls1 8 (LL qA qM b i) → W p l e room_1 s m #[Value.ref b] below meth c H1 locs1 (cells + 1) (slots + 6) Q (F0 m 420 ls1 [])) : W p l e room_1 s m #[Value.ref b] below meth c H locs cells slots Q (F0 m 184 ls []) := by
  obtain ⟨o, u, r, v, e1, e2, hA, hI2⟩ := (hFc.1 n wA wM hI).2.1 (xs (i + 1).toNatClampNeg)
  obtain ⟨k9, zA, hJ, hth, hval, hIz⟩ : ∃ (k9 : Int32) (zA : Wd), CtJ qA l 9 yL_end cL_end 4 [(0, 9, 12, 19)] [.ref 0, .int (xs (i + 1).toNatClampNeg), .ref 57] wA (fun v9 z => v9 = some (.int k9) ∧ z = zA) ∧ fX12_thrown v = k9 ∧ (k9 = 0 → gl zA 57 ((0 : Int32).toNatClampNeg) = r.toInt64) ∧ INV n zA v := by
    rcases hA with ⟨ho, ht⟩ | ⟨ho, ht⟩
    · exact ⟨1, mrg u wA, kL_end hfl hEF hAF e1 (fun r9 hr => absurd (ho.symm.trans hr) (fun q => nomatch q)) (fun _ => ⟨rfl, rfl⟩), ht, fun h => absurd h (by decide), hFc.2 n u v _ hI2 (mrg_at u wA)⟩
    · exact ⟨0, sl (mrg u wA) 57 ((0 : Int32).toNatClampNeg) r.toInt64, kL_end hfl hEF hAF e1 (fun r9 hr => ⟨rfl, by rw [Option.some.inj (hr.symm.trans ho)]⟩) (fun h => absurd (h.symm.trans ho) (fun q => nomatch q)), ht, fun _ => mrs_57 _ _ _ _, hFc.2 n u v _ hI2 (mrs_at u wA _ _)⟩
  have hC0 := hC
  obtain ⟨⟨hx, hb, hr, hml, hown, hts, hlk⟩, ⟨hX, hbl⟩, ⟨hKA, hKM⟩, ⟨hGA, hGM⟩, hdis, ⟨hFA, hFM⟩, ⟨hEA, hEM⟩⟩ := hC
  have hbF : ¬ s.heap.size ≤ b := Nat.not_le.mpr hbl
  have hS := hW.2.2
  have hl : lv_has ls 8 [(0, .ref b), (1, .ref (gad (GH qA) 0)), (2, .ref (gad (GM qM) 0)), (3, .ref (gad (GH qA) 57)), (4, .int i)] := hl
  refine lv_aload_n (pc := 184) hx hb dL_law_184 rfl (lv_at hl 1 rfl) ?_
  refine lv_aload_n (pc := 185) hx hb dL_law_185 rfl (lv_at hl 0 rfl) ?_
  refine lv_iload (pc := 186) hx hb dL_law_186 (lv_at hl 4 rfl) ?_
  refine lv_iconst (pc := 188) hx hb dL_law_188 ki_1 ?_
  refine lv_iadd (pc := 189) hx hb dL_law_189 ?_
  refine va_sld (pc := 190) hx hb hX hbl hbF hS hin1 dL_law_190 ?_
  refine lv_aload_n (pc := 191) hx hb dL_law_191 rfl (lv_at hl 3 rfl) ?_
  refine l_callJ (pc := 192) (n := 3) (rest := []) hC0 hW cwL_end izL stL_end ⟨by decide, by decide, by decide +kernel⟩ mlRL_47 ⟨Nat.le_of_ble_eq_true rfl, Nat.le_of_ble_eq_true rfl⟩ rfl rfl (Nat.le_of_ble_eq_true rfl) hl.1 hkc dL_law_192 hJ ?_
  rintro v9 z9 H locs ⟨rfl, rfl⟩ hW
  have hS := hW.2.2
  show W p l e room_1 s m #[Value.ref b] below meth c H locs (cells + 1) (slots + 6) Q (F0 m 195 ls [.int k9])
  refine lv_istore (pc := 195) (lv' := [(5, .int k9), (0, .ref b), (1, .ref (gad (GH qA) 0)), (2, .ref (gad (GM qM) 0)), (3, .ref (gad (GH qA) 57)), (4, .int i)]) hx hb dL_law_195 hl (Nat.le_of_ble_eq_true rfl) rfl (fun ls hl => ?_)
  refine lv_aload_n (pc := 197) hx hb dL_law_197 rfl (lv_at hl 3 rfl) ?_
  refine lv_aload_n (pc := 198) hx hb dL_law_198 rfl (lv_at hl 1 rfl) ?_
  refine lv_iload (pc := 199) hx hb dL_law_199 (lv_at hl 5 rfl) ?_
  refine lv_iconst (pc := 201) hx hb dL_law_201 ki_1 ?_
  refine lv_iadd (pc := 202) hx hb dL_law_202 ?_
  refine va_sld (pc := 203) hx hb hX hbl hbF hS hin1 dL_law_203 ?_
  refine l_callM (pc := 204) (n := 1) (av := [.int (xs (i + 1).toNatClampNeg)]) (rest := []) (N9 := fun v9 z => v9 = some (.int r) ∧ z = v) hC0 hW wyX12_end rfl mlRL_50 iyX12_end syX12_end ⟨Nat.le_of_ble_eq_true rfl, Nat.le_of_ble_eq_true rfl⟩ rfl rfl (Nat.le_of_ble_eq_true rfl) hl.1 hkc dL_law_204 (mX12_end e2 ⟨rfl, rfl⟩) ?_
  rintro v9 z9 H locs ⟨rfl, rfl⟩ hW
  show W p l e room_1 s m #[Value.ref b] below meth c H locs (cells + 1) (slots + 6) Q (F0 m 207 ls [.int r])
  refine lv_istore (pc := 207) (lv' := [(6, .int r), (5, .int k9), (0, .ref b), (1, .ref (gad (GH qA) 0)), (2, .ref (gad (GM qM) 0)), (3, .ref (gad (GH qA) 57)), (4, .int i)]) hx hb dL_law_207 hl (Nat.le_of_ble_eq_true rfl) rfl (fun ls hl => ?_)
  refine lv_aload_n (pc := 209) hx hb dL_law_209 rfl (lv_at hl 4 rfl) ?_
  refine l_callM (pc := 210) (n := 0) (av := []) (rest := []) (N9 := fun v9 z => v9 = some (.int k9) ∧ z = z9) hC0 hW wyX12_thrown rfl mlRL_44 iyX12_thrown syX12_thrown ⟨Nat.le_of_ble_eq_true rfl, Nat.le_of_ble_eq_true rfl⟩ rfl rfl (Nat.le_of_ble_eq_true rfl) hl.1 hkc dL_law_210 (mX12_thrown hth ⟨rfl, rfl⟩) ?_
  rintro v9 z8 H locs ⟨rfl, rfl⟩ hW
  show W p l e room_1 s m #[Value.ref b] below meth c H locs (cells + 1) (slots + 6) Q (F0 m 213 ls [.int k9])
  refine lv_iload (pc := 213) hx hb dL_law_213 (lv_at hl 1 rfl) ?_
  refine lv_icmp_eq (pc := 215) (tgt := 220) hx hb dL_law_215 rfl (fun _ => ?_) (fun h => absurd rfl h)
  refine lv_iload (pc := 220) hx hb dL_law_220 (lv_at hl 1 rfl) ?_
  have hend : ∀ (ls : Array Slot), lv_has ls 8 [(6, .int r), (5, .int k9), (0, .ref b), (1, .ref (gad (GH qA) 0)), (2, .ref (gad (GM qM) 0)), (3, .ref (gad (GH qA) 57)), (4, .int i)] → W p l e room_1 s m #[Value.ref b] below meth c H locs (cells + 1) (slots + 6) Q (F0 m 237 ls []) := fun ls hl => lv_goto (pc := 237) (tgt := 420) hx hb dL_law_237 rfl (kk _ _ H locs ls hIz hW (lv_sub hl [2, 3, 4, 5, 6] rfl))
  refine lv_if_ne (pc := 222) (tgt := 237) hx hb dL_law_222 rfl (fun _ => hend ls hl) (fun hk0 => ?_)
  refine lv_aload_n (pc := 225) hx hb dL_law_225 rfl (lv_at hl 5 rfl) ?_
  refine lv_iconst (pc := 226) hx hb dL_law_226 ki_0 ?_
  refine va_lald (pc := 227) hx hb hKA hW.1 57 1 aH57.atL (gty_at aH57.2.2) vin0 dL_law_227 ?_
  rw [hval hk0]
  refine lv_iload (pc := 228) hx hb dL_law_228 (lv_at hl 0 rfl) ?_
  refine lv_i2l (pc := 230) hx hb dL_law_230 rfl ?_
  refine W.lcmp (pc := 231) hx hb dL_law_231 ?_
  exact lv_if_eq (pc := 232) (tgt := 237) hx hb dL_law_232 rfl (fun _ => hend ls hl) (fun h => absurd ((lg_cmp_eq _ _).mpr rfl) h)
set_option maxHeartbeats 4000000 in
set_option maxRecDepth 20000 in
theorem seg_build {FM : Nat → Prop} (hzA : SGN qA l) (hzM : SGM qM l) (hFM9 : ∀ (U : State) (H : Heap), gE (GM qM) U H → ENV FM U H) (hC : LCx qA qM b L xs p s m meth c) (hfl : l.stackTraces = false) (hEF : ∀ (U : State) (H : Heap), gE (GA qA) U H → ENV F U H) (hAF : ∀ z, gAw (GA qA) z → F z) (hFc : Faces INV) (hI : INV (n + 1) wA wM) (hW : LWd qA qM s wA wM H locs) (hl : lv_has ls 8 (LL qA qM b i))  (hkc : cells + 1 ≤ 603072 ∧ slots + 6 ≤ 7202922) (kk : ∀ u v H1 locs1 ls1, INV n u v → LWd qA qM s u v H1 locs1 → lv_has ls1 8 (LL qA qM b i) → W p l e room_1 s m #[Value.ref b] below meth c H1 locs1 (cells + 1) (slots + 6) Q (F0 m 420 ls1 [])) : W p l e room_1 s m #[Value.ref b] below meth c H locs cells slots Q (F0 m 240 ls []) := by
  obtain ⟨o, u, r, v, e1, e2, hA, hI2⟩ := (hFc.1 n wA wM hI).2.2.1 
  obtain ⟨k9, zA, hJ, hth, hval, hIz⟩ : ∃ (k9 : Int32) (zA : Wd), CtJ qA l 1815 yL_build cL_build 3 [(0, 8, 11, 25)] [.ref 0, .ref 57] wA (fun v9 z => v9 = some (.int k9) ∧ z = zA) ∧ fX12_thrown v = k9 ∧ (k9 = 0 → gl zA 57 ((0 : Int32).toNatClampNeg) = r.toInt64) ∧ INV n zA v := by
    rcases hA with ⟨ho, ht⟩ | ⟨ho, ht⟩
    · exact ⟨1, mrg u wA, kL_build hzA hfl hEF hAF e1 (fun r9 hr => absurd (ho.symm.trans hr) (fun q => nomatch q)) (fun _ => ⟨rfl, rfl⟩), ht, fun h => absurd h (by decide), hFc.2 n u v _ hI2 (mrg_at u wA)⟩
    · exact ⟨0, sl (mrg u wA) 57 ((0 : Int32).toNatClampNeg) r.toInt64, kL_build hzA hfl hEF hAF e1 (fun r9 hr => ⟨rfl, by rw [Option.some.inj (hr.symm.trans ho)]⟩) (fun h => absurd (h.symm.trans ho) (fun q => nomatch q)), ht, fun _ => mrs_57 _ _ _ _, hFc.2 n u v _ hI2 (mrs_at u wA _ _)⟩
  have hC0 := hC
  obtain ⟨⟨hx, hb, hr, hml, hown, hts, hlk⟩, ⟨hX, hbl⟩, ⟨hKA, hKM⟩, ⟨hGA, hGM⟩, hdis, ⟨hFA, hFM⟩, ⟨hEA, hEM⟩⟩ := hC
  have hbF : ¬ s.heap.size ≤ b := Nat.not_le.mpr hbl
  have hS := hW.2.2
  have hl : lv_has ls 8 [(0, .ref b), (1, .ref (gad (GH qA) 0)), (2, .ref (gad (GM qM) 0)), (3, .ref (gad (GH qA) 57)), (4, .int i)] := hl
  refine lv_aload_n (pc := 240) hx hb dL_law_240 rfl (lv_at hl 1 rfl) ?_
  refine lv_aload_n (pc := 241) hx hb dL_law_241 rfl (lv_at hl 3 rfl) ?_
  refine l_callJ (pc := 242) (n := 2) (rest := []) hC0 hW cwL_build izL stL_build ⟨by decide, by decide, by decide +kernel⟩ mlRL_51 ⟨Nat.le_of_ble_eq_true rfl, Nat.le_of_ble_eq_true rfl⟩ rfl rfl (Nat.le_of_ble_eq_true rfl) hl.1 hkc dL_law_242 hJ ?_
  rintro v9 z9 H locs ⟨rfl, rfl⟩ hW
  have hS := hW.2.2
  show W p l e room_1 s m #[Value.ref b] below meth c H locs (cells + 1) (slots + 6) Q (F0 m 245 ls [.int k9])
  refine lv_istore (pc := 245) (lv' := [(5, .int k9), (0, .ref b), (1, .ref (gad (GH qA) 0)), (2, .ref (gad (GM qM) 0)), (3, .ref (gad (GH qA) 57)), (4, .int i)]) hx hb dL_law_245 hl (Nat.le_of_ble_eq_true rfl) rfl (fun ls hl => ?_)
  refine lv_aload_n (pc := 247) hx hb dL_law_247 rfl (lv_at hl 3 rfl) ?_
  refine l_callMH (pc := 248) (n := 0) (av := []) (rest := []) (N9 := fun v9 z => v9 = some (.int r) ∧ z = v) hC0 hW cwM_build iz12 ⟨by decide, by decide, by decide +kernel⟩ rfl mlRL_54 iyX12_build syX12_build ⟨Nat.le_of_ble_eq_true rfl, Nat.le_of_ble_eq_true rfl⟩ rfl rfl (Nat.le_of_ble_eq_true rfl) hl.1 hkc dL_law_248 (mX12_build hFM9 hzM e2 ⟨rfl, rfl⟩) ?_
  rintro v9 z9 H locs ⟨rfl, rfl⟩ hW
  show W p l e room_1 s m #[Value.ref b] below meth c H locs (cells + 1) (slots + 6) Q (F0 m 251 ls [.int r])
  refine lv_istore (pc := 251) (lv' := [(6, .int r), (5, .int k9), (0, .ref b), (1, .ref (gad (GH qA) 0)), (2, .ref (gad (GM qM) 0)), (3, .ref (gad (GH qA) 57)), (4, .int i)]) hx hb dL_law_251 hl (Nat.le_of_ble_eq_true rfl) rfl (fun ls hl => ?_)
  refine lv_aload_n (pc := 253) hx hb dL_law_253 rfl (lv_at hl 4 rfl) ?_
  refine l_callM (pc := 254) (n := 0) (av := []) (rest := []) (N9 := fun v9 z => v9 = some (.int k9) ∧ z = z9) hC0 hW wyX12_thrown rfl mlRL_44 iyX12_thrown syX12_thrown ⟨Nat.le_of_ble_eq_true rfl, Nat.le_of_ble_eq_true rfl⟩ rfl rfl (Nat.le_of_ble_eq_true rfl) hl.1 hkc dL_law_254 (mX12_thrown hth ⟨rfl, rfl⟩) ?_
  rintro v9 z8 H locs ⟨rfl, rfl⟩ hW
  show W p l e room_1 s m #[Value.ref b] below meth c H locs (cells + 1) (slots + 6) Q (F0 m 257 ls [.int k9])
  refine lv_iload (pc := 257) hx hb dL_law_257 (lv_at hl 1 rfl) ?_
  refine lv_icmp_eq (pc := 259) (tgt := 264) hx hb dL_law_259 rfl (fun _ => ?_) (fun h => absurd rfl h)
  refine lv_iload (pc := 264) hx hb dL_law_264 (lv_at hl 1 rfl) ?_
  have hend : ∀ (ls : Array Slot), lv_has ls 8 [(6, .int r), (5, .int k9), (0, .ref b), (1, .ref (gad (GH qA) 0)), (2, .ref (gad (GM qM) 0)), (3, .ref (gad (GH qA) 57)), (4, .int i)] → W p l e room_1 s m #[Value.ref b] below meth c H locs (cells + 1) (slots + 6) Q (F0 m 281 ls []) := fun ls hl => lv_goto (pc := 281) (tgt := 420) hx hb dL_law_281 rfl (kk _ _ H locs ls hIz hW (lv_sub hl [2, 3, 4, 5, 6] rfl))
  refine lv_if_ne (pc := 266) (tgt := 281) hx hb dL_law_266 rfl (fun _ => hend ls hl) (fun hk0 => ?_)
  refine lv_aload_n (pc := 269) hx hb dL_law_269 rfl (lv_at hl 5 rfl) ?_
  refine lv_iconst (pc := 270) hx hb dL_law_270 ki_0 ?_
  refine va_lald (pc := 271) hx hb hKA hW.1 57 1 aH57.atL (gty_at aH57.2.2) vin0 dL_law_271 ?_
  rw [hval hk0]
  refine lv_iload (pc := 272) hx hb dL_law_272 (lv_at hl 0 rfl) ?_
  refine lv_i2l (pc := 274) hx hb dL_law_274 rfl ?_
  refine W.lcmp (pc := 275) hx hb dL_law_275 ?_
  exact lv_if_eq (pc := 276) (tgt := 281) hx hb dL_law_276 rfl (fun _ => hend ls hl) (fun h => absurd ((lg_cmp_eq _ _).mpr rfl) h)
set_option maxHeartbeats 4000000 in
set_option maxRecDepth 20000 in
theorem seg_run (hNC : ∀ (U : State) (H : Heap), gE (GA qA) U H → va_Nc "java/lang/IllegalStateException" "java/lang/IllegalArgumentException" U) (hC : LCx qA qM b L xs p s m meth c) (hfl : l.stackTraces = false) (hEF : ∀ (U : State) (H : Heap), gE (GA qA) U H → ENV F U H) (hAF : ∀ z, gAw (GA qA) z → F z) (hFc : Faces INV) (hI : INV (n + 1) wA wM) (hW : LWd qA qM s wA wM H locs) (hl : lv_has ls 8 (LL qA qM b i)) (hin1 : vp_in (i + 1) L) (hkc : cells + 1 ≤ 603072 ∧ slots + 6 ≤ 7202922) (kk : ∀ u v H1 locs1 ls1, INV n u v → LWd qA qM s u v H1 locs1 → lv_has ls1 8 (LL qA qM b i) → W p l e room_1 s m #[Value.ref b] below meth c H1 locs1 (cells + 1) (slots + 6) Q (F0 m 420 ls1 [])) : W p l e room_1 s m #[Value.ref b] below meth c H locs cells slots Q (F0 m 284 ls []) := by
  obtain ⟨o, u, r, v, e1, e2, hA, hI2⟩ := (hFc.1 n wA wM hI).2.2.2.1 (xs (i + 1).toNatClampNeg)
  obtain ⟨k9, zA, hJ, hth, hval, hIz⟩ : ∃ (k9 : Int32) (zA : Wd), CtJ qA l 12 yL_run cL_run 4 [(0, 9, 12, 19), (0, 9, 15, 25)] [.ref 0, .int (xs (i + 1).toNatClampNeg), .ref 57] wA (fun v9 z => v9 = some (.int k9) ∧ z = zA) ∧ fX12_thrown v = k9 ∧ (k9 = 0 → gl zA 57 ((0 : Int32).toNatClampNeg) = r.toInt64) ∧ INV n zA v := by
    rcases hA with ⟨ho, ht⟩ | ⟨ho, ht⟩
    · exact ⟨(if (xs (i + 1).toNatClampNeg) < 1 ∨ 20000 < (xs (i + 1).toNatClampNeg) then 1 else 2), mrg u wA, kL_run hfl hEF hAF hNC e1 (fun r9 hr => absurd (ho.symm.trans hr) (fun q => nomatch q)) (fun _ => ⟨rfl, rfl⟩), ht, fun h => absurd h (by split <;> decide), hFc.2 n u v _ hI2 (mrg_at u wA)⟩
    · exact ⟨0, sl (mrg u wA) 57 ((0 : Int32).toNatClampNeg) r.toInt64, kL_run hfl hEF hAF hNC e1 (fun r9 hr => ⟨rfl, by rw [Option.some.inj (hr.symm.trans ho)]⟩) (fun h => absurd (h.symm.trans ho) (fun q => nomatch q)), ht, fun _ => mrs_57 _ _ _ _, hFc.2 n u v _ hI2 (mrs_at u wA _ _)⟩
  have hC0 := hC
  obtain ⟨⟨hx, hb, hr, hml, hown, hts, hlk⟩, ⟨hX, hbl⟩, ⟨hKA, hKM⟩, ⟨hGA, hGM⟩, hdis, ⟨hFA, hFM⟩, ⟨hEA, hEM⟩⟩ := hC
  have hbF : ¬ s.heap.size ≤ b := Nat.not_le.mpr hbl
  have hS := hW.2.2
  have hl : lv_has ls 8 [(0, .ref b), (1, .ref (gad (GH qA) 0)), (2, .ref (gad (GM qM) 0)), (3, .ref (gad (GH qA) 57)), (4, .int i)] := hl
  refine lv_aload_n (pc := 284) hx hb dL_law_284 rfl (lv_at hl 1 rfl) ?_
  refine lv_aload_n (pc := 285) hx hb dL_law_285 rfl (lv_at hl 0 rfl) ?_
  refine lv_iload (pc := 286) hx hb dL_law_286 (lv_at hl 4 rfl) ?_
  refine lv_iconst (pc := 288) hx hb dL_law_288 ki_1 ?_
  refine lv_iadd (pc := 289) hx hb dL_law_289 ?_
  refine va_sld (pc := 290) hx hb hX hbl hbF hS hin1 dL_law_290 ?_
  refine lv_aload_n (pc := 291) hx hb dL_law_291 rfl (lv_at hl 3 rfl) ?_
  refine l_callJ (pc := 292) (n := 3) (rest := []) hC0 hW cwL_run izL stL_run ⟨by decide, by decide, by decide +kernel⟩ mlRL_55 ⟨Nat.le_of_ble_eq_true rfl, Nat.le_of_ble_eq_true rfl⟩ rfl rfl (Nat.le_of_ble_eq_true rfl) hl.1 hkc dL_law_292 hJ ?_
  rintro v9 z9 H locs ⟨rfl, rfl⟩ hW
  have hS := hW.2.2
  show W p l e room_1 s m #[Value.ref b] below meth c H locs (cells + 1) (slots + 6) Q (F0 m 295 ls [.int k9])
  refine lv_istore (pc := 295) (lv' := [(5, .int k9), (0, .ref b), (1, .ref (gad (GH qA) 0)), (2, .ref (gad (GM qM) 0)), (3, .ref (gad (GH qA) 57)), (4, .int i)]) hx hb dL_law_295 hl (Nat.le_of_ble_eq_true rfl) rfl (fun ls hl => ?_)
  refine lv_aload_n (pc := 297) hx hb dL_law_297 rfl (lv_at hl 3 rfl) ?_
  refine lv_aload_n (pc := 298) hx hb dL_law_298 rfl (lv_at hl 1 rfl) ?_
  refine lv_iload (pc := 299) hx hb dL_law_299 (lv_at hl 5 rfl) ?_
  refine lv_iconst (pc := 301) hx hb dL_law_301 ki_1 ?_
  refine lv_iadd (pc := 302) hx hb dL_law_302 ?_
  refine va_sld (pc := 303) hx hb hX hbl hbF hS hin1 dL_law_303 ?_
  refine l_callM (pc := 304) (n := 1) (av := [.int (xs (i + 1).toNatClampNeg)]) (rest := []) (N9 := fun v9 z => v9 = some (.int r) ∧ z = v) hC0 hW wyX12_run rfl mlRL_57 iyX12_run syX12_run ⟨Nat.le_of_ble_eq_true rfl, Nat.le_of_ble_eq_true rfl⟩ rfl rfl (Nat.le_of_ble_eq_true rfl) hl.1 hkc dL_law_304 (mX12_run e2 ⟨rfl, rfl⟩) ?_
  rintro v9 z9 H locs ⟨rfl, rfl⟩ hW
  show W p l e room_1 s m #[Value.ref b] below meth c H locs (cells + 1) (slots + 6) Q (F0 m 307 ls [.int r])
  refine lv_istore (pc := 307) (lv' := [(6, .int r), (5, .int k9), (0, .ref b), (1, .ref (gad (GH qA) 0)), (2, .ref (gad (GM qM) 0)), (3, .ref (gad (GH qA) 57)), (4, .int i)]) hx hb dL_law_307 hl (Nat.le_of_ble_eq_true rfl) rfl (fun ls hl => ?_)
  refine lv_aload_n (pc := 309) hx hb dL_law_309 rfl (lv_at hl 4 rfl) ?_
  refine l_callM (pc := 310) (n := 0) (av := []) (rest := []) (N9 := fun v9 z => v9 = some (.int k9) ∧ z = z9) hC0 hW wyX12_thrown rfl mlRL_44 iyX12_thrown syX12_thrown ⟨Nat.le_of_ble_eq_true rfl, Nat.le_of_ble_eq_true rfl⟩ rfl rfl (Nat.le_of_ble_eq_true rfl) hl.1 hkc dL_law_310 (mX12_thrown hth ⟨rfl, rfl⟩) ?_
  rintro v9 z8 H locs ⟨rfl, rfl⟩ hW
  show W p l e room_1 s m #[Value.ref b] below meth c H locs (cells + 1) (slots + 6) Q (F0 m 313 ls [.int k9])
  refine lv_iload (pc := 313) hx hb dL_law_313 (lv_at hl 1 rfl) ?_
  refine lv_icmp_eq (pc := 315) (tgt := 320) hx hb dL_law_315 rfl (fun _ => ?_) (fun h => absurd rfl h)
  refine lv_iload (pc := 320) hx hb dL_law_320 (lv_at hl 1 rfl) ?_
  have hend : ∀ (ls : Array Slot), lv_has ls 8 [(6, .int r), (5, .int k9), (0, .ref b), (1, .ref (gad (GH qA) 0)), (2, .ref (gad (GM qM) 0)), (3, .ref (gad (GH qA) 57)), (4, .int i)] → W p l e room_1 s m #[Value.ref b] below meth c H locs (cells + 1) (slots + 6) Q (F0 m 337 ls []) := fun ls hl => lv_goto (pc := 337) (tgt := 420) hx hb dL_law_337 rfl (kk _ _ H locs ls hIz hW (lv_sub hl [2, 3, 4, 5, 6] rfl))
  refine lv_if_ne (pc := 322) (tgt := 337) hx hb dL_law_322 rfl (fun _ => hend ls hl) (fun hk0 => ?_)
  refine lv_aload_n (pc := 325) hx hb dL_law_325 rfl (lv_at hl 5 rfl) ?_
  refine lv_iconst (pc := 326) hx hb dL_law_326 ki_0 ?_
  refine va_lald (pc := 327) hx hb hKA hW.1 57 1 aH57.atL (gty_at aH57.2.2) vin0 dL_law_327 ?_
  rw [hval hk0]
  refine lv_iload (pc := 328) hx hb dL_law_328 (lv_at hl 0 rfl) ?_
  refine lv_i2l (pc := 330) hx hb dL_law_330 rfl ?_
  refine W.lcmp (pc := 331) hx hb dL_law_331 ?_
  exact lv_if_eq (pc := 332) (tgt := 337) hx hb dL_law_332 rfl (fun _ => hend ls hl) (fun h => absurd ((lg_cmp_eq _ _).mpr rfl) h)
set_option maxHeartbeats 4000000 in
set_option maxRecDepth 20000 in
theorem seg_out (hC : LCx qA qM b L xs p s m meth c) (hfl : l.stackTraces = false) (hEF : ∀ (U : State) (H : Heap), gE (GA qA) U H → ENV F U H) (hAF : ∀ z, gAw (GA qA) z → F z) (hFc : Faces INV) (hI : INV (n + 1) wA wM) (hW : LWd qA qM s wA wM H locs) (hl : lv_has ls 8 (LL qA qM b i)) (hin1 : vp_in (i + 1) L) (hkc : cells + 1 ≤ 603072 ∧ slots + 6 ≤ 7202922) (kk : ∀ u v H1 locs1 ls1, INV n u v → LWd qA qM s u v H1 locs1 → lv_has ls1 8 (LL qA qM b i) → W p l e room_1 s m #[Value.ref b] below meth c H1 locs1 (cells + 1) (slots + 6) Q (F0 m 420 ls1 [])) : W p l e room_1 s m #[Value.ref b] below meth c H locs cells slots Q (F0 m 340 ls []) := by
  obtain ⟨o, u, r, v, e1, e2, hA, hI2⟩ := (hFc.1 n wA wM hI).2.2.2.2.1 (xs (i + 1).toNatClampNeg)
  obtain ⟨k9, zA, hJ, hth, hval, hIz⟩ : ∃ (k9 : Int32) (zA : Wd), CtJ qA l 9 yL_out cL_out 4 [(0, 8, 11, 19)] [.ref 0, .int (xs (i + 1).toNatClampNeg), .ref 57] wA (fun v9 z => v9 = some (.int k9) ∧ z = zA) ∧ fX12_thrown v = k9 ∧ (k9 = 0 → gl zA 57 ((0 : Int32).toNatClampNeg) = r) ∧ INV n zA v := by
    rcases hA with ⟨ho, ht⟩ | ⟨ho, ht⟩
    · exact ⟨1, mrg u wA, kL_out hfl hEF hAF e1 (fun r9 hr => absurd (ho.symm.trans hr) (fun q => nomatch q)) (fun _ => ⟨rfl, rfl⟩), ht, fun h => absurd h (by decide), hFc.2 n u v _ hI2 (mrg_at u wA)⟩
    · exact ⟨0, sl (mrg u wA) 57 ((0 : Int32).toNatClampNeg) r, kL_out hfl hEF hAF e1 (fun r9 hr => ⟨rfl, by rw [Option.some.inj (hr.symm.trans ho)]⟩) (fun h => absurd (h.symm.trans ho) (fun q => nomatch q)), ht, fun _ => mrs_57 _ _ _ _, hFc.2 n u v _ hI2 (mrs_at u wA _ _)⟩
  have hC0 := hC
  obtain ⟨⟨hx, hb, hr, hml, hown, hts, hlk⟩, ⟨hX, hbl⟩, ⟨hKA, hKM⟩, ⟨hGA, hGM⟩, hdis, ⟨hFA, hFM⟩, ⟨hEA, hEM⟩⟩ := hC
  have hbF : ¬ s.heap.size ≤ b := Nat.not_le.mpr hbl
  have hS := hW.2.2
  have hl : lv_has ls 8 [(0, .ref b), (1, .ref (gad (GH qA) 0)), (2, .ref (gad (GM qM) 0)), (3, .ref (gad (GH qA) 57)), (4, .int i)] := hl
  refine lv_aload_n (pc := 340) hx hb dL_law_340 rfl (lv_at hl 1 rfl) ?_
  refine lv_aload_n (pc := 341) hx hb dL_law_341 rfl (lv_at hl 0 rfl) ?_
  refine lv_iload (pc := 342) hx hb dL_law_342 (lv_at hl 4 rfl) ?_
  refine lv_iconst (pc := 344) hx hb dL_law_344 ki_1 ?_
  refine lv_iadd (pc := 345) hx hb dL_law_345 ?_
  refine va_sld (pc := 346) hx hb hX hbl hbF hS hin1 dL_law_346 ?_
  refine lv_aload_n (pc := 347) hx hb dL_law_347 rfl (lv_at hl 3 rfl) ?_
  refine l_callJ (pc := 348) (n := 3) (rest := []) hC0 hW cwL_out izL stL_out ⟨by decide, by decide, by decide +kernel⟩ mlRL_58 ⟨Nat.le_of_ble_eq_true rfl, Nat.le_of_ble_eq_true rfl⟩ rfl rfl (Nat.le_of_ble_eq_true rfl) hl.1 hkc dL_law_348 hJ ?_
  rintro v9 z9 H locs ⟨rfl, rfl⟩ hW
  have hS := hW.2.2
  show W p l e room_1 s m #[Value.ref b] below meth c H locs (cells + 1) (slots + 6) Q (F0 m 351 ls [.int k9])
  refine lv_istore (pc := 351) (lv' := [(5, .int k9), (0, .ref b), (1, .ref (gad (GH qA) 0)), (2, .ref (gad (GM qM) 0)), (3, .ref (gad (GH qA) 57)), (4, .int i)]) hx hb dL_law_351 hl (Nat.le_of_ble_eq_true rfl) rfl (fun ls hl => ?_)
  refine lv_aload_n (pc := 353) hx hb dL_law_353 rfl (lv_at hl 3 rfl) ?_
  refine lv_aload_n (pc := 354) hx hb dL_law_354 rfl (lv_at hl 1 rfl) ?_
  refine lv_iload (pc := 355) hx hb dL_law_355 (lv_at hl 5 rfl) ?_
  refine lv_iconst (pc := 357) hx hb dL_law_357 ki_1 ?_
  refine lv_iadd (pc := 358) hx hb dL_law_358 ?_
  refine va_sld (pc := 359) hx hb hX hbl hbF hS hin1 dL_law_359 ?_
  refine l_callM (pc := 360) (n := 1) (av := [.int (xs (i + 1).toNatClampNeg)]) (rest := []) (N9 := fun v9 z => v9 = some (.long r) ∧ z = v) hC0 hW wyX12_out rfl mlRL_60 iyX12_out syX12_out ⟨Nat.le_of_ble_eq_true rfl, Nat.le_of_ble_eq_true rfl⟩ rfl rfl (Nat.le_of_ble_eq_true rfl) hl.1 hkc dL_law_360 (mX12_out e2 ⟨rfl, rfl⟩) ?_
  rintro v9 z9 H locs ⟨rfl, rfl⟩ hW
  show W p l e room_1 s m #[Value.ref b] below meth c H locs (cells + 1) (slots + 6) Q (F0 m 363 ls [.long r])
  refine lv_lstore (pc := 363) (lv' := [(6, .long r), (5, .int k9), (0, .ref b), (1, .ref (gad (GH qA) 0)), (2, .ref (gad (GM qM) 0)), (3, .ref (gad (GH qA) 57)), (4, .int i)]) hx hb dL_law_363 hl (Nat.le_of_ble_eq_true rfl) rfl (fun ls hl => ?_)
  refine lv_aload_n (pc := 365) hx hb dL_law_365 rfl (lv_at hl 4 rfl) ?_
  refine l_callM (pc := 366) (n := 0) (av := []) (rest := []) (N9 := fun v9 z => v9 = some (.int k9) ∧ z = z9) hC0 hW wyX12_thrown rfl mlRL_44 iyX12_thrown syX12_thrown ⟨Nat.le_of_ble_eq_true rfl, Nat.le_of_ble_eq_true rfl⟩ rfl rfl (Nat.le_of_ble_eq_true rfl) hl.1 hkc dL_law_366 (mX12_thrown hth ⟨rfl, rfl⟩) ?_
  rintro v9 z8 H locs ⟨rfl, rfl⟩ hW
  show W p l e room_1 s m #[Value.ref b] below meth c H locs (cells + 1) (slots + 6) Q (F0 m 369 ls [.int k9])
  refine lv_iload (pc := 369) hx hb dL_law_369 (lv_at hl 1 rfl) ?_
  refine lv_icmp_eq (pc := 371) (tgt := 376) hx hb dL_law_371 rfl (fun _ => ?_) (fun h => absurd rfl h)
  refine lv_iload (pc := 376) hx hb dL_law_376 (lv_at hl 1 rfl) ?_
  have hend : ∀ (ls : Array Slot), lv_has ls 8 [(6, .long r), (5, .int k9), (0, .ref b), (1, .ref (gad (GH qA) 0)), (2, .ref (gad (GM qM) 0)), (3, .ref (gad (GH qA) 57)), (4, .int i)] → W p l e room_1 s m #[Value.ref b] below meth c H locs (cells + 1) (slots + 6) Q (F0 m 392 ls []) := fun ls hl => lv_goto (pc := 392) (tgt := 420) hx hb dL_law_392 rfl (kk _ _ H locs ls hIz hW (lv_sub hl [2, 3, 4, 5, 6] rfl))
  refine lv_if_ne (pc := 378) (tgt := 392) hx hb dL_law_378 rfl (fun _ => hend ls hl) (fun hk0 => ?_)
  refine lv_aload_n (pc := 381) hx hb dL_law_381 rfl (lv_at hl 5 rfl) ?_
  refine lv_iconst (pc := 382) hx hb dL_law_382 ki_0 ?_
  refine va_lald (pc := 383) hx hb hKA hW.1 57 1 aH57.atL (gty_at aH57.2.2) vin0 dL_law_383 ?_
  rw [hval hk0]
  refine lv_lload (pc := 384) hx hb dL_law_384 (lv_at hl 0 rfl) ?_
  refine W.lcmp (pc := 386) hx hb dL_law_386 ?_
  exact lv_if_eq (pc := 387) (tgt := 392) hx hb dL_law_387 rfl (fun _ => hend ls hl) (fun h => absurd ((lg_cmp_eq _ _).mpr rfl) h)
set_option maxHeartbeats 4000000 in
set_option maxRecDepth 20000 in
theorem seg_count (hC : LCx qA qM b L xs p s m meth c) (hFc : Faces INV) (hI : INV (n + 1) wA wM) (hW : LWd qA qM s wA wM H locs) (hl : lv_has ls 8 (LL qA qM b i)) (hin1 : vp_in (i + 1) L) (hkc : cells ≤ 603072 ∧ slots ≤ 7202922) (kk : ∀ u v H1 locs1 ls1, INV n u v → LWd qA qM s u v H1 locs1 → lv_has ls1 8 (LL qA qM b i) → W p l e room_1 s m #[Value.ref b] below meth c H1 locs1 cells slots Q (F0 m 420 ls1 [])) : W p l e room_1 s m #[Value.ref b] below meth c H locs cells slots Q (F0 m 395 ls []) := by
  obtain ⟨r, v, e2, e1, hI2⟩ := (hFc.1 n wA wM hI).2.2.2.2.2.1 (xs (i + 1).toNatClampNeg)
  have hC0 := hC
  obtain ⟨⟨hx, hb, hr, hml, hown, hts, hlk⟩, ⟨hX, hbl⟩, ⟨hKA, hKM⟩, ⟨hGA, hGM⟩, hdis, ⟨hFA, hFM⟩, ⟨hEA, hEM⟩⟩ := hC
  have hbF : ¬ s.heap.size ≤ b := Nat.not_le.mpr hbl
  have hS := hW.2.2
  have hl : lv_has ls 8 [(0, .ref b), (1, .ref (gad (GH qA) 0)), (2, .ref (gad (GM qM) 0)), (3, .ref (gad (GH qA) 57)), (4, .int i)] := hl
  refine lv_aload_n (pc := 395) hx hb dL_law_395 rfl (lv_at hl 1 rfl) ?_
  refine lv_aload_n (pc := 396) hx hb dL_law_396 rfl (lv_at hl 0 rfl) ?_
  refine lv_iload (pc := 397) hx hb dL_law_397 (lv_at hl 4 rfl) ?_
  refine lv_iconst (pc := 399) hx hb dL_law_399 ki_1 ?_
  refine lv_iadd (pc := 400) hx hb dL_law_400 ?_
  refine va_sld (pc := 401) hx hb hX hbl hbF hS hin1 dL_law_401 ?_
  refine l_callA (pc := 402) (n := 1) (av := [.int (xs (i + 1).toNatClampNeg)]) (rest := []) (N9 := fun v9 z => v9 = some (.int r) ∧ z = wA) hC0 hW wyX11_count rfl mlRL_61 iyX11_count syX11_count ⟨Nat.le_of_ble_eq_true rfl, Nat.le_of_ble_eq_true rfl⟩ rfl rfl (Nat.le_of_ble_eq_true rfl) hl.1 hkc dL_law_402 (mX11_count e1 ⟨rfl, rfl⟩) ?_
  rintro v9 z9 H locs ⟨rfl, rfl⟩ hW
  have hS := hW.2.2
  show W p l e room_1 s m #[Value.ref b] below meth c H locs cells slots Q (F0 m 405 ls [.int r])
  refine lv_aload_n (pc := 405) hx hb dL_law_405 rfl (lv_at hl 2 rfl) ?_
  refine lv_aload_n (pc := 406) hx hb dL_law_406 rfl (lv_at hl 0 rfl) ?_
  refine lv_iload (pc := 407) hx hb dL_law_407 (lv_at hl 4 rfl) ?_
  refine lv_iconst (pc := 409) hx hb dL_law_409 ki_1 ?_
  refine lv_iadd (pc := 410) hx hb dL_law_410 ?_
  refine va_sld (pc := 411) hx hb hX hbl hbF hS hin1 dL_law_411 ?_
  refine l_callM (pc := 412) (n := 1) (av := [.int (xs (i + 1).toNatClampNeg)]) (rest := [.int r]) (N9 := fun v9 z => v9 = some (.int r) ∧ z = v) hC0 hW wyX12_count rfl mlRL_64 iyX12_count syX12_count ⟨Nat.le_of_ble_eq_true rfl, Nat.le_of_ble_eq_true rfl⟩ rfl rfl (Nat.le_of_ble_eq_true rfl) hl.1 hkc dL_law_412 (mX12_count e2 ⟨rfl, rfl⟩) ?_
  rintro v9 z8 H locs ⟨rfl, rfl⟩ hW
  show W p l e room_1 s m #[Value.ref b] below meth c H locs cells slots Q (F0 m 415 ls [.int r, .int r])
  exact lv_icmp_eq (pc := 415) (tgt := 420) hx hb dL_law_415 rfl (fun _ => kk _ _ H locs ls (hFc.2 n _ _ _ hI2 (mrg_at _ _)) hW hl) (fun h => absurd rfl h)
end SEG
