/-! THE MAKER OF THE REFERENCE -/
def gbM (q : Gq) (F : Nat → Prop) : Gb := (q.1, q.2.1, clM, [.int, .long, .byte, .boolean, .object "java/lang/String"], q.2.2.2, F, dsM, q.2.2.1)
def fsM : List (Option Nat) := [none, some 1, none, some 2, some 3, some 4, none, none, none, none, none, none, none, none, some 5, some 6, some 7, some 8, some 9, some 10, some 11, some 12, some 13, none, some 14, some 15, some 16, some 17, none, none, none, some 18, some 19, some 20, some 21, some 22, some 23, some 24, some 25, some 26, some 27, some 28, none, some 29, some 30, some 31, some 32, some 33, some 34, some 35, some 36, some 37, some 38, none, none, some 39, some 40, some 41, some 42, none, some 43, some 44, some 45, some 46, none, none, none, some 47, some 48, none, some 49, some 50, some 51, none, some 52, some 53, some 54, none, some 55, some 56, some 57, some 58, none, some 59, none, none, none, none, some 60, some 61, some 62, some 63, some 64, some 65, some 66, some 67, some 68, some 69, some 70, some 71, some 72, some 73, some 74, some 75, some 76, some 77, some 78, some 79, some 80, some 81, some 82, none, some 83, some 84, some 85, some 86, some 87, some 88, some 89, some 90, some 91, some 92, some 93, some 94, some 95, some 96, some 97, none, none, none, none, none, none, none, none, none, none, none, none, none, none, some 98]
theorem ks_1000 : (Int16.ofInt 1000).toInt32 = 1000 := by decide
theorem ks_1200 : (Int16.ofInt 1200).toInt32 = 1200 := by decide
theorem ks_2000 : (Int16.ofInt 2000).toInt32 = 2000 := by decide
theorem ks_24000 : (Int16.ofInt 24000).toInt32 = 24000 := by decide
theorem ks_4300 : (Int16.ofInt 4300).toInt32 = 4300 := by decide
theorem ks_5000 : (Int16.ofInt 5000).toInt32 = 5000 := by decide
theorem ks_6000 : (Int16.ofInt 6000).toInt32 = 6000 := by decide
theorem ks_8194 : (Int16.ofInt 8194).toInt32 = 8194 := by decide
theorem ks_9000 : (Int16.ofInt 9000).toInt32 = 9000 := by decide
theorem kcRX12_217 : Cond.constant RX12 217 240000 ∈ TB := tb1 sg9 79 rfl rfl
theorem kcRX12_329 : Cond.constant RX12 329 200000 ∈ TB := tb1 sg9 80 rfl rfl
theorem ac_boolean : Cond.arrayClass .boolean ∈ TB := tb1 sg11 28 rfl rfl
theorem ac_byte : Cond.arrayClass .byte ∈ TB := tb1 sg1 156 rfl rfl
theorem moRX12 : Cond.methodLink RX12 1 Lib.objectInit ∈ TB := tb1 sg9 32 rfl rfl
theorem dX12_init_0 : decode cX12_init 0 = .ok (.aload_n 0, 1) := by decide +kernel
theorem dX12_init_1 : decode cX12_init 1 = .ok (.invokespecial 1, 3) := by decide +kernel
theorem dX12_init_4 : decode cX12_init 4 = .ok (.aload_n 0, 1) := by decide +kernel
theorem dX12_init_5 : decode cX12_init 5 = .ok (.sipush 8192, 3) := by decide +kernel
theorem dX12_init_8 : decode cX12_init 8 = .ok (.newarray .byte, 2) := by decide +kernel
theorem dX12_init_10 : decode cX12_init 10 = .ok (.putfield 7, 3) := by decide +kernel
theorem dX12_init_13 : decode cX12_init 13 = .ok (.aload_n 0, 1) := by decide +kernel
theorem dX12_init_14 : decode cX12_init 14 = .ok (.sipush 8194, 3) := by decide +kernel
theorem dX12_init_17 : decode cX12_init 17 = .ok (.newarray .int, 2) := by decide +kernel
theorem dX12_init_19 : decode cX12_init 19 = .ok (.putfield 13, 3) := by decide +kernel
theorem dX12_init_22 : decode cX12_init 22 = .ok (.aload_n 0, 1) := by decide +kernel
theorem dX12_init_23 : decode cX12_init 23 = .ok (.sipush 8194, 3) := by decide +kernel
theorem dX12_init_26 : decode cX12_init 26 = .ok (.newarray .int, 2) := by decide +kernel
theorem dX12_init_28 : decode cX12_init 28 = .ok (.putfield 17, 3) := by decide +kernel
theorem dX12_init_31 : decode cX12_init 31 = .ok (.aload_n 0, 1) := by decide +kernel
theorem dX12_init_32 : decode cX12_init 32 = .ok (.sipush 8194, 3) := by decide +kernel
theorem dX12_init_35 : decode cX12_init 35 = .ok (.newarray .long, 2) := by decide +kernel
theorem dX12_init_37 : decode cX12_init 37 = .ok (.putfield 20, 3) := by decide +kernel
theorem dX12_init_40 : decode cX12_init 40 = .ok (.aload_n 0, 1) := by decide +kernel
theorem dX12_init_41 : decode cX12_init 41 = .ok (.iconst (-1), 1) := by decide +kernel
theorem dX12_init_42 : decode cX12_init 42 = .ok (.putfield 24, 3) := by decide +kernel
theorem dX12_init_45 : decode cX12_init 45 = .ok (.aload_n 0, 1) := by decide +kernel
theorem dX12_init_46 : decode cX12_init 46 = .ok (.new 28, 3) := by decide +kernel
theorem dX12_init_49 : decode cX12_init 49 = .ok (.dup, 1) := by decide +kernel
theorem dX12_init_50 : decode cX12_init 50 = .ok (.invokespecial 30, 3) := by decide +kernel
theorem dX12_init_53 : decode cX12_init 53 = .ok (.putfield 31, 3) := by decide +kernel
theorem dX12_init_56 : decode cX12_init 56 = .ok (.aload_n 0, 1) := by decide +kernel
theorem dX12_init_57 : decode cX12_init 57 = .ok (.bipush 29, 2) := by decide +kernel
theorem dX12_init_59 : decode cX12_init 59 = .ok (.anewarray 35, 3) := by decide +kernel
theorem dX12_init_62 : decode cX12_init 62 = .ok (.dup, 1) := by decide +kernel
theorem dX12_init_63 : decode cX12_init 63 = .ok (.iconst 0, 1) := by decide +kernel
theorem dX12_init_64 : decode cX12_init 64 = .ok (.ldc 37, 2) := by decide +kernel
theorem dX12_init_66 : decode cX12_init 66 = .ok (.aastore, 1) := by decide +kernel
theorem dX12_init_67 : decode cX12_init 67 = .ok (.dup, 1) := by decide +kernel
theorem dX12_init_68 : decode cX12_init 68 = .ok (.iconst 1, 1) := by decide +kernel
theorem dX12_init_69 : decode cX12_init 69 = .ok (.ldc 39, 2) := by decide +kernel
theorem dX12_init_71 : decode cX12_init 71 = .ok (.aastore, 1) := by decide +kernel
theorem dX12_init_72 : decode cX12_init 72 = .ok (.dup, 1) := by decide +kernel
theorem dX12_init_73 : decode cX12_init 73 = .ok (.iconst 2, 1) := by decide +kernel
theorem dX12_init_74 : decode cX12_init 74 = .ok (.ldc 41, 2) := by decide +kernel
theorem dX12_init_76 : decode cX12_init 76 = .ok (.aastore, 1) := by decide +kernel
theorem dX12_init_77 : decode cX12_init 77 = .ok (.dup, 1) := by decide +kernel
theorem dX12_init_78 : decode cX12_init 78 = .ok (.iconst 3, 1) := by decide +kernel
theorem dX12_init_79 : decode cX12_init 79 = .ok (.ldc 43, 2) := by decide +kernel
theorem dX12_init_81 : decode cX12_init 81 = .ok (.aastore, 1) := by decide +kernel
theorem dX12_init_82 : decode cX12_init 82 = .ok (.dup, 1) := by decide +kernel
theorem dX12_init_83 : decode cX12_init 83 = .ok (.iconst 4, 1) := by decide +kernel
theorem dX12_init_84 : decode cX12_init 84 = .ok (.ldc 45, 2) := by decide +kernel
theorem dX12_init_86 : decode cX12_init 86 = .ok (.aastore, 1) := by decide +kernel
theorem dX12_init_87 : decode cX12_init 87 = .ok (.dup, 1) := by decide +kernel
theorem dX12_init_88 : decode cX12_init 88 = .ok (.iconst 5, 1) := by decide +kernel
theorem dX12_init_89 : decode cX12_init 89 = .ok (.ldc 47, 2) := by decide +kernel
theorem dX12_init_91 : decode cX12_init 91 = .ok (.aastore, 1) := by decide +kernel
theorem dX12_init_92 : decode cX12_init 92 = .ok (.dup, 1) := by decide +kernel
theorem dX12_init_93 : decode cX12_init 93 = .ok (.bipush 6, 2) := by decide +kernel
theorem dX12_init_95 : decode cX12_init 95 = .ok (.ldc 49, 2) := by decide +kernel
theorem dX12_init_97 : decode cX12_init 97 = .ok (.aastore, 1) := by decide +kernel
theorem dX12_init_98 : decode cX12_init 98 = .ok (.dup, 1) := by decide +kernel
theorem dX12_init_99 : decode cX12_init 99 = .ok (.bipush 7, 2) := by decide +kernel
theorem dX12_init_101 : decode cX12_init 101 = .ok (.ldc 51, 2) := by decide +kernel
theorem dX12_init_103 : decode cX12_init 103 = .ok (.aastore, 1) := by decide +kernel
theorem dX12_init_104 : decode cX12_init 104 = .ok (.dup, 1) := by decide +kernel
theorem dX12_init_105 : decode cX12_init 105 = .ok (.bipush 8, 2) := by decide +kernel
theorem dX12_init_107 : decode cX12_init 107 = .ok (.ldc 53, 2) := by decide +kernel
theorem dX12_init_109 : decode cX12_init 109 = .ok (.aastore, 1) := by decide +kernel
theorem dX12_init_110 : decode cX12_init 110 = .ok (.dup, 1) := by decide +kernel
theorem dX12_init_111 : decode cX12_init 111 = .ok (.bipush 9, 2) := by decide +kernel
theorem dX12_init_113 : decode cX12_init 113 = .ok (.ldc 55, 2) := by decide +kernel
theorem dX12_init_115 : decode cX12_init 115 = .ok (.aastore, 1) := by decide +kernel
theorem dX12_init_116 : decode cX12_init 116 = .ok (.dup, 1) := by decide +kernel
theorem dX12_init_117 : decode cX12_init 117 = .ok (.bipush 10, 2) := by decide +kernel
theorem dX12_init_119 : decode cX12_init 119 = .ok (.ldc 57, 2) := by decide +kernel
theorem dX12_init_121 : decode cX12_init 121 = .ok (.aastore, 1) := by decide +kernel
theorem dX12_init_122 : decode cX12_init 122 = .ok (.dup, 1) := by decide +kernel
theorem dX12_init_123 : decode cX12_init 123 = .ok (.bipush 11, 2) := by decide +kernel
theorem dX12_init_125 : decode cX12_init 125 = .ok (.ldc 59, 2) := by decide +kernel
theorem dX12_init_127 : decode cX12_init 127 = .ok (.aastore, 1) := by decide +kernel
theorem dX12_init_128 : decode cX12_init 128 = .ok (.dup, 1) := by decide +kernel
theorem dX12_init_129 : decode cX12_init 129 = .ok (.bipush 12, 2) := by decide +kernel
theorem dX12_init_131 : decode cX12_init 131 = .ok (.ldc 61, 2) := by decide +kernel
theorem dX12_init_133 : decode cX12_init 133 = .ok (.aastore, 1) := by decide +kernel
theorem dX12_init_134 : decode cX12_init 134 = .ok (.dup, 1) := by decide +kernel
theorem dX12_init_135 : decode cX12_init 135 = .ok (.bipush 13, 2) := by decide +kernel
theorem dX12_init_137 : decode cX12_init 137 = .ok (.ldc 63, 2) := by decide +kernel
theorem dX12_init_139 : decode cX12_init 139 = .ok (.aastore, 1) := by decide +kernel
theorem dX12_init_140 : decode cX12_init 140 = .ok (.dup, 1) := by decide +kernel
theorem dX12_init_141 : decode cX12_init 141 = .ok (.bipush 14, 2) := by decide +kernel
theorem dX12_init_143 : decode cX12_init 143 = .ok (.ldc 65, 2) := by decide +kernel
theorem dX12_init_145 : decode cX12_init 145 = .ok (.aastore, 1) := by decide +kernel
theorem dX12_init_146 : decode cX12_init 146 = .ok (.dup, 1) := by decide +kernel
theorem dX12_init_147 : decode cX12_init 147 = .ok (.bipush 15, 2) := by decide +kernel
theorem dX12_init_149 : decode cX12_init 149 = .ok (.ldc 67, 2) := by decide +kernel
theorem dX12_init_151 : decode cX12_init 151 = .ok (.aastore, 1) := by decide +kernel
theorem dX12_init_152 : decode cX12_init 152 = .ok (.dup, 1) := by decide +kernel
theorem dX12_init_153 : decode cX12_init 153 = .ok (.bipush 16, 2) := by decide +kernel
theorem dX12_init_155 : decode cX12_init 155 = .ok (.ldc 69, 2) := by decide +kernel
theorem dX12_init_157 : decode cX12_init 157 = .ok (.aastore, 1) := by decide +kernel
theorem dX12_init_158 : decode cX12_init 158 = .ok (.dup, 1) := by decide +kernel
theorem dX12_init_159 : decode cX12_init 159 = .ok (.bipush 17, 2) := by decide +kernel
theorem dX12_init_161 : decode cX12_init 161 = .ok (.ldc 71, 2) := by decide +kernel
theorem dX12_init_163 : decode cX12_init 163 = .ok (.aastore, 1) := by decide +kernel
theorem dX12_init_164 : decode cX12_init 164 = .ok (.dup, 1) := by decide +kernel
theorem dX12_init_165 : decode cX12_init 165 = .ok (.bipush 18, 2) := by decide +kernel
theorem dX12_init_167 : decode cX12_init 167 = .ok (.ldc 73, 2) := by decide +kernel
theorem dX12_init_169 : decode cX12_init 169 = .ok (.aastore, 1) := by decide +kernel
theorem dX12_init_170 : decode cX12_init 170 = .ok (.dup, 1) := by decide +kernel
theorem dX12_init_171 : decode cX12_init 171 = .ok (.bipush 19, 2) := by decide +kernel
theorem dX12_init_173 : decode cX12_init 173 = .ok (.ldc 75, 2) := by decide +kernel
theorem dX12_init_175 : decode cX12_init 175 = .ok (.aastore, 1) := by decide +kernel
theorem dX12_init_176 : decode cX12_init 176 = .ok (.dup, 1) := by decide +kernel
theorem dX12_init_177 : decode cX12_init 177 = .ok (.bipush 20, 2) := by decide +kernel
theorem dX12_init_179 : decode cX12_init 179 = .ok (.ldc 77, 2) := by decide +kernel
theorem dX12_init_181 : decode cX12_init 181 = .ok (.aastore, 1) := by decide +kernel
theorem dX12_init_182 : decode cX12_init 182 = .ok (.dup, 1) := by decide +kernel
theorem dX12_init_183 : decode cX12_init 183 = .ok (.bipush 21, 2) := by decide +kernel
theorem dX12_init_185 : decode cX12_init 185 = .ok (.ldc 79, 2) := by decide +kernel
theorem dX12_init_187 : decode cX12_init 187 = .ok (.aastore, 1) := by decide +kernel
theorem dX12_init_188 : decode cX12_init 188 = .ok (.dup, 1) := by decide +kernel
theorem dX12_init_189 : decode cX12_init 189 = .ok (.bipush 22, 2) := by decide +kernel
theorem dX12_init_191 : decode cX12_init 191 = .ok (.ldc 81, 2) := by decide +kernel
theorem dX12_init_193 : decode cX12_init 193 = .ok (.aastore, 1) := by decide +kernel
theorem dX12_init_194 : decode cX12_init 194 = .ok (.dup, 1) := by decide +kernel
theorem dX12_init_195 : decode cX12_init 195 = .ok (.bipush 23, 2) := by decide +kernel
theorem dX12_init_197 : decode cX12_init 197 = .ok (.ldc 83, 2) := by decide +kernel
theorem dX12_init_199 : decode cX12_init 199 = .ok (.aastore, 1) := by decide +kernel
theorem dX12_init_200 : decode cX12_init 200 = .ok (.dup, 1) := by decide +kernel
theorem dX12_init_201 : decode cX12_init 201 = .ok (.bipush 24, 2) := by decide +kernel
theorem dX12_init_203 : decode cX12_init 203 = .ok (.ldc 85, 2) := by decide +kernel
theorem dX12_init_205 : decode cX12_init 205 = .ok (.aastore, 1) := by decide +kernel
theorem dX12_init_206 : decode cX12_init 206 = .ok (.dup, 1) := by decide +kernel
theorem dX12_init_207 : decode cX12_init 207 = .ok (.bipush 25, 2) := by decide +kernel
theorem dX12_init_209 : decode cX12_init 209 = .ok (.ldc 87, 2) := by decide +kernel
theorem dX12_init_211 : decode cX12_init 211 = .ok (.aastore, 1) := by decide +kernel
theorem dX12_init_212 : decode cX12_init 212 = .ok (.dup, 1) := by decide +kernel
theorem dX12_init_213 : decode cX12_init 213 = .ok (.bipush 26, 2) := by decide +kernel
theorem dX12_init_215 : decode cX12_init 215 = .ok (.ldc 89, 2) := by decide +kernel
theorem dX12_init_217 : decode cX12_init 217 = .ok (.aastore, 1) := by decide +kernel
theorem dX12_init_218 : decode cX12_init 218 = .ok (.dup, 1) := by decide +kernel
theorem dX12_init_219 : decode cX12_init 219 = .ok (.bipush 27, 2) := by decide +kernel
theorem dX12_init_221 : decode cX12_init 221 = .ok (.ldc 91, 2) := by decide +kernel
theorem dX12_init_223 : decode cX12_init 223 = .ok (.aastore, 1) := by decide +kernel
theorem dX12_init_224 : decode cX12_init 224 = .ok (.dup, 1) := by decide +kernel
theorem dX12_init_225 : decode cX12_init 225 = .ok (.bipush 28, 2) := by decide +kernel
theorem dX12_init_227 : decode cX12_init 227 = .ok (.ldc 93, 2) := by decide +kernel
theorem dX12_init_229 : decode cX12_init 229 = .ok (.aastore, 1) := by decide +kernel
theorem dX12_init_230 : decode cX12_init 230 = .ok (.putfield 95, 3) := by decide +kernel
theorem dX12_init_233 : decode cX12_init 233 = .ok (.aload_n 0, 1) := by decide +kernel
theorem dX12_init_234 : decode cX12_init 234 = .ok (.sipush 24000, 3) := by decide +kernel
theorem dX12_init_237 : decode cX12_init 237 = .ok (.newarray .int, 2) := by decide +kernel
theorem dX12_init_239 : decode cX12_init 239 = .ok (.putfield 99, 3) := by decide +kernel
theorem dX12_init_242 : decode cX12_init 242 = .ok (.aload_n 0, 1) := by decide +kernel
theorem dX12_init_243 : decode cX12_init 243 = .ok (.sipush 24000, 3) := by decide +kernel
theorem dX12_init_246 : decode cX12_init 246 = .ok (.newarray .int, 2) := by decide +kernel
theorem dX12_init_248 : decode cX12_init 248 = .ok (.putfield 102, 3) := by decide +kernel
theorem dX12_init_251 : decode cX12_init 251 = .ok (.aload_n 0, 1) := by decide +kernel
theorem dX12_init_252 : decode cX12_init 252 = .ok (.sipush 24000, 3) := by decide +kernel
theorem dX12_init_255 : decode cX12_init 255 = .ok (.newarray .int, 2) := by decide +kernel
theorem dX12_init_257 : decode cX12_init 257 = .ok (.putfield 105, 3) := by decide +kernel
theorem dX12_init_260 : decode cX12_init 260 = .ok (.aload_n 0, 1) := by decide +kernel
theorem dX12_init_261 : decode cX12_init 261 = .ok (.sipush 24000, 3) := by decide +kernel
theorem dX12_init_264 : decode cX12_init 264 = .ok (.newarray .int, 2) := by decide +kernel
theorem dX12_init_266 : decode cX12_init 266 = .ok (.putfield 108, 3) := by decide +kernel
theorem dX12_init_269 : decode cX12_init 269 = .ok (.aload_n 0, 1) := by decide +kernel
theorem dX12_init_270 : decode cX12_init 270 = .ok (.sipush 24000, 3) := by decide +kernel
theorem dX12_init_273 : decode cX12_init 273 = .ok (.newarray .int, 2) := by decide +kernel
theorem dX12_init_275 : decode cX12_init 275 = .ok (.putfield 111, 3) := by decide +kernel
theorem dX12_init_278 : decode cX12_init 278 = .ok (.aload_n 0, 1) := by decide +kernel
theorem dX12_init_279 : decode cX12_init 279 = .ok (.sipush 24000, 3) := by decide +kernel
theorem dX12_init_282 : decode cX12_init 282 = .ok (.newarray .int, 2) := by decide +kernel
theorem dX12_init_284 : decode cX12_init 284 = .ok (.putfield 114, 3) := by decide +kernel
theorem dX12_init_287 : decode cX12_init 287 = .ok (.aload_n 0, 1) := by decide +kernel
theorem dX12_init_288 : decode cX12_init 288 = .ok (.sipush 24000, 3) := by decide +kernel
theorem dX12_init_291 : decode cX12_init 291 = .ok (.newarray .int, 2) := by decide +kernel
theorem dX12_init_293 : decode cX12_init 293 = .ok (.putfield 117, 3) := by decide +kernel
theorem dX12_init_296 : decode cX12_init 296 = .ok (.aload_n 0, 1) := by decide +kernel
theorem dX12_init_297 : decode cX12_init 297 = .ok (.sipush 9000, 3) := by decide +kernel
theorem dX12_init_300 : decode cX12_init 300 = .ok (.newarray .int, 2) := by decide +kernel
theorem dX12_init_302 : decode cX12_init 302 = .ok (.putfield 120, 3) := by decide +kernel
theorem dX12_init_305 : decode cX12_init 305 = .ok (.aload_n 0, 1) := by decide +kernel
theorem dX12_init_306 : decode cX12_init 306 = .ok (.sipush 9000, 3) := by decide +kernel
theorem dX12_init_309 : decode cX12_init 309 = .ok (.newarray .int, 2) := by decide +kernel
theorem dX12_init_311 : decode cX12_init 311 = .ok (.putfield 123, 3) := by decide +kernel
theorem dX12_init_314 : decode cX12_init 314 = .ok (.aload_n 0, 1) := by decide +kernel
theorem dX12_init_315 : decode cX12_init 315 = .ok (.sipush 9000, 3) := by decide +kernel
theorem dX12_init_318 : decode cX12_init 318 = .ok (.newarray .int, 2) := by decide +kernel
theorem dX12_init_320 : decode cX12_init 320 = .ok (.putfield 126, 3) := by decide +kernel
theorem dX12_init_323 : decode cX12_init 323 = .ok (.aload_n 0, 1) := by decide +kernel
theorem dX12_init_324 : decode cX12_init 324 = .ok (.sipush 9000, 3) := by decide +kernel
theorem dX12_init_327 : decode cX12_init 327 = .ok (.newarray .int, 2) := by decide +kernel
theorem dX12_init_329 : decode cX12_init 329 = .ok (.putfield 129, 3) := by decide +kernel
theorem dX12_init_332 : decode cX12_init 332 = .ok (.aload_n 0, 1) := by decide +kernel
theorem dX12_init_333 : decode cX12_init 333 = .ok (.sipush 5000, 3) := by decide +kernel
theorem dX12_init_336 : decode cX12_init 336 = .ok (.newarray .long, 2) := by decide +kernel
theorem dX12_init_338 : decode cX12_init 338 = .ok (.putfield 132, 3) := by decide +kernel
theorem dX12_init_341 : decode cX12_init 341 = .ok (.aload_n 0, 1) := by decide +kernel
theorem dX12_init_342 : decode cX12_init 342 = .ok (.sipush 5000, 3) := by decide +kernel
theorem dX12_init_345 : decode cX12_init 345 = .ok (.newarray .int, 2) := by decide +kernel
theorem dX12_init_347 : decode cX12_init 347 = .ok (.putfield 135, 3) := by decide +kernel
theorem dX12_init_350 : decode cX12_init 350 = .ok (.aload_n 0, 1) := by decide +kernel
theorem dX12_init_351 : decode cX12_init 351 = .ok (.sipush 5000, 3) := by decide +kernel
theorem dX12_init_354 : decode cX12_init 354 = .ok (.newarray .int, 2) := by decide +kernel
theorem dX12_init_356 : decode cX12_init 356 = .ok (.putfield 138, 3) := by decide +kernel
theorem dX12_init_359 : decode cX12_init 359 = .ok (.aload_n 0, 1) := by decide +kernel
theorem dX12_init_360 : decode cX12_init 360 = .ok (.sipush 5000, 3) := by decide +kernel
theorem dX12_init_363 : decode cX12_init 363 = .ok (.newarray .int, 2) := by decide +kernel
theorem dX12_init_365 : decode cX12_init 365 = .ok (.putfield 141, 3) := by decide +kernel
theorem dX12_init_368 : decode cX12_init 368 = .ok (.aload_n 0, 1) := by decide +kernel
theorem dX12_init_369 : decode cX12_init 369 = .ok (.sipush 5000, 3) := by decide +kernel
theorem dX12_init_372 : decode cX12_init 372 = .ok (.newarray .int, 2) := by decide +kernel
theorem dX12_init_374 : decode cX12_init 374 = .ok (.putfield 144, 3) := by decide +kernel
theorem dX12_init_377 : decode cX12_init 377 = .ok (.aload_n 0, 1) := by decide +kernel
theorem dX12_init_378 : decode cX12_init 378 = .ok (.sipush 5000, 3) := by decide +kernel
theorem dX12_init_381 : decode cX12_init 381 = .ok (.newarray .int, 2) := by decide +kernel
theorem dX12_init_383 : decode cX12_init 383 = .ok (.putfield 147, 3) := by decide +kernel
theorem dX12_init_386 : decode cX12_init 386 = .ok (.aload_n 0, 1) := by decide +kernel
theorem dX12_init_387 : decode cX12_init 387 = .ok (.sipush 5000, 3) := by decide +kernel
theorem dX12_init_390 : decode cX12_init 390 = .ok (.newarray .int, 2) := by decide +kernel
theorem dX12_init_392 : decode cX12_init 392 = .ok (.putfield 150, 3) := by decide +kernel
theorem dX12_init_395 : decode cX12_init 395 = .ok (.aload_n 0, 1) := by decide +kernel
theorem dX12_init_396 : decode cX12_init 396 = .ok (.sipush 5000, 3) := by decide +kernel
theorem dX12_init_399 : decode cX12_init 399 = .ok (.newarray .int, 2) := by decide +kernel
theorem dX12_init_401 : decode cX12_init 401 = .ok (.putfield 153, 3) := by decide +kernel
theorem dX12_init_404 : decode cX12_init 404 = .ok (.aload_n 0, 1) := by decide +kernel
theorem dX12_init_405 : decode cX12_init 405 = .ok (.sipush 5000, 3) := by decide +kernel
theorem dX12_init_408 : decode cX12_init 408 = .ok (.newarray .int, 2) := by decide +kernel
theorem dX12_init_410 : decode cX12_init 410 = .ok (.putfield 156, 3) := by decide +kernel
theorem dX12_init_413 : decode cX12_init 413 = .ok (.aload_n 0, 1) := by decide +kernel
theorem dX12_init_414 : decode cX12_init 414 = .ok (.sipush 5000, 3) := by decide +kernel
theorem dX12_init_417 : decode cX12_init 417 = .ok (.newarray .boolean, 2) := by decide +kernel
theorem dX12_init_419 : decode cX12_init 419 = .ok (.putfield 159, 3) := by decide +kernel
theorem dX12_init_422 : decode cX12_init 422 = .ok (.aload_n 0, 1) := by decide +kernel
theorem dX12_init_423 : decode cX12_init 423 = .ok (.sipush 5000, 3) := by decide +kernel
theorem dX12_init_426 : decode cX12_init 426 = .ok (.newarray .boolean, 2) := by decide +kernel
theorem dX12_init_428 : decode cX12_init 428 = .ok (.putfield 163, 3) := by decide +kernel
theorem dX12_init_431 : decode cX12_init 431 = .ok (.aload_n 0, 1) := by decide +kernel
theorem dX12_init_432 : decode cX12_init 432 = .ok (.sipush 1200, 3) := by decide +kernel
theorem dX12_init_435 : decode cX12_init 435 = .ok (.newarray .int, 2) := by decide +kernel
theorem dX12_init_437 : decode cX12_init 437 = .ok (.putfield 166, 3) := by decide +kernel
theorem dX12_init_440 : decode cX12_init 440 = .ok (.aload_n 0, 1) := by decide +kernel
theorem dX12_init_441 : decode cX12_init 441 = .ok (.sipush 1200, 3) := by decide +kernel
theorem dX12_init_444 : decode cX12_init 444 = .ok (.newarray .int, 2) := by decide +kernel
theorem dX12_init_446 : decode cX12_init 446 = .ok (.putfield 169, 3) := by decide +kernel
theorem dX12_init_449 : decode cX12_init 449 = .ok (.aload_n 0, 1) := by decide +kernel
theorem dX12_init_450 : decode cX12_init 450 = .ok (.sipush 1200, 3) := by decide +kernel
theorem dX12_init_453 : decode cX12_init 453 = .ok (.newarray .int, 2) := by decide +kernel
theorem dX12_init_455 : decode cX12_init 455 = .ok (.putfield 172, 3) := by decide +kernel
theorem dX12_init_458 : decode cX12_init 458 = .ok (.aload_n 0, 1) := by decide +kernel
theorem dX12_init_459 : decode cX12_init 459 = .ok (.sipush 1200, 3) := by decide +kernel
theorem dX12_init_462 : decode cX12_init 462 = .ok (.newarray .int, 2) := by decide +kernel
theorem dX12_init_464 : decode cX12_init 464 = .ok (.putfield 175, 3) := by decide +kernel
theorem dX12_init_467 : decode cX12_init 467 = .ok (.aload_n 0, 1) := by decide +kernel
theorem dX12_init_468 : decode cX12_init 468 = .ok (.sipush 1200, 3) := by decide +kernel
theorem dX12_init_471 : decode cX12_init 471 = .ok (.newarray .int, 2) := by decide +kernel
theorem dX12_init_473 : decode cX12_init 473 = .ok (.putfield 178, 3) := by decide +kernel
theorem dX12_init_476 : decode cX12_init 476 = .ok (.aload_n 0, 1) := by decide +kernel
theorem dX12_init_477 : decode cX12_init 477 = .ok (.sipush 1200, 3) := by decide +kernel
theorem dX12_init_480 : decode cX12_init 480 = .ok (.newarray .int, 2) := by decide +kernel
theorem dX12_init_482 : decode cX12_init 482 = .ok (.putfield 181, 3) := by decide +kernel
theorem dX12_init_485 : decode cX12_init 485 = .ok (.aload_n 0, 1) := by decide +kernel
theorem dX12_init_486 : decode cX12_init 486 = .ok (.sipush 1200, 3) := by decide +kernel
theorem dX12_init_489 : decode cX12_init 489 = .ok (.newarray .int, 2) := by decide +kernel
theorem dX12_init_491 : decode cX12_init 491 = .ok (.putfield 184, 3) := by decide +kernel
theorem dX12_init_494 : decode cX12_init 494 = .ok (.aload_n 0, 1) := by decide +kernel
theorem dX12_init_495 : decode cX12_init 495 = .ok (.sipush 1200, 3) := by decide +kernel
theorem dX12_init_498 : decode cX12_init 498 = .ok (.newarray .int, 2) := by decide +kernel
theorem dX12_init_500 : decode cX12_init 500 = .ok (.putfield 187, 3) := by decide +kernel
theorem dX12_init_503 : decode cX12_init 503 = .ok (.aload_n 0, 1) := by decide +kernel
theorem dX12_init_504 : decode cX12_init 504 = .ok (.sipush 1200, 3) := by decide +kernel
theorem dX12_init_507 : decode cX12_init 507 = .ok (.newarray .int, 2) := by decide +kernel
theorem dX12_init_509 : decode cX12_init 509 = .ok (.putfield 190, 3) := by decide +kernel
theorem dX12_init_512 : decode cX12_init 512 = .ok (.aload_n 0, 1) := by decide +kernel
theorem dX12_init_513 : decode cX12_init 513 = .ok (.sipush 1200, 3) := by decide +kernel
theorem dX12_init_516 : decode cX12_init 516 = .ok (.newarray .int, 2) := by decide +kernel
theorem dX12_init_518 : decode cX12_init 518 = .ok (.putfield 193, 3) := by decide +kernel
theorem dX12_init_521 : decode cX12_init 521 = .ok (.aload_n 0, 1) := by decide +kernel
theorem dX12_init_522 : decode cX12_init 522 = .ok (.sipush 9000, 3) := by decide +kernel
theorem dX12_init_525 : decode cX12_init 525 = .ok (.newarray .int, 2) := by decide +kernel
theorem dX12_init_527 : decode cX12_init 527 = .ok (.putfield 196, 3) := by decide +kernel
theorem dX12_init_530 : decode cX12_init 530 = .ok (.aload_n 0, 1) := by decide +kernel
theorem dX12_init_531 : decode cX12_init 531 = .ok (.sipush 9000, 3) := by decide +kernel
theorem dX12_init_534 : decode cX12_init 534 = .ok (.newarray .int, 2) := by decide +kernel
theorem dX12_init_536 : decode cX12_init 536 = .ok (.putfield 199, 3) := by decide +kernel
theorem dX12_init_539 : decode cX12_init 539 = .ok (.aload_n 0, 1) := by decide +kernel
theorem dX12_init_540 : decode cX12_init 540 = .ok (.sipush 9000, 3) := by decide +kernel
theorem dX12_init_543 : decode cX12_init 543 = .ok (.newarray .int, 2) := by decide +kernel
theorem dX12_init_545 : decode cX12_init 545 = .ok (.putfield 202, 3) := by decide +kernel
theorem dX12_init_548 : decode cX12_init 548 = .ok (.aload_n 0, 1) := by decide +kernel
theorem dX12_init_549 : decode cX12_init 549 = .ok (.sipush 9000, 3) := by decide +kernel
theorem dX12_init_552 : decode cX12_init 552 = .ok (.newarray .int, 2) := by decide +kernel
theorem dX12_init_554 : decode cX12_init 554 = .ok (.putfield 205, 3) := by decide +kernel
theorem dX12_init_557 : decode cX12_init 557 = .ok (.aload_n 0, 1) := by decide +kernel
theorem dX12_init_558 : decode cX12_init 558 = .ok (.sipush 5000, 3) := by decide +kernel
theorem dX12_init_561 : decode cX12_init 561 = .ok (.newarray .int, 2) := by decide +kernel
theorem dX12_init_563 : decode cX12_init 563 = .ok (.putfield 208, 3) := by decide +kernel
theorem dX12_init_566 : decode cX12_init 566 = .ok (.aload_n 0, 1) := by decide +kernel
theorem dX12_init_567 : decode cX12_init 567 = .ok (.sipush 24000, 3) := by decide +kernel
theorem dX12_init_570 : decode cX12_init 570 = .ok (.newarray .int, 2) := by decide +kernel
theorem dX12_init_572 : decode cX12_init 572 = .ok (.putfield 211, 3) := by decide +kernel
theorem dX12_init_575 : decode cX12_init 575 = .ok (.aload_n 0, 1) := by decide +kernel
theorem dX12_init_576 : decode cX12_init 576 = .ok (.sipush 24000, 3) := by decide +kernel
theorem dX12_init_579 : decode cX12_init 579 = .ok (.newarray .int, 2) := by decide +kernel
theorem dX12_init_581 : decode cX12_init 581 = .ok (.putfield 214, 3) := by decide +kernel
theorem dX12_init_584 : decode cX12_init 584 = .ok (.aload_n 0, 1) := by decide +kernel
theorem dX12_init_585 : decode cX12_init 585 = .ok (.ldc 217, 2) := by decide +kernel
theorem dX12_init_587 : decode cX12_init 587 = .ok (.newarray .int, 2) := by decide +kernel
theorem dX12_init_589 : decode cX12_init 589 = .ok (.putfield 218, 3) := by decide +kernel
theorem dX12_init_592 : decode cX12_init 592 = .ok (.aload_n 0, 1) := by decide +kernel
theorem dX12_init_593 : decode cX12_init 593 = .ok (.sipush 6000, 3) := by decide +kernel
theorem dX12_init_596 : decode cX12_init 596 = .ok (.newarray .int, 2) := by decide +kernel
theorem dX12_init_598 : decode cX12_init 598 = .ok (.putfield 221, 3) := by decide +kernel
theorem dX12_init_601 : decode cX12_init 601 = .ok (.aload_n 0, 1) := by decide +kernel
theorem dX12_init_602 : decode cX12_init 602 = .ok (.sipush 6000, 3) := by decide +kernel
theorem dX12_init_605 : decode cX12_init 605 = .ok (.newarray .int, 2) := by decide +kernel
theorem dX12_init_607 : decode cX12_init 607 = .ok (.putfield 224, 3) := by decide +kernel
theorem dX12_init_610 : decode cX12_init 610 = .ok (.aload_n 0, 1) := by decide +kernel
theorem dX12_init_611 : decode cX12_init 611 = .ok (.sipush 4300, 3) := by decide +kernel
theorem dX12_init_614 : decode cX12_init 614 = .ok (.newarray .int, 2) := by decide +kernel
theorem dX12_init_616 : decode cX12_init 616 = .ok (.putfield 227, 3) := by decide +kernel
theorem dX12_init_619 : decode cX12_init 619 = .ok (.aload_n 0, 1) := by decide +kernel
theorem dX12_init_620 : decode cX12_init 620 = .ok (.sipush 4300, 3) := by decide +kernel
theorem dX12_init_623 : decode cX12_init 623 = .ok (.newarray .int, 2) := by decide +kernel
theorem dX12_init_625 : decode cX12_init 625 = .ok (.putfield 230, 3) := by decide +kernel
theorem dX12_init_628 : decode cX12_init 628 = .ok (.aload_n 0, 1) := by decide +kernel
theorem dX12_init_629 : decode cX12_init 629 = .ok (.sipush 4300, 3) := by decide +kernel
theorem dX12_init_632 : decode cX12_init 632 = .ok (.newarray .int, 2) := by decide +kernel
theorem dX12_init_634 : decode cX12_init 634 = .ok (.putfield 233, 3) := by decide +kernel
theorem dX12_init_637 : decode cX12_init 637 = .ok (.aload_n 0, 1) := by decide +kernel
theorem dX12_init_638 : decode cX12_init 638 = .ok (.sipush 6000, 3) := by decide +kernel
theorem dX12_init_641 : decode cX12_init 641 = .ok (.newarray .int, 2) := by decide +kernel
theorem dX12_init_643 : decode cX12_init 643 = .ok (.putfield 236, 3) := by decide +kernel
theorem dX12_init_646 : decode cX12_init 646 = .ok (.aload_n 0, 1) := by decide +kernel
theorem dX12_init_647 : decode cX12_init 647 = .ok (.sipush 6000, 3) := by decide +kernel
theorem dX12_init_650 : decode cX12_init 650 = .ok (.newarray .int, 2) := by decide +kernel
theorem dX12_init_652 : decode cX12_init 652 = .ok (.putfield 239, 3) := by decide +kernel
theorem dX12_init_655 : decode cX12_init 655 = .ok (.aload_n 0, 1) := by decide +kernel
theorem dX12_init_656 : decode cX12_init 656 = .ok (.sipush 6000, 3) := by decide +kernel
theorem dX12_init_659 : decode cX12_init 659 = .ok (.newarray .int, 2) := by decide +kernel
theorem dX12_init_661 : decode cX12_init 661 = .ok (.putfield 242, 3) := by decide +kernel
theorem dX12_init_664 : decode cX12_init 664 = .ok (.aload_n 0, 1) := by decide +kernel
theorem dX12_init_665 : decode cX12_init 665 = .ok (.sipush 5000, 3) := by decide +kernel
theorem dX12_init_668 : decode cX12_init 668 = .ok (.newarray .int, 2) := by decide +kernel
theorem dX12_init_670 : decode cX12_init 670 = .ok (.putfield 245, 3) := by decide +kernel
theorem dX12_init_673 : decode cX12_init 673 = .ok (.aload_n 0, 1) := by decide +kernel
theorem dX12_init_674 : decode cX12_init 674 = .ok (.sipush 5000, 3) := by decide +kernel
theorem dX12_init_677 : decode cX12_init 677 = .ok (.newarray .int, 2) := by decide +kernel
theorem dX12_init_679 : decode cX12_init 679 = .ok (.putfield 248, 3) := by decide +kernel
theorem dX12_init_682 : decode cX12_init 682 = .ok (.aload_n 0, 1) := by decide +kernel
theorem dX12_init_683 : decode cX12_init 683 = .ok (.sipush 5000, 3) := by decide +kernel
theorem dX12_init_686 : decode cX12_init 686 = .ok (.newarray .int, 2) := by decide +kernel
theorem dX12_init_688 : decode cX12_init 688 = .ok (.putfield 251, 3) := by decide +kernel
theorem dX12_init_691 : decode cX12_init 691 = .ok (.aload_n 0, 1) := by decide +kernel
theorem dX12_init_692 : decode cX12_init 692 = .ok (.sipush 24000, 3) := by decide +kernel
theorem dX12_init_695 : decode cX12_init 695 = .ok (.newarray .int, 2) := by decide +kernel
theorem dX12_init_697 : decode cX12_init 697 = .ok (.putfield 254, 3) := by decide +kernel
theorem dX12_init_700 : decode cX12_init 700 = .ok (.aload_n 0, 1) := by decide +kernel
theorem dX12_init_701 : decode cX12_init 701 = .ok (.sipush 24000, 3) := by decide +kernel
theorem dX12_init_704 : decode cX12_init 704 = .ok (.newarray .int, 2) := by decide +kernel
theorem dX12_init_706 : decode cX12_init 706 = .ok (.putfield 257, 3) := by decide +kernel
theorem dX12_init_709 : decode cX12_init 709 = .ok (.aload_n 0, 1) := by decide +kernel
theorem dX12_init_710 : decode cX12_init 710 = .ok (.ldc 217, 2) := by decide +kernel
theorem dX12_init_712 : decode cX12_init 712 = .ok (.newarray .int, 2) := by decide +kernel
theorem dX12_init_714 : decode cX12_init 714 = .ok (.putfield 260, 3) := by decide +kernel
theorem dX12_init_717 : decode cX12_init 717 = .ok (.aload_n 0, 1) := by decide +kernel
theorem dX12_init_718 : decode cX12_init 718 = .ok (.sipush 6000, 3) := by decide +kernel
theorem dX12_init_721 : decode cX12_init 721 = .ok (.newarray .int, 2) := by decide +kernel
theorem dX12_init_723 : decode cX12_init 723 = .ok (.putfield 263, 3) := by decide +kernel
theorem dX12_init_726 : decode cX12_init 726 = .ok (.aload_n 0, 1) := by decide +kernel
theorem dX12_init_727 : decode cX12_init 727 = .ok (.sipush 6000, 3) := by decide +kernel
theorem dX12_init_730 : decode cX12_init 730 = .ok (.newarray .int, 2) := by decide +kernel
theorem dX12_init_732 : decode cX12_init 732 = .ok (.putfield 266, 3) := by decide +kernel
theorem dX12_init_735 : decode cX12_init 735 = .ok (.aload_n 0, 1) := by decide +kernel
theorem dX12_init_736 : decode cX12_init 736 = .ok (.sipush 4300, 3) := by decide +kernel
theorem dX12_init_739 : decode cX12_init 739 = .ok (.newarray .int, 2) := by decide +kernel
theorem dX12_init_741 : decode cX12_init 741 = .ok (.putfield 269, 3) := by decide +kernel
theorem dX12_init_744 : decode cX12_init 744 = .ok (.aload_n 0, 1) := by decide +kernel
theorem dX12_init_745 : decode cX12_init 745 = .ok (.sipush 4300, 3) := by decide +kernel
theorem dX12_init_748 : decode cX12_init 748 = .ok (.newarray .int, 2) := by decide +kernel
theorem dX12_init_750 : decode cX12_init 750 = .ok (.putfield 272, 3) := by decide +kernel
theorem dX12_init_753 : decode cX12_init 753 = .ok (.aload_n 0, 1) := by decide +kernel
theorem dX12_init_754 : decode cX12_init 754 = .ok (.sipush 4300, 3) := by decide +kernel
theorem dX12_init_757 : decode cX12_init 757 = .ok (.newarray .int, 2) := by decide +kernel
theorem dX12_init_759 : decode cX12_init 759 = .ok (.putfield 275, 3) := by decide +kernel
theorem dX12_init_762 : decode cX12_init 762 = .ok (.aload_n 0, 1) := by decide +kernel
theorem dX12_init_763 : decode cX12_init 763 = .ok (.sipush 6000, 3) := by decide +kernel
theorem dX12_init_766 : decode cX12_init 766 = .ok (.newarray .int, 2) := by decide +kernel
theorem dX12_init_768 : decode cX12_init 768 = .ok (.putfield 278, 3) := by decide +kernel
theorem dX12_init_771 : decode cX12_init 771 = .ok (.aload_n 0, 1) := by decide +kernel
theorem dX12_init_772 : decode cX12_init 772 = .ok (.sipush 6000, 3) := by decide +kernel
theorem dX12_init_775 : decode cX12_init 775 = .ok (.newarray .int, 2) := by decide +kernel
theorem dX12_init_777 : decode cX12_init 777 = .ok (.putfield 281, 3) := by decide +kernel
theorem dX12_init_780 : decode cX12_init 780 = .ok (.aload_n 0, 1) := by decide +kernel
theorem dX12_init_781 : decode cX12_init 781 = .ok (.sipush 6000, 3) := by decide +kernel
theorem dX12_init_784 : decode cX12_init 784 = .ok (.newarray .int, 2) := by decide +kernel
theorem dX12_init_786 : decode cX12_init 786 = .ok (.putfield 284, 3) := by decide +kernel
theorem dX12_init_789 : decode cX12_init 789 = .ok (.aload_n 0, 1) := by decide +kernel
theorem dX12_init_790 : decode cX12_init 790 = .ok (.sipush 8194, 3) := by decide +kernel
theorem dX12_init_793 : decode cX12_init 793 = .ok (.newarray .long, 2) := by decide +kernel
theorem dX12_init_795 : decode cX12_init 795 = .ok (.putfield 287, 3) := by decide +kernel
theorem dX12_init_798 : decode cX12_init 798 = .ok (.aload_n 0, 1) := by decide +kernel
theorem dX12_init_799 : decode cX12_init 799 = .ok (.sipush 1200, 3) := by decide +kernel
theorem dX12_init_802 : decode cX12_init 802 = .ok (.newarray .int, 2) := by decide +kernel
theorem dX12_init_804 : decode cX12_init 804 = .ok (.putfield 290, 3) := by decide +kernel
theorem dX12_init_807 : decode cX12_init 807 = .ok (.aload_n 0, 1) := by decide +kernel
theorem dX12_init_808 : decode cX12_init 808 = .ok (.sipush 1200, 3) := by decide +kernel
theorem dX12_init_811 : decode cX12_init 811 = .ok (.newarray .int, 2) := by decide +kernel
theorem dX12_init_813 : decode cX12_init 813 = .ok (.putfield 293, 3) := by decide +kernel
theorem dX12_init_816 : decode cX12_init 816 = .ok (.aload_n 0, 1) := by decide +kernel
theorem dX12_init_817 : decode cX12_init 817 = .ok (.sipush 1200, 3) := by decide +kernel
theorem dX12_init_820 : decode cX12_init 820 = .ok (.newarray .int, 2) := by decide +kernel
theorem dX12_init_822 : decode cX12_init 822 = .ok (.putfield 296, 3) := by decide +kernel
theorem dX12_init_825 : decode cX12_init 825 = .ok (.aload_n 0, 1) := by decide +kernel
theorem dX12_init_826 : decode cX12_init 826 = .ok (.sipush 1200, 3) := by decide +kernel
theorem dX12_init_829 : decode cX12_init 829 = .ok (.newarray .int, 2) := by decide +kernel
theorem dX12_init_831 : decode cX12_init 831 = .ok (.putfield 299, 3) := by decide +kernel
theorem dX12_init_834 : decode cX12_init 834 = .ok (.aload_n 0, 1) := by decide +kernel
theorem dX12_init_835 : decode cX12_init 835 = .ok (.sipush 5000, 3) := by decide +kernel
theorem dX12_init_838 : decode cX12_init 838 = .ok (.newarray .int, 2) := by decide +kernel
theorem dX12_init_840 : decode cX12_init 840 = .ok (.putfield 302, 3) := by decide +kernel
theorem dX12_init_843 : decode cX12_init 843 = .ok (.aload_n 0, 1) := by decide +kernel
theorem dX12_init_844 : decode cX12_init 844 = .ok (.sipush 5000, 3) := by decide +kernel
theorem dX12_init_847 : decode cX12_init 847 = .ok (.newarray .int, 2) := by decide +kernel
theorem dX12_init_849 : decode cX12_init 849 = .ok (.putfield 305, 3) := by decide +kernel
theorem dX12_init_852 : decode cX12_init 852 = .ok (.aload_n 0, 1) := by decide +kernel
theorem dX12_init_853 : decode cX12_init 853 = .ok (.sipush 5000, 3) := by decide +kernel
theorem dX12_init_856 : decode cX12_init 856 = .ok (.newarray .int, 2) := by decide +kernel
theorem dX12_init_858 : decode cX12_init 858 = .ok (.putfield 308, 3) := by decide +kernel
theorem dX12_init_861 : decode cX12_init 861 = .ok (.aload_n 0, 1) := by decide +kernel
theorem dX12_init_862 : decode cX12_init 862 = .ok (.sipush 5000, 3) := by decide +kernel
theorem dX12_init_865 : decode cX12_init 865 = .ok (.newarray .int, 2) := by decide +kernel
theorem dX12_init_867 : decode cX12_init 867 = .ok (.putfield 311, 3) := by decide +kernel
theorem dX12_init_870 : decode cX12_init 870 = .ok (.aload_n 0, 1) := by decide +kernel
theorem dX12_init_871 : decode cX12_init 871 = .ok (.sipush 5000, 3) := by decide +kernel
theorem dX12_init_874 : decode cX12_init 874 = .ok (.newarray .int, 2) := by decide +kernel
theorem dX12_init_876 : decode cX12_init 876 = .ok (.putfield 314, 3) := by decide +kernel
theorem dX12_init_879 : decode cX12_init 879 = .ok (.aload_n 0, 1) := by decide +kernel
theorem dX12_init_880 : decode cX12_init 880 = .ok (.sipush 24000, 3) := by decide +kernel
theorem dX12_init_883 : decode cX12_init 883 = .ok (.newarray .int, 2) := by decide +kernel
theorem dX12_init_885 : decode cX12_init 885 = .ok (.putfield 317, 3) := by decide +kernel
theorem dX12_init_888 : decode cX12_init 888 = .ok (.aload_n 0, 1) := by decide +kernel
theorem dX12_init_889 : decode cX12_init 889 = .ok (.sipush 9000, 3) := by decide +kernel
theorem dX12_init_892 : decode cX12_init 892 = .ok (.newarray .int, 2) := by decide +kernel
theorem dX12_init_894 : decode cX12_init 894 = .ok (.putfield 320, 3) := by decide +kernel
theorem dX12_init_897 : decode cX12_init 897 = .ok (.aload_n 0, 1) := by decide +kernel
theorem dX12_init_898 : decode cX12_init 898 = .ok (.sipush 9000, 3) := by decide +kernel
theorem dX12_init_901 : decode cX12_init 901 = .ok (.newarray .int, 2) := by decide +kernel
theorem dX12_init_903 : decode cX12_init 903 = .ok (.putfield 323, 3) := by decide +kernel
theorem dX12_init_906 : decode cX12_init 906 = .ok (.aload_n 0, 1) := by decide +kernel
theorem dX12_init_907 : decode cX12_init 907 = .ok (.sipush 5000, 3) := by decide +kernel
theorem dX12_init_910 : decode cX12_init 910 = .ok (.newarray .int, 2) := by decide +kernel
theorem dX12_init_912 : decode cX12_init 912 = .ok (.putfield 326, 3) := by decide +kernel
theorem dX12_init_915 : decode cX12_init 915 = .ok (.aload_n 0, 1) := by decide +kernel
theorem dX12_init_916 : decode cX12_init 916 = .ok (.ldc_w 329, 3) := by decide +kernel
theorem dX12_init_919 : decode cX12_init 919 = .ok (.newarray .long, 2) := by decide +kernel
theorem dX12_init_921 : decode cX12_init 921 = .ok (.putfield 330, 3) := by decide +kernel
theorem dX12_init_924 : decode cX12_init 924 = .ok (.aload_n 0, 1) := by decide +kernel
theorem dX12_init_925 : decode cX12_init 925 = .ok (.sipush 2000, 3) := by decide +kernel
theorem dX12_init_928 : decode cX12_init 928 = .ok (.newarray .long, 2) := by decide +kernel
theorem dX12_init_930 : decode cX12_init 930 = .ok (.putfield 333, 3) := by decide +kernel
theorem dX12_init_933 : decode cX12_init 933 = .ok (.aload_n 0, 1) := by decide +kernel
theorem dX12_init_934 : decode cX12_init 934 = .ok (.ldc_w 329, 3) := by decide +kernel
theorem dX12_init_937 : decode cX12_init 937 = .ok (.newarray .long, 2) := by decide +kernel
theorem dX12_init_939 : decode cX12_init 939 = .ok (.putfield 336, 3) := by decide +kernel
theorem dX12_init_942 : decode cX12_init 942 = .ok (.aload_n 0, 1) := by decide +kernel
theorem dX12_init_943 : decode cX12_init 943 = .ok (.sipush 500, 3) := by decide +kernel
theorem dX12_init_946 : decode cX12_init 946 = .ok (.newarray .long, 2) := by decide +kernel
theorem dX12_init_948 : decode cX12_init 948 = .ok (.putfield 339, 3) := by decide +kernel
theorem dX12_init_951 : decode cX12_init 951 = .ok (.aload_n 0, 1) := by decide +kernel
theorem dX12_init_952 : decode cX12_init 952 = .ok (.bipush 64, 2) := by decide +kernel
theorem dX12_init_954 : decode cX12_init 954 = .ok (.newarray .int, 2) := by decide +kernel
theorem dX12_init_956 : decode cX12_init 956 = .ok (.putfield 342, 3) := by decide +kernel
theorem dX12_init_959 : decode cX12_init 959 = .ok (.aload_n 0, 1) := by decide +kernel
theorem dX12_init_960 : decode cX12_init 960 = .ok (.bipush 64, 2) := by decide +kernel
theorem dX12_init_962 : decode cX12_init 962 = .ok (.newarray .int, 2) := by decide +kernel
theorem dX12_init_964 : decode cX12_init 964 = .ok (.putfield 345, 3) := by decide +kernel
theorem dX12_init_967 : decode cX12_init 967 = .ok (.aload_n 0, 1) := by decide +kernel
theorem dX12_init_968 : decode cX12_init 968 = .ok (.bipush 64, 2) := by decide +kernel
theorem dX12_init_970 : decode cX12_init 970 = .ok (.newarray .int, 2) := by decide +kernel
theorem dX12_init_972 : decode cX12_init 972 = .ok (.putfield 348, 3) := by decide +kernel
theorem dX12_init_975 : decode cX12_init 975 = .ok (.aload_n 0, 1) := by decide +kernel
theorem dX12_init_976 : decode cX12_init 976 = .ok (.bipush 64, 2) := by decide +kernel
theorem dX12_init_978 : decode cX12_init 978 = .ok (.newarray .int, 2) := by decide +kernel
theorem dX12_init_980 : decode cX12_init 980 = .ok (.putfield 351, 3) := by decide +kernel
theorem dX12_init_983 : decode cX12_init 983 = .ok (.aload_n 0, 1) := by decide +kernel
theorem dX12_init_984 : decode cX12_init 984 = .ok (.bipush 64, 2) := by decide +kernel
theorem dX12_init_986 : decode cX12_init 986 = .ok (.newarray .int, 2) := by decide +kernel
theorem dX12_init_988 : decode cX12_init 988 = .ok (.putfield 354, 3) := by decide +kernel
theorem dX12_init_991 : decode cX12_init 991 = .ok (.aload_n 0, 1) := by decide +kernel
theorem dX12_init_992 : decode cX12_init 992 = .ok (.sipush 1000, 3) := by decide +kernel
theorem dX12_init_995 : decode cX12_init 995 = .ok (.newarray .int, 2) := by decide +kernel
theorem dX12_init_997 : decode cX12_init 997 = .ok (.putfield 357, 3) := by decide +kernel
theorem dX12_init_1000 : decode cX12_init 1000 = .ok (.aload_n 0, 1) := by decide +kernel
theorem dX12_init_1001 : decode cX12_init 1001 = .ok (.sipush 1000, 3) := by decide +kernel
theorem dX12_init_1004 : decode cX12_init 1004 = .ok (.newarray .int, 2) := by decide +kernel
theorem dX12_init_1006 : decode cX12_init 1006 = .ok (.putfield 360, 3) := by decide +kernel
theorem dX12_init_1009 : decode cX12_init 1009 = .ok (.aload_n 0, 1) := by decide +kernel
theorem dX12_init_1010 : decode cX12_init 1010 = .ok (.sipush 1000, 3) := by decide +kernel
theorem dX12_init_1013 : decode cX12_init 1013 = .ok (.newarray .int, 2) := by decide +kernel
theorem dX12_init_1015 : decode cX12_init 1015 = .ok (.putfield 363, 3) := by decide +kernel
theorem dX12_init_1018 : decode cX12_init 1018 = .ok (.aload_n 0, 1) := by decide +kernel
theorem dX12_init_1019 : decode cX12_init 1019 = .ok (.sipush 1000, 3) := by decide +kernel
theorem dX12_init_1022 : decode cX12_init 1022 = .ok (.newarray .int, 2) := by decide +kernel
theorem dX12_init_1024 : decode cX12_init 1024 = .ok (.putfield 366, 3) := by decide +kernel
theorem dX12_init_1027 : decode cX12_init 1027 = .ok (.aload_n 0, 1) := by decide +kernel
theorem dX12_init_1028 : decode cX12_init 1028 = .ok (.sipush 1000, 3) := by decide +kernel
theorem dX12_init_1031 : decode cX12_init 1031 = .ok (.newarray .int, 2) := by decide +kernel
theorem dX12_init_1033 : decode cX12_init 1033 = .ok (.putfield 369, 3) := by decide +kernel
theorem dX12_init_1036 : decode cX12_init 1036 = .ok (.aload_n 0, 1) := by decide +kernel
theorem dX12_init_1037 : decode cX12_init 1037 = .ok (.sipush 1000, 3) := by decide +kernel
theorem dX12_init_1040 : decode cX12_init 1040 = .ok (.newarray .int, 2) := by decide +kernel
theorem dX12_init_1042 : decode cX12_init 1042 = .ok (.putfield 372, 3) := by decide +kernel
theorem dX12_init_1045 : decode cX12_init 1045 = .ok (.aload_n 0, 1) := by decide +kernel
theorem dX12_init_1046 : decode cX12_init 1046 = .ok (.bipush 64, 2) := by decide +kernel
theorem dX12_init_1048 : decode cX12_init 1048 = .ok (.newarray .int, 2) := by decide +kernel
theorem dX12_init_1050 : decode cX12_init 1050 = .ok (.putfield 375, 3) := by decide +kernel
theorem dX12_init_1053 : decode cX12_init 1053 = .ok (.return_, 1) := by decide +kernel
def WX12_init (w : Wd) : Wd := (zr (zr (zr (zr (zr (zr (zr (zr (zr (zr (zr (zr (zr (zr (zr (zr (zr (zr (zr (zr (zr (zr (zr (zr (zr (zr (zr (zr (zr (zr (zr (zr (zr (zr (zr (zr (zr (zr (zr (zr (zr (zr (zr (zr (zr (zr (zr (zr (zr (zr (zr (zr (zr (zr (zr (zr (zr (zr (zr (zr (zr (zr (zr (zr (zr (zr (zr (zr (zr (zr (zr (zr (zr (zr (zr (zr (zr (zr (zr (zr (zr (zr (zr (zr (zr (zr (zr (zr (zr (zr (zr (zr (zr (zr (si (zr (zr (zr (zr w 1) 2) 3) 4) 0 13 (-1)) 5) 6) 7) 8) 9) 10) 11) 12) 13) 14) 15) 16) 17) 18) 19) 20) 21) 22) 23) 24) 25) 26) 27) 28) 29) 30) 31) 32) 33) 34) 35) 36) 37) 38) 39) 40) 41) 42) 43) 44) 45) 46) 47) 48) 49) 50) 51) 52) 53) 54) 55) 56) 57) 58) 59) 60) 61) 62) 63) 64) 65) 66) 67) 68) 69) 70) 71) 72) 73) 74) 75) 76) 77) 78) 79) 80) 81) 82) 83) 84) 85) 86) 87) 88) 89) 90) 91) 92) 93) 94) 95) 96) 97) 98)
/-- what the maker of the reference does: the exception that stands ready -/
def EXI (q : Gq) (F : Nat → Prop) (l : Launch) : Prop := ∀ (ad0 : Nat → Nat) (w1 w : Wd), RC (gbM q F) ad0 1 99 [(0, 141), (0, 126), (0, 125), (0, 124), (0, 123), (0, 122), (0, 121), (0, 120), (0, 119), (0, 118), (0, 117), (0, 116), (0, 115), (0, 114), (0, 113), (0, 112), (0, 110), (0, 109), (0, 108), (0, 107), (0, 106), (0, 105), (0, 104), (0, 103), (0, 102), (0, 101), (0, 100), (0, 99), (0, 98), (0, 97), (0, 96), (0, 95), (0, 94), (0, 93), (0, 92), (0, 91), (0, 90), (0, 89), (0, 88), (0, 83), (0, 81), (0, 80), (0, 79), (0, 78), (0, 76), (0, 75), (0, 74), (0, 72), (0, 71), (0, 70), (0, 68), (0, 67), (0, 63), (0, 62), (0, 61), (0, 60), (0, 58), (0, 57), (0, 56), (0, 55), (0, 52), (0, 51), (0, 50), (0, 49), (0, 48), (0, 47), (0, 46), (0, 45), (0, 44), (0, 43), (0, 41), (0, 40), (0, 39), (0, 38), (0, 37), (0, 36), (0, 35), (0, 34), (0, 33), (0, 32), (0, 31), (0, 27), (0, 26), (0, 25), (0, 24), (0, 22), (0, 21), (0, 20), (0, 19), (0, 18), (0, 17), (0, 16), (0, 15), (0, 14), (0, 5), (0, 4), (0, 3), (0, 1)] w1 l 12 98 1515487 yX12_init cX12_init 1 6 [(0, 5), (0, 4), (0, 3), (0, 1)] 5 32780 53 (.ref 5 :: [.ref 0]) [(0, .ref 0)] (zr w 5) → RC (gbM q F) ad0 1 99 [(0, 141), (0, 126), (0, 125), (0, 124), (0, 123), (0, 122), (0, 121), (0, 120), (0, 119), (0, 118), (0, 117), (0, 116), (0, 115), (0, 114), (0, 113), (0, 112), (0, 110), (0, 109), (0, 108), (0, 107), (0, 106), (0, 105), (0, 104), (0, 103), (0, 102), (0, 101), (0, 100), (0, 99), (0, 98), (0, 97), (0, 96), (0, 95), (0, 94), (0, 93), (0, 92), (0, 91), (0, 90), (0, 89), (0, 88), (0, 83), (0, 81), (0, 80), (0, 79), (0, 78), (0, 76), (0, 75), (0, 74), (0, 72), (0, 71), (0, 70), (0, 68), (0, 67), (0, 63), (0, 62), (0, 61), (0, 60), (0, 58), (0, 57), (0, 56), (0, 55), (0, 52), (0, 51), (0, 50), (0, 49), (0, 48), (0, 47), (0, 46), (0, 45), (0, 44), (0, 43), (0, 41), (0, 40), (0, 39), (0, 38), (0, 37), (0, 36), (0, 35), (0, 34), (0, 33), (0, 32), (0, 31), (0, 27), (0, 26), (0, 25), (0, 24), (0, 22), (0, 21), (0, 20), (0, 19), (0, 18), (0, 17), (0, 16), (0, 15), (0, 14), (0, 5), (0, 4), (0, 3), (0, 1)] w1 l 12 98 1515487 yX12_init cX12_init 1 5 [(0, 5), (0, 4), (0, 3), (0, 1)] 4 32774 46 [.ref 0] [(0, .ref 0)] w
/-- what the maker of the reference does: the row of words -/
def WDI (q : Gq) (F : Nat → Prop) (l : Launch) : Prop := ∀ (ad0 : Nat → Nat) (w1 w : Wd), RC (gbM q F) ad0 1 99 [(0, 141), (0, 126), (0, 125), (0, 124), (0, 123), (0, 122), (0, 121), (0, 120), (0, 119), (0, 118), (0, 117), (0, 116), (0, 115), (0, 114), (0, 113), (0, 112), (0, 110), (0, 109), (0, 108), (0, 107), (0, 106), (0, 105), (0, 104), (0, 103), (0, 102), (0, 101), (0, 100), (0, 99), (0, 98), (0, 97), (0, 96), (0, 95), (0, 94), (0, 93), (0, 92), (0, 91), (0, 90), (0, 89), (0, 88), (0, 83), (0, 81), (0, 80), (0, 79), (0, 78), (0, 76), (0, 75), (0, 74), (0, 72), (0, 71), (0, 70), (0, 68), (0, 67), (0, 63), (0, 62), (0, 61), (0, 60), (0, 58), (0, 57), (0, 56), (0, 55), (0, 52), (0, 51), (0, 50), (0, 49), (0, 48), (0, 47), (0, 46), (0, 45), (0, 44), (0, 43), (0, 41), (0, 40), (0, 39), (0, 38), (0, 37), (0, 36), (0, 35), (0, 34), (0, 33), (0, 32), (0, 31), (0, 27), (0, 26), (0, 25), (0, 24), (0, 22), (0, 21), (0, 20), (0, 19), (0, 18), (0, 17), (0, 16), (0, 15), (0, 14), (0, 5), (0, 4), (0, 3), (0, 1)] w1 l 12 98 1515487 yX12_init cX12_init 1 7 [(0, 14), (0, 5), (0, 4), (0, 3), (0, 1)] 6 32809 230 (.ref 6 :: [.ref 0]) [(0, .ref 0)] (zr w 6) → RC (gbM q F) ad0 1 99 [(0, 141), (0, 126), (0, 125), (0, 124), (0, 123), (0, 122), (0, 121), (0, 120), (0, 119), (0, 118), (0, 117), (0, 116), (0, 115), (0, 114), (0, 113), (0, 112), (0, 110), (0, 109), (0, 108), (0, 107), (0, 106), (0, 105), (0, 104), (0, 103), (0, 102), (0, 101), (0, 100), (0, 99), (0, 98), (0, 97), (0, 96), (0, 95), (0, 94), (0, 93), (0, 92), (0, 91), (0, 90), (0, 89), (0, 88), (0, 83), (0, 81), (0, 80), (0, 79), (0, 78), (0, 76), (0, 75), (0, 74), (0, 72), (0, 71), (0, 70), (0, 68), (0, 67), (0, 63), (0, 62), (0, 61), (0, 60), (0, 58), (0, 57), (0, 56), (0, 55), (0, 52), (0, 51), (0, 50), (0, 49), (0, 48), (0, 47), (0, 46), (0, 45), (0, 44), (0, 43), (0, 41), (0, 40), (0, 39), (0, 38), (0, 37), (0, 36), (0, 35), (0, 34), (0, 33), (0, 32), (0, 31), (0, 27), (0, 26), (0, 25), (0, 24), (0, 22), (0, 21), (0, 20), (0, 19), (0, 18), (0, 17), (0, 16), (0, 15), (0, 14), (0, 5), (0, 4), (0, 3), (0, 1)] w1 l 12 98 1515487 yX12_init cX12_init 1 6 [(0, 14), (0, 5), (0, 4), (0, 3), (0, 1)] 5 32780 57 [.ref 0] [(0, .ref 0)] w
set_option maxHeartbeats 40000000 in
set_option maxRecDepth 20000 in
theorem kX12_init {q : Gq} {F : Nat → Prop} {l : Launch} (he : EXI q F l) (hw : WDI q F l) {w : Wd} : CC (gbM q F) l 12 98 1515487 yX12_init cX12_init 1 [.ref 0] 1 [] w 99 [(0, 141), (0, 126), (0, 125), (0, 124), (0, 123), (0, 122), (0, 121), (0, 120), (0, 119), (0, 118), (0, 117), (0, 116), (0, 115), (0, 114), (0, 113), (0, 112), (0, 110), (0, 109), (0, 108), (0, 107), (0, 106), (0, 105), (0, 104), (0, 103), (0, 102), (0, 101), (0, 100), (0, 99), (0, 98), (0, 97), (0, 96), (0, 95), (0, 94), (0, 93), (0, 92), (0, 91), (0, 90), (0, 89), (0, 88), (0, 83), (0, 81), (0, 80), (0, 79), (0, 78), (0, 76), (0, 75), (0, 74), (0, 72), (0, 71), (0, 70), (0, 68), (0, 67), (0, 63), (0, 62), (0, 61), (0, 60), (0, 58), (0, 57), (0, 56), (0, 55), (0, 52), (0, 51), (0, 50), (0, 49), (0, 48), (0, 47), (0, 46), (0, 45), (0, 44), (0, 43), (0, 41), (0, 40), (0, 39), (0, 38), (0, 37), (0, 36), (0, 35), (0, 34), (0, 33), (0, 32), (0, 31), (0, 27), (0, 26), (0, 25), (0, 24), (0, 22), (0, 21), (0, 20), (0, 19), (0, 18), (0, 17), (0, 16), (0, 15), (0, 14), (0, 5), (0, 4), (0, 3), (0, 1)] (WX12_init w) := by
  refine CC.of (by decide) rfl (Nat.le_of_ble_eq_true rfl) (fun ad0 => ?_)
  show RC (gbM q F) ad0 1 99 [(0, 141), (0, 126), (0, 125), (0, 124), (0, 123), (0, 122), (0, 121), (0, 120), (0, 119), (0, 118), (0, 117), (0, 116), (0, 115), (0, 114), (0, 113), (0, 112), (0, 110), (0, 109), (0, 108), (0, 107), (0, 106), (0, 105), (0, 104), (0, 103), (0, 102), (0, 101), (0, 100), (0, 99), (0, 98), (0, 97), (0, 96), (0, 95), (0, 94), (0, 93), (0, 92), (0, 91), (0, 90), (0, 89), (0, 88), (0, 83), (0, 81), (0, 80), (0, 79), (0, 78), (0, 76), (0, 75), (0, 74), (0, 72), (0, 71), (0, 70), (0, 68), (0, 67), (0, 63), (0, 62), (0, 61), (0, 60), (0, 58), (0, 57), (0, 56), (0, 55), (0, 52), (0, 51), (0, 50), (0, 49), (0, 48), (0, 47), (0, 46), (0, 45), (0, 44), (0, 43), (0, 41), (0, 40), (0, 39), (0, 38), (0, 37), (0, 36), (0, 35), (0, 34), (0, 33), (0, 32), (0, 31), (0, 27), (0, 26), (0, 25), (0, 24), (0, 22), (0, 21), (0, 20), (0, 19), (0, 18), (0, 17), (0, 16), (0, 15), (0, 14), (0, 5), (0, 4), (0, 3), (0, 1)] (WX12_init w) l 12 98 1515487 yX12_init cX12_init 1 1 [] 0 0 0 [] [(0, .ref 0)] w
  refine c_aload_n (pc := 0) (n := 1) (kc := 0) (ks := 0) dX12_init_0 rfl 0 rfl ?_
  refine c_obj (pc := 1) (n := 1) (kc := 0) (ks := 0) moRX12 oi_i oi_c (Nat.le_of_ble_eq_true rfl) (Nat.le_of_ble_eq_true rfl) dX12_init_1 ?_
  refine c_aload_n (pc := 4) (n := 1) (kc := 0) (ks := 0) dX12_init_4 rfl 0 rfl ?_
  refine c_sipush (pc := 5) (n := 1) (kc := 0) (ks := 0) dX12_init_5 ks_8192 ?_
  refine c_na_byte (pc := 8) (n := 1) (kc := 0) (ks := 0) (len := 8192) (show okA dsM [] 1 = true by decide +kernel) (Nat.le_of_ble_eq_true rfl) (Nat.le_of_ble_eq_true rfl) rfl rfl ac_byte (by decide) (by decide) (Nat.le_of_ble_eq_true rfl) (Nat.le_of_ble_eq_true rfl) (Nat.le_of_ble_eq_true rfl) (by decide) (by decide) dX12_init_8 ?_
  refine c_putR (pc := 10) (n := 2) (kc := 1) (ks := 8192) (k := 0) (j := 1) (t := 1) (fs := fsM) (Nat.le_of_ble_eq_true rfl) rfl rfl rfl cf12 flRX12_7 rfl (by decide) rfl rfl (fun _ => rfl) (fun _ => rfl) dX12_init_10 ?_
  refine c_aload_n (pc := 13) (n := 2) (kc := 1) (ks := 8192) dX12_init_13 rfl 0 rfl ?_
  refine c_sipush (pc := 14) (n := 2) (kc := 1) (ks := 8192) dX12_init_14 ks_8194 ?_
  refine c_na_int (pc := 17) (n := 2) (kc := 1) (ks := 8192) (len := 8194) (show okA dsM [(0, 1)] 2 = true by decide +kernel) (Nat.le_of_ble_eq_true rfl) (Nat.le_of_ble_eq_true rfl) rfl rfl ac_int (by decide) (by decide) (Nat.le_of_ble_eq_true rfl) (Nat.le_of_ble_eq_true rfl) (Nat.le_of_ble_eq_true rfl) (by decide) (by decide) dX12_init_17 ?_
  refine c_putR (pc := 19) (n := 3) (kc := 2) (ks := 16386) (k := 0) (j := 3) (t := 2) (fs := fsM) (Nat.le_of_ble_eq_true rfl) rfl rfl rfl cf12 flRX12_13 rfl (by decide) rfl rfl (fun _ => rfl) (fun _ => rfl) dX12_init_19 ?_
  refine c_aload_n (pc := 22) (n := 3) (kc := 2) (ks := 16386) dX12_init_22 rfl 0 rfl ?_
  refine c_sipush (pc := 23) (n := 3) (kc := 2) (ks := 16386) dX12_init_23 ks_8194 ?_
  refine c_na_int (pc := 26) (n := 3) (kc := 2) (ks := 16386) (len := 8194) (show okA dsM [(0, 3), (0, 1)] 3 = true by decide +kernel) (Nat.le_of_ble_eq_true rfl) (Nat.le_of_ble_eq_true rfl) rfl rfl ac_int (by decide) (by decide) (Nat.le_of_ble_eq_true rfl) (Nat.le_of_ble_eq_true rfl) (Nat.le_of_ble_eq_true rfl) (by decide) (by decide) dX12_init_26 ?_
  refine c_putR (pc := 28) (n := 4) (kc := 3) (ks := 24580) (k := 0) (j := 4) (t := 3) (fs := fsM) (Nat.le_of_ble_eq_true rfl) rfl rfl rfl cf12 flRX12_17 rfl (by decide) rfl rfl (fun _ => rfl) (fun _ => rfl) dX12_init_28 ?_
  refine c_aload_n (pc := 31) (n := 4) (kc := 3) (ks := 24580) dX12_init_31 rfl 0 rfl ?_
  refine c_sipush (pc := 32) (n := 4) (kc := 3) (ks := 24580) dX12_init_32 ks_8194 ?_
  refine c_na_long (pc := 35) (n := 4) (kc := 3) (ks := 24580) (len := 8194) (show okA dsM [(0, 4), (0, 3), (0, 1)] 4 = true by decide +kernel) (Nat.le_of_ble_eq_true rfl) (Nat.le_of_ble_eq_true rfl) rfl rfl ac_long (by decide) (by decide) (Nat.le_of_ble_eq_true rfl) (Nat.le_of_ble_eq_true rfl) (Nat.le_of_ble_eq_true rfl) (by decide) (by decide) dX12_init_35 ?_
  refine c_putR (pc := 37) (n := 5) (kc := 4) (ks := 32774) (k := 0) (j := 5) (t := 4) (fs := fsM) (Nat.le_of_ble_eq_true rfl) rfl rfl rfl cf12 flRX12_20 rfl (by decide) rfl rfl (fun _ => rfl) (fun _ => rfl) dX12_init_37 ?_
  refine c_aload_n (pc := 40) (n := 5) (kc := 4) (ks := 32774) dX12_init_40 rfl 0 rfl ?_
  refine c_iconst (pc := 41) (n := 5) (kc := 4) (ks := 32774) dX12_init_41 ki_m1 ?_
  refine c_putI (pc := 42) (n := 5) (kc := 4) (ks := 32774) (k := 0) (j := 13) (fs := fsM.mapIdx (gst [(0, 5), (0, 4), (0, 3), (0, 1)] 0)) (fun ad => ⟨(Nat.le_of_ble_eq_true rfl), rfl, rfl, rfl⟩) cf12 flRX12_24 rfl rfl rfl rfl dX12_init_42 ?_
  refine c_aload_n (pc := 45) (n := 5) (kc := 4) (ks := 32774) dX12_init_45 rfl 0 rfl ?_
  refine he _ _ _ ?_
  refine c_putR (pc := 53) (n := 6) (kc := 5) (ks := 32780) (k := 0) (j := 14) (t := 5) (fs := fsM) (Nat.le_of_ble_eq_true rfl) rfl rfl rfl cf12 flRX12_31 rfl (by decide) rfl rfl (fun _ => rfl) (fun _ => rfl) dX12_init_53 ?_
  refine c_aload_n (pc := 56) (n := 6) (kc := 5) (ks := 32780) dX12_init_56 rfl 0 rfl ?_
  refine hw _ _ _ ?_
  refine c_putR (pc := 230) (n := 7) (kc := 6) (ks := 32809) (k := 0) (j := 15) (t := 6) (fs := fsM) (Nat.le_of_ble_eq_true rfl) rfl rfl rfl cf12 flRX12_95 rfl (by decide) rfl rfl (fun _ => rfl) (fun _ => rfl) dX12_init_230 ?_
  refine c_aload_n (pc := 233) (n := 7) (kc := 6) (ks := 32809) dX12_init_233 rfl 0 rfl ?_
  refine c_sipush (pc := 234) (n := 7) (kc := 6) (ks := 32809) dX12_init_234 ks_24000 ?_
  refine c_na_int (pc := 237) (n := 7) (kc := 6) (ks := 32809) (len := 24000) (show okA dsM [(0, 15), (0, 14), (0, 5), (0, 4), (0, 3), (0, 1)] 7 = true by decide +kernel) (Nat.le_of_ble_eq_true rfl) (Nat.le_of_ble_eq_true rfl) rfl rfl ac_int (by decide) (by decide) (Nat.le_of_ble_eq_true rfl) (Nat.le_of_ble_eq_true rfl) (Nat.le_of_ble_eq_true rfl) (by decide) (by decide) dX12_init_237 ?_
  refine c_putR (pc := 239) (n := 8) (kc := 7) (ks := 56809) (k := 0) (j := 16) (t := 7) (fs := fsM) (Nat.le_of_ble_eq_true rfl) rfl rfl rfl cf12 flRX12_99 rfl (by decide) rfl rfl (fun _ => rfl) (fun _ => rfl) dX12_init_239 ?_
  refine c_aload_n (pc := 242) (n := 8) (kc := 7) (ks := 56809) dX12_init_242 rfl 0 rfl ?_
  refine c_sipush (pc := 243) (n := 8) (kc := 7) (ks := 56809) dX12_init_243 ks_24000 ?_
  refine c_na_int (pc := 246) (n := 8) (kc := 7) (ks := 56809) (len := 24000) (show okA dsM [(0, 16), (0, 15), (0, 14), (0, 5), (0, 4), (0, 3), (0, 1)] 8 = true by decide +kernel) (Nat.le_of_ble_eq_true rfl) (Nat.le_of_ble_eq_true rfl) rfl rfl ac_int (by decide) (by decide) (Nat.le_of_ble_eq_true rfl) (Nat.le_of_ble_eq_true rfl) (Nat.le_of_ble_eq_true rfl) (by decide) (by decide) dX12_init_246 ?_
  refine c_putR (pc := 248) (n := 9) (kc := 8) (ks := 80809) (k := 0) (j := 17) (t := 8) (fs := fsM) (Nat.le_of_ble_eq_true rfl) rfl rfl rfl cf12 flRX12_102 rfl (by decide) rfl rfl (fun _ => rfl) (fun _ => rfl) dX12_init_248 ?_
  refine c_aload_n (pc := 251) (n := 9) (kc := 8) (ks := 80809) dX12_init_251 rfl 0 rfl ?_
  refine c_sipush (pc := 252) (n := 9) (kc := 8) (ks := 80809) dX12_init_252 ks_24000 ?_
  refine c_na_int (pc := 255) (n := 9) (kc := 8) (ks := 80809) (len := 24000) (show okA dsM [(0, 17), (0, 16), (0, 15), (0, 14), (0, 5), (0, 4), (0, 3), (0, 1)] 9 = true by decide +kernel) (Nat.le_of_ble_eq_true rfl) (Nat.le_of_ble_eq_true rfl) rfl rfl ac_int (by decide) (by decide) (Nat.le_of_ble_eq_true rfl) (Nat.le_of_ble_eq_true rfl) (Nat.le_of_ble_eq_true rfl) (by decide) (by decide) dX12_init_255 ?_
  refine c_putR (pc := 257) (n := 10) (kc := 9) (ks := 104809) (k := 0) (j := 18) (t := 9) (fs := fsM) (Nat.le_of_ble_eq_true rfl) rfl rfl rfl cf12 flRX12_105 rfl (by decide) rfl rfl (fun _ => rfl) (fun _ => rfl) dX12_init_257 ?_
  refine c_aload_n (pc := 260) (n := 10) (kc := 9) (ks := 104809) dX12_init_260 rfl 0 rfl ?_
  refine c_sipush (pc := 261) (n := 10) (kc := 9) (ks := 104809) dX12_init_261 ks_24000 ?_
  refine c_na_int (pc := 264) (n := 10) (kc := 9) (ks := 104809) (len := 24000) (show okA dsM [(0, 18), (0, 17), (0, 16), (0, 15), (0, 14), (0, 5), (0, 4), (0, 3), (0, 1)] 10 = true by decide +kernel) (Nat.le_of_ble_eq_true rfl) (Nat.le_of_ble_eq_true rfl) rfl rfl ac_int (by decide) (by decide) (Nat.le_of_ble_eq_true rfl) (Nat.le_of_ble_eq_true rfl) (Nat.le_of_ble_eq_true rfl) (by decide) (by decide) dX12_init_264 ?_
  refine c_putR (pc := 266) (n := 11) (kc := 10) (ks := 128809) (k := 0) (j := 19) (t := 10) (fs := fsM) (Nat.le_of_ble_eq_true rfl) rfl rfl rfl cf12 flRX12_108 rfl (by decide) rfl rfl (fun _ => rfl) (fun _ => rfl) dX12_init_266 ?_
  refine c_aload_n (pc := 269) (n := 11) (kc := 10) (ks := 128809) dX12_init_269 rfl 0 rfl ?_
  refine c_sipush (pc := 270) (n := 11) (kc := 10) (ks := 128809) dX12_init_270 ks_24000 ?_
  refine c_na_int (pc := 273) (n := 11) (kc := 10) (ks := 128809) (len := 24000) (show okA dsM [(0, 19), (0, 18), (0, 17), (0, 16), (0, 15), (0, 14), (0, 5), (0, 4), (0, 3), (0, 1)] 11 = true by decide +kernel) (Nat.le_of_ble_eq_true rfl) (Nat.le_of_ble_eq_true rfl) rfl rfl ac_int (by decide) (by decide) (Nat.le_of_ble_eq_true rfl) (Nat.le_of_ble_eq_true rfl) (Nat.le_of_ble_eq_true rfl) (by decide) (by decide) dX12_init_273 ?_
  refine c_putR (pc := 275) (n := 12) (kc := 11) (ks := 152809) (k := 0) (j := 20) (t := 11) (fs := fsM) (Nat.le_of_ble_eq_true rfl) rfl rfl rfl cf12 flRX12_111 rfl (by decide) rfl rfl (fun _ => rfl) (fun _ => rfl) dX12_init_275 ?_
  refine c_aload_n (pc := 278) (n := 12) (kc := 11) (ks := 152809) dX12_init_278 rfl 0 rfl ?_
  refine c_sipush (pc := 279) (n := 12) (kc := 11) (ks := 152809) dX12_init_279 ks_24000 ?_
  refine c_na_int (pc := 282) (n := 12) (kc := 11) (ks := 152809) (len := 24000) (show okA dsM [(0, 20), (0, 19), (0, 18), (0, 17), (0, 16), (0, 15), (0, 14), (0, 5), (0, 4), (0, 3), (0, 1)] 12 = true by decide +kernel) (Nat.le_of_ble_eq_true rfl) (Nat.le_of_ble_eq_true rfl) rfl rfl ac_int (by decide) (by decide) (Nat.le_of_ble_eq_true rfl) (Nat.le_of_ble_eq_true rfl) (Nat.le_of_ble_eq_true rfl) (by decide) (by decide) dX12_init_282 ?_
  refine c_putR (pc := 284) (n := 13) (kc := 12) (ks := 176809) (k := 0) (j := 21) (t := 12) (fs := fsM) (Nat.le_of_ble_eq_true rfl) rfl rfl rfl cf12 flRX12_114 rfl (by decide) rfl rfl (fun _ => rfl) (fun _ => rfl) dX12_init_284 ?_
  refine c_aload_n (pc := 287) (n := 13) (kc := 12) (ks := 176809) dX12_init_287 rfl 0 rfl ?_
  refine c_sipush (pc := 288) (n := 13) (kc := 12) (ks := 176809) dX12_init_288 ks_24000 ?_
  refine c_na_int (pc := 291) (n := 13) (kc := 12) (ks := 176809) (len := 24000) (show okA dsM [(0, 21), (0, 20), (0, 19), (0, 18), (0, 17), (0, 16), (0, 15), (0, 14), (0, 5), (0, 4), (0, 3), (0, 1)] 13 = true by decide +kernel) (Nat.le_of_ble_eq_true rfl) (Nat.le_of_ble_eq_true rfl) rfl rfl ac_int (by decide) (by decide) (Nat.le_of_ble_eq_true rfl) (Nat.le_of_ble_eq_true rfl) (Nat.le_of_ble_eq_true rfl) (by decide) (by decide) dX12_init_291 ?_
  refine c_putR (pc := 293) (n := 14) (kc := 13) (ks := 200809) (k := 0) (j := 22) (t := 13) (fs := fsM) (Nat.le_of_ble_eq_true rfl) rfl rfl rfl cf12 flRX12_117 rfl (by decide) rfl rfl (fun _ => rfl) (fun _ => rfl) dX12_init_293 ?_
  refine c_aload_n (pc := 296) (n := 14) (kc := 13) (ks := 200809) dX12_init_296 rfl 0 rfl ?_
  refine c_sipush (pc := 297) (n := 14) (kc := 13) (ks := 200809) dX12_init_297 ks_9000 ?_
  refine c_na_int (pc := 300) (n := 14) (kc := 13) (ks := 200809) (len := 9000) (show okA dsM [(0, 22), (0, 21), (0, 20), (0, 19), (0, 18), (0, 17), (0, 16), (0, 15), (0, 14), (0, 5), (0, 4), (0, 3), (0, 1)] 14 = true by decide +kernel) (Nat.le_of_ble_eq_true rfl) (Nat.le_of_ble_eq_true rfl) rfl rfl ac_int (by decide) (by decide) (Nat.le_of_ble_eq_true rfl) (Nat.le_of_ble_eq_true rfl) (Nat.le_of_ble_eq_true rfl) (by decide) (by decide) dX12_init_300 ?_
  refine c_putR (pc := 302) (n := 15) (kc := 14) (ks := 209809) (k := 0) (j := 24) (t := 14) (fs := fsM) (Nat.le_of_ble_eq_true rfl) rfl rfl rfl cf12 flRX12_120 rfl (by decide) rfl rfl (fun _ => rfl) (fun _ => rfl) dX12_init_302 ?_
  refine c_aload_n (pc := 305) (n := 15) (kc := 14) (ks := 209809) dX12_init_305 rfl 0 rfl ?_
  refine c_sipush (pc := 306) (n := 15) (kc := 14) (ks := 209809) dX12_init_306 ks_9000 ?_
  refine c_na_int (pc := 309) (n := 15) (kc := 14) (ks := 209809) (len := 9000) (show okA dsM [(0, 24), (0, 22), (0, 21), (0, 20), (0, 19), (0, 18), (0, 17), (0, 16), (0, 15), (0, 14), (0, 5), (0, 4), (0, 3), (0, 1)] 15 = true by decide +kernel) (Nat.le_of_ble_eq_true rfl) (Nat.le_of_ble_eq_true rfl) rfl rfl ac_int (by decide) (by decide) (Nat.le_of_ble_eq_true rfl) (Nat.le_of_ble_eq_true rfl) (Nat.le_of_ble_eq_true rfl) (by decide) (by decide) dX12_init_309 ?_
  refine c_putR (pc := 311) (n := 16) (kc := 15) (ks := 218809) (k := 0) (j := 25) (t := 15) (fs := fsM) (Nat.le_of_ble_eq_true rfl) rfl rfl rfl cf12 flRX12_123 rfl (by decide) rfl rfl (fun _ => rfl) (fun _ => rfl) dX12_init_311 ?_
  refine c_aload_n (pc := 314) (n := 16) (kc := 15) (ks := 218809) dX12_init_314 rfl 0 rfl ?_
  refine c_sipush (pc := 315) (n := 16) (kc := 15) (ks := 218809) dX12_init_315 ks_9000 ?_
  refine c_na_int (pc := 318) (n := 16) (kc := 15) (ks := 218809) (len := 9000) (show okA dsM [(0, 25), (0, 24), (0, 22), (0, 21), (0, 20), (0, 19), (0, 18), (0, 17), (0, 16), (0, 15), (0, 14), (0, 5), (0, 4), (0, 3), (0, 1)] 16 = true by decide +kernel) (Nat.le_of_ble_eq_true rfl) (Nat.le_of_ble_eq_true rfl) rfl rfl ac_int (by decide) (by decide) (Nat.le_of_ble_eq_true rfl) (Nat.le_of_ble_eq_true rfl) (Nat.le_of_ble_eq_true rfl) (by decide) (by decide) dX12_init_318 ?_
  refine c_putR (pc := 320) (n := 17) (kc := 16) (ks := 227809) (k := 0) (j := 26) (t := 16) (fs := fsM) (Nat.le_of_ble_eq_true rfl) rfl rfl rfl cf12 flRX12_126 rfl (by decide) rfl rfl (fun _ => rfl) (fun _ => rfl) dX12_init_320 ?_
  refine c_aload_n (pc := 323) (n := 17) (kc := 16) (ks := 227809) dX12_init_323 rfl 0 rfl ?_
  refine c_sipush (pc := 324) (n := 17) (kc := 16) (ks := 227809) dX12_init_324 ks_9000 ?_
  refine c_na_int (pc := 327) (n := 17) (kc := 16) (ks := 227809) (len := 9000) (show okA dsM [(0, 26), (0, 25), (0, 24), (0, 22), (0, 21), (0, 20), (0, 19), (0, 18), (0, 17), (0, 16), (0, 15), (0, 14), (0, 5), (0, 4), (0, 3), (0, 1)] 17 = true by decide +kernel) (Nat.le_of_ble_eq_true rfl) (Nat.le_of_ble_eq_true rfl) rfl rfl ac_int (by decide) (by decide) (Nat.le_of_ble_eq_true rfl) (Nat.le_of_ble_eq_true rfl) (Nat.le_of_ble_eq_true rfl) (by decide) (by decide) dX12_init_327 ?_
  refine c_putR (pc := 329) (n := 18) (kc := 17) (ks := 236809) (k := 0) (j := 27) (t := 17) (fs := fsM) (Nat.le_of_ble_eq_true rfl) rfl rfl rfl cf12 flRX12_129 rfl (by decide) rfl rfl (fun _ => rfl) (fun _ => rfl) dX12_init_329 ?_
  refine c_aload_n (pc := 332) (n := 18) (kc := 17) (ks := 236809) dX12_init_332 rfl 0 rfl ?_
  refine c_sipush (pc := 333) (n := 18) (kc := 17) (ks := 236809) dX12_init_333 ks_5000 ?_
  refine c_na_long (pc := 336) (n := 18) (kc := 17) (ks := 236809) (len := 5000) (show okA dsM [(0, 27), (0, 26), (0, 25), (0, 24), (0, 22), (0, 21), (0, 20), (0, 19), (0, 18), (0, 17), (0, 16), (0, 15), (0, 14), (0, 5), (0, 4), (0, 3), (0, 1)] 18 = true by decide +kernel) (Nat.le_of_ble_eq_true rfl) (Nat.le_of_ble_eq_true rfl) rfl rfl ac_long (by decide) (by decide) (Nat.le_of_ble_eq_true rfl) (Nat.le_of_ble_eq_true rfl) (Nat.le_of_ble_eq_true rfl) (by decide) (by decide) dX12_init_336 ?_
  refine c_putR (pc := 338) (n := 19) (kc := 18) (ks := 241809) (k := 0) (j := 31) (t := 18) (fs := fsM) (Nat.le_of_ble_eq_true rfl) rfl rfl rfl cf12 flRX12_132 rfl (by decide) rfl rfl (fun _ => rfl) (fun _ => rfl) dX12_init_338 ?_
  refine c_aload_n (pc := 341) (n := 19) (kc := 18) (ks := 241809) dX12_init_341 rfl 0 rfl ?_
  refine c_sipush (pc := 342) (n := 19) (kc := 18) (ks := 241809) dX12_init_342 ks_5000 ?_
  refine c_na_int (pc := 345) (n := 19) (kc := 18) (ks := 241809) (len := 5000) (show okA dsM [(0, 31), (0, 27), (0, 26), (0, 25), (0, 24), (0, 22), (0, 21), (0, 20), (0, 19), (0, 18), (0, 17), (0, 16), (0, 15), (0, 14), (0, 5), (0, 4), (0, 3), (0, 1)] 19 = true by decide +kernel) (Nat.le_of_ble_eq_true rfl) (Nat.le_of_ble_eq_true rfl) rfl rfl ac_int (by decide) (by decide) (Nat.le_of_ble_eq_true rfl) (Nat.le_of_ble_eq_true rfl) (Nat.le_of_ble_eq_true rfl) (by decide) (by decide) dX12_init_345 ?_
  refine c_putR (pc := 347) (n := 20) (kc := 19) (ks := 246809) (k := 0) (j := 32) (t := 19) (fs := fsM) (Nat.le_of_ble_eq_true rfl) rfl rfl rfl cf12 flRX12_135 rfl (by decide) rfl rfl (fun _ => rfl) (fun _ => rfl) dX12_init_347 ?_
  refine c_aload_n (pc := 350) (n := 20) (kc := 19) (ks := 246809) dX12_init_350 rfl 0 rfl ?_
  refine c_sipush (pc := 351) (n := 20) (kc := 19) (ks := 246809) dX12_init_351 ks_5000 ?_
  refine c_na_int (pc := 354) (n := 20) (kc := 19) (ks := 246809) (len := 5000) (show okA dsM [(0, 32), (0, 31), (0, 27), (0, 26), (0, 25), (0, 24), (0, 22), (0, 21), (0, 20), (0, 19), (0, 18), (0, 17), (0, 16), (0, 15), (0, 14), (0, 5), (0, 4), (0, 3), (0, 1)] 20 = true by decide +kernel) (Nat.le_of_ble_eq_true rfl) (Nat.le_of_ble_eq_true rfl) rfl rfl ac_int (by decide) (by decide) (Nat.le_of_ble_eq_true rfl) (Nat.le_of_ble_eq_true rfl) (Nat.le_of_ble_eq_true rfl) (by decide) (by decide) dX12_init_354 ?_
  refine c_putR (pc := 356) (n := 21) (kc := 20) (ks := 251809) (k := 0) (j := 33) (t := 20) (fs := fsM) (Nat.le_of_ble_eq_true rfl) rfl rfl rfl cf12 flRX12_138 rfl (by decide) rfl rfl (fun _ => rfl) (fun _ => rfl) dX12_init_356 ?_
  refine c_aload_n (pc := 359) (n := 21) (kc := 20) (ks := 251809) dX12_init_359 rfl 0 rfl ?_
  refine c_sipush (pc := 360) (n := 21) (kc := 20) (ks := 251809) dX12_init_360 ks_5000 ?_
  refine c_na_int (pc := 363) (n := 21) (kc := 20) (ks := 251809) (len := 5000) (show okA dsM [(0, 33), (0, 32), (0, 31), (0, 27), (0, 26), (0, 25), (0, 24), (0, 22), (0, 21), (0, 20), (0, 19), (0, 18), (0, 17), (0, 16), (0, 15), (0, 14), (0, 5), (0, 4), (0, 3), (0, 1)] 21 = true by decide +kernel) (Nat.le_of_ble_eq_true rfl) (Nat.le_of_ble_eq_true rfl) rfl rfl ac_int (by decide) (by decide) (Nat.le_of_ble_eq_true rfl) (Nat.le_of_ble_eq_true rfl) (Nat.le_of_ble_eq_true rfl) (by decide) (by decide) dX12_init_363 ?_
  refine c_putR (pc := 365) (n := 22) (kc := 21) (ks := 256809) (k := 0) (j := 34) (t := 21) (fs := fsM) (Nat.le_of_ble_eq_true rfl) rfl rfl rfl cf12 flRX12_141 rfl (by decide) rfl rfl (fun _ => rfl) (fun _ => rfl) dX12_init_365 ?_
  refine c_aload_n (pc := 368) (n := 22) (kc := 21) (ks := 256809) dX12_init_368 rfl 0 rfl ?_
  refine c_sipush (pc := 369) (n := 22) (kc := 21) (ks := 256809) dX12_init_369 ks_5000 ?_
  refine c_na_int (pc := 372) (n := 22) (kc := 21) (ks := 256809) (len := 5000) (show okA dsM [(0, 34), (0, 33), (0, 32), (0, 31), (0, 27), (0, 26), (0, 25), (0, 24), (0, 22), (0, 21), (0, 20), (0, 19), (0, 18), (0, 17), (0, 16), (0, 15), (0, 14), (0, 5), (0, 4), (0, 3), (0, 1)] 22 = true by decide +kernel) (Nat.le_of_ble_eq_true rfl) (Nat.le_of_ble_eq_true rfl) rfl rfl ac_int (by decide) (by decide) (Nat.le_of_ble_eq_true rfl) (Nat.le_of_ble_eq_true rfl) (Nat.le_of_ble_eq_true rfl) (by decide) (by decide) dX12_init_372 ?_
  refine c_putR (pc := 374) (n := 23) (kc := 22) (ks := 261809) (k := 0) (j := 35) (t := 22) (fs := fsM) (Nat.le_of_ble_eq_true rfl) rfl rfl rfl cf12 flRX12_144 rfl (by decide) rfl rfl (fun _ => rfl) (fun _ => rfl) dX12_init_374 ?_
  refine c_aload_n (pc := 377) (n := 23) (kc := 22) (ks := 261809) dX12_init_377 rfl 0 rfl ?_
  refine c_sipush (pc := 378) (n := 23) (kc := 22) (ks := 261809) dX12_init_378 ks_5000 ?_
  refine c_na_int (pc := 381) (n := 23) (kc := 22) (ks := 261809) (len := 5000) (show okA dsM [(0, 35), (0, 34), (0, 33), (0, 32), (0, 31), (0, 27), (0, 26), (0, 25), (0, 24), (0, 22), (0, 21), (0, 20), (0, 19), (0, 18), (0, 17), (0, 16), (0, 15), (0, 14), (0, 5), (0, 4), (0, 3), (0, 1)] 23 = true by decide +kernel) (Nat.le_of_ble_eq_true rfl) (Nat.le_of_ble_eq_true rfl) rfl rfl ac_int (by decide) (by decide) (Nat.le_of_ble_eq_true rfl) (Nat.le_of_ble_eq_true rfl) (Nat.le_of_ble_eq_true rfl) (by decide) (by decide) dX12_init_381 ?_
  refine c_putR (pc := 383) (n := 24) (kc := 23) (ks := 266809) (k := 0) (j := 36) (t := 23) (fs := fsM) (Nat.le_of_ble_eq_true rfl) rfl rfl rfl cf12 flRX12_147 rfl (by decide) rfl rfl (fun _ => rfl) (fun _ => rfl) dX12_init_383 ?_
  refine c_aload_n (pc := 386) (n := 24) (kc := 23) (ks := 266809) dX12_init_386 rfl 0 rfl ?_
  refine c_sipush (pc := 387) (n := 24) (kc := 23) (ks := 266809) dX12_init_387 ks_5000 ?_
  refine c_na_int (pc := 390) (n := 24) (kc := 23) (ks := 266809) (len := 5000) (show okA dsM [(0, 36), (0, 35), (0, 34), (0, 33), (0, 32), (0, 31), (0, 27), (0, 26), (0, 25), (0, 24), (0, 22), (0, 21), (0, 20), (0, 19), (0, 18), (0, 17), (0, 16), (0, 15), (0, 14), (0, 5), (0, 4), (0, 3), (0, 1)] 24 = true by decide +kernel) (Nat.le_of_ble_eq_true rfl) (Nat.le_of_ble_eq_true rfl) rfl rfl ac_int (by decide) (by decide) (Nat.le_of_ble_eq_true rfl) (Nat.le_of_ble_eq_true rfl) (Nat.le_of_ble_eq_true rfl) (by decide) (by decide) dX12_init_390 ?_
  refine c_putR (pc := 392) (n := 25) (kc := 24) (ks := 271809) (k := 0) (j := 37) (t := 24) (fs := fsM) (Nat.le_of_ble_eq_true rfl) rfl rfl rfl cf12 flRX12_150 rfl (by decide) rfl rfl (fun _ => rfl) (fun _ => rfl) dX12_init_392 ?_
  refine c_aload_n (pc := 395) (n := 25) (kc := 24) (ks := 271809) dX12_init_395 rfl 0 rfl ?_
  refine c_sipush (pc := 396) (n := 25) (kc := 24) (ks := 271809) dX12_init_396 ks_5000 ?_
  refine c_na_int (pc := 399) (n := 25) (kc := 24) (ks := 271809) (len := 5000) (show okA dsM [(0, 37), (0, 36), (0, 35), (0, 34), (0, 33), (0, 32), (0, 31), (0, 27), (0, 26), (0, 25), (0, 24), (0, 22), (0, 21), (0, 20), (0, 19), (0, 18), (0, 17), (0, 16), (0, 15), (0, 14), (0, 5), (0, 4), (0, 3), (0, 1)] 25 = true by decide +kernel) (Nat.le_of_ble_eq_true rfl) (Nat.le_of_ble_eq_true rfl) rfl rfl ac_int (by decide) (by decide) (Nat.le_of_ble_eq_true rfl) (Nat.le_of_ble_eq_true rfl) (Nat.le_of_ble_eq_true rfl) (by decide) (by decide) dX12_init_399 ?_
  refine c_putR (pc := 401) (n := 26) (kc := 25) (ks := 276809) (k := 0) (j := 38) (t := 25) (fs := fsM) (Nat.le_of_ble_eq_true rfl) rfl rfl rfl cf12 flRX12_153 rfl (by decide) rfl rfl (fun _ => rfl) (fun _ => rfl) dX12_init_401 ?_
  refine c_aload_n (pc := 404) (n := 26) (kc := 25) (ks := 276809) dX12_init_404 rfl 0 rfl ?_
  refine c_sipush (pc := 405) (n := 26) (kc := 25) (ks := 276809) dX12_init_405 ks_5000 ?_
  refine c_na_int (pc := 408) (n := 26) (kc := 25) (ks := 276809) (len := 5000) (show okA dsM [(0, 38), (0, 37), (0, 36), (0, 35), (0, 34), (0, 33), (0, 32), (0, 31), (0, 27), (0, 26), (0, 25), (0, 24), (0, 22), (0, 21), (0, 20), (0, 19), (0, 18), (0, 17), (0, 16), (0, 15), (0, 14), (0, 5), (0, 4), (0, 3), (0, 1)] 26 = true by decide +kernel) (Nat.le_of_ble_eq_true rfl) (Nat.le_of_ble_eq_true rfl) rfl rfl ac_int (by decide) (by decide) (Nat.le_of_ble_eq_true rfl) (Nat.le_of_ble_eq_true rfl) (Nat.le_of_ble_eq_true rfl) (by decide) (by decide) dX12_init_408 ?_
  refine c_putR (pc := 410) (n := 27) (kc := 26) (ks := 281809) (k := 0) (j := 39) (t := 26) (fs := fsM) (Nat.le_of_ble_eq_true rfl) rfl rfl rfl cf12 flRX12_156 rfl (by decide) rfl rfl (fun _ => rfl) (fun _ => rfl) dX12_init_410 ?_
  refine c_aload_n (pc := 413) (n := 27) (kc := 26) (ks := 281809) dX12_init_413 rfl 0 rfl ?_
  refine c_sipush (pc := 414) (n := 27) (kc := 26) (ks := 281809) dX12_init_414 ks_5000 ?_
  refine c_na_boolean (pc := 417) (n := 27) (kc := 26) (ks := 281809) (len := 5000) (show okA dsM [(0, 39), (0, 38), (0, 37), (0, 36), (0, 35), (0, 34), (0, 33), (0, 32), (0, 31), (0, 27), (0, 26), (0, 25), (0, 24), (0, 22), (0, 21), (0, 20), (0, 19), (0, 18), (0, 17), (0, 16), (0, 15), (0, 14), (0, 5), (0, 4), (0, 3), (0, 1)] 27 = true by decide +kernel) (Nat.le_of_ble_eq_true rfl) (Nat.le_of_ble_eq_true rfl) rfl rfl ac_boolean (by decide) (by decide) (Nat.le_of_ble_eq_true rfl) (Nat.le_of_ble_eq_true rfl) (Nat.le_of_ble_eq_true rfl) (by decide) (by decide) dX12_init_417 ?_
  refine c_putR (pc := 419) (n := 28) (kc := 27) (ks := 286809) (k := 0) (j := 40) (t := 27) (fs := fsM) (Nat.le_of_ble_eq_true rfl) rfl rfl rfl cf12 flRX12_159 rfl (by decide) rfl rfl (fun _ => rfl) (fun _ => rfl) dX12_init_419 ?_
  refine c_aload_n (pc := 422) (n := 28) (kc := 27) (ks := 286809) dX12_init_422 rfl 0 rfl ?_
  refine c_sipush (pc := 423) (n := 28) (kc := 27) (ks := 286809) dX12_init_423 ks_5000 ?_
  refine c_na_boolean (pc := 426) (n := 28) (kc := 27) (ks := 286809) (len := 5000) (show okA dsM [(0, 40), (0, 39), (0, 38), (0, 37), (0, 36), (0, 35), (0, 34), (0, 33), (0, 32), (0, 31), (0, 27), (0, 26), (0, 25), (0, 24), (0, 22), (0, 21), (0, 20), (0, 19), (0, 18), (0, 17), (0, 16), (0, 15), (0, 14), (0, 5), (0, 4), (0, 3), (0, 1)] 28 = true by decide +kernel) (Nat.le_of_ble_eq_true rfl) (Nat.le_of_ble_eq_true rfl) rfl rfl ac_boolean (by decide) (by decide) (Nat.le_of_ble_eq_true rfl) (Nat.le_of_ble_eq_true rfl) (Nat.le_of_ble_eq_true rfl) (by decide) (by decide) dX12_init_426 ?_
  refine c_putR (pc := 428) (n := 29) (kc := 28) (ks := 291809) (k := 0) (j := 41) (t := 28) (fs := fsM) (Nat.le_of_ble_eq_true rfl) rfl rfl rfl cf12 flRX12_163 rfl (by decide) rfl rfl (fun _ => rfl) (fun _ => rfl) dX12_init_428 ?_
  refine c_aload_n (pc := 431) (n := 29) (kc := 28) (ks := 291809) dX12_init_431 rfl 0 rfl ?_
  refine c_sipush (pc := 432) (n := 29) (kc := 28) (ks := 291809) dX12_init_432 ks_1200 ?_
  refine c_na_int (pc := 435) (n := 29) (kc := 28) (ks := 291809) (len := 1200) (show okA dsM [(0, 41), (0, 40), (0, 39), (0, 38), (0, 37), (0, 36), (0, 35), (0, 34), (0, 33), (0, 32), (0, 31), (0, 27), (0, 26), (0, 25), (0, 24), (0, 22), (0, 21), (0, 20), (0, 19), (0, 18), (0, 17), (0, 16), (0, 15), (0, 14), (0, 5), (0, 4), (0, 3), (0, 1)] 29 = true by decide +kernel) (Nat.le_of_ble_eq_true rfl) (Nat.le_of_ble_eq_true rfl) rfl rfl ac_int (by decide) (by decide) (Nat.le_of_ble_eq_true rfl) (Nat.le_of_ble_eq_true rfl) (Nat.le_of_ble_eq_true rfl) (by decide) (by decide) dX12_init_435 ?_
  refine c_putR (pc := 437) (n := 30) (kc := 29) (ks := 293009) (k := 0) (j := 43) (t := 29) (fs := fsM) (Nat.le_of_ble_eq_true rfl) rfl rfl rfl cf12 flRX12_166 rfl (by decide) rfl rfl (fun _ => rfl) (fun _ => rfl) dX12_init_437 ?_
  refine c_aload_n (pc := 440) (n := 30) (kc := 29) (ks := 293009) dX12_init_440 rfl 0 rfl ?_
  refine c_sipush (pc := 441) (n := 30) (kc := 29) (ks := 293009) dX12_init_441 ks_1200 ?_
  refine c_na_int (pc := 444) (n := 30) (kc := 29) (ks := 293009) (len := 1200) (show okA dsM [(0, 43), (0, 41), (0, 40), (0, 39), (0, 38), (0, 37), (0, 36), (0, 35), (0, 34), (0, 33), (0, 32), (0, 31), (0, 27), (0, 26), (0, 25), (0, 24), (0, 22), (0, 21), (0, 20), (0, 19), (0, 18), (0, 17), (0, 16), (0, 15), (0, 14), (0, 5), (0, 4), (0, 3), (0, 1)] 30 = true by decide +kernel) (Nat.le_of_ble_eq_true rfl) (Nat.le_of_ble_eq_true rfl) rfl rfl ac_int (by decide) (by decide) (Nat.le_of_ble_eq_true rfl) (Nat.le_of_ble_eq_true rfl) (Nat.le_of_ble_eq_true rfl) (by decide) (by decide) dX12_init_444 ?_
  refine c_putR (pc := 446) (n := 31) (kc := 30) (ks := 294209) (k := 0) (j := 44) (t := 30) (fs := fsM) (Nat.le_of_ble_eq_true rfl) rfl rfl rfl cf12 flRX12_169 rfl (by decide) rfl rfl (fun _ => rfl) (fun _ => rfl) dX12_init_446 ?_
  refine c_aload_n (pc := 449) (n := 31) (kc := 30) (ks := 294209) dX12_init_449 rfl 0 rfl ?_
  refine c_sipush (pc := 450) (n := 31) (kc := 30) (ks := 294209) dX12_init_450 ks_1200 ?_
  refine c_na_int (pc := 453) (n := 31) (kc := 30) (ks := 294209) (len := 1200) (show okA dsM [(0, 44), (0, 43), (0, 41), (0, 40), (0, 39), (0, 38), (0, 37), (0, 36), (0, 35), (0, 34), (0, 33), (0, 32), (0, 31), (0, 27), (0, 26), (0, 25), (0, 24), (0, 22), (0, 21), (0, 20), (0, 19), (0, 18), (0, 17), (0, 16), (0, 15), (0, 14), (0, 5), (0, 4), (0, 3), (0, 1)] 31 = true by decide +kernel) (Nat.le_of_ble_eq_true rfl) (Nat.le_of_ble_eq_true rfl) rfl rfl ac_int (by decide) (by decide) (Nat.le_of_ble_eq_true rfl) (Nat.le_of_ble_eq_true rfl) (Nat.le_of_ble_eq_true rfl) (by decide) (by decide) dX12_init_453 ?_
  refine c_putR (pc := 455) (n := 32) (kc := 31) (ks := 295409) (k := 0) (j := 45) (t := 31) (fs := fsM) (Nat.le_of_ble_eq_true rfl) rfl rfl rfl cf12 flRX12_172 rfl (by decide) rfl rfl (fun _ => rfl) (fun _ => rfl) dX12_init_455 ?_
  refine c_aload_n (pc := 458) (n := 32) (kc := 31) (ks := 295409) dX12_init_458 rfl 0 rfl ?_
  refine c_sipush (pc := 459) (n := 32) (kc := 31) (ks := 295409) dX12_init_459 ks_1200 ?_
  refine c_na_int (pc := 462) (n := 32) (kc := 31) (ks := 295409) (len := 1200) (show okA dsM [(0, 45), (0, 44), (0, 43), (0, 41), (0, 40), (0, 39), (0, 38), (0, 37), (0, 36), (0, 35), (0, 34), (0, 33), (0, 32), (0, 31), (0, 27), (0, 26), (0, 25), (0, 24), (0, 22), (0, 21), (0, 20), (0, 19), (0, 18), (0, 17), (0, 16), (0, 15), (0, 14), (0, 5), (0, 4), (0, 3), (0, 1)] 32 = true by decide +kernel) (Nat.le_of_ble_eq_true rfl) (Nat.le_of_ble_eq_true rfl) rfl rfl ac_int (by decide) (by decide) (Nat.le_of_ble_eq_true rfl) (Nat.le_of_ble_eq_true rfl) (Nat.le_of_ble_eq_true rfl) (by decide) (by decide) dX12_init_462 ?_
  refine c_putR (pc := 464) (n := 33) (kc := 32) (ks := 296609) (k := 0) (j := 46) (t := 32) (fs := fsM) (Nat.le_of_ble_eq_true rfl) rfl rfl rfl cf12 flRX12_175 rfl (by decide) rfl rfl (fun _ => rfl) (fun _ => rfl) dX12_init_464 ?_
  refine c_aload_n (pc := 467) (n := 33) (kc := 32) (ks := 296609) dX12_init_467 rfl 0 rfl ?_
  refine c_sipush (pc := 468) (n := 33) (kc := 32) (ks := 296609) dX12_init_468 ks_1200 ?_
  refine c_na_int (pc := 471) (n := 33) (kc := 32) (ks := 296609) (len := 1200) (show okA dsM [(0, 46), (0, 45), (0, 44), (0, 43), (0, 41), (0, 40), (0, 39), (0, 38), (0, 37), (0, 36), (0, 35), (0, 34), (0, 33), (0, 32), (0, 31), (0, 27), (0, 26), (0, 25), (0, 24), (0, 22), (0, 21), (0, 20), (0, 19), (0, 18), (0, 17), (0, 16), (0, 15), (0, 14), (0, 5), (0, 4), (0, 3), (0, 1)] 33 = true by decide +kernel) (Nat.le_of_ble_eq_true rfl) (Nat.le_of_ble_eq_true rfl) rfl rfl ac_int (by decide) (by decide) (Nat.le_of_ble_eq_true rfl) (Nat.le_of_ble_eq_true rfl) (Nat.le_of_ble_eq_true rfl) (by decide) (by decide) dX12_init_471 ?_
  refine c_putR (pc := 473) (n := 34) (kc := 33) (ks := 297809) (k := 0) (j := 47) (t := 33) (fs := fsM) (Nat.le_of_ble_eq_true rfl) rfl rfl rfl cf12 flRX12_178 rfl (by decide) rfl rfl (fun _ => rfl) (fun _ => rfl) dX12_init_473 ?_
  refine c_aload_n (pc := 476) (n := 34) (kc := 33) (ks := 297809) dX12_init_476 rfl 0 rfl ?_
  refine c_sipush (pc := 477) (n := 34) (kc := 33) (ks := 297809) dX12_init_477 ks_1200 ?_
  refine c_na_int (pc := 480) (n := 34) (kc := 33) (ks := 297809) (len := 1200) (show okA dsM [(0, 47), (0, 46), (0, 45), (0, 44), (0, 43), (0, 41), (0, 40), (0, 39), (0, 38), (0, 37), (0, 36), (0, 35), (0, 34), (0, 33), (0, 32), (0, 31), (0, 27), (0, 26), (0, 25), (0, 24), (0, 22), (0, 21), (0, 20), (0, 19), (0, 18), (0, 17), (0, 16), (0, 15), (0, 14), (0, 5), (0, 4), (0, 3), (0, 1)] 34 = true by decide +kernel) (Nat.le_of_ble_eq_true rfl) (Nat.le_of_ble_eq_true rfl) rfl rfl ac_int (by decide) (by decide) (Nat.le_of_ble_eq_true rfl) (Nat.le_of_ble_eq_true rfl) (Nat.le_of_ble_eq_true rfl) (by decide) (by decide) dX12_init_480 ?_
  refine c_putR (pc := 482) (n := 35) (kc := 34) (ks := 299009) (k := 0) (j := 48) (t := 34) (fs := fsM) (Nat.le_of_ble_eq_true rfl) rfl rfl rfl cf12 flRX12_181 rfl (by decide) rfl rfl (fun _ => rfl) (fun _ => rfl) dX12_init_482 ?_
  refine c_aload_n (pc := 485) (n := 35) (kc := 34) (ks := 299009) dX12_init_485 rfl 0 rfl ?_
  refine c_sipush (pc := 486) (n := 35) (kc := 34) (ks := 299009) dX12_init_486 ks_1200 ?_
  refine c_na_int (pc := 489) (n := 35) (kc := 34) (ks := 299009) (len := 1200) (show okA dsM [(0, 48), (0, 47), (0, 46), (0, 45), (0, 44), (0, 43), (0, 41), (0, 40), (0, 39), (0, 38), (0, 37), (0, 36), (0, 35), (0, 34), (0, 33), (0, 32), (0, 31), (0, 27), (0, 26), (0, 25), (0, 24), (0, 22), (0, 21), (0, 20), (0, 19), (0, 18), (0, 17), (0, 16), (0, 15), (0, 14), (0, 5), (0, 4), (0, 3), (0, 1)] 35 = true by decide +kernel) (Nat.le_of_ble_eq_true rfl) (Nat.le_of_ble_eq_true rfl) rfl rfl ac_int (by decide) (by decide) (Nat.le_of_ble_eq_true rfl) (Nat.le_of_ble_eq_true rfl) (Nat.le_of_ble_eq_true rfl) (by decide) (by decide) dX12_init_489 ?_
  refine c_putR (pc := 491) (n := 36) (kc := 35) (ks := 300209) (k := 0) (j := 49) (t := 35) (fs := fsM) (Nat.le_of_ble_eq_true rfl) rfl rfl rfl cf12 flRX12_184 rfl (by decide) rfl rfl (fun _ => rfl) (fun _ => rfl) dX12_init_491 ?_
  refine c_aload_n (pc := 494) (n := 36) (kc := 35) (ks := 300209) dX12_init_494 rfl 0 rfl ?_
  refine c_sipush (pc := 495) (n := 36) (kc := 35) (ks := 300209) dX12_init_495 ks_1200 ?_
  refine c_na_int (pc := 498) (n := 36) (kc := 35) (ks := 300209) (len := 1200) (show okA dsM [(0, 49), (0, 48), (0, 47), (0, 46), (0, 45), (0, 44), (0, 43), (0, 41), (0, 40), (0, 39), (0, 38), (0, 37), (0, 36), (0, 35), (0, 34), (0, 33), (0, 32), (0, 31), (0, 27), (0, 26), (0, 25), (0, 24), (0, 22), (0, 21), (0, 20), (0, 19), (0, 18), (0, 17), (0, 16), (0, 15), (0, 14), (0, 5), (0, 4), (0, 3), (0, 1)] 36 = true by decide +kernel) (Nat.le_of_ble_eq_true rfl) (Nat.le_of_ble_eq_true rfl) rfl rfl ac_int (by decide) (by decide) (Nat.le_of_ble_eq_true rfl) (Nat.le_of_ble_eq_true rfl) (Nat.le_of_ble_eq_true rfl) (by decide) (by decide) dX12_init_498 ?_
  refine c_putR (pc := 500) (n := 37) (kc := 36) (ks := 301409) (k := 0) (j := 50) (t := 36) (fs := fsM) (Nat.le_of_ble_eq_true rfl) rfl rfl rfl cf12 flRX12_187 rfl (by decide) rfl rfl (fun _ => rfl) (fun _ => rfl) dX12_init_500 ?_
  refine c_aload_n (pc := 503) (n := 37) (kc := 36) (ks := 301409) dX12_init_503 rfl 0 rfl ?_
  refine c_sipush (pc := 504) (n := 37) (kc := 36) (ks := 301409) dX12_init_504 ks_1200 ?_
  refine c_na_int (pc := 507) (n := 37) (kc := 36) (ks := 301409) (len := 1200) (show okA dsM [(0, 50), (0, 49), (0, 48), (0, 47), (0, 46), (0, 45), (0, 44), (0, 43), (0, 41), (0, 40), (0, 39), (0, 38), (0, 37), (0, 36), (0, 35), (0, 34), (0, 33), (0, 32), (0, 31), (0, 27), (0, 26), (0, 25), (0, 24), (0, 22), (0, 21), (0, 20), (0, 19), (0, 18), (0, 17), (0, 16), (0, 15), (0, 14), (0, 5), (0, 4), (0, 3), (0, 1)] 37 = true by decide +kernel) (Nat.le_of_ble_eq_true rfl) (Nat.le_of_ble_eq_true rfl) rfl rfl ac_int (by decide) (by decide) (Nat.le_of_ble_eq_true rfl) (Nat.le_of_ble_eq_true rfl) (Nat.le_of_ble_eq_true rfl) (by decide) (by decide) dX12_init_507 ?_
  refine c_putR (pc := 509) (n := 38) (kc := 37) (ks := 302609) (k := 0) (j := 51) (t := 37) (fs := fsM) (Nat.le_of_ble_eq_true rfl) rfl rfl rfl cf12 flRX12_190 rfl (by decide) rfl rfl (fun _ => rfl) (fun _ => rfl) dX12_init_509 ?_
  refine c_aload_n (pc := 512) (n := 38) (kc := 37) (ks := 302609) dX12_init_512 rfl 0 rfl ?_
  refine c_sipush (pc := 513) (n := 38) (kc := 37) (ks := 302609) dX12_init_513 ks_1200 ?_
  refine c_na_int (pc := 516) (n := 38) (kc := 37) (ks := 302609) (len := 1200) (show okA dsM [(0, 51), (0, 50), (0, 49), (0, 48), (0, 47), (0, 46), (0, 45), (0, 44), (0, 43), (0, 41), (0, 40), (0, 39), (0, 38), (0, 37), (0, 36), (0, 35), (0, 34), (0, 33), (0, 32), (0, 31), (0, 27), (0, 26), (0, 25), (0, 24), (0, 22), (0, 21), (0, 20), (0, 19), (0, 18), (0, 17), (0, 16), (0, 15), (0, 14), (0, 5), (0, 4), (0, 3), (0, 1)] 38 = true by decide +kernel) (Nat.le_of_ble_eq_true rfl) (Nat.le_of_ble_eq_true rfl) rfl rfl ac_int (by decide) (by decide) (Nat.le_of_ble_eq_true rfl) (Nat.le_of_ble_eq_true rfl) (Nat.le_of_ble_eq_true rfl) (by decide) (by decide) dX12_init_516 ?_
  refine c_putR (pc := 518) (n := 39) (kc := 38) (ks := 303809) (k := 0) (j := 52) (t := 38) (fs := fsM) (Nat.le_of_ble_eq_true rfl) rfl rfl rfl cf12 flRX12_193 rfl (by decide) rfl rfl (fun _ => rfl) (fun _ => rfl) dX12_init_518 ?_
  refine c_aload_n (pc := 521) (n := 39) (kc := 38) (ks := 303809) dX12_init_521 rfl 0 rfl ?_
  refine c_sipush (pc := 522) (n := 39) (kc := 38) (ks := 303809) dX12_init_522 ks_9000 ?_
  refine c_na_int (pc := 525) (n := 39) (kc := 38) (ks := 303809) (len := 9000) (show okA dsM [(0, 52), (0, 51), (0, 50), (0, 49), (0, 48), (0, 47), (0, 46), (0, 45), (0, 44), (0, 43), (0, 41), (0, 40), (0, 39), (0, 38), (0, 37), (0, 36), (0, 35), (0, 34), (0, 33), (0, 32), (0, 31), (0, 27), (0, 26), (0, 25), (0, 24), (0, 22), (0, 21), (0, 20), (0, 19), (0, 18), (0, 17), (0, 16), (0, 15), (0, 14), (0, 5), (0, 4), (0, 3), (0, 1)] 39 = true by decide +kernel) (Nat.le_of_ble_eq_true rfl) (Nat.le_of_ble_eq_true rfl) rfl rfl ac_int (by decide) (by decide) (Nat.le_of_ble_eq_true rfl) (Nat.le_of_ble_eq_true rfl) (Nat.le_of_ble_eq_true rfl) (by decide) (by decide) dX12_init_525 ?_
  refine c_putR (pc := 527) (n := 40) (kc := 39) (ks := 312809) (k := 0) (j := 55) (t := 39) (fs := fsM) (Nat.le_of_ble_eq_true rfl) rfl rfl rfl cf12 flRX12_196 rfl (by decide) rfl rfl (fun _ => rfl) (fun _ => rfl) dX12_init_527 ?_
  refine c_aload_n (pc := 530) (n := 40) (kc := 39) (ks := 312809) dX12_init_530 rfl 0 rfl ?_
  refine c_sipush (pc := 531) (n := 40) (kc := 39) (ks := 312809) dX12_init_531 ks_9000 ?_
  refine c_na_int (pc := 534) (n := 40) (kc := 39) (ks := 312809) (len := 9000) (show okA dsM [(0, 55), (0, 52), (0, 51), (0, 50), (0, 49), (0, 48), (0, 47), (0, 46), (0, 45), (0, 44), (0, 43), (0, 41), (0, 40), (0, 39), (0, 38), (0, 37), (0, 36), (0, 35), (0, 34), (0, 33), (0, 32), (0, 31), (0, 27), (0, 26), (0, 25), (0, 24), (0, 22), (0, 21), (0, 20), (0, 19), (0, 18), (0, 17), (0, 16), (0, 15), (0, 14), (0, 5), (0, 4), (0, 3), (0, 1)] 40 = true by decide +kernel) (Nat.le_of_ble_eq_true rfl) (Nat.le_of_ble_eq_true rfl) rfl rfl ac_int (by decide) (by decide) (Nat.le_of_ble_eq_true rfl) (Nat.le_of_ble_eq_true rfl) (Nat.le_of_ble_eq_true rfl) (by decide) (by decide) dX12_init_534 ?_
  refine c_putR (pc := 536) (n := 41) (kc := 40) (ks := 321809) (k := 0) (j := 56) (t := 40) (fs := fsM) (Nat.le_of_ble_eq_true rfl) rfl rfl rfl cf12 flRX12_199 rfl (by decide) rfl rfl (fun _ => rfl) (fun _ => rfl) dX12_init_536 ?_
  refine c_aload_n (pc := 539) (n := 41) (kc := 40) (ks := 321809) dX12_init_539 rfl 0 rfl ?_
  refine c_sipush (pc := 540) (n := 41) (kc := 40) (ks := 321809) dX12_init_540 ks_9000 ?_
  refine c_na_int (pc := 543) (n := 41) (kc := 40) (ks := 321809) (len := 9000) (show okA dsM [(0, 56), (0, 55), (0, 52), (0, 51), (0, 50), (0, 49), (0, 48), (0, 47), (0, 46), (0, 45), (0, 44), (0, 43), (0, 41), (0, 40), (0, 39), (0, 38), (0, 37), (0, 36), (0, 35), (0, 34), (0, 33), (0, 32), (0, 31), (0, 27), (0, 26), (0, 25), (0, 24), (0, 22), (0, 21), (0, 20), (0, 19), (0, 18), (0, 17), (0, 16), (0, 15), (0, 14), (0, 5), (0, 4), (0, 3), (0, 1)] 41 = true by decide +kernel) (Nat.le_of_ble_eq_true rfl) (Nat.le_of_ble_eq_true rfl) rfl rfl ac_int (by decide) (by decide) (Nat.le_of_ble_eq_true rfl) (Nat.le_of_ble_eq_true rfl) (Nat.le_of_ble_eq_true rfl) (by decide) (by decide) dX12_init_543 ?_
  refine c_putR (pc := 545) (n := 42) (kc := 41) (ks := 330809) (k := 0) (j := 57) (t := 41) (fs := fsM) (Nat.le_of_ble_eq_true rfl) rfl rfl rfl cf12 flRX12_202 rfl (by decide) rfl rfl (fun _ => rfl) (fun _ => rfl) dX12_init_545 ?_
  refine c_aload_n (pc := 548) (n := 42) (kc := 41) (ks := 330809) dX12_init_548 rfl 0 rfl ?_
  refine c_sipush (pc := 549) (n := 42) (kc := 41) (ks := 330809) dX12_init_549 ks_9000 ?_
  refine c_na_int (pc := 552) (n := 42) (kc := 41) (ks := 330809) (len := 9000) (show okA dsM [(0, 57), (0, 56), (0, 55), (0, 52), (0, 51), (0, 50), (0, 49), (0, 48), (0, 47), (0, 46), (0, 45), (0, 44), (0, 43), (0, 41), (0, 40), (0, 39), (0, 38), (0, 37), (0, 36), (0, 35), (0, 34), (0, 33), (0, 32), (0, 31), (0, 27), (0, 26), (0, 25), (0, 24), (0, 22), (0, 21), (0, 20), (0, 19), (0, 18), (0, 17), (0, 16), (0, 15), (0, 14), (0, 5), (0, 4), (0, 3), (0, 1)] 42 = true by decide +kernel) (Nat.le_of_ble_eq_true rfl) (Nat.le_of_ble_eq_true rfl) rfl rfl ac_int (by decide) (by decide) (Nat.le_of_ble_eq_true rfl) (Nat.le_of_ble_eq_true rfl) (Nat.le_of_ble_eq_true rfl) (by decide) (by decide) dX12_init_552 ?_
  refine c_putR (pc := 554) (n := 43) (kc := 42) (ks := 339809) (k := 0) (j := 58) (t := 42) (fs := fsM) (Nat.le_of_ble_eq_true rfl) rfl rfl rfl cf12 flRX12_205 rfl (by decide) rfl rfl (fun _ => rfl) (fun _ => rfl) dX12_init_554 ?_
  refine c_aload_n (pc := 557) (n := 43) (kc := 42) (ks := 339809) dX12_init_557 rfl 0 rfl ?_
  refine c_sipush (pc := 558) (n := 43) (kc := 42) (ks := 339809) dX12_init_558 ks_5000 ?_
  refine c_na_int (pc := 561) (n := 43) (kc := 42) (ks := 339809) (len := 5000) (show okA dsM [(0, 58), (0, 57), (0, 56), (0, 55), (0, 52), (0, 51), (0, 50), (0, 49), (0, 48), (0, 47), (0, 46), (0, 45), (0, 44), (0, 43), (0, 41), (0, 40), (0, 39), (0, 38), (0, 37), (0, 36), (0, 35), (0, 34), (0, 33), (0, 32), (0, 31), (0, 27), (0, 26), (0, 25), (0, 24), (0, 22), (0, 21), (0, 20), (0, 19), (0, 18), (0, 17), (0, 16), (0, 15), (0, 14), (0, 5), (0, 4), (0, 3), (0, 1)] 43 = true by decide +kernel) (Nat.le_of_ble_eq_true rfl) (Nat.le_of_ble_eq_true rfl) rfl rfl ac_int (by decide) (by decide) (Nat.le_of_ble_eq_true rfl) (Nat.le_of_ble_eq_true rfl) (Nat.le_of_ble_eq_true rfl) (by decide) (by decide) dX12_init_561 ?_
  refine c_putR (pc := 563) (n := 44) (kc := 43) (ks := 344809) (k := 0) (j := 60) (t := 43) (fs := fsM) (Nat.le_of_ble_eq_true rfl) rfl rfl rfl cf12 flRX12_208 rfl (by decide) rfl rfl (fun _ => rfl) (fun _ => rfl) dX12_init_563 ?_
  refine c_aload_n (pc := 566) (n := 44) (kc := 43) (ks := 344809) dX12_init_566 rfl 0 rfl ?_
  refine c_sipush (pc := 567) (n := 44) (kc := 43) (ks := 344809) dX12_init_567 ks_24000 ?_
  refine c_na_int (pc := 570) (n := 44) (kc := 43) (ks := 344809) (len := 24000) (show okA dsM [(0, 60), (0, 58), (0, 57), (0, 56), (0, 55), (0, 52), (0, 51), (0, 50), (0, 49), (0, 48), (0, 47), (0, 46), (0, 45), (0, 44), (0, 43), (0, 41), (0, 40), (0, 39), (0, 38), (0, 37), (0, 36), (0, 35), (0, 34), (0, 33), (0, 32), (0, 31), (0, 27), (0, 26), (0, 25), (0, 24), (0, 22), (0, 21), (0, 20), (0, 19), (0, 18), (0, 17), (0, 16), (0, 15), (0, 14), (0, 5), (0, 4), (0, 3), (0, 1)] 44 = true by decide +kernel) (Nat.le_of_ble_eq_true rfl) (Nat.le_of_ble_eq_true rfl) rfl rfl ac_int (by decide) (by decide) (Nat.le_of_ble_eq_true rfl) (Nat.le_of_ble_eq_true rfl) (Nat.le_of_ble_eq_true rfl) (by decide) (by decide) dX12_init_570 ?_
  refine c_putR (pc := 572) (n := 45) (kc := 44) (ks := 368809) (k := 0) (j := 61) (t := 44) (fs := fsM) (Nat.le_of_ble_eq_true rfl) rfl rfl rfl cf12 flRX12_211 rfl (by decide) rfl rfl (fun _ => rfl) (fun _ => rfl) dX12_init_572 ?_
  refine c_aload_n (pc := 575) (n := 45) (kc := 44) (ks := 368809) dX12_init_575 rfl 0 rfl ?_
  refine c_sipush (pc := 576) (n := 45) (kc := 44) (ks := 368809) dX12_init_576 ks_24000 ?_
  refine c_na_int (pc := 579) (n := 45) (kc := 44) (ks := 368809) (len := 24000) (show okA dsM [(0, 61), (0, 60), (0, 58), (0, 57), (0, 56), (0, 55), (0, 52), (0, 51), (0, 50), (0, 49), (0, 48), (0, 47), (0, 46), (0, 45), (0, 44), (0, 43), (0, 41), (0, 40), (0, 39), (0, 38), (0, 37), (0, 36), (0, 35), (0, 34), (0, 33), (0, 32), (0, 31), (0, 27), (0, 26), (0, 25), (0, 24), (0, 22), (0, 21), (0, 20), (0, 19), (0, 18), (0, 17), (0, 16), (0, 15), (0, 14), (0, 5), (0, 4), (0, 3), (0, 1)] 45 = true by decide +kernel) (Nat.le_of_ble_eq_true rfl) (Nat.le_of_ble_eq_true rfl) rfl rfl ac_int (by decide) (by decide) (Nat.le_of_ble_eq_true rfl) (Nat.le_of_ble_eq_true rfl) (Nat.le_of_ble_eq_true rfl) (by decide) (by decide) dX12_init_579 ?_
  refine c_putR (pc := 581) (n := 46) (kc := 45) (ks := 392809) (k := 0) (j := 62) (t := 45) (fs := fsM) (Nat.le_of_ble_eq_true rfl) rfl rfl rfl cf12 flRX12_214 rfl (by decide) rfl rfl (fun _ => rfl) (fun _ => rfl) dX12_init_581 ?_
  refine c_aload_n (pc := 584) (n := 46) (kc := 45) (ks := 392809) dX12_init_584 rfl 0 rfl ?_
  refine c_ldc (pc := 585) (n := 46) (kc := 45) (ks := 392809) dX12_init_585 kcRX12_217 ?_
  refine c_na_int (pc := 587) (n := 46) (kc := 45) (ks := 392809) (len := 240000) (show okA dsM [(0, 62), (0, 61), (0, 60), (0, 58), (0, 57), (0, 56), (0, 55), (0, 52), (0, 51), (0, 50), (0, 49), (0, 48), (0, 47), (0, 46), (0, 45), (0, 44), (0, 43), (0, 41), (0, 40), (0, 39), (0, 38), (0, 37), (0, 36), (0, 35), (0, 34), (0, 33), (0, 32), (0, 31), (0, 27), (0, 26), (0, 25), (0, 24), (0, 22), (0, 21), (0, 20), (0, 19), (0, 18), (0, 17), (0, 16), (0, 15), (0, 14), (0, 5), (0, 4), (0, 3), (0, 1)] 46 = true by decide +kernel) (Nat.le_of_ble_eq_true rfl) (Nat.le_of_ble_eq_true rfl) rfl rfl ac_int (by decide) (by decide) (Nat.le_of_ble_eq_true rfl) (Nat.le_of_ble_eq_true rfl) (Nat.le_of_ble_eq_true rfl) (by decide) (by decide) dX12_init_587 ?_
  refine c_putR (pc := 589) (n := 47) (kc := 46) (ks := 632809) (k := 0) (j := 63) (t := 46) (fs := fsM) (Nat.le_of_ble_eq_true rfl) rfl rfl rfl cf12 flRX12_218 rfl (by decide) rfl rfl (fun _ => rfl) (fun _ => rfl) dX12_init_589 ?_
  refine c_aload_n (pc := 592) (n := 47) (kc := 46) (ks := 632809) dX12_init_592 rfl 0 rfl ?_
  refine c_sipush (pc := 593) (n := 47) (kc := 46) (ks := 632809) dX12_init_593 ks_6000 ?_
  refine c_na_int (pc := 596) (n := 47) (kc := 46) (ks := 632809) (len := 6000) (show okA dsM [(0, 63), (0, 62), (0, 61), (0, 60), (0, 58), (0, 57), (0, 56), (0, 55), (0, 52), (0, 51), (0, 50), (0, 49), (0, 48), (0, 47), (0, 46), (0, 45), (0, 44), (0, 43), (0, 41), (0, 40), (0, 39), (0, 38), (0, 37), (0, 36), (0, 35), (0, 34), (0, 33), (0, 32), (0, 31), (0, 27), (0, 26), (0, 25), (0, 24), (0, 22), (0, 21), (0, 20), (0, 19), (0, 18), (0, 17), (0, 16), (0, 15), (0, 14), (0, 5), (0, 4), (0, 3), (0, 1)] 47 = true by decide +kernel) (Nat.le_of_ble_eq_true rfl) (Nat.le_of_ble_eq_true rfl) rfl rfl ac_int (by decide) (by decide) (Nat.le_of_ble_eq_true rfl) (Nat.le_of_ble_eq_true rfl) (Nat.le_of_ble_eq_true rfl) (by decide) (by decide) dX12_init_596 ?_
  refine c_putR (pc := 598) (n := 48) (kc := 47) (ks := 638809) (k := 0) (j := 67) (t := 47) (fs := fsM) (Nat.le_of_ble_eq_true rfl) rfl rfl rfl cf12 flRX12_221 rfl (by decide) rfl rfl (fun _ => rfl) (fun _ => rfl) dX12_init_598 ?_
  refine c_aload_n (pc := 601) (n := 48) (kc := 47) (ks := 638809) dX12_init_601 rfl 0 rfl ?_
  refine c_sipush (pc := 602) (n := 48) (kc := 47) (ks := 638809) dX12_init_602 ks_6000 ?_
  refine c_na_int (pc := 605) (n := 48) (kc := 47) (ks := 638809) (len := 6000) (show okA dsM [(0, 67), (0, 63), (0, 62), (0, 61), (0, 60), (0, 58), (0, 57), (0, 56), (0, 55), (0, 52), (0, 51), (0, 50), (0, 49), (0, 48), (0, 47), (0, 46), (0, 45), (0, 44), (0, 43), (0, 41), (0, 40), (0, 39), (0, 38), (0, 37), (0, 36), (0, 35), (0, 34), (0, 33), (0, 32), (0, 31), (0, 27), (0, 26), (0, 25), (0, 24), (0, 22), (0, 21), (0, 20), (0, 19), (0, 18), (0, 17), (0, 16), (0, 15), (0, 14), (0, 5), (0, 4), (0, 3), (0, 1)] 48 = true by decide +kernel) (Nat.le_of_ble_eq_true rfl) (Nat.le_of_ble_eq_true rfl) rfl rfl ac_int (by decide) (by decide) (Nat.le_of_ble_eq_true rfl) (Nat.le_of_ble_eq_true rfl) (Nat.le_of_ble_eq_true rfl) (by decide) (by decide) dX12_init_605 ?_
  refine c_putR (pc := 607) (n := 49) (kc := 48) (ks := 644809) (k := 0) (j := 68) (t := 48) (fs := fsM) (Nat.le_of_ble_eq_true rfl) rfl rfl rfl cf12 flRX12_224 rfl (by decide) rfl rfl (fun _ => rfl) (fun _ => rfl) dX12_init_607 ?_
  refine c_aload_n (pc := 610) (n := 49) (kc := 48) (ks := 644809) dX12_init_610 rfl 0 rfl ?_
  refine c_sipush (pc := 611) (n := 49) (kc := 48) (ks := 644809) dX12_init_611 ks_4300 ?_
  refine c_na_int (pc := 614) (n := 49) (kc := 48) (ks := 644809) (len := 4300) (show okA dsM [(0, 68), (0, 67), (0, 63), (0, 62), (0, 61), (0, 60), (0, 58), (0, 57), (0, 56), (0, 55), (0, 52), (0, 51), (0, 50), (0, 49), (0, 48), (0, 47), (0, 46), (0, 45), (0, 44), (0, 43), (0, 41), (0, 40), (0, 39), (0, 38), (0, 37), (0, 36), (0, 35), (0, 34), (0, 33), (0, 32), (0, 31), (0, 27), (0, 26), (0, 25), (0, 24), (0, 22), (0, 21), (0, 20), (0, 19), (0, 18), (0, 17), (0, 16), (0, 15), (0, 14), (0, 5), (0, 4), (0, 3), (0, 1)] 49 = true by decide +kernel) (Nat.le_of_ble_eq_true rfl) (Nat.le_of_ble_eq_true rfl) rfl rfl ac_int (by decide) (by decide) (Nat.le_of_ble_eq_true rfl) (Nat.le_of_ble_eq_true rfl) (Nat.le_of_ble_eq_true rfl) (by decide) (by decide) dX12_init_614 ?_
  refine c_putR (pc := 616) (n := 50) (kc := 49) (ks := 649109) (k := 0) (j := 70) (t := 49) (fs := fsM) (Nat.le_of_ble_eq_true rfl) rfl rfl rfl cf12 flRX12_227 rfl (by decide) rfl rfl (fun _ => rfl) (fun _ => rfl) dX12_init_616 ?_
  refine c_aload_n (pc := 619) (n := 50) (kc := 49) (ks := 649109) dX12_init_619 rfl 0 rfl ?_
  refine c_sipush (pc := 620) (n := 50) (kc := 49) (ks := 649109) dX12_init_620 ks_4300 ?_
  refine c_na_int (pc := 623) (n := 50) (kc := 49) (ks := 649109) (len := 4300) (show okA dsM [(0, 70), (0, 68), (0, 67), (0, 63), (0, 62), (0, 61), (0, 60), (0, 58), (0, 57), (0, 56), (0, 55), (0, 52), (0, 51), (0, 50), (0, 49), (0, 48), (0, 47), (0, 46), (0, 45), (0, 44), (0, 43), (0, 41), (0, 40), (0, 39), (0, 38), (0, 37), (0, 36), (0, 35), (0, 34), (0, 33), (0, 32), (0, 31), (0, 27), (0, 26), (0, 25), (0, 24), (0, 22), (0, 21), (0, 20), (0, 19), (0, 18), (0, 17), (0, 16), (0, 15), (0, 14), (0, 5), (0, 4), (0, 3), (0, 1)] 50 = true by decide +kernel) (Nat.le_of_ble_eq_true rfl) (Nat.le_of_ble_eq_true rfl) rfl rfl ac_int (by decide) (by decide) (Nat.le_of_ble_eq_true rfl) (Nat.le_of_ble_eq_true rfl) (Nat.le_of_ble_eq_true rfl) (by decide) (by decide) dX12_init_623 ?_
  refine c_putR (pc := 625) (n := 51) (kc := 50) (ks := 653409) (k := 0) (j := 71) (t := 50) (fs := fsM) (Nat.le_of_ble_eq_true rfl) rfl rfl rfl cf12 flRX12_230 rfl (by decide) rfl rfl (fun _ => rfl) (fun _ => rfl) dX12_init_625 ?_
  refine c_aload_n (pc := 628) (n := 51) (kc := 50) (ks := 653409) dX12_init_628 rfl 0 rfl ?_
  refine c_sipush (pc := 629) (n := 51) (kc := 50) (ks := 653409) dX12_init_629 ks_4300 ?_
  refine c_na_int (pc := 632) (n := 51) (kc := 50) (ks := 653409) (len := 4300) (show okA dsM [(0, 71), (0, 70), (0, 68), (0, 67), (0, 63), (0, 62), (0, 61), (0, 60), (0, 58), (0, 57), (0, 56), (0, 55), (0, 52), (0, 51), (0, 50), (0, 49), (0, 48), (0, 47), (0, 46), (0, 45), (0, 44), (0, 43), (0, 41), (0, 40), (0, 39), (0, 38), (0, 37), (0, 36), (0, 35), (0, 34), (0, 33), (0, 32), (0, 31), (0, 27), (0, 26), (0, 25), (0, 24), (0, 22), (0, 21), (0, 20), (0, 19), (0, 18), (0, 17), (0, 16), (0, 15), (0, 14), (0, 5), (0, 4), (0, 3), (0, 1)] 51 = true by decide +kernel) (Nat.le_of_ble_eq_true rfl) (Nat.le_of_ble_eq_true rfl) rfl rfl ac_int (by decide) (by decide) (Nat.le_of_ble_eq_true rfl) (Nat.le_of_ble_eq_true rfl) (Nat.le_of_ble_eq_true rfl) (by decide) (by decide) dX12_init_632 ?_
  refine c_putR (pc := 634) (n := 52) (kc := 51) (ks := 657709) (k := 0) (j := 72) (t := 51) (fs := fsM) (Nat.le_of_ble_eq_true rfl) rfl rfl rfl cf12 flRX12_233 rfl (by decide) rfl rfl (fun _ => rfl) (fun _ => rfl) dX12_init_634 ?_
  refine c_aload_n (pc := 637) (n := 52) (kc := 51) (ks := 657709) dX12_init_637 rfl 0 rfl ?_
  refine c_sipush (pc := 638) (n := 52) (kc := 51) (ks := 657709) dX12_init_638 ks_6000 ?_
  refine c_na_int (pc := 641) (n := 52) (kc := 51) (ks := 657709) (len := 6000) (show okA dsM [(0, 72), (0, 71), (0, 70), (0, 68), (0, 67), (0, 63), (0, 62), (0, 61), (0, 60), (0, 58), (0, 57), (0, 56), (0, 55), (0, 52), (0, 51), (0, 50), (0, 49), (0, 48), (0, 47), (0, 46), (0, 45), (0, 44), (0, 43), (0, 41), (0, 40), (0, 39), (0, 38), (0, 37), (0, 36), (0, 35), (0, 34), (0, 33), (0, 32), (0, 31), (0, 27), (0, 26), (0, 25), (0, 24), (0, 22), (0, 21), (0, 20), (0, 19), (0, 18), (0, 17), (0, 16), (0, 15), (0, 14), (0, 5), (0, 4), (0, 3), (0, 1)] 52 = true by decide +kernel) (Nat.le_of_ble_eq_true rfl) (Nat.le_of_ble_eq_true rfl) rfl rfl ac_int (by decide) (by decide) (Nat.le_of_ble_eq_true rfl) (Nat.le_of_ble_eq_true rfl) (Nat.le_of_ble_eq_true rfl) (by decide) (by decide) dX12_init_641 ?_
  refine c_putR (pc := 643) (n := 53) (kc := 52) (ks := 663709) (k := 0) (j := 74) (t := 52) (fs := fsM) (Nat.le_of_ble_eq_true rfl) rfl rfl rfl cf12 flRX12_236 rfl (by decide) rfl rfl (fun _ => rfl) (fun _ => rfl) dX12_init_643 ?_
  refine c_aload_n (pc := 646) (n := 53) (kc := 52) (ks := 663709) dX12_init_646 rfl 0 rfl ?_
  refine c_sipush (pc := 647) (n := 53) (kc := 52) (ks := 663709) dX12_init_647 ks_6000 ?_
  refine c_na_int (pc := 650) (n := 53) (kc := 52) (ks := 663709) (len := 6000) (show okA dsM [(0, 74), (0, 72), (0, 71), (0, 70), (0, 68), (0, 67), (0, 63), (0, 62), (0, 61), (0, 60), (0, 58), (0, 57), (0, 56), (0, 55), (0, 52), (0, 51), (0, 50), (0, 49), (0, 48), (0, 47), (0, 46), (0, 45), (0, 44), (0, 43), (0, 41), (0, 40), (0, 39), (0, 38), (0, 37), (0, 36), (0, 35), (0, 34), (0, 33), (0, 32), (0, 31), (0, 27), (0, 26), (0, 25), (0, 24), (0, 22), (0, 21), (0, 20), (0, 19), (0, 18), (0, 17), (0, 16), (0, 15), (0, 14), (0, 5), (0, 4), (0, 3), (0, 1)] 53 = true by decide +kernel) (Nat.le_of_ble_eq_true rfl) (Nat.le_of_ble_eq_true rfl) rfl rfl ac_int (by decide) (by decide) (Nat.le_of_ble_eq_true rfl) (Nat.le_of_ble_eq_true rfl) (Nat.le_of_ble_eq_true rfl) (by decide) (by decide) dX12_init_650 ?_
  refine c_putR (pc := 652) (n := 54) (kc := 53) (ks := 669709) (k := 0) (j := 75) (t := 53) (fs := fsM) (Nat.le_of_ble_eq_true rfl) rfl rfl rfl cf12 flRX12_239 rfl (by decide) rfl rfl (fun _ => rfl) (fun _ => rfl) dX12_init_652 ?_
  refine c_aload_n (pc := 655) (n := 54) (kc := 53) (ks := 669709) dX12_init_655 rfl 0 rfl ?_
  refine c_sipush (pc := 656) (n := 54) (kc := 53) (ks := 669709) dX12_init_656 ks_6000 ?_
  refine c_na_int (pc := 659) (n := 54) (kc := 53) (ks := 669709) (len := 6000) (show okA dsM [(0, 75), (0, 74), (0, 72), (0, 71), (0, 70), (0, 68), (0, 67), (0, 63), (0, 62), (0, 61), (0, 60), (0, 58), (0, 57), (0, 56), (0, 55), (0, 52), (0, 51), (0, 50), (0, 49), (0, 48), (0, 47), (0, 46), (0, 45), (0, 44), (0, 43), (0, 41), (0, 40), (0, 39), (0, 38), (0, 37), (0, 36), (0, 35), (0, 34), (0, 33), (0, 32), (0, 31), (0, 27), (0, 26), (0, 25), (0, 24), (0, 22), (0, 21), (0, 20), (0, 19), (0, 18), (0, 17), (0, 16), (0, 15), (0, 14), (0, 5), (0, 4), (0, 3), (0, 1)] 54 = true by decide +kernel) (Nat.le_of_ble_eq_true rfl) (Nat.le_of_ble_eq_true rfl) rfl rfl ac_int (by decide) (by decide) (Nat.le_of_ble_eq_true rfl) (Nat.le_of_ble_eq_true rfl) (Nat.le_of_ble_eq_true rfl) (by decide) (by decide) dX12_init_659 ?_
  refine c_putR (pc := 661) (n := 55) (kc := 54) (ks := 675709) (k := 0) (j := 76) (t := 54) (fs := fsM) (Nat.le_of_ble_eq_true rfl) rfl rfl rfl cf12 flRX12_242 rfl (by decide) rfl rfl (fun _ => rfl) (fun _ => rfl) dX12_init_661 ?_
  refine c_aload_n (pc := 664) (n := 55) (kc := 54) (ks := 675709) dX12_init_664 rfl 0 rfl ?_
  refine c_sipush (pc := 665) (n := 55) (kc := 54) (ks := 675709) dX12_init_665 ks_5000 ?_
  refine c_na_int (pc := 668) (n := 55) (kc := 54) (ks := 675709) (len := 5000) (show okA dsM [(0, 76), (0, 75), (0, 74), (0, 72), (0, 71), (0, 70), (0, 68), (0, 67), (0, 63), (0, 62), (0, 61), (0, 60), (0, 58), (0, 57), (0, 56), (0, 55), (0, 52), (0, 51), (0, 50), (0, 49), (0, 48), (0, 47), (0, 46), (0, 45), (0, 44), (0, 43), (0, 41), (0, 40), (0, 39), (0, 38), (0, 37), (0, 36), (0, 35), (0, 34), (0, 33), (0, 32), (0, 31), (0, 27), (0, 26), (0, 25), (0, 24), (0, 22), (0, 21), (0, 20), (0, 19), (0, 18), (0, 17), (0, 16), (0, 15), (0, 14), (0, 5), (0, 4), (0, 3), (0, 1)] 55 = true by decide +kernel) (Nat.le_of_ble_eq_true rfl) (Nat.le_of_ble_eq_true rfl) rfl rfl ac_int (by decide) (by decide) (Nat.le_of_ble_eq_true rfl) (Nat.le_of_ble_eq_true rfl) (Nat.le_of_ble_eq_true rfl) (by decide) (by decide) dX12_init_668 ?_
  refine c_putR (pc := 670) (n := 56) (kc := 55) (ks := 680709) (k := 0) (j := 78) (t := 55) (fs := fsM) (Nat.le_of_ble_eq_true rfl) rfl rfl rfl cf12 flRX12_245 rfl (by decide) rfl rfl (fun _ => rfl) (fun _ => rfl) dX12_init_670 ?_
  refine c_aload_n (pc := 673) (n := 56) (kc := 55) (ks := 680709) dX12_init_673 rfl 0 rfl ?_
  refine c_sipush (pc := 674) (n := 56) (kc := 55) (ks := 680709) dX12_init_674 ks_5000 ?_
  refine c_na_int (pc := 677) (n := 56) (kc := 55) (ks := 680709) (len := 5000) (show okA dsM [(0, 78), (0, 76), (0, 75), (0, 74), (0, 72), (0, 71), (0, 70), (0, 68), (0, 67), (0, 63), (0, 62), (0, 61), (0, 60), (0, 58), (0, 57), (0, 56), (0, 55), (0, 52), (0, 51), (0, 50), (0, 49), (0, 48), (0, 47), (0, 46), (0, 45), (0, 44), (0, 43), (0, 41), (0, 40), (0, 39), (0, 38), (0, 37), (0, 36), (0, 35), (0, 34), (0, 33), (0, 32), (0, 31), (0, 27), (0, 26), (0, 25), (0, 24), (0, 22), (0, 21), (0, 20), (0, 19), (0, 18), (0, 17), (0, 16), (0, 15), (0, 14), (0, 5), (0, 4), (0, 3), (0, 1)] 56 = true by decide +kernel) (Nat.le_of_ble_eq_true rfl) (Nat.le_of_ble_eq_true rfl) rfl rfl ac_int (by decide) (by decide) (Nat.le_of_ble_eq_true rfl) (Nat.le_of_ble_eq_true rfl) (Nat.le_of_ble_eq_true rfl) (by decide) (by decide) dX12_init_677 ?_
  refine c_putR (pc := 679) (n := 57) (kc := 56) (ks := 685709) (k := 0) (j := 79) (t := 56) (fs := fsM) (Nat.le_of_ble_eq_true rfl) rfl rfl rfl cf12 flRX12_248 rfl (by decide) rfl rfl (fun _ => rfl) (fun _ => rfl) dX12_init_679 ?_
  refine c_aload_n (pc := 682) (n := 57) (kc := 56) (ks := 685709) dX12_init_682 rfl 0 rfl ?_
  refine c_sipush (pc := 683) (n := 57) (kc := 56) (ks := 685709) dX12_init_683 ks_5000 ?_
  refine c_na_int (pc := 686) (n := 57) (kc := 56) (ks := 685709) (len := 5000) (show okA dsM [(0, 79), (0, 78), (0, 76), (0, 75), (0, 74), (0, 72), (0, 71), (0, 70), (0, 68), (0, 67), (0, 63), (0, 62), (0, 61), (0, 60), (0, 58), (0, 57), (0, 56), (0, 55), (0, 52), (0, 51), (0, 50), (0, 49), (0, 48), (0, 47), (0, 46), (0, 45), (0, 44), (0, 43), (0, 41), (0, 40), (0, 39), (0, 38), (0, 37), (0, 36), (0, 35), (0, 34), (0, 33), (0, 32), (0, 31), (0, 27), (0, 26), (0, 25), (0, 24), (0, 22), (0, 21), (0, 20), (0, 19), (0, 18), (0, 17), (0, 16), (0, 15), (0, 14), (0, 5), (0, 4), (0, 3), (0, 1)] 57 = true by decide +kernel) (Nat.le_of_ble_eq_true rfl) (Nat.le_of_ble_eq_true rfl) rfl rfl ac_int (by decide) (by decide) (Nat.le_of_ble_eq_true rfl) (Nat.le_of_ble_eq_true rfl) (Nat.le_of_ble_eq_true rfl) (by decide) (by decide) dX12_init_686 ?_
  refine c_putR (pc := 688) (n := 58) (kc := 57) (ks := 690709) (k := 0) (j := 80) (t := 57) (fs := fsM) (Nat.le_of_ble_eq_true rfl) rfl rfl rfl cf12 flRX12_251 rfl (by decide) rfl rfl (fun _ => rfl) (fun _ => rfl) dX12_init_688 ?_
  refine c_aload_n (pc := 691) (n := 58) (kc := 57) (ks := 690709) dX12_init_691 rfl 0 rfl ?_
  refine c_sipush (pc := 692) (n := 58) (kc := 57) (ks := 690709) dX12_init_692 ks_24000 ?_
  refine c_na_int (pc := 695) (n := 58) (kc := 57) (ks := 690709) (len := 24000) (show okA dsM [(0, 80), (0, 79), (0, 78), (0, 76), (0, 75), (0, 74), (0, 72), (0, 71), (0, 70), (0, 68), (0, 67), (0, 63), (0, 62), (0, 61), (0, 60), (0, 58), (0, 57), (0, 56), (0, 55), (0, 52), (0, 51), (0, 50), (0, 49), (0, 48), (0, 47), (0, 46), (0, 45), (0, 44), (0, 43), (0, 41), (0, 40), (0, 39), (0, 38), (0, 37), (0, 36), (0, 35), (0, 34), (0, 33), (0, 32), (0, 31), (0, 27), (0, 26), (0, 25), (0, 24), (0, 22), (0, 21), (0, 20), (0, 19), (0, 18), (0, 17), (0, 16), (0, 15), (0, 14), (0, 5), (0, 4), (0, 3), (0, 1)] 58 = true by decide +kernel) (Nat.le_of_ble_eq_true rfl) (Nat.le_of_ble_eq_true rfl) rfl rfl ac_int (by decide) (by decide) (Nat.le_of_ble_eq_true rfl) (Nat.le_of_ble_eq_true rfl) (Nat.le_of_ble_eq_true rfl) (by decide) (by decide) dX12_init_695 ?_
  refine c_putR (pc := 697) (n := 59) (kc := 58) (ks := 714709) (k := 0) (j := 81) (t := 58) (fs := fsM) (Nat.le_of_ble_eq_true rfl) rfl rfl rfl cf12 flRX12_254 rfl (by decide) rfl rfl (fun _ => rfl) (fun _ => rfl) dX12_init_697 ?_
  refine c_aload_n (pc := 700) (n := 59) (kc := 58) (ks := 714709) dX12_init_700 rfl 0 rfl ?_
  refine c_sipush (pc := 701) (n := 59) (kc := 58) (ks := 714709) dX12_init_701 ks_24000 ?_
  refine c_na_int (pc := 704) (n := 59) (kc := 58) (ks := 714709) (len := 24000) (show okA dsM [(0, 81), (0, 80), (0, 79), (0, 78), (0, 76), (0, 75), (0, 74), (0, 72), (0, 71), (0, 70), (0, 68), (0, 67), (0, 63), (0, 62), (0, 61), (0, 60), (0, 58), (0, 57), (0, 56), (0, 55), (0, 52), (0, 51), (0, 50), (0, 49), (0, 48), (0, 47), (0, 46), (0, 45), (0, 44), (0, 43), (0, 41), (0, 40), (0, 39), (0, 38), (0, 37), (0, 36), (0, 35), (0, 34), (0, 33), (0, 32), (0, 31), (0, 27), (0, 26), (0, 25), (0, 24), (0, 22), (0, 21), (0, 20), (0, 19), (0, 18), (0, 17), (0, 16), (0, 15), (0, 14), (0, 5), (0, 4), (0, 3), (0, 1)] 59 = true by decide +kernel) (Nat.le_of_ble_eq_true rfl) (Nat.le_of_ble_eq_true rfl) rfl rfl ac_int (by decide) (by decide) (Nat.le_of_ble_eq_true rfl) (Nat.le_of_ble_eq_true rfl) (Nat.le_of_ble_eq_true rfl) (by decide) (by decide) dX12_init_704 ?_
  refine c_putR (pc := 706) (n := 60) (kc := 59) (ks := 738709) (k := 0) (j := 83) (t := 59) (fs := fsM) (Nat.le_of_ble_eq_true rfl) rfl rfl rfl cf12 flRX12_257 rfl (by decide) rfl rfl (fun _ => rfl) (fun _ => rfl) dX12_init_706 ?_
  refine c_aload_n (pc := 709) (n := 60) (kc := 59) (ks := 738709) dX12_init_709 rfl 0 rfl ?_
  refine c_ldc (pc := 710) (n := 60) (kc := 59) (ks := 738709) dX12_init_710 kcRX12_217 ?_
  refine c_na_int (pc := 712) (n := 60) (kc := 59) (ks := 738709) (len := 240000) (show okA dsM [(0, 83), (0, 81), (0, 80), (0, 79), (0, 78), (0, 76), (0, 75), (0, 74), (0, 72), (0, 71), (0, 70), (0, 68), (0, 67), (0, 63), (0, 62), (0, 61), (0, 60), (0, 58), (0, 57), (0, 56), (0, 55), (0, 52), (0, 51), (0, 50), (0, 49), (0, 48), (0, 47), (0, 46), (0, 45), (0, 44), (0, 43), (0, 41), (0, 40), (0, 39), (0, 38), (0, 37), (0, 36), (0, 35), (0, 34), (0, 33), (0, 32), (0, 31), (0, 27), (0, 26), (0, 25), (0, 24), (0, 22), (0, 21), (0, 20), (0, 19), (0, 18), (0, 17), (0, 16), (0, 15), (0, 14), (0, 5), (0, 4), (0, 3), (0, 1)] 60 = true by decide +kernel) (Nat.le_of_ble_eq_true rfl) (Nat.le_of_ble_eq_true rfl) rfl rfl ac_int (by decide) (by decide) (Nat.le_of_ble_eq_true rfl) (Nat.le_of_ble_eq_true rfl) (Nat.le_of_ble_eq_true rfl) (by decide) (by decide) dX12_init_712 ?_
  refine c_putR (pc := 714) (n := 61) (kc := 60) (ks := 978709) (k := 0) (j := 88) (t := 60) (fs := fsM) (Nat.le_of_ble_eq_true rfl) rfl rfl rfl cf12 flRX12_260 rfl (by decide) rfl rfl (fun _ => rfl) (fun _ => rfl) dX12_init_714 ?_
  refine c_aload_n (pc := 717) (n := 61) (kc := 60) (ks := 978709) dX12_init_717 rfl 0 rfl ?_
  refine c_sipush (pc := 718) (n := 61) (kc := 60) (ks := 978709) dX12_init_718 ks_6000 ?_
  refine c_na_int (pc := 721) (n := 61) (kc := 60) (ks := 978709) (len := 6000) (show okA dsM [(0, 88), (0, 83), (0, 81), (0, 80), (0, 79), (0, 78), (0, 76), (0, 75), (0, 74), (0, 72), (0, 71), (0, 70), (0, 68), (0, 67), (0, 63), (0, 62), (0, 61), (0, 60), (0, 58), (0, 57), (0, 56), (0, 55), (0, 52), (0, 51), (0, 50), (0, 49), (0, 48), (0, 47), (0, 46), (0, 45), (0, 44), (0, 43), (0, 41), (0, 40), (0, 39), (0, 38), (0, 37), (0, 36), (0, 35), (0, 34), (0, 33), (0, 32), (0, 31), (0, 27), (0, 26), (0, 25), (0, 24), (0, 22), (0, 21), (0, 20), (0, 19), (0, 18), (0, 17), (0, 16), (0, 15), (0, 14), (0, 5), (0, 4), (0, 3), (0, 1)] 61 = true by decide +kernel) (Nat.le_of_ble_eq_true rfl) (Nat.le_of_ble_eq_true rfl) rfl rfl ac_int (by decide) (by decide) (Nat.le_of_ble_eq_true rfl) (Nat.le_of_ble_eq_true rfl) (Nat.le_of_ble_eq_true rfl) (by decide) (by decide) dX12_init_721 ?_
  refine c_putR (pc := 723) (n := 62) (kc := 61) (ks := 984709) (k := 0) (j := 89) (t := 61) (fs := fsM) (Nat.le_of_ble_eq_true rfl) rfl rfl rfl cf12 flRX12_263 rfl (by decide) rfl rfl (fun _ => rfl) (fun _ => rfl) dX12_init_723 ?_
  refine c_aload_n (pc := 726) (n := 62) (kc := 61) (ks := 984709) dX12_init_726 rfl 0 rfl ?_
  refine c_sipush (pc := 727) (n := 62) (kc := 61) (ks := 984709) dX12_init_727 ks_6000 ?_
  refine c_na_int (pc := 730) (n := 62) (kc := 61) (ks := 984709) (len := 6000) (show okA dsM [(0, 89), (0, 88), (0, 83), (0, 81), (0, 80), (0, 79), (0, 78), (0, 76), (0, 75), (0, 74), (0, 72), (0, 71), (0, 70), (0, 68), (0, 67), (0, 63), (0, 62), (0, 61), (0, 60), (0, 58), (0, 57), (0, 56), (0, 55), (0, 52), (0, 51), (0, 50), (0, 49), (0, 48), (0, 47), (0, 46), (0, 45), (0, 44), (0, 43), (0, 41), (0, 40), (0, 39), (0, 38), (0, 37), (0, 36), (0, 35), (0, 34), (0, 33), (0, 32), (0, 31), (0, 27), (0, 26), (0, 25), (0, 24), (0, 22), (0, 21), (0, 20), (0, 19), (0, 18), (0, 17), (0, 16), (0, 15), (0, 14), (0, 5), (0, 4), (0, 3), (0, 1)] 62 = true by decide +kernel) (Nat.le_of_ble_eq_true rfl) (Nat.le_of_ble_eq_true rfl) rfl rfl ac_int (by decide) (by decide) (Nat.le_of_ble_eq_true rfl) (Nat.le_of_ble_eq_true rfl) (Nat.le_of_ble_eq_true rfl) (by decide) (by decide) dX12_init_730 ?_
  refine c_putR (pc := 732) (n := 63) (kc := 62) (ks := 990709) (k := 0) (j := 90) (t := 62) (fs := fsM) (Nat.le_of_ble_eq_true rfl) rfl rfl rfl cf12 flRX12_266 rfl (by decide) rfl rfl (fun _ => rfl) (fun _ => rfl) dX12_init_732 ?_
  refine c_aload_n (pc := 735) (n := 63) (kc := 62) (ks := 990709) dX12_init_735 rfl 0 rfl ?_
  refine c_sipush (pc := 736) (n := 63) (kc := 62) (ks := 990709) dX12_init_736 ks_4300 ?_
  refine c_na_int (pc := 739) (n := 63) (kc := 62) (ks := 990709) (len := 4300) (show okA dsM [(0, 90), (0, 89), (0, 88), (0, 83), (0, 81), (0, 80), (0, 79), (0, 78), (0, 76), (0, 75), (0, 74), (0, 72), (0, 71), (0, 70), (0, 68), (0, 67), (0, 63), (0, 62), (0, 61), (0, 60), (0, 58), (0, 57), (0, 56), (0, 55), (0, 52), (0, 51), (0, 50), (0, 49), (0, 48), (0, 47), (0, 46), (0, 45), (0, 44), (0, 43), (0, 41), (0, 40), (0, 39), (0, 38), (0, 37), (0, 36), (0, 35), (0, 34), (0, 33), (0, 32), (0, 31), (0, 27), (0, 26), (0, 25), (0, 24), (0, 22), (0, 21), (0, 20), (0, 19), (0, 18), (0, 17), (0, 16), (0, 15), (0, 14), (0, 5), (0, 4), (0, 3), (0, 1)] 63 = true by decide +kernel) (Nat.le_of_ble_eq_true rfl) (Nat.le_of_ble_eq_true rfl) rfl rfl ac_int (by decide) (by decide) (Nat.le_of_ble_eq_true rfl) (Nat.le_of_ble_eq_true rfl) (Nat.le_of_ble_eq_true rfl) (by decide) (by decide) dX12_init_739 ?_
  refine c_putR (pc := 741) (n := 64) (kc := 63) (ks := 995009) (k := 0) (j := 91) (t := 63) (fs := fsM) (Nat.le_of_ble_eq_true rfl) rfl rfl rfl cf12 flRX12_269 rfl (by decide) rfl rfl (fun _ => rfl) (fun _ => rfl) dX12_init_741 ?_
  refine c_aload_n (pc := 744) (n := 64) (kc := 63) (ks := 995009) dX12_init_744 rfl 0 rfl ?_
  refine c_sipush (pc := 745) (n := 64) (kc := 63) (ks := 995009) dX12_init_745 ks_4300 ?_
  refine c_na_int (pc := 748) (n := 64) (kc := 63) (ks := 995009) (len := 4300) (show okA dsM [(0, 91), (0, 90), (0, 89), (0, 88), (0, 83), (0, 81), (0, 80), (0, 79), (0, 78), (0, 76), (0, 75), (0, 74), (0, 72), (0, 71), (0, 70), (0, 68), (0, 67), (0, 63), (0, 62), (0, 61), (0, 60), (0, 58), (0, 57), (0, 56), (0, 55), (0, 52), (0, 51), (0, 50), (0, 49), (0, 48), (0, 47), (0, 46), (0, 45), (0, 44), (0, 43), (0, 41), (0, 40), (0, 39), (0, 38), (0, 37), (0, 36), (0, 35), (0, 34), (0, 33), (0, 32), (0, 31), (0, 27), (0, 26), (0, 25), (0, 24), (0, 22), (0, 21), (0, 20), (0, 19), (0, 18), (0, 17), (0, 16), (0, 15), (0, 14), (0, 5), (0, 4), (0, 3), (0, 1)] 64 = true by decide +kernel) (Nat.le_of_ble_eq_true rfl) (Nat.le_of_ble_eq_true rfl) rfl rfl ac_int (by decide) (by decide) (Nat.le_of_ble_eq_true rfl) (Nat.le_of_ble_eq_true rfl) (Nat.le_of_ble_eq_true rfl) (by decide) (by decide) dX12_init_748 ?_
  refine c_putR (pc := 750) (n := 65) (kc := 64) (ks := 999309) (k := 0) (j := 92) (t := 64) (fs := fsM) (Nat.le_of_ble_eq_true rfl) rfl rfl rfl cf12 flRX12_272 rfl (by decide) rfl rfl (fun _ => rfl) (fun _ => rfl) dX12_init_750 ?_
  refine c_aload_n (pc := 753) (n := 65) (kc := 64) (ks := 999309) dX12_init_753 rfl 0 rfl ?_
  refine c_sipush (pc := 754) (n := 65) (kc := 64) (ks := 999309) dX12_init_754 ks_4300 ?_
  refine c_na_int (pc := 757) (n := 65) (kc := 64) (ks := 999309) (len := 4300) (show okA dsM [(0, 92), (0, 91), (0, 90), (0, 89), (0, 88), (0, 83), (0, 81), (0, 80), (0, 79), (0, 78), (0, 76), (0, 75), (0, 74), (0, 72), (0, 71), (0, 70), (0, 68), (0, 67), (0, 63), (0, 62), (0, 61), (0, 60), (0, 58), (0, 57), (0, 56), (0, 55), (0, 52), (0, 51), (0, 50), (0, 49), (0, 48), (0, 47), (0, 46), (0, 45), (0, 44), (0, 43), (0, 41), (0, 40), (0, 39), (0, 38), (0, 37), (0, 36), (0, 35), (0, 34), (0, 33), (0, 32), (0, 31), (0, 27), (0, 26), (0, 25), (0, 24), (0, 22), (0, 21), (0, 20), (0, 19), (0, 18), (0, 17), (0, 16), (0, 15), (0, 14), (0, 5), (0, 4), (0, 3), (0, 1)] 65 = true by decide +kernel) (Nat.le_of_ble_eq_true rfl) (Nat.le_of_ble_eq_true rfl) rfl rfl ac_int (by decide) (by decide) (Nat.le_of_ble_eq_true rfl) (Nat.le_of_ble_eq_true rfl) (Nat.le_of_ble_eq_true rfl) (by decide) (by decide) dX12_init_757 ?_
  refine c_putR (pc := 759) (n := 66) (kc := 65) (ks := 1003609) (k := 0) (j := 93) (t := 65) (fs := fsM) (Nat.le_of_ble_eq_true rfl) rfl rfl rfl cf12 flRX12_275 rfl (by decide) rfl rfl (fun _ => rfl) (fun _ => rfl) dX12_init_759 ?_
  refine c_aload_n (pc := 762) (n := 66) (kc := 65) (ks := 1003609) dX12_init_762 rfl 0 rfl ?_
  refine c_sipush (pc := 763) (n := 66) (kc := 65) (ks := 1003609) dX12_init_763 ks_6000 ?_
  refine c_na_int (pc := 766) (n := 66) (kc := 65) (ks := 1003609) (len := 6000) (show okA dsM [(0, 93), (0, 92), (0, 91), (0, 90), (0, 89), (0, 88), (0, 83), (0, 81), (0, 80), (0, 79), (0, 78), (0, 76), (0, 75), (0, 74), (0, 72), (0, 71), (0, 70), (0, 68), (0, 67), (0, 63), (0, 62), (0, 61), (0, 60), (0, 58), (0, 57), (0, 56), (0, 55), (0, 52), (0, 51), (0, 50), (0, 49), (0, 48), (0, 47), (0, 46), (0, 45), (0, 44), (0, 43), (0, 41), (0, 40), (0, 39), (0, 38), (0, 37), (0, 36), (0, 35), (0, 34), (0, 33), (0, 32), (0, 31), (0, 27), (0, 26), (0, 25), (0, 24), (0, 22), (0, 21), (0, 20), (0, 19), (0, 18), (0, 17), (0, 16), (0, 15), (0, 14), (0, 5), (0, 4), (0, 3), (0, 1)] 66 = true by decide +kernel) (Nat.le_of_ble_eq_true rfl) (Nat.le_of_ble_eq_true rfl) rfl rfl ac_int (by decide) (by decide) (Nat.le_of_ble_eq_true rfl) (Nat.le_of_ble_eq_true rfl) (Nat.le_of_ble_eq_true rfl) (by decide) (by decide) dX12_init_766 ?_
  refine c_putR (pc := 768) (n := 67) (kc := 66) (ks := 1009609) (k := 0) (j := 94) (t := 66) (fs := fsM) (Nat.le_of_ble_eq_true rfl) rfl rfl rfl cf12 flRX12_278 rfl (by decide) rfl rfl (fun _ => rfl) (fun _ => rfl) dX12_init_768 ?_
  refine c_aload_n (pc := 771) (n := 67) (kc := 66) (ks := 1009609) dX12_init_771 rfl 0 rfl ?_
  refine c_sipush (pc := 772) (n := 67) (kc := 66) (ks := 1009609) dX12_init_772 ks_6000 ?_
  refine c_na_int (pc := 775) (n := 67) (kc := 66) (ks := 1009609) (len := 6000) (show okA dsM [(0, 94), (0, 93), (0, 92), (0, 91), (0, 90), (0, 89), (0, 88), (0, 83), (0, 81), (0, 80), (0, 79), (0, 78), (0, 76), (0, 75), (0, 74), (0, 72), (0, 71), (0, 70), (0, 68), (0, 67), (0, 63), (0, 62), (0, 61), (0, 60), (0, 58), (0, 57), (0, 56), (0, 55), (0, 52), (0, 51), (0, 50), (0, 49), (0, 48), (0, 47), (0, 46), (0, 45), (0, 44), (0, 43), (0, 41), (0, 40), (0, 39), (0, 38), (0, 37), (0, 36), (0, 35), (0, 34), (0, 33), (0, 32), (0, 31), (0, 27), (0, 26), (0, 25), (0, 24), (0, 22), (0, 21), (0, 20), (0, 19), (0, 18), (0, 17), (0, 16), (0, 15), (0, 14), (0, 5), (0, 4), (0, 3), (0, 1)] 67 = true by decide +kernel) (Nat.le_of_ble_eq_true rfl) (Nat.le_of_ble_eq_true rfl) rfl rfl ac_int (by decide) (by decide) (Nat.le_of_ble_eq_true rfl) (Nat.le_of_ble_eq_true rfl) (Nat.le_of_ble_eq_true rfl) (by decide) (by decide) dX12_init_775 ?_
  refine c_putR (pc := 777) (n := 68) (kc := 67) (ks := 1015609) (k := 0) (j := 95) (t := 67) (fs := fsM) (Nat.le_of_ble_eq_true rfl) rfl rfl rfl cf12 flRX12_281 rfl (by decide) rfl rfl (fun _ => rfl) (fun _ => rfl) dX12_init_777 ?_
  refine c_aload_n (pc := 780) (n := 68) (kc := 67) (ks := 1015609) dX12_init_780 rfl 0 rfl ?_
  refine c_sipush (pc := 781) (n := 68) (kc := 67) (ks := 1015609) dX12_init_781 ks_6000 ?_
  refine c_na_int (pc := 784) (n := 68) (kc := 67) (ks := 1015609) (len := 6000) (show okA dsM [(0, 95), (0, 94), (0, 93), (0, 92), (0, 91), (0, 90), (0, 89), (0, 88), (0, 83), (0, 81), (0, 80), (0, 79), (0, 78), (0, 76), (0, 75), (0, 74), (0, 72), (0, 71), (0, 70), (0, 68), (0, 67), (0, 63), (0, 62), (0, 61), (0, 60), (0, 58), (0, 57), (0, 56), (0, 55), (0, 52), (0, 51), (0, 50), (0, 49), (0, 48), (0, 47), (0, 46), (0, 45), (0, 44), (0, 43), (0, 41), (0, 40), (0, 39), (0, 38), (0, 37), (0, 36), (0, 35), (0, 34), (0, 33), (0, 32), (0, 31), (0, 27), (0, 26), (0, 25), (0, 24), (0, 22), (0, 21), (0, 20), (0, 19), (0, 18), (0, 17), (0, 16), (0, 15), (0, 14), (0, 5), (0, 4), (0, 3), (0, 1)] 68 = true by decide +kernel) (Nat.le_of_ble_eq_true rfl) (Nat.le_of_ble_eq_true rfl) rfl rfl ac_int (by decide) (by decide) (Nat.le_of_ble_eq_true rfl) (Nat.le_of_ble_eq_true rfl) (Nat.le_of_ble_eq_true rfl) (by decide) (by decide) dX12_init_784 ?_
  refine c_putR (pc := 786) (n := 69) (kc := 68) (ks := 1021609) (k := 0) (j := 96) (t := 68) (fs := fsM) (Nat.le_of_ble_eq_true rfl) rfl rfl rfl cf12 flRX12_284 rfl (by decide) rfl rfl (fun _ => rfl) (fun _ => rfl) dX12_init_786 ?_
  refine c_aload_n (pc := 789) (n := 69) (kc := 68) (ks := 1021609) dX12_init_789 rfl 0 rfl ?_
  refine c_sipush (pc := 790) (n := 69) (kc := 68) (ks := 1021609) dX12_init_790 ks_8194 ?_
  refine c_na_long (pc := 793) (n := 69) (kc := 68) (ks := 1021609) (len := 8194) (show okA dsM [(0, 96), (0, 95), (0, 94), (0, 93), (0, 92), (0, 91), (0, 90), (0, 89), (0, 88), (0, 83), (0, 81), (0, 80), (0, 79), (0, 78), (0, 76), (0, 75), (0, 74), (0, 72), (0, 71), (0, 70), (0, 68), (0, 67), (0, 63), (0, 62), (0, 61), (0, 60), (0, 58), (0, 57), (0, 56), (0, 55), (0, 52), (0, 51), (0, 50), (0, 49), (0, 48), (0, 47), (0, 46), (0, 45), (0, 44), (0, 43), (0, 41), (0, 40), (0, 39), (0, 38), (0, 37), (0, 36), (0, 35), (0, 34), (0, 33), (0, 32), (0, 31), (0, 27), (0, 26), (0, 25), (0, 24), (0, 22), (0, 21), (0, 20), (0, 19), (0, 18), (0, 17), (0, 16), (0, 15), (0, 14), (0, 5), (0, 4), (0, 3), (0, 1)] 69 = true by decide +kernel) (Nat.le_of_ble_eq_true rfl) (Nat.le_of_ble_eq_true rfl) rfl rfl ac_long (by decide) (by decide) (Nat.le_of_ble_eq_true rfl) (Nat.le_of_ble_eq_true rfl) (Nat.le_of_ble_eq_true rfl) (by decide) (by decide) dX12_init_793 ?_
  refine c_putR (pc := 795) (n := 70) (kc := 69) (ks := 1029803) (k := 0) (j := 97) (t := 69) (fs := fsM) (Nat.le_of_ble_eq_true rfl) rfl rfl rfl cf12 flRX12_287 rfl (by decide) rfl rfl (fun _ => rfl) (fun _ => rfl) dX12_init_795 ?_
  refine c_aload_n (pc := 798) (n := 70) (kc := 69) (ks := 1029803) dX12_init_798 rfl 0 rfl ?_
  refine c_sipush (pc := 799) (n := 70) (kc := 69) (ks := 1029803) dX12_init_799 ks_1200 ?_
  refine c_na_int (pc := 802) (n := 70) (kc := 69) (ks := 1029803) (len := 1200) (show okA dsM [(0, 97), (0, 96), (0, 95), (0, 94), (0, 93), (0, 92), (0, 91), (0, 90), (0, 89), (0, 88), (0, 83), (0, 81), (0, 80), (0, 79), (0, 78), (0, 76), (0, 75), (0, 74), (0, 72), (0, 71), (0, 70), (0, 68), (0, 67), (0, 63), (0, 62), (0, 61), (0, 60), (0, 58), (0, 57), (0, 56), (0, 55), (0, 52), (0, 51), (0, 50), (0, 49), (0, 48), (0, 47), (0, 46), (0, 45), (0, 44), (0, 43), (0, 41), (0, 40), (0, 39), (0, 38), (0, 37), (0, 36), (0, 35), (0, 34), (0, 33), (0, 32), (0, 31), (0, 27), (0, 26), (0, 25), (0, 24), (0, 22), (0, 21), (0, 20), (0, 19), (0, 18), (0, 17), (0, 16), (0, 15), (0, 14), (0, 5), (0, 4), (0, 3), (0, 1)] 70 = true by decide +kernel) (Nat.le_of_ble_eq_true rfl) (Nat.le_of_ble_eq_true rfl) rfl rfl ac_int (by decide) (by decide) (Nat.le_of_ble_eq_true rfl) (Nat.le_of_ble_eq_true rfl) (Nat.le_of_ble_eq_true rfl) (by decide) (by decide) dX12_init_802 ?_
  refine c_putR (pc := 804) (n := 71) (kc := 70) (ks := 1031003) (k := 0) (j := 98) (t := 70) (fs := fsM) (Nat.le_of_ble_eq_true rfl) rfl rfl rfl cf12 flRX12_290 rfl (by decide) rfl rfl (fun _ => rfl) (fun _ => rfl) dX12_init_804 ?_
  refine c_aload_n (pc := 807) (n := 71) (kc := 70) (ks := 1031003) dX12_init_807 rfl 0 rfl ?_
  refine c_sipush (pc := 808) (n := 71) (kc := 70) (ks := 1031003) dX12_init_808 ks_1200 ?_
  refine c_na_int (pc := 811) (n := 71) (kc := 70) (ks := 1031003) (len := 1200) (show okA dsM [(0, 98), (0, 97), (0, 96), (0, 95), (0, 94), (0, 93), (0, 92), (0, 91), (0, 90), (0, 89), (0, 88), (0, 83), (0, 81), (0, 80), (0, 79), (0, 78), (0, 76), (0, 75), (0, 74), (0, 72), (0, 71), (0, 70), (0, 68), (0, 67), (0, 63), (0, 62), (0, 61), (0, 60), (0, 58), (0, 57), (0, 56), (0, 55), (0, 52), (0, 51), (0, 50), (0, 49), (0, 48), (0, 47), (0, 46), (0, 45), (0, 44), (0, 43), (0, 41), (0, 40), (0, 39), (0, 38), (0, 37), (0, 36), (0, 35), (0, 34), (0, 33), (0, 32), (0, 31), (0, 27), (0, 26), (0, 25), (0, 24), (0, 22), (0, 21), (0, 20), (0, 19), (0, 18), (0, 17), (0, 16), (0, 15), (0, 14), (0, 5), (0, 4), (0, 3), (0, 1)] 71 = true by decide +kernel) (Nat.le_of_ble_eq_true rfl) (Nat.le_of_ble_eq_true rfl) rfl rfl ac_int (by decide) (by decide) (Nat.le_of_ble_eq_true rfl) (Nat.le_of_ble_eq_true rfl) (Nat.le_of_ble_eq_true rfl) (by decide) (by decide) dX12_init_811 ?_
  refine c_putR (pc := 813) (n := 72) (kc := 71) (ks := 1032203) (k := 0) (j := 99) (t := 71) (fs := fsM) (Nat.le_of_ble_eq_true rfl) rfl rfl rfl cf12 flRX12_293 rfl (by decide) rfl rfl (fun _ => rfl) (fun _ => rfl) dX12_init_813 ?_
  refine c_aload_n (pc := 816) (n := 72) (kc := 71) (ks := 1032203) dX12_init_816 rfl 0 rfl ?_
  refine c_sipush (pc := 817) (n := 72) (kc := 71) (ks := 1032203) dX12_init_817 ks_1200 ?_
  refine c_na_int (pc := 820) (n := 72) (kc := 71) (ks := 1032203) (len := 1200) (show okA dsM [(0, 99), (0, 98), (0, 97), (0, 96), (0, 95), (0, 94), (0, 93), (0, 92), (0, 91), (0, 90), (0, 89), (0, 88), (0, 83), (0, 81), (0, 80), (0, 79), (0, 78), (0, 76), (0, 75), (0, 74), (0, 72), (0, 71), (0, 70), (0, 68), (0, 67), (0, 63), (0, 62), (0, 61), (0, 60), (0, 58), (0, 57), (0, 56), (0, 55), (0, 52), (0, 51), (0, 50), (0, 49), (0, 48), (0, 47), (0, 46), (0, 45), (0, 44), (0, 43), (0, 41), (0, 40), (0, 39), (0, 38), (0, 37), (0, 36), (0, 35), (0, 34), (0, 33), (0, 32), (0, 31), (0, 27), (0, 26), (0, 25), (0, 24), (0, 22), (0, 21), (0, 20), (0, 19), (0, 18), (0, 17), (0, 16), (0, 15), (0, 14), (0, 5), (0, 4), (0, 3), (0, 1)] 72 = true by decide +kernel) (Nat.le_of_ble_eq_true rfl) (Nat.le_of_ble_eq_true rfl) rfl rfl ac_int (by decide) (by decide) (Nat.le_of_ble_eq_true rfl) (Nat.le_of_ble_eq_true rfl) (Nat.le_of_ble_eq_true rfl) (by decide) (by decide) dX12_init_820 ?_
  refine c_putR (pc := 822) (n := 73) (kc := 72) (ks := 1033403) (k := 0) (j := 100) (t := 72) (fs := fsM) (Nat.le_of_ble_eq_true rfl) rfl rfl rfl cf12 flRX12_296 rfl (by decide) rfl rfl (fun _ => rfl) (fun _ => rfl) dX12_init_822 ?_
  refine c_aload_n (pc := 825) (n := 73) (kc := 72) (ks := 1033403) dX12_init_825 rfl 0 rfl ?_
  refine c_sipush (pc := 826) (n := 73) (kc := 72) (ks := 1033403) dX12_init_826 ks_1200 ?_
  refine c_na_int (pc := 829) (n := 73) (kc := 72) (ks := 1033403) (len := 1200) (show okA dsM [(0, 100), (0, 99), (0, 98), (0, 97), (0, 96), (0, 95), (0, 94), (0, 93), (0, 92), (0, 91), (0, 90), (0, 89), (0, 88), (0, 83), (0, 81), (0, 80), (0, 79), (0, 78), (0, 76), (0, 75), (0, 74), (0, 72), (0, 71), (0, 70), (0, 68), (0, 67), (0, 63), (0, 62), (0, 61), (0, 60), (0, 58), (0, 57), (0, 56), (0, 55), (0, 52), (0, 51), (0, 50), (0, 49), (0, 48), (0, 47), (0, 46), (0, 45), (0, 44), (0, 43), (0, 41), (0, 40), (0, 39), (0, 38), (0, 37), (0, 36), (0, 35), (0, 34), (0, 33), (0, 32), (0, 31), (0, 27), (0, 26), (0, 25), (0, 24), (0, 22), (0, 21), (0, 20), (0, 19), (0, 18), (0, 17), (0, 16), (0, 15), (0, 14), (0, 5), (0, 4), (0, 3), (0, 1)] 73 = true by decide +kernel) (Nat.le_of_ble_eq_true rfl) (Nat.le_of_ble_eq_true rfl) rfl rfl ac_int (by decide) (by decide) (Nat.le_of_ble_eq_true rfl) (Nat.le_of_ble_eq_true rfl) (Nat.le_of_ble_eq_true rfl) (by decide) (by decide) dX12_init_829 ?_
  refine c_putR (pc := 831) (n := 74) (kc := 73) (ks := 1034603) (k := 0) (j := 101) (t := 73) (fs := fsM) (Nat.le_of_ble_eq_true rfl) rfl rfl rfl cf12 flRX12_299 rfl (by decide) rfl rfl (fun _ => rfl) (fun _ => rfl) dX12_init_831 ?_
  refine c_aload_n (pc := 834) (n := 74) (kc := 73) (ks := 1034603) dX12_init_834 rfl 0 rfl ?_
  refine c_sipush (pc := 835) (n := 74) (kc := 73) (ks := 1034603) dX12_init_835 ks_5000 ?_
  refine c_na_int (pc := 838) (n := 74) (kc := 73) (ks := 1034603) (len := 5000) (show okA dsM [(0, 101), (0, 100), (0, 99), (0, 98), (0, 97), (0, 96), (0, 95), (0, 94), (0, 93), (0, 92), (0, 91), (0, 90), (0, 89), (0, 88), (0, 83), (0, 81), (0, 80), (0, 79), (0, 78), (0, 76), (0, 75), (0, 74), (0, 72), (0, 71), (0, 70), (0, 68), (0, 67), (0, 63), (0, 62), (0, 61), (0, 60), (0, 58), (0, 57), (0, 56), (0, 55), (0, 52), (0, 51), (0, 50), (0, 49), (0, 48), (0, 47), (0, 46), (0, 45), (0, 44), (0, 43), (0, 41), (0, 40), (0, 39), (0, 38), (0, 37), (0, 36), (0, 35), (0, 34), (0, 33), (0, 32), (0, 31), (0, 27), (0, 26), (0, 25), (0, 24), (0, 22), (0, 21), (0, 20), (0, 19), (0, 18), (0, 17), (0, 16), (0, 15), (0, 14), (0, 5), (0, 4), (0, 3), (0, 1)] 74 = true by decide +kernel) (Nat.le_of_ble_eq_true rfl) (Nat.le_of_ble_eq_true rfl) rfl rfl ac_int (by decide) (by decide) (Nat.le_of_ble_eq_true rfl) (Nat.le_of_ble_eq_true rfl) (Nat.le_of_ble_eq_true rfl) (by decide) (by decide) dX12_init_838 ?_
  refine c_putR (pc := 840) (n := 75) (kc := 74) (ks := 1039603) (k := 0) (j := 102) (t := 74) (fs := fsM) (Nat.le_of_ble_eq_true rfl) rfl rfl rfl cf12 flRX12_302 rfl (by decide) rfl rfl (fun _ => rfl) (fun _ => rfl) dX12_init_840 ?_
  refine c_aload_n (pc := 843) (n := 75) (kc := 74) (ks := 1039603) dX12_init_843 rfl 0 rfl ?_
  refine c_sipush (pc := 844) (n := 75) (kc := 74) (ks := 1039603) dX12_init_844 ks_5000 ?_
  refine c_na_int (pc := 847) (n := 75) (kc := 74) (ks := 1039603) (len := 5000) (show okA dsM [(0, 102), (0, 101), (0, 100), (0, 99), (0, 98), (0, 97), (0, 96), (0, 95), (0, 94), (0, 93), (0, 92), (0, 91), (0, 90), (0, 89), (0, 88), (0, 83), (0, 81), (0, 80), (0, 79), (0, 78), (0, 76), (0, 75), (0, 74), (0, 72), (0, 71), (0, 70), (0, 68), (0, 67), (0, 63), (0, 62), (0, 61), (0, 60), (0, 58), (0, 57), (0, 56), (0, 55), (0, 52), (0, 51), (0, 50), (0, 49), (0, 48), (0, 47), (0, 46), (0, 45), (0, 44), (0, 43), (0, 41), (0, 40), (0, 39), (0, 38), (0, 37), (0, 36), (0, 35), (0, 34), (0, 33), (0, 32), (0, 31), (0, 27), (0, 26), (0, 25), (0, 24), (0, 22), (0, 21), (0, 20), (0, 19), (0, 18), (0, 17), (0, 16), (0, 15), (0, 14), (0, 5), (0, 4), (0, 3), (0, 1)] 75 = true by decide +kernel) (Nat.le_of_ble_eq_true rfl) (Nat.le_of_ble_eq_true rfl) rfl rfl ac_int (by decide) (by decide) (Nat.le_of_ble_eq_true rfl) (Nat.le_of_ble_eq_true rfl) (Nat.le_of_ble_eq_true rfl) (by decide) (by decide) dX12_init_847 ?_
  refine c_putR (pc := 849) (n := 76) (kc := 75) (ks := 1044603) (k := 0) (j := 103) (t := 75) (fs := fsM) (Nat.le_of_ble_eq_true rfl) rfl rfl rfl cf12 flRX12_305 rfl (by decide) rfl rfl (fun _ => rfl) (fun _ => rfl) dX12_init_849 ?_
  refine c_aload_n (pc := 852) (n := 76) (kc := 75) (ks := 1044603) dX12_init_852 rfl 0 rfl ?_
  refine c_sipush (pc := 853) (n := 76) (kc := 75) (ks := 1044603) dX12_init_853 ks_5000 ?_
  refine c_na_int (pc := 856) (n := 76) (kc := 75) (ks := 1044603) (len := 5000) (show okA dsM [(0, 103), (0, 102), (0, 101), (0, 100), (0, 99), (0, 98), (0, 97), (0, 96), (0, 95), (0, 94), (0, 93), (0, 92), (0, 91), (0, 90), (0, 89), (0, 88), (0, 83), (0, 81), (0, 80), (0, 79), (0, 78), (0, 76), (0, 75), (0, 74), (0, 72), (0, 71), (0, 70), (0, 68), (0, 67), (0, 63), (0, 62), (0, 61), (0, 60), (0, 58), (0, 57), (0, 56), (0, 55), (0, 52), (0, 51), (0, 50), (0, 49), (0, 48), (0, 47), (0, 46), (0, 45), (0, 44), (0, 43), (0, 41), (0, 40), (0, 39), (0, 38), (0, 37), (0, 36), (0, 35), (0, 34), (0, 33), (0, 32), (0, 31), (0, 27), (0, 26), (0, 25), (0, 24), (0, 22), (0, 21), (0, 20), (0, 19), (0, 18), (0, 17), (0, 16), (0, 15), (0, 14), (0, 5), (0, 4), (0, 3), (0, 1)] 76 = true by decide +kernel) (Nat.le_of_ble_eq_true rfl) (Nat.le_of_ble_eq_true rfl) rfl rfl ac_int (by decide) (by decide) (Nat.le_of_ble_eq_true rfl) (Nat.le_of_ble_eq_true rfl) (Nat.le_of_ble_eq_true rfl) (by decide) (by decide) dX12_init_856 ?_
  refine c_putR (pc := 858) (n := 77) (kc := 76) (ks := 1049603) (k := 0) (j := 104) (t := 76) (fs := fsM) (Nat.le_of_ble_eq_true rfl) rfl rfl rfl cf12 flRX12_308 rfl (by decide) rfl rfl (fun _ => rfl) (fun _ => rfl) dX12_init_858 ?_
  refine c_aload_n (pc := 861) (n := 77) (kc := 76) (ks := 1049603) dX12_init_861 rfl 0 rfl ?_
  refine c_sipush (pc := 862) (n := 77) (kc := 76) (ks := 1049603) dX12_init_862 ks_5000 ?_
  refine c_na_int (pc := 865) (n := 77) (kc := 76) (ks := 1049603) (len := 5000) (show okA dsM [(0, 104), (0, 103), (0, 102), (0, 101), (0, 100), (0, 99), (0, 98), (0, 97), (0, 96), (0, 95), (0, 94), (0, 93), (0, 92), (0, 91), (0, 90), (0, 89), (0, 88), (0, 83), (0, 81), (0, 80), (0, 79), (0, 78), (0, 76), (0, 75), (0, 74), (0, 72), (0, 71), (0, 70), (0, 68), (0, 67), (0, 63), (0, 62), (0, 61), (0, 60), (0, 58), (0, 57), (0, 56), (0, 55), (0, 52), (0, 51), (0, 50), (0, 49), (0, 48), (0, 47), (0, 46), (0, 45), (0, 44), (0, 43), (0, 41), (0, 40), (0, 39), (0, 38), (0, 37), (0, 36), (0, 35), (0, 34), (0, 33), (0, 32), (0, 31), (0, 27), (0, 26), (0, 25), (0, 24), (0, 22), (0, 21), (0, 20), (0, 19), (0, 18), (0, 17), (0, 16), (0, 15), (0, 14), (0, 5), (0, 4), (0, 3), (0, 1)] 77 = true by decide +kernel) (Nat.le_of_ble_eq_true rfl) (Nat.le_of_ble_eq_true rfl) rfl rfl ac_int (by decide) (by decide) (Nat.le_of_ble_eq_true rfl) (Nat.le_of_ble_eq_true rfl) (Nat.le_of_ble_eq_true rfl) (by decide) (by decide) dX12_init_865 ?_
  refine c_putR (pc := 867) (n := 78) (kc := 77) (ks := 1054603) (k := 0) (j := 105) (t := 77) (fs := fsM) (Nat.le_of_ble_eq_true rfl) rfl rfl rfl cf12 flRX12_311 rfl (by decide) rfl rfl (fun _ => rfl) (fun _ => rfl) dX12_init_867 ?_
  refine c_aload_n (pc := 870) (n := 78) (kc := 77) (ks := 1054603) dX12_init_870 rfl 0 rfl ?_
  refine c_sipush (pc := 871) (n := 78) (kc := 77) (ks := 1054603) dX12_init_871 ks_5000 ?_
  refine c_na_int (pc := 874) (n := 78) (kc := 77) (ks := 1054603) (len := 5000) (show okA dsM [(0, 105), (0, 104), (0, 103), (0, 102), (0, 101), (0, 100), (0, 99), (0, 98), (0, 97), (0, 96), (0, 95), (0, 94), (0, 93), (0, 92), (0, 91), (0, 90), (0, 89), (0, 88), (0, 83), (0, 81), (0, 80), (0, 79), (0, 78), (0, 76), (0, 75), (0, 74), (0, 72), (0, 71), (0, 70), (0, 68), (0, 67), (0, 63), (0, 62), (0, 61), (0, 60), (0, 58), (0, 57), (0, 56), (0, 55), (0, 52), (0, 51), (0, 50), (0, 49), (0, 48), (0, 47), (0, 46), (0, 45), (0, 44), (0, 43), (0, 41), (0, 40), (0, 39), (0, 38), (0, 37), (0, 36), (0, 35), (0, 34), (0, 33), (0, 32), (0, 31), (0, 27), (0, 26), (0, 25), (0, 24), (0, 22), (0, 21), (0, 20), (0, 19), (0, 18), (0, 17), (0, 16), (0, 15), (0, 14), (0, 5), (0, 4), (0, 3), (0, 1)] 78 = true by decide +kernel) (Nat.le_of_ble_eq_true rfl) (Nat.le_of_ble_eq_true rfl) rfl rfl ac_int (by decide) (by decide) (Nat.le_of_ble_eq_true rfl) (Nat.le_of_ble_eq_true rfl) (Nat.le_of_ble_eq_true rfl) (by decide) (by decide) dX12_init_874 ?_
  refine c_putR (pc := 876) (n := 79) (kc := 78) (ks := 1059603) (k := 0) (j := 106) (t := 78) (fs := fsM) (Nat.le_of_ble_eq_true rfl) rfl rfl rfl cf12 flRX12_314 rfl (by decide) rfl rfl (fun _ => rfl) (fun _ => rfl) dX12_init_876 ?_
  refine c_aload_n (pc := 879) (n := 79) (kc := 78) (ks := 1059603) dX12_init_879 rfl 0 rfl ?_
  refine c_sipush (pc := 880) (n := 79) (kc := 78) (ks := 1059603) dX12_init_880 ks_24000 ?_
  refine c_na_int (pc := 883) (n := 79) (kc := 78) (ks := 1059603) (len := 24000) (show okA dsM [(0, 106), (0, 105), (0, 104), (0, 103), (0, 102), (0, 101), (0, 100), (0, 99), (0, 98), (0, 97), (0, 96), (0, 95), (0, 94), (0, 93), (0, 92), (0, 91), (0, 90), (0, 89), (0, 88), (0, 83), (0, 81), (0, 80), (0, 79), (0, 78), (0, 76), (0, 75), (0, 74), (0, 72), (0, 71), (0, 70), (0, 68), (0, 67), (0, 63), (0, 62), (0, 61), (0, 60), (0, 58), (0, 57), (0, 56), (0, 55), (0, 52), (0, 51), (0, 50), (0, 49), (0, 48), (0, 47), (0, 46), (0, 45), (0, 44), (0, 43), (0, 41), (0, 40), (0, 39), (0, 38), (0, 37), (0, 36), (0, 35), (0, 34), (0, 33), (0, 32), (0, 31), (0, 27), (0, 26), (0, 25), (0, 24), (0, 22), (0, 21), (0, 20), (0, 19), (0, 18), (0, 17), (0, 16), (0, 15), (0, 14), (0, 5), (0, 4), (0, 3), (0, 1)] 79 = true by decide +kernel) (Nat.le_of_ble_eq_true rfl) (Nat.le_of_ble_eq_true rfl) rfl rfl ac_int (by decide) (by decide) (Nat.le_of_ble_eq_true rfl) (Nat.le_of_ble_eq_true rfl) (Nat.le_of_ble_eq_true rfl) (by decide) (by decide) dX12_init_883 ?_
  refine c_putR (pc := 885) (n := 80) (kc := 79) (ks := 1083603) (k := 0) (j := 107) (t := 79) (fs := fsM) (Nat.le_of_ble_eq_true rfl) rfl rfl rfl cf12 flRX12_317 rfl (by decide) rfl rfl (fun _ => rfl) (fun _ => rfl) dX12_init_885 ?_
  refine c_aload_n (pc := 888) (n := 80) (kc := 79) (ks := 1083603) dX12_init_888 rfl 0 rfl ?_
  refine c_sipush (pc := 889) (n := 80) (kc := 79) (ks := 1083603) dX12_init_889 ks_9000 ?_
  refine c_na_int (pc := 892) (n := 80) (kc := 79) (ks := 1083603) (len := 9000) (show okA dsM [(0, 107), (0, 106), (0, 105), (0, 104), (0, 103), (0, 102), (0, 101), (0, 100), (0, 99), (0, 98), (0, 97), (0, 96), (0, 95), (0, 94), (0, 93), (0, 92), (0, 91), (0, 90), (0, 89), (0, 88), (0, 83), (0, 81), (0, 80), (0, 79), (0, 78), (0, 76), (0, 75), (0, 74), (0, 72), (0, 71), (0, 70), (0, 68), (0, 67), (0, 63), (0, 62), (0, 61), (0, 60), (0, 58), (0, 57), (0, 56), (0, 55), (0, 52), (0, 51), (0, 50), (0, 49), (0, 48), (0, 47), (0, 46), (0, 45), (0, 44), (0, 43), (0, 41), (0, 40), (0, 39), (0, 38), (0, 37), (0, 36), (0, 35), (0, 34), (0, 33), (0, 32), (0, 31), (0, 27), (0, 26), (0, 25), (0, 24), (0, 22), (0, 21), (0, 20), (0, 19), (0, 18), (0, 17), (0, 16), (0, 15), (0, 14), (0, 5), (0, 4), (0, 3), (0, 1)] 80 = true by decide +kernel) (Nat.le_of_ble_eq_true rfl) (Nat.le_of_ble_eq_true rfl) rfl rfl ac_int (by decide) (by decide) (Nat.le_of_ble_eq_true rfl) (Nat.le_of_ble_eq_true rfl) (Nat.le_of_ble_eq_true rfl) (by decide) (by decide) dX12_init_892 ?_
  refine c_putR (pc := 894) (n := 81) (kc := 80) (ks := 1092603) (k := 0) (j := 108) (t := 80) (fs := fsM) (Nat.le_of_ble_eq_true rfl) rfl rfl rfl cf12 flRX12_320 rfl (by decide) rfl rfl (fun _ => rfl) (fun _ => rfl) dX12_init_894 ?_
  refine c_aload_n (pc := 897) (n := 81) (kc := 80) (ks := 1092603) dX12_init_897 rfl 0 rfl ?_
  refine c_sipush (pc := 898) (n := 81) (kc := 80) (ks := 1092603) dX12_init_898 ks_9000 ?_
  refine c_na_int (pc := 901) (n := 81) (kc := 80) (ks := 1092603) (len := 9000) (show okA dsM [(0, 108), (0, 107), (0, 106), (0, 105), (0, 104), (0, 103), (0, 102), (0, 101), (0, 100), (0, 99), (0, 98), (0, 97), (0, 96), (0, 95), (0, 94), (0, 93), (0, 92), (0, 91), (0, 90), (0, 89), (0, 88), (0, 83), (0, 81), (0, 80), (0, 79), (0, 78), (0, 76), (0, 75), (0, 74), (0, 72), (0, 71), (0, 70), (0, 68), (0, 67), (0, 63), (0, 62), (0, 61), (0, 60), (0, 58), (0, 57), (0, 56), (0, 55), (0, 52), (0, 51), (0, 50), (0, 49), (0, 48), (0, 47), (0, 46), (0, 45), (0, 44), (0, 43), (0, 41), (0, 40), (0, 39), (0, 38), (0, 37), (0, 36), (0, 35), (0, 34), (0, 33), (0, 32), (0, 31), (0, 27), (0, 26), (0, 25), (0, 24), (0, 22), (0, 21), (0, 20), (0, 19), (0, 18), (0, 17), (0, 16), (0, 15), (0, 14), (0, 5), (0, 4), (0, 3), (0, 1)] 81 = true by decide +kernel) (Nat.le_of_ble_eq_true rfl) (Nat.le_of_ble_eq_true rfl) rfl rfl ac_int (by decide) (by decide) (Nat.le_of_ble_eq_true rfl) (Nat.le_of_ble_eq_true rfl) (Nat.le_of_ble_eq_true rfl) (by decide) (by decide) dX12_init_901 ?_
  refine c_putR (pc := 903) (n := 82) (kc := 81) (ks := 1101603) (k := 0) (j := 109) (t := 81) (fs := fsM) (Nat.le_of_ble_eq_true rfl) rfl rfl rfl cf12 flRX12_323 rfl (by decide) rfl rfl (fun _ => rfl) (fun _ => rfl) dX12_init_903 ?_
  refine c_aload_n (pc := 906) (n := 82) (kc := 81) (ks := 1101603) dX12_init_906 rfl 0 rfl ?_
  refine c_sipush (pc := 907) (n := 82) (kc := 81) (ks := 1101603) dX12_init_907 ks_5000 ?_
  refine c_na_int (pc := 910) (n := 82) (kc := 81) (ks := 1101603) (len := 5000) (show okA dsM [(0, 109), (0, 108), (0, 107), (0, 106), (0, 105), (0, 104), (0, 103), (0, 102), (0, 101), (0, 100), (0, 99), (0, 98), (0, 97), (0, 96), (0, 95), (0, 94), (0, 93), (0, 92), (0, 91), (0, 90), (0, 89), (0, 88), (0, 83), (0, 81), (0, 80), (0, 79), (0, 78), (0, 76), (0, 75), (0, 74), (0, 72), (0, 71), (0, 70), (0, 68), (0, 67), (0, 63), (0, 62), (0, 61), (0, 60), (0, 58), (0, 57), (0, 56), (0, 55), (0, 52), (0, 51), (0, 50), (0, 49), (0, 48), (0, 47), (0, 46), (0, 45), (0, 44), (0, 43), (0, 41), (0, 40), (0, 39), (0, 38), (0, 37), (0, 36), (0, 35), (0, 34), (0, 33), (0, 32), (0, 31), (0, 27), (0, 26), (0, 25), (0, 24), (0, 22), (0, 21), (0, 20), (0, 19), (0, 18), (0, 17), (0, 16), (0, 15), (0, 14), (0, 5), (0, 4), (0, 3), (0, 1)] 82 = true by decide +kernel) (Nat.le_of_ble_eq_true rfl) (Nat.le_of_ble_eq_true rfl) rfl rfl ac_int (by decide) (by decide) (Nat.le_of_ble_eq_true rfl) (Nat.le_of_ble_eq_true rfl) (Nat.le_of_ble_eq_true rfl) (by decide) (by decide) dX12_init_910 ?_
  refine c_putR (pc := 912) (n := 83) (kc := 82) (ks := 1106603) (k := 0) (j := 110) (t := 82) (fs := fsM) (Nat.le_of_ble_eq_true rfl) rfl rfl rfl cf12 flRX12_326 rfl (by decide) rfl rfl (fun _ => rfl) (fun _ => rfl) dX12_init_912 ?_
  refine c_aload_n (pc := 915) (n := 83) (kc := 82) (ks := 1106603) dX12_init_915 rfl 0 rfl ?_
  refine c_ldcw (pc := 916) (n := 83) (kc := 82) (ks := 1106603) dX12_init_916 kcRX12_329 ?_
  refine c_na_long (pc := 919) (n := 83) (kc := 82) (ks := 1106603) (len := 200000) (show okA dsM [(0, 110), (0, 109), (0, 108), (0, 107), (0, 106), (0, 105), (0, 104), (0, 103), (0, 102), (0, 101), (0, 100), (0, 99), (0, 98), (0, 97), (0, 96), (0, 95), (0, 94), (0, 93), (0, 92), (0, 91), (0, 90), (0, 89), (0, 88), (0, 83), (0, 81), (0, 80), (0, 79), (0, 78), (0, 76), (0, 75), (0, 74), (0, 72), (0, 71), (0, 70), (0, 68), (0, 67), (0, 63), (0, 62), (0, 61), (0, 60), (0, 58), (0, 57), (0, 56), (0, 55), (0, 52), (0, 51), (0, 50), (0, 49), (0, 48), (0, 47), (0, 46), (0, 45), (0, 44), (0, 43), (0, 41), (0, 40), (0, 39), (0, 38), (0, 37), (0, 36), (0, 35), (0, 34), (0, 33), (0, 32), (0, 31), (0, 27), (0, 26), (0, 25), (0, 24), (0, 22), (0, 21), (0, 20), (0, 19), (0, 18), (0, 17), (0, 16), (0, 15), (0, 14), (0, 5), (0, 4), (0, 3), (0, 1)] 83 = true by decide +kernel) (Nat.le_of_ble_eq_true rfl) (Nat.le_of_ble_eq_true rfl) rfl rfl ac_long (by decide) (by decide) (Nat.le_of_ble_eq_true rfl) (Nat.le_of_ble_eq_true rfl) (Nat.le_of_ble_eq_true rfl) (by decide) (by decide) dX12_init_919 ?_
  refine c_putR (pc := 921) (n := 84) (kc := 83) (ks := 1306603) (k := 0) (j := 112) (t := 83) (fs := fsM) (Nat.le_of_ble_eq_true rfl) rfl rfl rfl cf12 flRX12_330 rfl (by decide) rfl rfl (fun _ => rfl) (fun _ => rfl) dX12_init_921 ?_
  refine c_aload_n (pc := 924) (n := 84) (kc := 83) (ks := 1306603) dX12_init_924 rfl 0 rfl ?_
  refine c_sipush (pc := 925) (n := 84) (kc := 83) (ks := 1306603) dX12_init_925 ks_2000 ?_
  refine c_na_long (pc := 928) (n := 84) (kc := 83) (ks := 1306603) (len := 2000) (show okA dsM [(0, 112), (0, 110), (0, 109), (0, 108), (0, 107), (0, 106), (0, 105), (0, 104), (0, 103), (0, 102), (0, 101), (0, 100), (0, 99), (0, 98), (0, 97), (0, 96), (0, 95), (0, 94), (0, 93), (0, 92), (0, 91), (0, 90), (0, 89), (0, 88), (0, 83), (0, 81), (0, 80), (0, 79), (0, 78), (0, 76), (0, 75), (0, 74), (0, 72), (0, 71), (0, 70), (0, 68), (0, 67), (0, 63), (0, 62), (0, 61), (0, 60), (0, 58), (0, 57), (0, 56), (0, 55), (0, 52), (0, 51), (0, 50), (0, 49), (0, 48), (0, 47), (0, 46), (0, 45), (0, 44), (0, 43), (0, 41), (0, 40), (0, 39), (0, 38), (0, 37), (0, 36), (0, 35), (0, 34), (0, 33), (0, 32), (0, 31), (0, 27), (0, 26), (0, 25), (0, 24), (0, 22), (0, 21), (0, 20), (0, 19), (0, 18), (0, 17), (0, 16), (0, 15), (0, 14), (0, 5), (0, 4), (0, 3), (0, 1)] 84 = true by decide +kernel) (Nat.le_of_ble_eq_true rfl) (Nat.le_of_ble_eq_true rfl) rfl rfl ac_long (by decide) (by decide) (Nat.le_of_ble_eq_true rfl) (Nat.le_of_ble_eq_true rfl) (Nat.le_of_ble_eq_true rfl) (by decide) (by decide) dX12_init_928 ?_
  refine c_putR (pc := 930) (n := 85) (kc := 84) (ks := 1308603) (k := 0) (j := 113) (t := 84) (fs := fsM) (Nat.le_of_ble_eq_true rfl) rfl rfl rfl cf12 flRX12_333 rfl (by decide) rfl rfl (fun _ => rfl) (fun _ => rfl) dX12_init_930 ?_
  refine c_aload_n (pc := 933) (n := 85) (kc := 84) (ks := 1308603) dX12_init_933 rfl 0 rfl ?_
  refine c_ldcw (pc := 934) (n := 85) (kc := 84) (ks := 1308603) dX12_init_934 kcRX12_329 ?_
  refine c_na_long (pc := 937) (n := 85) (kc := 84) (ks := 1308603) (len := 200000) (show okA dsM [(0, 113), (0, 112), (0, 110), (0, 109), (0, 108), (0, 107), (0, 106), (0, 105), (0, 104), (0, 103), (0, 102), (0, 101), (0, 100), (0, 99), (0, 98), (0, 97), (0, 96), (0, 95), (0, 94), (0, 93), (0, 92), (0, 91), (0, 90), (0, 89), (0, 88), (0, 83), (0, 81), (0, 80), (0, 79), (0, 78), (0, 76), (0, 75), (0, 74), (0, 72), (0, 71), (0, 70), (0, 68), (0, 67), (0, 63), (0, 62), (0, 61), (0, 60), (0, 58), (0, 57), (0, 56), (0, 55), (0, 52), (0, 51), (0, 50), (0, 49), (0, 48), (0, 47), (0, 46), (0, 45), (0, 44), (0, 43), (0, 41), (0, 40), (0, 39), (0, 38), (0, 37), (0, 36), (0, 35), (0, 34), (0, 33), (0, 32), (0, 31), (0, 27), (0, 26), (0, 25), (0, 24), (0, 22), (0, 21), (0, 20), (0, 19), (0, 18), (0, 17), (0, 16), (0, 15), (0, 14), (0, 5), (0, 4), (0, 3), (0, 1)] 85 = true by decide +kernel) (Nat.le_of_ble_eq_true rfl) (Nat.le_of_ble_eq_true rfl) rfl rfl ac_long (by decide) (by decide) (Nat.le_of_ble_eq_true rfl) (Nat.le_of_ble_eq_true rfl) (Nat.le_of_ble_eq_true rfl) (by decide) (by decide) dX12_init_937 ?_
  refine c_putR (pc := 939) (n := 86) (kc := 85) (ks := 1508603) (k := 0) (j := 114) (t := 85) (fs := fsM) (Nat.le_of_ble_eq_true rfl) rfl rfl rfl cf12 flRX12_336 rfl (by decide) rfl rfl (fun _ => rfl) (fun _ => rfl) dX12_init_939 ?_
  refine c_aload_n (pc := 942) (n := 86) (kc := 85) (ks := 1508603) dX12_init_942 rfl 0 rfl ?_
  refine c_sipush (pc := 943) (n := 86) (kc := 85) (ks := 1508603) dX12_init_943 ks_500 ?_
  refine c_na_long (pc := 946) (n := 86) (kc := 85) (ks := 1508603) (len := 500) (show okA dsM [(0, 114), (0, 113), (0, 112), (0, 110), (0, 109), (0, 108), (0, 107), (0, 106), (0, 105), (0, 104), (0, 103), (0, 102), (0, 101), (0, 100), (0, 99), (0, 98), (0, 97), (0, 96), (0, 95), (0, 94), (0, 93), (0, 92), (0, 91), (0, 90), (0, 89), (0, 88), (0, 83), (0, 81), (0, 80), (0, 79), (0, 78), (0, 76), (0, 75), (0, 74), (0, 72), (0, 71), (0, 70), (0, 68), (0, 67), (0, 63), (0, 62), (0, 61), (0, 60), (0, 58), (0, 57), (0, 56), (0, 55), (0, 52), (0, 51), (0, 50), (0, 49), (0, 48), (0, 47), (0, 46), (0, 45), (0, 44), (0, 43), (0, 41), (0, 40), (0, 39), (0, 38), (0, 37), (0, 36), (0, 35), (0, 34), (0, 33), (0, 32), (0, 31), (0, 27), (0, 26), (0, 25), (0, 24), (0, 22), (0, 21), (0, 20), (0, 19), (0, 18), (0, 17), (0, 16), (0, 15), (0, 14), (0, 5), (0, 4), (0, 3), (0, 1)] 86 = true by decide +kernel) (Nat.le_of_ble_eq_true rfl) (Nat.le_of_ble_eq_true rfl) rfl rfl ac_long (by decide) (by decide) (Nat.le_of_ble_eq_true rfl) (Nat.le_of_ble_eq_true rfl) (Nat.le_of_ble_eq_true rfl) (by decide) (by decide) dX12_init_946 ?_
  refine c_putR (pc := 948) (n := 87) (kc := 86) (ks := 1509103) (k := 0) (j := 115) (t := 86) (fs := fsM) (Nat.le_of_ble_eq_true rfl) rfl rfl rfl cf12 flRX12_339 rfl (by decide) rfl rfl (fun _ => rfl) (fun _ => rfl) dX12_init_948 ?_
  refine c_aload_n (pc := 951) (n := 87) (kc := 86) (ks := 1509103) dX12_init_951 rfl 0 rfl ?_
  refine c_bipush (pc := 952) (n := 87) (kc := 86) (ks := 1509103) dX12_init_952 kb_64 ?_
  refine c_na_int (pc := 954) (n := 87) (kc := 86) (ks := 1509103) (len := 64) (show okA dsM [(0, 115), (0, 114), (0, 113), (0, 112), (0, 110), (0, 109), (0, 108), (0, 107), (0, 106), (0, 105), (0, 104), (0, 103), (0, 102), (0, 101), (0, 100), (0, 99), (0, 98), (0, 97), (0, 96), (0, 95), (0, 94), (0, 93), (0, 92), (0, 91), (0, 90), (0, 89), (0, 88), (0, 83), (0, 81), (0, 80), (0, 79), (0, 78), (0, 76), (0, 75), (0, 74), (0, 72), (0, 71), (0, 70), (0, 68), (0, 67), (0, 63), (0, 62), (0, 61), (0, 60), (0, 58), (0, 57), (0, 56), (0, 55), (0, 52), (0, 51), (0, 50), (0, 49), (0, 48), (0, 47), (0, 46), (0, 45), (0, 44), (0, 43), (0, 41), (0, 40), (0, 39), (0, 38), (0, 37), (0, 36), (0, 35), (0, 34), (0, 33), (0, 32), (0, 31), (0, 27), (0, 26), (0, 25), (0, 24), (0, 22), (0, 21), (0, 20), (0, 19), (0, 18), (0, 17), (0, 16), (0, 15), (0, 14), (0, 5), (0, 4), (0, 3), (0, 1)] 87 = true by decide +kernel) (Nat.le_of_ble_eq_true rfl) (Nat.le_of_ble_eq_true rfl) rfl rfl ac_int (by decide) (by decide) (Nat.le_of_ble_eq_true rfl) (Nat.le_of_ble_eq_true rfl) (Nat.le_of_ble_eq_true rfl) (by decide) (by decide) dX12_init_954 ?_
  refine c_putR (pc := 956) (n := 88) (kc := 87) (ks := 1509167) (k := 0) (j := 116) (t := 87) (fs := fsM) (Nat.le_of_ble_eq_true rfl) rfl rfl rfl cf12 flRX12_342 rfl (by decide) rfl rfl (fun _ => rfl) (fun _ => rfl) dX12_init_956 ?_
  refine c_aload_n (pc := 959) (n := 88) (kc := 87) (ks := 1509167) dX12_init_959 rfl 0 rfl ?_
  refine c_bipush (pc := 960) (n := 88) (kc := 87) (ks := 1509167) dX12_init_960 kb_64 ?_
  refine c_na_int (pc := 962) (n := 88) (kc := 87) (ks := 1509167) (len := 64) (show okA dsM [(0, 116), (0, 115), (0, 114), (0, 113), (0, 112), (0, 110), (0, 109), (0, 108), (0, 107), (0, 106), (0, 105), (0, 104), (0, 103), (0, 102), (0, 101), (0, 100), (0, 99), (0, 98), (0, 97), (0, 96), (0, 95), (0, 94), (0, 93), (0, 92), (0, 91), (0, 90), (0, 89), (0, 88), (0, 83), (0, 81), (0, 80), (0, 79), (0, 78), (0, 76), (0, 75), (0, 74), (0, 72), (0, 71), (0, 70), (0, 68), (0, 67), (0, 63), (0, 62), (0, 61), (0, 60), (0, 58), (0, 57), (0, 56), (0, 55), (0, 52), (0, 51), (0, 50), (0, 49), (0, 48), (0, 47), (0, 46), (0, 45), (0, 44), (0, 43), (0, 41), (0, 40), (0, 39), (0, 38), (0, 37), (0, 36), (0, 35), (0, 34), (0, 33), (0, 32), (0, 31), (0, 27), (0, 26), (0, 25), (0, 24), (0, 22), (0, 21), (0, 20), (0, 19), (0, 18), (0, 17), (0, 16), (0, 15), (0, 14), (0, 5), (0, 4), (0, 3), (0, 1)] 88 = true by decide +kernel) (Nat.le_of_ble_eq_true rfl) (Nat.le_of_ble_eq_true rfl) rfl rfl ac_int (by decide) (by decide) (Nat.le_of_ble_eq_true rfl) (Nat.le_of_ble_eq_true rfl) (Nat.le_of_ble_eq_true rfl) (by decide) (by decide) dX12_init_962 ?_
  refine c_putR (pc := 964) (n := 89) (kc := 88) (ks := 1509231) (k := 0) (j := 117) (t := 88) (fs := fsM) (Nat.le_of_ble_eq_true rfl) rfl rfl rfl cf12 flRX12_345 rfl (by decide) rfl rfl (fun _ => rfl) (fun _ => rfl) dX12_init_964 ?_
  refine c_aload_n (pc := 967) (n := 89) (kc := 88) (ks := 1509231) dX12_init_967 rfl 0 rfl ?_
  refine c_bipush (pc := 968) (n := 89) (kc := 88) (ks := 1509231) dX12_init_968 kb_64 ?_
  refine c_na_int (pc := 970) (n := 89) (kc := 88) (ks := 1509231) (len := 64) (show okA dsM [(0, 117), (0, 116), (0, 115), (0, 114), (0, 113), (0, 112), (0, 110), (0, 109), (0, 108), (0, 107), (0, 106), (0, 105), (0, 104), (0, 103), (0, 102), (0, 101), (0, 100), (0, 99), (0, 98), (0, 97), (0, 96), (0, 95), (0, 94), (0, 93), (0, 92), (0, 91), (0, 90), (0, 89), (0, 88), (0, 83), (0, 81), (0, 80), (0, 79), (0, 78), (0, 76), (0, 75), (0, 74), (0, 72), (0, 71), (0, 70), (0, 68), (0, 67), (0, 63), (0, 62), (0, 61), (0, 60), (0, 58), (0, 57), (0, 56), (0, 55), (0, 52), (0, 51), (0, 50), (0, 49), (0, 48), (0, 47), (0, 46), (0, 45), (0, 44), (0, 43), (0, 41), (0, 40), (0, 39), (0, 38), (0, 37), (0, 36), (0, 35), (0, 34), (0, 33), (0, 32), (0, 31), (0, 27), (0, 26), (0, 25), (0, 24), (0, 22), (0, 21), (0, 20), (0, 19), (0, 18), (0, 17), (0, 16), (0, 15), (0, 14), (0, 5), (0, 4), (0, 3), (0, 1)] 89 = true by decide +kernel) (Nat.le_of_ble_eq_true rfl) (Nat.le_of_ble_eq_true rfl) rfl rfl ac_int (by decide) (by decide) (Nat.le_of_ble_eq_true rfl) (Nat.le_of_ble_eq_true rfl) (Nat.le_of_ble_eq_true rfl) (by decide) (by decide) dX12_init_970 ?_
  refine c_putR (pc := 972) (n := 90) (kc := 89) (ks := 1509295) (k := 0) (j := 118) (t := 89) (fs := fsM) (Nat.le_of_ble_eq_true rfl) rfl rfl rfl cf12 flRX12_348 rfl (by decide) rfl rfl (fun _ => rfl) (fun _ => rfl) dX12_init_972 ?_
  refine c_aload_n (pc := 975) (n := 90) (kc := 89) (ks := 1509295) dX12_init_975 rfl 0 rfl ?_
  refine c_bipush (pc := 976) (n := 90) (kc := 89) (ks := 1509295) dX12_init_976 kb_64 ?_
  refine c_na_int (pc := 978) (n := 90) (kc := 89) (ks := 1509295) (len := 64) (show okA dsM [(0, 118), (0, 117), (0, 116), (0, 115), (0, 114), (0, 113), (0, 112), (0, 110), (0, 109), (0, 108), (0, 107), (0, 106), (0, 105), (0, 104), (0, 103), (0, 102), (0, 101), (0, 100), (0, 99), (0, 98), (0, 97), (0, 96), (0, 95), (0, 94), (0, 93), (0, 92), (0, 91), (0, 90), (0, 89), (0, 88), (0, 83), (0, 81), (0, 80), (0, 79), (0, 78), (0, 76), (0, 75), (0, 74), (0, 72), (0, 71), (0, 70), (0, 68), (0, 67), (0, 63), (0, 62), (0, 61), (0, 60), (0, 58), (0, 57), (0, 56), (0, 55), (0, 52), (0, 51), (0, 50), (0, 49), (0, 48), (0, 47), (0, 46), (0, 45), (0, 44), (0, 43), (0, 41), (0, 40), (0, 39), (0, 38), (0, 37), (0, 36), (0, 35), (0, 34), (0, 33), (0, 32), (0, 31), (0, 27), (0, 26), (0, 25), (0, 24), (0, 22), (0, 21), (0, 20), (0, 19), (0, 18), (0, 17), (0, 16), (0, 15), (0, 14), (0, 5), (0, 4), (0, 3), (0, 1)] 90 = true by decide +kernel) (Nat.le_of_ble_eq_true rfl) (Nat.le_of_ble_eq_true rfl) rfl rfl ac_int (by decide) (by decide) (Nat.le_of_ble_eq_true rfl) (Nat.le_of_ble_eq_true rfl) (Nat.le_of_ble_eq_true rfl) (by decide) (by decide) dX12_init_978 ?_
  refine c_putR (pc := 980) (n := 91) (kc := 90) (ks := 1509359) (k := 0) (j := 119) (t := 90) (fs := fsM) (Nat.le_of_ble_eq_true rfl) rfl rfl rfl cf12 flRX12_351 rfl (by decide) rfl rfl (fun _ => rfl) (fun _ => rfl) dX12_init_980 ?_
  refine c_aload_n (pc := 983) (n := 91) (kc := 90) (ks := 1509359) dX12_init_983 rfl 0 rfl ?_
  refine c_bipush (pc := 984) (n := 91) (kc := 90) (ks := 1509359) dX12_init_984 kb_64 ?_
  refine c_na_int (pc := 986) (n := 91) (kc := 90) (ks := 1509359) (len := 64) (show okA dsM [(0, 119), (0, 118), (0, 117), (0, 116), (0, 115), (0, 114), (0, 113), (0, 112), (0, 110), (0, 109), (0, 108), (0, 107), (0, 106), (0, 105), (0, 104), (0, 103), (0, 102), (0, 101), (0, 100), (0, 99), (0, 98), (0, 97), (0, 96), (0, 95), (0, 94), (0, 93), (0, 92), (0, 91), (0, 90), (0, 89), (0, 88), (0, 83), (0, 81), (0, 80), (0, 79), (0, 78), (0, 76), (0, 75), (0, 74), (0, 72), (0, 71), (0, 70), (0, 68), (0, 67), (0, 63), (0, 62), (0, 61), (0, 60), (0, 58), (0, 57), (0, 56), (0, 55), (0, 52), (0, 51), (0, 50), (0, 49), (0, 48), (0, 47), (0, 46), (0, 45), (0, 44), (0, 43), (0, 41), (0, 40), (0, 39), (0, 38), (0, 37), (0, 36), (0, 35), (0, 34), (0, 33), (0, 32), (0, 31), (0, 27), (0, 26), (0, 25), (0, 24), (0, 22), (0, 21), (0, 20), (0, 19), (0, 18), (0, 17), (0, 16), (0, 15), (0, 14), (0, 5), (0, 4), (0, 3), (0, 1)] 91 = true by decide +kernel) (Nat.le_of_ble_eq_true rfl) (Nat.le_of_ble_eq_true rfl) rfl rfl ac_int (by decide) (by decide) (Nat.le_of_ble_eq_true rfl) (Nat.le_of_ble_eq_true rfl) (Nat.le_of_ble_eq_true rfl) (by decide) (by decide) dX12_init_986 ?_
  refine c_putR (pc := 988) (n := 92) (kc := 91) (ks := 1509423) (k := 0) (j := 120) (t := 91) (fs := fsM) (Nat.le_of_ble_eq_true rfl) rfl rfl rfl cf12 flRX12_354 rfl (by decide) rfl rfl (fun _ => rfl) (fun _ => rfl) dX12_init_988 ?_
  refine c_aload_n (pc := 991) (n := 92) (kc := 91) (ks := 1509423) dX12_init_991 rfl 0 rfl ?_
  refine c_sipush (pc := 992) (n := 92) (kc := 91) (ks := 1509423) dX12_init_992 ks_1000 ?_
  refine c_na_int (pc := 995) (n := 92) (kc := 91) (ks := 1509423) (len := 1000) (show okA dsM [(0, 120), (0, 119), (0, 118), (0, 117), (0, 116), (0, 115), (0, 114), (0, 113), (0, 112), (0, 110), (0, 109), (0, 108), (0, 107), (0, 106), (0, 105), (0, 104), (0, 103), (0, 102), (0, 101), (0, 100), (0, 99), (0, 98), (0, 97), (0, 96), (0, 95), (0, 94), (0, 93), (0, 92), (0, 91), (0, 90), (0, 89), (0, 88), (0, 83), (0, 81), (0, 80), (0, 79), (0, 78), (0, 76), (0, 75), (0, 74), (0, 72), (0, 71), (0, 70), (0, 68), (0, 67), (0, 63), (0, 62), (0, 61), (0, 60), (0, 58), (0, 57), (0, 56), (0, 55), (0, 52), (0, 51), (0, 50), (0, 49), (0, 48), (0, 47), (0, 46), (0, 45), (0, 44), (0, 43), (0, 41), (0, 40), (0, 39), (0, 38), (0, 37), (0, 36), (0, 35), (0, 34), (0, 33), (0, 32), (0, 31), (0, 27), (0, 26), (0, 25), (0, 24), (0, 22), (0, 21), (0, 20), (0, 19), (0, 18), (0, 17), (0, 16), (0, 15), (0, 14), (0, 5), (0, 4), (0, 3), (0, 1)] 92 = true by decide +kernel) (Nat.le_of_ble_eq_true rfl) (Nat.le_of_ble_eq_true rfl) rfl rfl ac_int (by decide) (by decide) (Nat.le_of_ble_eq_true rfl) (Nat.le_of_ble_eq_true rfl) (Nat.le_of_ble_eq_true rfl) (by decide) (by decide) dX12_init_995 ?_
  refine c_putR (pc := 997) (n := 93) (kc := 92) (ks := 1510423) (k := 0) (j := 121) (t := 92) (fs := fsM) (Nat.le_of_ble_eq_true rfl) rfl rfl rfl cf12 flRX12_357 rfl (by decide) rfl rfl (fun _ => rfl) (fun _ => rfl) dX12_init_997 ?_
  refine c_aload_n (pc := 1000) (n := 93) (kc := 92) (ks := 1510423) dX12_init_1000 rfl 0 rfl ?_
  refine c_sipush (pc := 1001) (n := 93) (kc := 92) (ks := 1510423) dX12_init_1001 ks_1000 ?_
  refine c_na_int (pc := 1004) (n := 93) (kc := 92) (ks := 1510423) (len := 1000) (show okA dsM [(0, 121), (0, 120), (0, 119), (0, 118), (0, 117), (0, 116), (0, 115), (0, 114), (0, 113), (0, 112), (0, 110), (0, 109), (0, 108), (0, 107), (0, 106), (0, 105), (0, 104), (0, 103), (0, 102), (0, 101), (0, 100), (0, 99), (0, 98), (0, 97), (0, 96), (0, 95), (0, 94), (0, 93), (0, 92), (0, 91), (0, 90), (0, 89), (0, 88), (0, 83), (0, 81), (0, 80), (0, 79), (0, 78), (0, 76), (0, 75), (0, 74), (0, 72), (0, 71), (0, 70), (0, 68), (0, 67), (0, 63), (0, 62), (0, 61), (0, 60), (0, 58), (0, 57), (0, 56), (0, 55), (0, 52), (0, 51), (0, 50), (0, 49), (0, 48), (0, 47), (0, 46), (0, 45), (0, 44), (0, 43), (0, 41), (0, 40), (0, 39), (0, 38), (0, 37), (0, 36), (0, 35), (0, 34), (0, 33), (0, 32), (0, 31), (0, 27), (0, 26), (0, 25), (0, 24), (0, 22), (0, 21), (0, 20), (0, 19), (0, 18), (0, 17), (0, 16), (0, 15), (0, 14), (0, 5), (0, 4), (0, 3), (0, 1)] 93 = true by decide +kernel) (Nat.le_of_ble_eq_true rfl) (Nat.le_of_ble_eq_true rfl) rfl rfl ac_int (by decide) (by decide) (Nat.le_of_ble_eq_true rfl) (Nat.le_of_ble_eq_true rfl) (Nat.le_of_ble_eq_true rfl) (by decide) (by decide) dX12_init_1004 ?_
  refine c_putR (pc := 1006) (n := 94) (kc := 93) (ks := 1511423) (k := 0) (j := 122) (t := 93) (fs := fsM) (Nat.le_of_ble_eq_true rfl) rfl rfl rfl cf12 flRX12_360 rfl (by decide) rfl rfl (fun _ => rfl) (fun _ => rfl) dX12_init_1006 ?_
  refine c_aload_n (pc := 1009) (n := 94) (kc := 93) (ks := 1511423) dX12_init_1009 rfl 0 rfl ?_
  refine c_sipush (pc := 1010) (n := 94) (kc := 93) (ks := 1511423) dX12_init_1010 ks_1000 ?_
  refine c_na_int (pc := 1013) (n := 94) (kc := 93) (ks := 1511423) (len := 1000) (show okA dsM [(0, 122), (0, 121), (0, 120), (0, 119), (0, 118), (0, 117), (0, 116), (0, 115), (0, 114), (0, 113), (0, 112), (0, 110), (0, 109), (0, 108), (0, 107), (0, 106), (0, 105), (0, 104), (0, 103), (0, 102), (0, 101), (0, 100), (0, 99), (0, 98), (0, 97), (0, 96), (0, 95), (0, 94), (0, 93), (0, 92), (0, 91), (0, 90), (0, 89), (0, 88), (0, 83), (0, 81), (0, 80), (0, 79), (0, 78), (0, 76), (0, 75), (0, 74), (0, 72), (0, 71), (0, 70), (0, 68), (0, 67), (0, 63), (0, 62), (0, 61), (0, 60), (0, 58), (0, 57), (0, 56), (0, 55), (0, 52), (0, 51), (0, 50), (0, 49), (0, 48), (0, 47), (0, 46), (0, 45), (0, 44), (0, 43), (0, 41), (0, 40), (0, 39), (0, 38), (0, 37), (0, 36), (0, 35), (0, 34), (0, 33), (0, 32), (0, 31), (0, 27), (0, 26), (0, 25), (0, 24), (0, 22), (0, 21), (0, 20), (0, 19), (0, 18), (0, 17), (0, 16), (0, 15), (0, 14), (0, 5), (0, 4), (0, 3), (0, 1)] 94 = true by decide +kernel) (Nat.le_of_ble_eq_true rfl) (Nat.le_of_ble_eq_true rfl) rfl rfl ac_int (by decide) (by decide) (Nat.le_of_ble_eq_true rfl) (Nat.le_of_ble_eq_true rfl) (Nat.le_of_ble_eq_true rfl) (by decide) (by decide) dX12_init_1013 ?_
  refine c_putR (pc := 1015) (n := 95) (kc := 94) (ks := 1512423) (k := 0) (j := 123) (t := 94) (fs := fsM) (Nat.le_of_ble_eq_true rfl) rfl rfl rfl cf12 flRX12_363 rfl (by decide) rfl rfl (fun _ => rfl) (fun _ => rfl) dX12_init_1015 ?_
  refine c_aload_n (pc := 1018) (n := 95) (kc := 94) (ks := 1512423) dX12_init_1018 rfl 0 rfl ?_
  refine c_sipush (pc := 1019) (n := 95) (kc := 94) (ks := 1512423) dX12_init_1019 ks_1000 ?_
  refine c_na_int (pc := 1022) (n := 95) (kc := 94) (ks := 1512423) (len := 1000) (show okA dsM [(0, 123), (0, 122), (0, 121), (0, 120), (0, 119), (0, 118), (0, 117), (0, 116), (0, 115), (0, 114), (0, 113), (0, 112), (0, 110), (0, 109), (0, 108), (0, 107), (0, 106), (0, 105), (0, 104), (0, 103), (0, 102), (0, 101), (0, 100), (0, 99), (0, 98), (0, 97), (0, 96), (0, 95), (0, 94), (0, 93), (0, 92), (0, 91), (0, 90), (0, 89), (0, 88), (0, 83), (0, 81), (0, 80), (0, 79), (0, 78), (0, 76), (0, 75), (0, 74), (0, 72), (0, 71), (0, 70), (0, 68), (0, 67), (0, 63), (0, 62), (0, 61), (0, 60), (0, 58), (0, 57), (0, 56), (0, 55), (0, 52), (0, 51), (0, 50), (0, 49), (0, 48), (0, 47), (0, 46), (0, 45), (0, 44), (0, 43), (0, 41), (0, 40), (0, 39), (0, 38), (0, 37), (0, 36), (0, 35), (0, 34), (0, 33), (0, 32), (0, 31), (0, 27), (0, 26), (0, 25), (0, 24), (0, 22), (0, 21), (0, 20), (0, 19), (0, 18), (0, 17), (0, 16), (0, 15), (0, 14), (0, 5), (0, 4), (0, 3), (0, 1)] 95 = true by decide +kernel) (Nat.le_of_ble_eq_true rfl) (Nat.le_of_ble_eq_true rfl) rfl rfl ac_int (by decide) (by decide) (Nat.le_of_ble_eq_true rfl) (Nat.le_of_ble_eq_true rfl) (Nat.le_of_ble_eq_true rfl) (by decide) (by decide) dX12_init_1022 ?_
  refine c_putR (pc := 1024) (n := 96) (kc := 95) (ks := 1513423) (k := 0) (j := 124) (t := 95) (fs := fsM) (Nat.le_of_ble_eq_true rfl) rfl rfl rfl cf12 flRX12_366 rfl (by decide) rfl rfl (fun _ => rfl) (fun _ => rfl) dX12_init_1024 ?_
  refine c_aload_n (pc := 1027) (n := 96) (kc := 95) (ks := 1513423) dX12_init_1027 rfl 0 rfl ?_
  refine c_sipush (pc := 1028) (n := 96) (kc := 95) (ks := 1513423) dX12_init_1028 ks_1000 ?_
  refine c_na_int (pc := 1031) (n := 96) (kc := 95) (ks := 1513423) (len := 1000) (show okA dsM [(0, 124), (0, 123), (0, 122), (0, 121), (0, 120), (0, 119), (0, 118), (0, 117), (0, 116), (0, 115), (0, 114), (0, 113), (0, 112), (0, 110), (0, 109), (0, 108), (0, 107), (0, 106), (0, 105), (0, 104), (0, 103), (0, 102), (0, 101), (0, 100), (0, 99), (0, 98), (0, 97), (0, 96), (0, 95), (0, 94), (0, 93), (0, 92), (0, 91), (0, 90), (0, 89), (0, 88), (0, 83), (0, 81), (0, 80), (0, 79), (0, 78), (0, 76), (0, 75), (0, 74), (0, 72), (0, 71), (0, 70), (0, 68), (0, 67), (0, 63), (0, 62), (0, 61), (0, 60), (0, 58), (0, 57), (0, 56), (0, 55), (0, 52), (0, 51), (0, 50), (0, 49), (0, 48), (0, 47), (0, 46), (0, 45), (0, 44), (0, 43), (0, 41), (0, 40), (0, 39), (0, 38), (0, 37), (0, 36), (0, 35), (0, 34), (0, 33), (0, 32), (0, 31), (0, 27), (0, 26), (0, 25), (0, 24), (0, 22), (0, 21), (0, 20), (0, 19), (0, 18), (0, 17), (0, 16), (0, 15), (0, 14), (0, 5), (0, 4), (0, 3), (0, 1)] 96 = true by decide +kernel) (Nat.le_of_ble_eq_true rfl) (Nat.le_of_ble_eq_true rfl) rfl rfl ac_int (by decide) (by decide) (Nat.le_of_ble_eq_true rfl) (Nat.le_of_ble_eq_true rfl) (Nat.le_of_ble_eq_true rfl) (by decide) (by decide) dX12_init_1031 ?_
  refine c_putR (pc := 1033) (n := 97) (kc := 96) (ks := 1514423) (k := 0) (j := 125) (t := 96) (fs := fsM) (Nat.le_of_ble_eq_true rfl) rfl rfl rfl cf12 flRX12_369 rfl (by decide) rfl rfl (fun _ => rfl) (fun _ => rfl) dX12_init_1033 ?_
  refine c_aload_n (pc := 1036) (n := 97) (kc := 96) (ks := 1514423) dX12_init_1036 rfl 0 rfl ?_
  refine c_sipush (pc := 1037) (n := 97) (kc := 96) (ks := 1514423) dX12_init_1037 ks_1000 ?_
  refine c_na_int (pc := 1040) (n := 97) (kc := 96) (ks := 1514423) (len := 1000) (show okA dsM [(0, 125), (0, 124), (0, 123), (0, 122), (0, 121), (0, 120), (0, 119), (0, 118), (0, 117), (0, 116), (0, 115), (0, 114), (0, 113), (0, 112), (0, 110), (0, 109), (0, 108), (0, 107), (0, 106), (0, 105), (0, 104), (0, 103), (0, 102), (0, 101), (0, 100), (0, 99), (0, 98), (0, 97), (0, 96), (0, 95), (0, 94), (0, 93), (0, 92), (0, 91), (0, 90), (0, 89), (0, 88), (0, 83), (0, 81), (0, 80), (0, 79), (0, 78), (0, 76), (0, 75), (0, 74), (0, 72), (0, 71), (0, 70), (0, 68), (0, 67), (0, 63), (0, 62), (0, 61), (0, 60), (0, 58), (0, 57), (0, 56), (0, 55), (0, 52), (0, 51), (0, 50), (0, 49), (0, 48), (0, 47), (0, 46), (0, 45), (0, 44), (0, 43), (0, 41), (0, 40), (0, 39), (0, 38), (0, 37), (0, 36), (0, 35), (0, 34), (0, 33), (0, 32), (0, 31), (0, 27), (0, 26), (0, 25), (0, 24), (0, 22), (0, 21), (0, 20), (0, 19), (0, 18), (0, 17), (0, 16), (0, 15), (0, 14), (0, 5), (0, 4), (0, 3), (0, 1)] 97 = true by decide +kernel) (Nat.le_of_ble_eq_true rfl) (Nat.le_of_ble_eq_true rfl) rfl rfl ac_int (by decide) (by decide) (Nat.le_of_ble_eq_true rfl) (Nat.le_of_ble_eq_true rfl) (Nat.le_of_ble_eq_true rfl) (by decide) (by decide) dX12_init_1040 ?_
  refine c_putR (pc := 1042) (n := 98) (kc := 97) (ks := 1515423) (k := 0) (j := 126) (t := 97) (fs := fsM) (Nat.le_of_ble_eq_true rfl) rfl rfl rfl cf12 flRX12_372 rfl (by decide) rfl rfl (fun _ => rfl) (fun _ => rfl) dX12_init_1042 ?_
  refine c_aload_n (pc := 1045) (n := 98) (kc := 97) (ks := 1515423) dX12_init_1045 rfl 0 rfl ?_
  refine c_bipush (pc := 1046) (n := 98) (kc := 97) (ks := 1515423) dX12_init_1046 kb_64 ?_
  refine c_na_int (pc := 1048) (n := 98) (kc := 97) (ks := 1515423) (len := 64) (show okA dsM [(0, 126), (0, 125), (0, 124), (0, 123), (0, 122), (0, 121), (0, 120), (0, 119), (0, 118), (0, 117), (0, 116), (0, 115), (0, 114), (0, 113), (0, 112), (0, 110), (0, 109), (0, 108), (0, 107), (0, 106), (0, 105), (0, 104), (0, 103), (0, 102), (0, 101), (0, 100), (0, 99), (0, 98), (0, 97), (0, 96), (0, 95), (0, 94), (0, 93), (0, 92), (0, 91), (0, 90), (0, 89), (0, 88), (0, 83), (0, 81), (0, 80), (0, 79), (0, 78), (0, 76), (0, 75), (0, 74), (0, 72), (0, 71), (0, 70), (0, 68), (0, 67), (0, 63), (0, 62), (0, 61), (0, 60), (0, 58), (0, 57), (0, 56), (0, 55), (0, 52), (0, 51), (0, 50), (0, 49), (0, 48), (0, 47), (0, 46), (0, 45), (0, 44), (0, 43), (0, 41), (0, 40), (0, 39), (0, 38), (0, 37), (0, 36), (0, 35), (0, 34), (0, 33), (0, 32), (0, 31), (0, 27), (0, 26), (0, 25), (0, 24), (0, 22), (0, 21), (0, 20), (0, 19), (0, 18), (0, 17), (0, 16), (0, 15), (0, 14), (0, 5), (0, 4), (0, 3), (0, 1)] 98 = true by decide +kernel) (Nat.le_of_ble_eq_true rfl) (Nat.le_of_ble_eq_true rfl) rfl rfl ac_int (by decide) (by decide) (Nat.le_of_ble_eq_true rfl) (Nat.le_of_ble_eq_true rfl) (Nat.le_of_ble_eq_true rfl) (by decide) (by decide) dX12_init_1048 ?_
  refine c_putR (pc := 1050) (n := 99) (kc := 98) (ks := 1515487) (k := 0) (j := 141) (t := 98) (fs := fsM) (Nat.le_of_ble_eq_true rfl) rfl rfl rfl cf12 flRX12_375 rfl (by decide) rfl rfl (fun _ => rfl) (fun _ => rfl) dX12_init_1050 ?_
  exact c_ret (pc := 1053) (n := 99) (kc := 98) (ks := 1515487) dX12_init_1053 rfl rfl rfl (Nat.le_of_ble_eq_true rfl) (Nat.le_of_ble_eq_true rfl)
