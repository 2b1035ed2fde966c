/-! the reference -/
theorem ks_282 : (Int16.ofInt 282).toInt32 = 282 := by decide
theorem kcRX12_833 : Cond.constantLong RX12 833 5000 ∈ TB := tb1 sg13 22 rfl rfl
theorem kcRX12_835 : Cond.constantLong RX12 835 2000 ∈ TB := tb1 sg13 23 rfl rfl
/-! AlgolMillModel.call (II)V: O, 2 -/
theorem dX12_call__0 : decode cX12_call_ 0 = .ok (.aload_n 0, 1) := by decide +kernel
theorem dX12_call__1 : decode cX12_call_ 1 = .ok (.invokevirtual 795, 3) := by decide +kernel
theorem dX12_call__4 : decode cX12_call_ 4 = .ok (.ifCond .eq 10, 3) := by decide +kernel
theorem dX12_call__7 : decode cX12_call_ 7 = .ok (.aload_n 0, 1) := by decide +kernel
theorem dX12_call__8 : decode cX12_call_ 8 = .ok (.invokevirtual 798, 3) := by decide +kernel
theorem dX12_call__11 : decode cX12_call_ 11 = .ok (.ifCond .ne 4, 3) := by decide +kernel
theorem dX12_call__14 : decode cX12_call_ 14 = .ok (.return_, 1) := by decide +kernel
theorem dX12_call__15 : decode cX12_call_ 15 = .ok (.aload_n 0, 1) := by decide +kernel
theorem dX12_call__16 : decode cX12_call_ 16 = .ok (.getfield 269, 3) := by decide +kernel
theorem dX12_call__19 : decode cX12_call_ 19 = .ok (.iload_n 1, 1) := by decide +kernel
theorem dX12_call__20 : decode cX12_call_ 20 = .ok (.iaload, 1) := by decide +kernel
theorem dX12_call__21 : decode cX12_call_ 21 = .ok (.istore_n 3, 1) := by decide +kernel
theorem dX12_call__22 : decode cX12_call_ 22 = .ok (.aload_n 0, 1) := by decide +kernel
theorem dX12_call__23 : decode cX12_call_ 23 = .ok (.getfield 771, 3) := by decide +kernel
theorem dX12_call__26 : decode cX12_call_ 26 = .ok (.istore 4, 2) := by decide +kernel
theorem dX12_call__28 : decode cX12_call_ 28 = .ok (.aload_n 0, 1) := by decide +kernel
theorem dX12_call__29 : decode cX12_call_ 29 = .ok (.aload_n 0, 1) := by decide +kernel
theorem dX12_call__30 : decode cX12_call_ 30 = .ok (.getfield 272, 3) := by decide +kernel
theorem dX12_call__33 : decode cX12_call_ 33 = .ok (.iload_n 1, 1) := by decide +kernel
theorem dX12_call__34 : decode cX12_call_ 34 = .ok (.iaload, 1) := by decide +kernel
theorem dX12_call__35 : decode cX12_call_ 35 = .ok (.invokevirtual 774, 3) := by decide +kernel
theorem dX12_call__38 : decode cX12_call_ 38 = .ok (.istore 5, 2) := by decide +kernel
theorem dX12_call__40 : decode cX12_call_ 40 = .ok (.aload_n 0, 1) := by decide +kernel
theorem dX12_call__41 : decode cX12_call_ 41 = .ok (.iload_n 3, 1) := by decide +kernel
theorem dX12_call__42 : decode cX12_call_ 42 = .ok (.iload 5, 2) := by decide +kernel
theorem dX12_call__44 : decode cX12_call_ 44 = .ok (.iload_n 2, 1) := by decide +kernel
theorem dX12_call__45 : decode cX12_call_ 45 = .ok (.invokevirtual 830, 3) := by decide +kernel
theorem dX12_call__48 : decode cX12_call_ 48 = .ok (.aload_n 0, 1) := by decide +kernel
theorem dX12_call__49 : decode cX12_call_ 49 = .ok (.getfield 821, 3) := by decide +kernel
theorem dX12_call__52 : decode cX12_call_ 52 = .ok (.iconst 1, 1) := by decide +kernel
theorem dX12_call__53 : decode cX12_call_ 53 = .ok (.isub, 1) := by decide +kernel
theorem dX12_call__54 : decode cX12_call_ 54 = .ok (.istore 6, 2) := by decide +kernel
theorem dX12_call__56 : decode cX12_call_ 56 = .ok (.iconst 0, 1) := by decide +kernel
theorem dX12_call__57 : decode cX12_call_ 57 = .ok (.istore 7, 2) := by decide +kernel
theorem dX12_call__59 : decode cX12_call_ 59 = .ok (.iload 7, 2) := by decide +kernel
theorem dX12_call__61 : decode cX12_call_ 61 = .ok (.aload_n 0, 1) := by decide +kernel
theorem dX12_call__62 : decode cX12_call_ 62 = .ok (.getfield 299, 3) := by decide +kernel
theorem dX12_call__65 : decode cX12_call_ 65 = .ok (.iload_n 3, 1) := by decide +kernel
theorem dX12_call__66 : decode cX12_call_ 66 = .ok (.iaload, 1) := by decide +kernel
theorem dX12_call__67 : decode cX12_call_ 67 = .ok (.if_icmp .ge 234, 3) := by decide +kernel
theorem dX12_call__70 : decode cX12_call_ 70 = .ok (.aload_n 0, 1) := by decide +kernel
theorem dX12_call__71 : decode cX12_call_ 71 = .ok (.getfield 275, 3) := by decide +kernel
theorem dX12_call__74 : decode cX12_call_ 74 = .ok (.iload_n 1, 1) := by decide +kernel
theorem dX12_call__75 : decode cX12_call_ 75 = .ok (.iaload, 1) := by decide +kernel
theorem dX12_call__76 : decode cX12_call_ 76 = .ok (.iload 7, 2) := by decide +kernel
theorem dX12_call__78 : decode cX12_call_ 78 = .ok (.iadd, 1) := by decide +kernel
theorem dX12_call__79 : decode cX12_call_ 79 = .ok (.istore 8, 2) := by decide +kernel
theorem dX12_call__81 : decode cX12_call_ 81 = .ok (.aload_n 0, 1) := by decide +kernel
theorem dX12_call__82 : decode cX12_call_ 82 = .ok (.getfield 342, 3) := by decide +kernel
theorem dX12_call__85 : decode cX12_call_ 85 = .ok (.iload 6, 2) := by decide +kernel
theorem dX12_call__87 : decode cX12_call_ 87 = .ok (.iaload, 1) := by decide +kernel
theorem dX12_call__88 : decode cX12_call_ 88 = .ok (.aload_n 0, 1) := by decide +kernel
theorem dX12_call__89 : decode cX12_call_ 89 = .ok (.getfield 302, 3) := by decide +kernel
theorem dX12_call__92 : decode cX12_call_ 92 = .ok (.aload_n 0, 1) := by decide +kernel
theorem dX12_call__93 : decode cX12_call_ 93 = .ok (.getfield 296, 3) := by decide +kernel
theorem dX12_call__96 : decode cX12_call_ 96 = .ok (.iload_n 3, 1) := by decide +kernel
theorem dX12_call__97 : decode cX12_call_ 97 = .ok (.iaload, 1) := by decide +kernel
theorem dX12_call__98 : decode cX12_call_ 98 = .ok (.iload 7, 2) := by decide +kernel
theorem dX12_call__100 : decode cX12_call_ 100 = .ok (.iadd, 1) := by decide +kernel
theorem dX12_call__101 : decode cX12_call_ 101 = .ok (.iaload, 1) := by decide +kernel
theorem dX12_call__102 : decode cX12_call_ 102 = .ok (.iadd, 1) := by decide +kernel
theorem dX12_call__103 : decode cX12_call_ 103 = .ok (.istore 9, 2) := by decide +kernel
theorem dX12_call__105 : decode cX12_call_ 105 = .ok (.aload_n 0, 1) := by decide +kernel
theorem dX12_call__106 : decode cX12_call_ 106 = .ok (.getfield 278, 3) := by decide +kernel
theorem dX12_call__109 : decode cX12_call_ 109 = .ok (.iload 8, 2) := by decide +kernel
theorem dX12_call__111 : decode cX12_call_ 111 = .ok (.iaload, 1) := by decide +kernel
theorem dX12_call__112 : decode cX12_call_ 112 = .ok (.istore 10, 2) := by decide +kernel
theorem dX12_call__114 : decode cX12_call_ 114 = .ok (.iload 10, 2) := by decide +kernel
theorem dX12_call__116 : decode cX12_call_ 116 = .ok (.iconst 1, 1) := by decide +kernel
theorem dX12_call__117 : decode cX12_call_ 117 = .ok (.if_icmp .eq 9, 3) := by decide +kernel
theorem dX12_call__120 : decode cX12_call_ 120 = .ok (.iload 10, 2) := by decide +kernel
theorem dX12_call__122 : decode cX12_call_ 122 = .ok (.iconst 4, 1) := by decide +kernel
theorem dX12_call__123 : decode cX12_call_ 123 = .ok (.if_icmp .ne 33, 3) := by decide +kernel
theorem dX12_call__126 : decode cX12_call_ 126 = .ok (.aload_n 0, 1) := by decide +kernel
theorem dX12_call__127 : decode cX12_call_ 127 = .ok (.getfield 330, 3) := by decide +kernel
theorem dX12_call__130 : decode cX12_call_ 130 = .ok (.iload 9, 2) := by decide +kernel
theorem dX12_call__132 : decode cX12_call_ 132 = .ok (.aload_n 0, 1) := by decide +kernel
theorem dX12_call__133 : decode cX12_call_ 133 = .ok (.getfield 281, 3) := by decide +kernel
theorem dX12_call__136 : decode cX12_call_ 136 = .ok (.iload 8, 2) := by decide +kernel
theorem dX12_call__138 : decode cX12_call_ 138 = .ok (.iaload, 1) := by decide +kernel
theorem dX12_call__139 : decode cX12_call_ 139 = .ok (.i2l, 1) := by decide +kernel
theorem dX12_call__140 : decode cX12_call_ 140 = .ok (.lastore, 1) := by decide +kernel
theorem dX12_call__141 : decode cX12_call_ 141 = .ok (.aload_n 0, 1) := by decide +kernel
theorem dX12_call__142 : decode cX12_call_ 142 = .ok (.getfield 330, 3) := by decide +kernel
theorem dX12_call__145 : decode cX12_call_ 145 = .ok (.iload 9, 2) := by decide +kernel
theorem dX12_call__147 : decode cX12_call_ 147 = .ok (.iconst 1, 1) := by decide +kernel
theorem dX12_call__148 : decode cX12_call_ 148 = .ok (.iadd, 1) := by decide +kernel
theorem dX12_call__149 : decode cX12_call_ 149 = .ok (.iload 4, 2) := by decide +kernel
theorem dX12_call__151 : decode cX12_call_ 151 = .ok (.i2l, 1) := by decide +kernel
theorem dX12_call__152 : decode cX12_call_ 152 = .ok (.lastore, 1) := by decide +kernel
theorem dX12_call__153 : decode cX12_call_ 153 = .ok (.goto 142, 3) := by decide +kernel
theorem dX12_call__156 : decode cX12_call_ 156 = .ok (.iload 4, 2) := by decide +kernel
theorem dX12_call__158 : decode cX12_call_ 158 = .ok (.istore 11, 2) := by decide +kernel
theorem dX12_call__160 : decode cX12_call_ 160 = .ok (.iconst 0, 1) := by decide +kernel
theorem dX12_call__161 : decode cX12_call_ 161 = .ok (.istore 12, 2) := by decide +kernel
theorem dX12_call__163 : decode cX12_call_ 163 = .ok (.iload 12, 2) := by decide +kernel
theorem dX12_call__165 : decode cX12_call_ 165 = .ok (.aload_n 0, 1) := by decide +kernel
theorem dX12_call__166 : decode cX12_call_ 166 = .ok (.getfield 281, 3) := by decide +kernel
theorem dX12_call__169 : decode cX12_call_ 169 = .ok (.iload 8, 2) := by decide +kernel
theorem dX12_call__171 : decode cX12_call_ 171 = .ok (.iaload, 1) := by decide +kernel
theorem dX12_call__172 : decode cX12_call_ 172 = .ok (.if_icmp .ge 18, 3) := by decide +kernel
theorem dX12_call__175 : decode cX12_call_ 175 = .ok (.aload_n 0, 1) := by decide +kernel
theorem dX12_call__176 : decode cX12_call_ 176 = .ok (.getfield 345, 3) := by decide +kernel
theorem dX12_call__179 : decode cX12_call_ 179 = .ok (.iload 11, 2) := by decide +kernel
theorem dX12_call__181 : decode cX12_call_ 181 = .ok (.iaload, 1) := by decide +kernel
theorem dX12_call__182 : decode cX12_call_ 182 = .ok (.istore 11, 2) := by decide +kernel
theorem dX12_call__184 : decode cX12_call_ 184 = .ok (.iinc 12 1, 3) := by decide +kernel
theorem dX12_call__187 : decode cX12_call_ 187 = .ok (.goto (-24), 3) := by decide +kernel
theorem dX12_call__190 : decode cX12_call_ 190 = .ok (.aload_n 0, 1) := by decide +kernel
theorem dX12_call__191 : decode cX12_call_ 191 = .ok (.getfield 342, 3) := by decide +kernel
theorem dX12_call__194 : decode cX12_call_ 194 = .ok (.iload 11, 2) := by decide +kernel
theorem dX12_call__196 : decode cX12_call_ 196 = .ok (.iaload, 1) := by decide +kernel
theorem dX12_call__197 : decode cX12_call_ 197 = .ok (.aload_n 0, 1) := by decide +kernel
theorem dX12_call__198 : decode cX12_call_ 198 = .ok (.getfield 284, 3) := by decide +kernel
theorem dX12_call__201 : decode cX12_call_ 201 = .ok (.iload 8, 2) := by decide +kernel
theorem dX12_call__203 : decode cX12_call_ 203 = .ok (.iaload, 1) := by decide +kernel
theorem dX12_call__204 : decode cX12_call_ 204 = .ok (.iadd, 1) := by decide +kernel
theorem dX12_call__205 : decode cX12_call_ 205 = .ok (.istore 12, 2) := by decide +kernel
theorem dX12_call__207 : decode cX12_call_ 207 = .ok (.iload 10, 2) := by decide +kernel
theorem dX12_call__209 : decode cX12_call_ 209 = .ok (.bipush 10, 2) := by decide +kernel
theorem dX12_call__211 : decode cX12_call_ 211 = .ok (.if_icmp .ne 38, 3) := by decide +kernel
theorem dX12_call__214 : decode cX12_call_ 214 = .ok (.aload_n 0, 1) := by decide +kernel
theorem dX12_call__215 : decode cX12_call_ 215 = .ok (.getfield 330, 3) := by decide +kernel
theorem dX12_call__218 : decode cX12_call_ 218 = .ok (.iload 9, 2) := by decide +kernel
theorem dX12_call__220 : decode cX12_call_ 220 = .ok (.aload_n 0, 1) := by decide +kernel
theorem dX12_call__221 : decode cX12_call_ 221 = .ok (.getfield 330, 3) := by decide +kernel
theorem dX12_call__224 : decode cX12_call_ 224 = .ok (.iload 12, 2) := by decide +kernel
theorem dX12_call__226 : decode cX12_call_ 226 = .ok (.laload, 1) := by decide +kernel
theorem dX12_call__227 : decode cX12_call_ 227 = .ok (.lastore, 1) := by decide +kernel
theorem dX12_call__228 : decode cX12_call_ 228 = .ok (.aload_n 0, 1) := by decide +kernel
theorem dX12_call__229 : decode cX12_call_ 229 = .ok (.getfield 330, 3) := by decide +kernel
theorem dX12_call__232 : decode cX12_call_ 232 = .ok (.iload 9, 2) := by decide +kernel
theorem dX12_call__234 : decode cX12_call_ 234 = .ok (.iconst 1, 1) := by decide +kernel
theorem dX12_call__235 : decode cX12_call_ 235 = .ok (.iadd, 1) := by decide +kernel
theorem dX12_call__236 : decode cX12_call_ 236 = .ok (.aload_n 0, 1) := by decide +kernel
theorem dX12_call__237 : decode cX12_call_ 237 = .ok (.getfield 330, 3) := by decide +kernel
theorem dX12_call__240 : decode cX12_call_ 240 = .ok (.iload 12, 2) := by decide +kernel
theorem dX12_call__242 : decode cX12_call_ 242 = .ok (.iconst 1, 1) := by decide +kernel
theorem dX12_call__243 : decode cX12_call_ 243 = .ok (.iadd, 1) := by decide +kernel
theorem dX12_call__244 : decode cX12_call_ 244 = .ok (.laload, 1) := by decide +kernel
theorem dX12_call__245 : decode cX12_call_ 245 = .ok (.lastore, 1) := by decide +kernel
theorem dX12_call__246 : decode cX12_call_ 246 = .ok (.goto 49, 3) := by decide +kernel
theorem dX12_call__249 : decode cX12_call_ 249 = .ok (.iload 10, 2) := by decide +kernel
theorem dX12_call__251 : decode cX12_call_ 251 = .ok (.iconst 2, 1) := by decide +kernel
theorem dX12_call__252 : decode cX12_call_ 252 = .ok (.if_icmp .ne 16, 3) := by decide +kernel
theorem dX12_call__255 : decode cX12_call_ 255 = .ok (.aload_n 0, 1) := by decide +kernel
theorem dX12_call__256 : decode cX12_call_ 256 = .ok (.getfield 330, 3) := by decide +kernel
theorem dX12_call__259 : decode cX12_call_ 259 = .ok (.iload 9, 2) := by decide +kernel
theorem dX12_call__261 : decode cX12_call_ 261 = .ok (.iload 12, 2) := by decide +kernel
theorem dX12_call__263 : decode cX12_call_ 263 = .ok (.i2l, 1) := by decide +kernel
theorem dX12_call__264 : decode cX12_call_ 264 = .ok (.lastore, 1) := by decide +kernel
theorem dX12_call__265 : decode cX12_call_ 265 = .ok (.goto 30, 3) := by decide +kernel
theorem dX12_call__268 : decode cX12_call_ 268 = .ok (.aload_n 0, 1) := by decide +kernel
theorem dX12_call__269 : decode cX12_call_ 269 = .ok (.getfield 330, 3) := by decide +kernel
theorem dX12_call__272 : decode cX12_call_ 272 = .ok (.iload 9, 2) := by decide +kernel
theorem dX12_call__274 : decode cX12_call_ 274 = .ok (.aload_n 0, 1) := by decide +kernel
theorem dX12_call__275 : decode cX12_call_ 275 = .ok (.getfield 284, 3) := by decide +kernel
theorem dX12_call__278 : decode cX12_call_ 278 = .ok (.iload 8, 2) := by decide +kernel
theorem dX12_call__280 : decode cX12_call_ 280 = .ok (.iaload, 1) := by decide +kernel
theorem dX12_call__281 : decode cX12_call_ 281 = .ok (.i2l, 1) := by decide +kernel
theorem dX12_call__282 : decode cX12_call_ 282 = .ok (.lastore, 1) := by decide +kernel
theorem dX12_call__283 : decode cX12_call_ 283 = .ok (.aload_n 0, 1) := by decide +kernel
theorem dX12_call__284 : decode cX12_call_ 284 = .ok (.getfield 330, 3) := by decide +kernel
theorem dX12_call__287 : decode cX12_call_ 287 = .ok (.iload 9, 2) := by decide +kernel
theorem dX12_call__289 : decode cX12_call_ 289 = .ok (.iconst 1, 1) := by decide +kernel
theorem dX12_call__290 : decode cX12_call_ 290 = .ok (.iadd, 1) := by decide +kernel
theorem dX12_call__291 : decode cX12_call_ 291 = .ok (.iload 11, 2) := by decide +kernel
theorem dX12_call__293 : decode cX12_call_ 293 = .ok (.i2l, 1) := by decide +kernel
theorem dX12_call__294 : decode cX12_call_ 294 = .ok (.lastore, 1) := by decide +kernel
theorem dX12_call__295 : decode cX12_call_ 295 = .ok (.iinc 7 1, 3) := by decide +kernel
theorem dX12_call__298 : decode cX12_call_ 298 = .ok (.goto (-239), 3) := by decide +kernel
theorem dX12_call__301 : decode cX12_call_ 301 = .ok (.aload_n 0, 1) := by decide +kernel
theorem dX12_call__302 : decode cX12_call_ 302 = .ok (.iload 6, 2) := by decide +kernel
theorem dX12_call__304 : decode cX12_call_ 304 = .ok (.putfield 771, 3) := by decide +kernel
theorem dX12_call__307 : decode cX12_call_ 307 = .ok (.aload_n 0, 1) := by decide +kernel
theorem dX12_call__308 : decode cX12_call_ 308 = .ok (.aload_n 0, 1) := by decide +kernel
theorem dX12_call__309 : decode cX12_call_ 309 = .ok (.getfield 290, 3) := by decide +kernel
theorem dX12_call__312 : decode cX12_call_ 312 = .ok (.iload_n 3, 1) := by decide +kernel
theorem dX12_call__313 : decode cX12_call_ 313 = .ok (.iaload, 1) := by decide +kernel
theorem dX12_call__314 : decode cX12_call_ 314 = .ok (.putfield 786, 3) := by decide +kernel
theorem dX12_call__317 : decode cX12_call_ 317 = .ok (.return_, 1) := by decide +kernel
def fX12_call__126 (k_59 : Int32 → Int32 → Int32 → Int32 → Int32 → Wd → Option Wd) (a1 : Int32) (a3 : Int32) (a4 : Int32) (a6 : Int32) (a7 : Int32) (a8 : Int32) (a9 : Int32) (w : Wd) : Option Wd :=
  if inb a8 6000 = true then if inb a9 200000 = true then lt (sl w 83 (Int32.toNatClampNeg a9) (Int32.toInt64 (gi w 67 (Int32.toNatClampNeg a8)))) fun w3 => if inb (a9 + 1) 200000 = true then lt (sl w3 83 (Int32.toNatClampNeg (a9 + 1)) (Int32.toInt64 a4)) fun w5 => lt (a7 + 1) fun x6 => k_59 a1 a3 a4 a6 x6 w5 else none else none else none
theorem pX12_call__126 {q : Gq} {l : Launch} {N : Option Value → Wd → Prop} {X : String → Wd → Prop} {w : Wd} {R : Wd} (hN : N none R) {k_59 : Int32 → Int32 → Int32 → Int32 → Int32 → Wd → Option Wd} (hk_59 : ∀ (a1 : Int32) (a3 : Int32) (a4 : Int32) (a6 : Int32) (a7 : Int32) (w : Wd), k_59 a1 a3 a4 a6 a7 w = some R → RT (GM q) l 2 yX12_call_ cX12_call_ 13 (none) N X 59 [] [(0, .ref 0), (1, .int a1), (3, .int a3), (4, .int a4), (6, .int a6), (7, .int a7)] w) {a1 : Int32} {a3 : Int32} {a4 : Int32} {a6 : Int32} {a7 : Int32} {a8 : Int32} {a9 : Int32} (h : fX12_call__126 k_59 a1 a3 a4 a6 a7 a8 a9 w = some R) : RT (GM q) l 2 yX12_call_ cX12_call_ 13 (none) N X 126 [] [(0, .ref 0), (1, .int a1), (3, .int a3), (4, .int a4), (6, .int a6), (7, .int a7), (8, .int a8), (9, .int a9)] w := by
  unfold fX12_call__126 at h
  refine r_aload_n (pc := 126) dX12_call__126 rfl 0 rfl ?_
  refine r_get (pc := 127) (j := 112) (v := .ref 83) oM0 cf12 flRX12_330 rfl dX12_call__127 rfl ?_
  refine r_iload (pc := 130) dX12_call__130 7 rfl ?_
  refine r_aload_n (pc := 132) dX12_call__132 rfl 0 rfl ?_
  refine r_get (pc := 133) (j := 95) (v := .ref 67) oM0 cf12 flRX12_281 rfl dX12_call__133 rfl ?_
  refine r_iload (pc := 136) dX12_call__136 6 rfl ?_
  replace h := if_n h; obtain ⟨hb1, h⟩ := h
  refine r_iald (pc := 138) aM67 (inb_in hb1) dX12_call__138 ?_
  refine r_i2l (pc := 139) dX12_call__139 ?_
  replace h := if_n h; obtain ⟨hb2, h⟩ := h
  replace h := lt_e h; obtain ⟨w3, ew3, h⟩ := h
  refine r_last (pc := 140) aM83 (inb_in hb2) dX12_call__140 ?_
  refine r_w ew3 ?_
  refine r_aload_n (pc := 141) dX12_call__141 rfl 0 rfl ?_
  refine r_get (pc := 142) (j := 112) (v := .ref 83) oM0 cf12 flRX12_330 rfl dX12_call__142 rfl ?_
  refine r_iload (pc := 145) dX12_call__145 7 rfl ?_
  refine r_iconst (pc := 147) dX12_call__147 ki_1 ?_
  refine r_iadd (pc := 148) dX12_call__148 ?_
  refine r_iload (pc := 149) dX12_call__149 3 rfl ?_
  refine r_i2l (pc := 151) dX12_call__151 ?_
  replace h := if_n h; obtain ⟨hb4, h⟩ := h
  replace h := lt_e h; obtain ⟨w5, ew5, h⟩ := h
  refine r_last (pc := 152) aM83 (inb_in hb4) dX12_call__152 ?_
  refine r_w ew5 ?_
  refine r_goto (pc := 153) dX12_call__153 rfl ?_
  replace h := lt_e h; obtain ⟨x6, ex6, h⟩ := h
  refine r_inc (pc := 295) (loc' := [(7, .int x6), (0, .ref 0), (1, .int a1), (3, .int a3), (4, .int a4), (6, .int a6), (8, .int a8), (9, .int a9)]) dX12_call__295 ki_1 ex6 5 rfl (Nat.le_of_ble_eq_true rfl) rfl ?_
  refine r_goto (pc := 298) dX12_call__298 rfl ?_
  refine r_drop (loc' := [(0, .ref 0), (1, .int a1), (3, .int a3), (4, .int a4), (6, .int a6), (7, .int x6)]) [1, 2, 3, 4, 5, 0] rfl ?_
  exact hk_59 a1 a3 a4 a6 x6 w5 h
def fX12_call__163 (k_59 : Int32 → Int32 → Int32 → Int32 → Int32 → Wd → Option Wd) (k_163 : Int32 → Int32 → Int32 → Int32 → Int32 → Int32 → Int32 → Int32 → Int32 → Int32 → Wd → Option Wd) (a1 : Int32) (a3 : Int32) (a4 : Int32) (a6 : Int32) (a7 : Int32) (a8 : Int32) (a9 : Int32) (a10 : Int32) (a11 : Int32) (a12 : Int32) (w : Wd) : Option Wd :=
  if inb a8 6000 = true then if (gi w 67 (Int32.toNatClampNeg a8)) ≤ a12 then (if inb a11 64 = true then if inb a8 6000 = true then lt (((gi w 87 (Int32.toNatClampNeg a11)) + (gi w 68 (Int32.toNatClampNeg a8)))) fun x5 => if a10 = 10 then (if inb x5 200000 = true then if inb a9 200000 = true then lt (sl w 83 (Int32.toNatClampNeg a9) (gl w 83 (Int32.toNatClampNeg x5))) fun w9 => if inb (x5 + 1) 200000 = true then if inb (a9 + 1) 200000 = true then lt (sl w9 83 (Int32.toNatClampNeg (a9 + 1)) (gl w9 83 (Int32.toNatClampNeg (x5 + 1)))) fun w12 => lt (a7 + 1) fun x13 => k_59 a1 a3 a4 a6 x13 w12 else none else none else none else none) else (if a10 = 2 then (if inb a9 200000 = true then lt (sl w 83 (Int32.toNatClampNeg a9) (Int32.toInt64 x5)) fun w16 => lt (a7 + 1) fun x17 => k_59 a1 a3 a4 a6 x17 w16 else none) else (if inb a8 6000 = true then if inb a9 200000 = true then lt (sl w 83 (Int32.toNatClampNeg a9) (Int32.toInt64 (gi w 68 (Int32.toNatClampNeg a8)))) fun w20 => if inb (a9 + 1) 200000 = true then lt (sl w20 83 (Int32.toNatClampNeg (a9 + 1)) (Int32.toInt64 a11)) fun w22 => lt (a7 + 1) fun x23 => k_59 a1 a3 a4 a6 x23 w22 else none else none else none)) else none else none) else (if inb a11 64 = true then lt ((gi w 88 (Int32.toNatClampNeg a11))) fun x25 => lt (a12 + 1) fun x26 => k_163 a1 a3 a4 a6 a7 a8 a9 a10 x25 x26 w else none) else none
set_option maxHeartbeats 16000000 in
theorem pX12_call__163 {q : Gq} {l : Launch} {N : Option Value → Wd → Prop} {X : String → Wd → Prop} {w : Wd} {R : Wd} (hN : N none R) {k_59 : Int32 → Int32 → Int32 → Int32 → Int32 → Wd → Option Wd} {k_163 : Int32 → Int32 → Int32 → Int32 → Int32 → Int32 → Int32 → Int32 → Int32 → Int32 → Wd → Option Wd} (hk_59 : ∀ (a1 : Int32) (a3 : Int32) (a4 : Int32) (a6 : Int32) (a7 : Int32) (w : Wd), k_59 a1 a3 a4 a6 a7 w = some R → RT (GM q) l 2 yX12_call_ cX12_call_ 13 (none) N X 59 [] [(0, .ref 0), (1, .int a1), (3, .int a3), (4, .int a4), (6, .int a6), (7, .int a7)] w) (hk_163 : ∀ (a1 : Int32) (a3 : Int32) (a4 : Int32) (a6 : Int32) (a7 : Int32) (a8 : Int32) (a9 : Int32) (a10 : Int32) (a11 : Int32) (a12 : Int32) (w : Wd), k_163 a1 a3 a4 a6 a7 a8 a9 a10 a11 a12 w = some R → RT (GM q) l 2 yX12_call_ cX12_call_ 13 (none) N X 163 [] [(0, .ref 0), (1, .int a1), (3, .int a3), (4, .int a4), (6, .int a6), (7, .int a7), (8, .int a8), (9, .int a9), (10, .int a10), (11, .int a11), (12, .int a12)] w) {a1 : Int32} {a3 : Int32} {a4 : Int32} {a6 : Int32} {a7 : Int32} {a8 : Int32} {a9 : Int32} {a10 : Int32} {a11 : Int32} {a12 : Int32} (h : fX12_call__163 k_59 k_163 a1 a3 a4 a6 a7 a8 a9 a10 a11 a12 w = some R) : RT (GM q) l 2 yX12_call_ cX12_call_ 13 (none) N X 163 [] [(0, .ref 0), (1, .int a1), (3, .int a3), (4, .int a4), (6, .int a6), (7, .int a7), (8, .int a8), (9, .int a9), (10, .int a10), (11, .int a11), (12, .int a12)] w := by
  unfold fX12_call__163 at h
  refine r_iload (pc := 163) dX12_call__163 10 rfl ?_
  refine r_aload_n (pc := 165) dX12_call__165 rfl 0 rfl ?_
  refine r_get (pc := 166) (j := 95) (v := .ref 67) oM0 cf12 flRX12_281 rfl dX12_call__166 rfl ?_
  refine r_iload (pc := 169) dX12_call__169 6 rfl ?_
  replace h := if_n h; obtain ⟨hb1, h⟩ := h
  refine r_iald (pc := 171) aM67 (inb_in hb1) dX12_call__171 ?_
  refine r_icmp_ge (pc := 172) dX12_call__172 rfl (fun hc2 => ?_) (fun hc2 => ?_)
  · replace h := if_t hc2 h
    refine r_aload_n (pc := 190) dX12_call__190 rfl 0 rfl ?_
    refine r_get (pc := 191) (j := 116) (v := .ref 87) oM0 cf12 flRX12_342 rfl dX12_call__191 rfl ?_
    refine r_iload (pc := 194) dX12_call__194 9 rfl ?_
    replace h := if_n h; obtain ⟨hb3, h⟩ := h
    refine r_iald (pc := 196) aM87 (inb_in hb3) dX12_call__196 ?_
    refine r_aload_n (pc := 197) dX12_call__197 rfl 0 rfl ?_
    refine r_get (pc := 198) (j := 96) (v := .ref 68) oM0 cf12 flRX12_284 rfl dX12_call__198 rfl ?_
    refine r_iload (pc := 201) dX12_call__201 6 rfl ?_
    replace h := if_n h; obtain ⟨hb4, h⟩ := h
    refine r_iald (pc := 203) aM68 (inb_in hb4) dX12_call__203 ?_
    refine r_iadd (pc := 204) dX12_call__204 ?_
    replace h := lt_e h; obtain ⟨x5, ex5, h⟩ := h
    refine r_topi ex5 ?_
    refine r_istore (pc := 205) (loc' := [(12, .int x5), (0, .ref 0), (1, .int a1), (3, .int a3), (4, .int a4), (6, .int a6), (7, .int a7), (8, .int a8), (9, .int a9), (10, .int a10), (11, .int a11)]) dX12_call__205 (Nat.le_of_ble_eq_true rfl) rfl ?_
    refine r_iload (pc := 207) dX12_call__207 9 rfl ?_
    refine r_bipush (pc := 209) dX12_call__209 kb_10 ?_
    refine r_icmp_ne (pc := 211) dX12_call__211 rfl (fun hc6 => ?_) (fun hc6 => ?_)
    · replace h := if_f hc6 h
      refine r_iload (pc := 249) dX12_call__249 9 rfl ?_
      refine r_iconst (pc := 251) dX12_call__251 ki_2 ?_
      refine r_icmp_ne (pc := 252) dX12_call__252 rfl (fun hc14 => ?_) (fun hc14 => ?_)
      · replace h := if_f hc14 h
        refine r_aload_n (pc := 268) dX12_call__268 rfl 1 rfl ?_
        refine r_get (pc := 269) (j := 112) (v := .ref 83) oM0 cf12 flRX12_330 rfl dX12_call__269 rfl ?_
        refine r_iload (pc := 272) dX12_call__272 8 rfl ?_
        refine r_aload_n (pc := 274) dX12_call__274 rfl 1 rfl ?_
        refine r_get (pc := 275) (j := 96) (v := .ref 68) oM0 cf12 flRX12_284 rfl dX12_call__275 rfl ?_
        refine r_iload (pc := 278) dX12_call__278 7 rfl ?_
        replace h := if_n h; obtain ⟨hb18, h⟩ := h
        refine r_iald (pc := 280) aM68 (inb_in hb18) dX12_call__280 ?_
        refine r_i2l (pc := 281) dX12_call__281 ?_
        replace h := if_n h; obtain ⟨hb19, h⟩ := h
        replace h := lt_e h; obtain ⟨w20, ew20, h⟩ := h
        refine r_last (pc := 282) aM83 (inb_in hb19) dX12_call__282 ?_
        refine r_w ew20 ?_
        refine r_aload_n (pc := 283) dX12_call__283 rfl 1 rfl ?_
        refine r_get (pc := 284) (j := 112) (v := .ref 83) oM0 cf12 flRX12_330 rfl dX12_call__284 rfl ?_
        refine r_iload (pc := 287) dX12_call__287 8 rfl ?_
        refine r_iconst (pc := 289) dX12_call__289 ki_1 ?_
        refine r_iadd (pc := 290) dX12_call__290 ?_
        refine r_iload (pc := 291) dX12_call__291 10 rfl ?_
        refine r_i2l (pc := 293) dX12_call__293 ?_
        replace h := if_n h; obtain ⟨hb21, h⟩ := h
        replace h := lt_e h; obtain ⟨w22, ew22, h⟩ := h
        refine r_last (pc := 294) aM83 (inb_in hb21) dX12_call__294 ?_
        refine r_w ew22 ?_
        replace h := lt_e h; obtain ⟨x23, ex23, h⟩ := h
        refine r_inc (pc := 295) (loc' := [(7, .int x23), (12, .int x5), (0, .ref 0), (1, .int a1), (3, .int a3), (4, .int a4), (6, .int a6), (8, .int a8), (9, .int a9), (10, .int a10), (11, .int a11)]) dX12_call__295 ki_1 ex23 6 rfl (Nat.le_of_ble_eq_true rfl) rfl ?_
        refine r_goto (pc := 298) dX12_call__298 rfl ?_
        refine r_drop (loc' := [(0, .ref 0), (1, .int a1), (3, .int a3), (4, .int a4), (6, .int a6), (7, .int x23)]) [2, 3, 4, 5, 6, 0] rfl ?_
        exact hk_59 a1 a3 a4 a6 x23 w22 h
      replace h := if_t hc14 h
      refine r_aload_n (pc := 255) dX12_call__255 rfl 1 rfl ?_
      refine r_get (pc := 256) (j := 112) (v := .ref 83) oM0 cf12 flRX12_330 rfl dX12_call__256 rfl ?_
      refine r_iload (pc := 259) dX12_call__259 8 rfl ?_
      refine r_iload (pc := 261) dX12_call__261 0 rfl ?_
      refine r_i2l (pc := 263) dX12_call__263 ?_
      replace h := if_n h; obtain ⟨hb15, h⟩ := h
      replace h := lt_e h; obtain ⟨w16, ew16, h⟩ := h
      refine r_last (pc := 264) aM83 (inb_in hb15) dX12_call__264 ?_
      refine r_w ew16 ?_
      refine r_goto (pc := 265) dX12_call__265 rfl ?_
      replace h := lt_e h; obtain ⟨x17, ex17, h⟩ := h
      refine r_inc (pc := 295) (loc' := [(7, .int x17), (12, .int x5), (0, .ref 0), (1, .int a1), (3, .int a3), (4, .int a4), (6, .int a6), (8, .int a8), (9, .int a9), (10, .int a10), (11, .int a11)]) dX12_call__295 ki_1 ex17 6 rfl (Nat.le_of_ble_eq_true rfl) rfl ?_
      refine r_goto (pc := 298) dX12_call__298 rfl ?_
      refine r_drop (loc' := [(0, .ref 0), (1, .int a1), (3, .int a3), (4, .int a4), (6, .int a6), (7, .int x17)]) [2, 3, 4, 5, 6, 0] rfl ?_
      exact hk_59 a1 a3 a4 a6 x17 w16 h
    replace h := if_t hc6 h
    refine r_aload_n (pc := 214) dX12_call__214 rfl 1 rfl ?_
    refine r_get (pc := 215) (j := 112) (v := .ref 83) oM0 cf12 flRX12_330 rfl dX12_call__215 rfl ?_
    refine r_iload (pc := 218) dX12_call__218 8 rfl ?_
    refine r_aload_n (pc := 220) dX12_call__220 rfl 1 rfl ?_
    refine r_get (pc := 221) (j := 112) (v := .ref 83) oM0 cf12 flRX12_330 rfl dX12_call__221 rfl ?_
    refine r_iload (pc := 224) dX12_call__224 0 rfl ?_
    replace h := if_n h; obtain ⟨hb7, h⟩ := h
    refine r_lald (pc := 226) aM83 (inb_in hb7) dX12_call__226 ?_
    replace h := if_n h; obtain ⟨hb8, h⟩ := h
    replace h := lt_e h; obtain ⟨w9, ew9, h⟩ := h
    refine r_last (pc := 227) aM83 (inb_in hb8) dX12_call__227 ?_
    refine r_w ew9 ?_
    refine r_aload_n (pc := 228) dX12_call__228 rfl 1 rfl ?_
    refine r_get (pc := 229) (j := 112) (v := .ref 83) oM0 cf12 flRX12_330 rfl dX12_call__229 rfl ?_
    refine r_iload (pc := 232) dX12_call__232 8 rfl ?_
    refine r_iconst (pc := 234) dX12_call__234 ki_1 ?_
    refine r_iadd (pc := 235) dX12_call__235 ?_
    refine r_aload_n (pc := 236) dX12_call__236 rfl 1 rfl ?_
    refine r_get (pc := 237) (j := 112) (v := .ref 83) oM0 cf12 flRX12_330 rfl dX12_call__237 rfl ?_
    refine r_iload (pc := 240) dX12_call__240 0 rfl ?_
    refine r_iconst (pc := 242) dX12_call__242 ki_1 ?_
    refine r_iadd (pc := 243) dX12_call__243 ?_
    replace h := if_n h; obtain ⟨hb10, h⟩ := h
    refine r_lald (pc := 244) aM83 (inb_in hb10) dX12_call__244 ?_
    replace h := if_n h; obtain ⟨hb11, h⟩ := h
    replace h := lt_e h; obtain ⟨w12, ew12, h⟩ := h
    refine r_last (pc := 245) aM83 (inb_in hb11) dX12_call__245 ?_
    refine r_w ew12 ?_
    refine r_goto (pc := 246) dX12_call__246 rfl ?_
    replace h := lt_e h; obtain ⟨x13, ex13, h⟩ := h
    refine r_inc (pc := 295) (loc' := [(7, .int x13), (12, .int x5), (0, .ref 0), (1, .int a1), (3, .int a3), (4, .int a4), (6, .int a6), (8, .int a8), (9, .int a9), (10, .int a10), (11, .int a11)]) dX12_call__295 ki_1 ex13 6 rfl (Nat.le_of_ble_eq_true rfl) rfl ?_
    refine r_goto (pc := 298) dX12_call__298 rfl ?_
    refine r_drop (loc' := [(0, .ref 0), (1, .int a1), (3, .int a3), (4, .int a4), (6, .int a6), (7, .int x13)]) [2, 3, 4, 5, 6, 0] rfl ?_
    exact hk_59 a1 a3 a4 a6 x13 w12 h
  replace h := if_f hc2 h
  refine r_aload_n (pc := 175) dX12_call__175 rfl 0 rfl ?_
  refine r_get (pc := 176) (j := 117) (v := .ref 88) oM0 cf12 flRX12_345 rfl dX12_call__176 rfl ?_
  refine r_iload (pc := 179) dX12_call__179 9 rfl ?_
  replace h := if_n h; obtain ⟨hb24, h⟩ := h
  refine r_iald (pc := 181) aM88 (inb_in hb24) dX12_call__181 ?_
  replace h := lt_e h; obtain ⟨x25, ex25, h⟩ := h
  refine r_topi ex25 ?_
  refine r_istore (pc := 182) (loc' := [(11, .int x25), (0, .ref 0), (1, .int a1), (3, .int a3), (4, .int a4), (6, .int a6), (7, .int a7), (8, .int a8), (9, .int a9), (10, .int a10), (12, .int a12)]) dX12_call__182 (Nat.le_of_ble_eq_true rfl) rfl ?_
  replace h := lt_e h; obtain ⟨x26, ex26, h⟩ := h
  refine r_inc (pc := 184) (loc' := [(12, .int x26), (11, .int x25), (0, .ref 0), (1, .int a1), (3, .int a3), (4, .int a4), (6, .int a6), (7, .int a7), (8, .int a8), (9, .int a9), (10, .int a10)]) dX12_call__184 ki_1 ex26 10 rfl (Nat.le_of_ble_eq_true rfl) rfl ?_
  refine r_goto (pc := 187) dX12_call__187 rfl ?_
  refine r_drop (loc' := [(0, .ref 0), (1, .int a1), (3, .int a3), (4, .int a4), (6, .int a6), (7, .int a7), (8, .int a8), (9, .int a9), (10, .int a10), (11, .int x25), (12, .int x26)]) [2, 3, 4, 5, 6, 7, 8, 9, 10, 1, 0] rfl ?_
  exact hk_163 a1 a3 a4 a6 a7 a8 a9 a10 x25 x26 w h
def oX12_call__163 (k_59 : Int32 → Int32 → Int32 → Int32 → Int32 → Wd → Option Wd) : Nat → Int32 → Int32 → Int32 → Int32 → Int32 → Int32 → Int32 → Int32 → Int32 → Int32 → Wd → Option Wd
  | 0 => fun _ _ _ _ _ _ _ _ _ _ _ => none
  | n + 1 => fX12_call__163 k_59 (oX12_call__163 k_59 n)
theorem qX12_call__163 {q : Gq} {l : Launch} {N : Option Value → Wd → Prop} {X : String → Wd → Prop} {R : Wd} (hN : N none R) {k_59 : Int32 → Int32 → Int32 → Int32 → Int32 → Wd → Option Wd} (hk_59 : ∀ (a1 : Int32) (a3 : Int32) (a4 : Int32) (a6 : Int32) (a7 : Int32) (w : Wd), k_59 a1 a3 a4 a6 a7 w = some R → RT (GM q) l 2 yX12_call_ cX12_call_ 13 (none) N X 59 [] [(0, .ref 0), (1, .int a1), (3, .int a3), (4, .int a4), (6, .int a6), (7, .int a7)] w) : ∀ (n : Nat) (a1 : Int32) (a3 : Int32) (a4 : Int32) (a6 : Int32) (a7 : Int32) (a8 : Int32) (a9 : Int32) (a10 : Int32) (a11 : Int32) (a12 : Int32) (w : Wd), oX12_call__163 k_59 n a1 a3 a4 a6 a7 a8 a9 a10 a11 a12 w = some R → RT (GM q) l 2 yX12_call_ cX12_call_ 13 (none) N X 163 [] [(0, .ref 0), (1, .int a1), (3, .int a3), (4, .int a4), (6, .int a6), (7, .int a7), (8, .int a8), (9, .int a9), (10, .int a10), (11, .int a11), (12, .int a12)] w := by
  intro n
  induction n with
  | zero =>
    intro a1 a3 a4 a6 a7 a8 a9 a10 a11 a12 w h
    exact absurd h (fun q => nomatch q)
  | succ n ih =>
    intro a1 a3 a4 a6 a7 a8 a9 a10 a11 a12 w h
    exact pX12_call__163 hN hk_59 ih h
def fX12_call__59 (k_59 : Int32 → Int32 → Int32 → Int32 → Int32 → Wd → Option Wd) (a1 : Int32) (a3 : Int32) (a4 : Int32) (a6 : Int32) (a7 : Int32) (w : Wd) : Option Wd :=
  if inb a3 1200 = true then if (gi w 73 (Int32.toNatClampNeg a3)) ≤ a7 then (lt (si w 0 129 a6) fun w3 => if inb a3 1200 = true then lt (si w3 0 128 (gi w3 70 (Int32.toNatClampNeg a3))) fun w5 => some w5 else none) else (if inb a1 4300 = true then lt (((gi w 65 (Int32.toNatClampNeg a1)) + a7)) fun x7 => if inb a6 64 = true then if inb a3 1200 = true then if inb ((gi w 72 (Int32.toNatClampNeg a3)) + a7) 5000 = true then lt (((gi w 87 (Int32.toNatClampNeg a6)) + (gi w 74 (Int32.toNatClampNeg ((gi w 72 (Int32.toNatClampNeg a3)) + a7))))) fun x11 => if inb x7 6000 = true then lt ((gi w 66 (Int32.toNatClampNeg x7))) fun x13 => if x13 = 1 then (fX12_call__126 k_59 a1 a3 a4 a6 a7 x7 x11 w) else (if x13 = 4 then (fX12_call__126 k_59 a1 a3 a4 a6 a7 x7 x11 w) else (oX12_call__163 k_59 FU a1 a3 a4 a6 a7 x7 x11 x13 a4 0 w)) else none else none else none else none else none) else none
theorem pX12_call__59 {q : Gq} {l : Launch} {N : Option Value → Wd → Prop} {X : String → Wd → Prop} {w : Wd} {R : Wd} (hN : N none R) {k_59 : Int32 → Int32 → Int32 → Int32 → Int32 → Wd → Option Wd} (hk_59 : ∀ (a1 : Int32) (a3 : Int32) (a4 : Int32) (a6 : Int32) (a7 : Int32) (w : Wd), k_59 a1 a3 a4 a6 a7 w = some R → RT (GM q) l 2 yX12_call_ cX12_call_ 13 (none) N X 59 [] [(0, .ref 0), (1, .int a1), (3, .int a3), (4, .int a4), (6, .int a6), (7, .int a7)] w) {a1 : Int32} {a3 : Int32} {a4 : Int32} {a6 : Int32} {a7 : Int32} (h : fX12_call__59 k_59 a1 a3 a4 a6 a7 w = some R) : RT (GM q) l 2 yX12_call_ cX12_call_ 13 (none) N X 59 [] [(0, .ref 0), (1, .int a1), (3, .int a3), (4, .int a4), (6, .int a6), (7, .int a7)] w := by
  unfold fX12_call__59 at h
  refine r_iload (pc := 59) dX12_call__59 5 rfl ?_
  refine r_aload_n (pc := 61) dX12_call__61 rfl 0 rfl ?_
  refine r_get (pc := 62) (j := 101) (v := .ref 73) oM0 cf12 flRX12_299 rfl dX12_call__62 rfl ?_
  refine r_iload_n (pc := 65) dX12_call__65 rfl 2 rfl ?_
  replace h := if_n h; obtain ⟨hb1, h⟩ := h
  refine r_iald (pc := 66) aM73 (inb_in hb1) dX12_call__66 ?_
  refine r_icmp_ge (pc := 67) dX12_call__67 rfl (fun hc2 => ?_) (fun hc2 => ?_)
  · replace h := if_t hc2 h
    refine r_aload_n (pc := 301) dX12_call__301 rfl 0 rfl ?_
    refine r_iload (pc := 302) dX12_call__302 4 rfl ?_
    replace h := lt_e h; obtain ⟨w3, ew3, h⟩ := h
    refine r_putI (pc := 304) (j := 129) oM0 cf12 flRX12_771 rfl rfl rfl rfl dX12_call__304 ?_
    refine r_w ew3 ?_
    refine r_aload_n (pc := 307) dX12_call__307 rfl 0 rfl ?_
    refine r_aload_n (pc := 308) dX12_call__308 rfl 0 rfl ?_
    refine r_get (pc := 309) (j := 98) (v := .ref 70) oM0 cf12 flRX12_290 rfl dX12_call__309 rfl ?_
    refine r_iload_n (pc := 312) dX12_call__312 rfl 2 rfl ?_
    replace h := if_n h; obtain ⟨hb4, h⟩ := h
    refine r_iald (pc := 313) aM70 (inb_in hb4) dX12_call__313 ?_
    replace h := lt_e h; obtain ⟨w5, ew5, h⟩ := h
    refine r_putI (pc := 314) (j := 128) oM0 cf12 flRX12_786 rfl rfl rfl rfl dX12_call__314 ?_
    refine r_w ew5 ?_
    exact rO_v (pc := 317) rfl dX12_call__317 h hN
  replace h := if_f hc2 h
  refine r_aload_n (pc := 70) dX12_call__70 rfl 0 rfl ?_
  refine r_get (pc := 71) (j := 93) (v := .ref 65) oM0 cf12 flRX12_275 rfl dX12_call__71 rfl ?_
  refine r_iload_n (pc := 74) dX12_call__74 rfl 1 rfl ?_
  replace h := if_n h; obtain ⟨hb6, h⟩ := h
  refine r_iald (pc := 75) aM65 (inb_in hb6) dX12_call__75 ?_
  refine r_iload (pc := 76) dX12_call__76 5 rfl ?_
  refine r_iadd (pc := 78) dX12_call__78 ?_
  replace h := lt_e h; obtain ⟨x7, ex7, h⟩ := h
  refine r_topi ex7 ?_
  refine r_istore (pc := 79) (loc' := [(8, .int x7), (0, .ref 0), (1, .int a1), (3, .int a3), (4, .int a4), (6, .int a6), (7, .int a7)]) dX12_call__79 (Nat.le_of_ble_eq_true rfl) rfl ?_
  refine r_aload_n (pc := 81) dX12_call__81 rfl 1 rfl ?_
  refine r_get (pc := 82) (j := 116) (v := .ref 87) oM0 cf12 flRX12_342 rfl dX12_call__82 rfl ?_
  refine r_iload (pc := 85) dX12_call__85 5 rfl ?_
  replace h := if_n h; obtain ⟨hb8, h⟩ := h
  refine r_iald (pc := 87) aM87 (inb_in hb8) dX12_call__87 ?_
  refine r_aload_n (pc := 88) dX12_call__88 rfl 1 rfl ?_
  refine r_get (pc := 89) (j := 102) (v := .ref 74) oM0 cf12 flRX12_302 rfl dX12_call__89 rfl ?_
  refine r_aload_n (pc := 92) dX12_call__92 rfl 1 rfl ?_
  refine r_get (pc := 93) (j := 100) (v := .ref 72) oM0 cf12 flRX12_296 rfl dX12_call__93 rfl ?_
  refine r_iload_n (pc := 96) dX12_call__96 rfl 3 rfl ?_
  replace h := if_n h; obtain ⟨hb9, h⟩ := h
  refine r_iald (pc := 97) aM72 (inb_in hb9) dX12_call__97 ?_
  refine r_iload (pc := 98) dX12_call__98 6 rfl ?_
  refine r_iadd (pc := 100) dX12_call__100 ?_
  replace h := if_n h; obtain ⟨hb10, h⟩ := h
  refine r_iald (pc := 101) aM74 (inb_in hb10) dX12_call__101 ?_
  refine r_iadd (pc := 102) dX12_call__102 ?_
  replace h := lt_e h; obtain ⟨x11, ex11, h⟩ := h
  refine r_topi ex11 ?_
  refine r_istore (pc := 103) (loc' := [(9, .int x11), (8, .int x7), (0, .ref 0), (1, .int a1), (3, .int a3), (4, .int a4), (6, .int a6), (7, .int a7)]) dX12_call__103 (Nat.le_of_ble_eq_true rfl) rfl ?_
  refine r_aload_n (pc := 105) dX12_call__105 rfl 2 rfl ?_
  refine r_get (pc := 106) (j := 94) (v := .ref 66) oM0 cf12 flRX12_278 rfl dX12_call__106 rfl ?_
  refine r_iload (pc := 109) dX12_call__109 1 rfl ?_
  replace h := if_n h; obtain ⟨hb12, h⟩ := h
  refine r_iald (pc := 111) aM66 (inb_in hb12) dX12_call__111 ?_
  replace h := lt_e h; obtain ⟨x13, ex13, h⟩ := h
  refine r_topi ex13 ?_
  refine r_istore (pc := 112) (loc' := [(10, .int x13), (9, .int x11), (8, .int x7), (0, .ref 0), (1, .int a1), (3, .int a3), (4, .int a4), (6, .int a6), (7, .int a7)]) dX12_call__112 (Nat.le_of_ble_eq_true rfl) rfl ?_
  refine r_iload (pc := 114) dX12_call__114 0 rfl ?_
  refine r_iconst (pc := 116) dX12_call__116 ki_1 ?_
  refine r_icmp_eq (pc := 117) dX12_call__117 rfl (fun hc14 => ?_) (fun hc14 => ?_)
  · replace h := if_t hc14 h
    refine r_drop (loc' := [(0, .ref 0), (1, .int a1), (3, .int a3), (4, .int a4), (6, .int a6), (7, .int a7), (8, .int x7), (9, .int x11)]) [3, 4, 5, 6, 7, 8, 2, 1] rfl ?_
    exact pX12_call__126 hN hk_59 h
  replace h := if_f hc14 h
  refine r_iload (pc := 120) dX12_call__120 0 rfl ?_
  refine r_iconst (pc := 122) dX12_call__122 ki_4 ?_
  refine r_icmp_ne (pc := 123) dX12_call__123 rfl (fun hc15 => ?_) (fun hc15 => ?_)
  · replace h := if_f hc15 h
    refine r_iload (pc := 156) dX12_call__156 6 rfl ?_
    refine r_istore (pc := 158) (loc' := [(11, .int a4), (10, .int x13), (9, .int x11), (8, .int x7), (0, .ref 0), (1, .int a1), (3, .int a3), (4, .int a4), (6, .int a6), (7, .int a7)]) dX12_call__158 (Nat.le_of_ble_eq_true rfl) rfl ?_
    refine r_iconst (pc := 160) dX12_call__160 ki_0 ?_
    refine r_istore (pc := 161) (loc' := [(12, .int 0), (11, .int a4), (10, .int x13), (9, .int x11), (8, .int x7), (0, .ref 0), (1, .int a1), (3, .int a3), (4, .int a4), (6, .int a6), (7, .int a7)]) dX12_call__161 (Nat.le_of_ble_eq_true rfl) rfl ?_
    refine r_drop (loc' := [(0, .ref 0), (1, .int a1), (3, .int a3), (4, .int a4), (6, .int a6), (7, .int a7), (8, .int x7), (9, .int x11), (10, .int x13), (11, .int a4), (12, .int 0)]) [5, 6, 7, 8, 9, 10, 4, 3, 2, 1, 0] rfl ?_
    exact qX12_call__163 hN hk_59 FU a1 a3 a4 a6 a7 x7 x11 x13 a4 0 w h
  replace h := if_t hc15 h
  refine r_drop (loc' := [(0, .ref 0), (1, .int a1), (3, .int a3), (4, .int a4), (6, .int a6), (7, .int a7), (8, .int x7), (9, .int x11)]) [3, 4, 5, 6, 7, 8, 2, 1] rfl ?_
  exact pX12_call__126 hN hk_59 h
def oX12_call__59 : Nat → Int32 → Int32 → Int32 → Int32 → Int32 → Wd → Option Wd
  | 0 => fun _ _ _ _ _ _ => none
  | n + 1 => fX12_call__59 (oX12_call__59 n)
theorem qX12_call__59 {q : Gq} {l : Launch} {N : Option Value → Wd → Prop} {X : String → Wd → Prop} {R : Wd} (hN : N none R) : ∀ (n : Nat) (a1 : Int32) (a3 : Int32) (a4 : Int32) (a6 : Int32) (a7 : Int32) (w : Wd), oX12_call__59 n a1 a3 a4 a6 a7 w = some R → RT (GM q) l 2 yX12_call_ cX12_call_ 13 (none) N X 59 [] [(0, .ref 0), (1, .int a1), (3, .int a3), (4, .int a4), (6, .int a6), (7, .int a7)] w := by
  intro n
  induction n with
  | zero =>
    intro a1 a3 a4 a6 a7 w h
    exact absurd h (fun q => nomatch q)
  | succ n ih =>
    intro a1 a3 a4 a6 a7 w h
    exact pX12_call__59 hN ih h
def fX12_call_ (a1 : Int32) (a2 : Int32) (w : Wd) : Option Wd :=
  lt2 (fX12_pay w) fun x1 w2 => if x1 = true then (lt2 (fX12_deeper w2) fun x4 w5 => if x4 = true then (if inb a1 4300 = true then lt ((gi w5 63 (Int32.toNatClampNeg a1))) fun x8 => lt ((gi w5 0 129)) fun x9 => if inb a1 4300 = true then bn2 (fX12_envUp (gi w5 64 (Int32.toNatClampNeg a1)) w5) fun x11 w12 => bn (fX12_enter x8 x11 a2 w12) fun w13 => lt (((gi w13 0 131) - 1)) fun x14 => oX12_call__59 FU a1 x8 x9 x14 0 w13 else none else none) else (some w5)) else (some w2)
theorem pX12_call_ {q : Gq} {l : Launch} {N : Option Value → Wd → Prop} {X : String → Wd → Prop} {w : Wd} {R : Wd} (hN : N none R) {a1 : Int32} {a2 : Int32} (h : fX12_call_ a1 a2 w = some R) : RT (GM q) l 2 yX12_call_ cX12_call_ 13 (none) N X 0 [] [(0, .ref 0), (1, .int a1), (2, .int a2)] w := by
  unfold fX12_call_ at h
  refine r_aload_n (pc := 0) dX12_call__0 rfl 0 rfl ?_
  replace h := lt2_e h; obtain ⟨x1, w2, ew2, h⟩ := h
  refine r_cVi (pc := 1) wyX12_pay oM0 rfl mlRX12_795 iyX12_pay syX12_pay ⟨(Nat.le_of_ble_eq_true rfl), (Nat.le_of_ble_eq_true rfl)⟩ rfl rfl (Nat.le_of_ble_eq_true rfl) dX12_call__1 (mX12_pay ew2 (pI.mk ?_))
  refine r_z_eq (pc := 4) dX12_call__4 rfl (fun hc3 => ?_) (fun hc3 => ?_)
  · replace h := if_f hc3 h
    exact rO_v (pc := 14) rfl dX12_call__14 h hN
  replace h := if_t hc3 h
  refine r_aload_n (pc := 7) dX12_call__7 rfl 0 rfl ?_
  replace h := lt2_e h; obtain ⟨x4, w5, ew5, h⟩ := h
  refine r_cVi (pc := 8) wyX12_deeper oM0 rfl mlRX12_798 iyX12_deeper syX12_deeper ⟨(Nat.le_of_ble_eq_true rfl), (Nat.le_of_ble_eq_true rfl)⟩ rfl rfl (Nat.le_of_ble_eq_true rfl) dX12_call__8 (mX12_deeper ew5 (pI.mk ?_))
  refine r_z_ne (pc := 11) dX12_call__11 rfl (fun hc6 => ?_) (fun hc6 => ?_)
  · replace h := if_t hc6 h
    refine r_aload_n (pc := 15) dX12_call__15 rfl 0 rfl ?_
    refine r_get (pc := 16) (j := 91) (v := .ref 63) oM0 cf12 flRX12_269 rfl dX12_call__16 rfl ?_
    refine r_iload_n (pc := 19) dX12_call__19 rfl 1 rfl ?_
    replace h := if_n h; obtain ⟨hb7, h⟩ := h
    refine r_iald (pc := 20) aM63 (inb_in hb7) dX12_call__20 ?_
    replace h := lt_e h; obtain ⟨x8, ex8, h⟩ := h
    refine r_topi ex8 ?_
    refine r_istore_n (pc := 21) (loc' := [(3, .int x8), (0, .ref 0), (1, .int a1), (2, .int a2)]) dX12_call__21 rfl (Nat.le_of_ble_eq_true rfl) rfl ?_
    refine r_aload_n (pc := 22) dX12_call__22 rfl 1 rfl ?_
    refine r_get (pc := 23) (j := 129) (v := .int (gi w5 0 129)) oM0 cf12 flRX12_771 rfl dX12_call__23 rfl ?_
    replace h := lt_e h; obtain ⟨x9, ex9, h⟩ := h
    refine r_topi ex9 ?_
    refine r_istore (pc := 26) (loc' := [(4, .int x9), (3, .int x8), (0, .ref 0), (1, .int a1), (2, .int a2)]) dX12_call__26 (Nat.le_of_ble_eq_true rfl) rfl ?_
    refine r_aload_n (pc := 28) dX12_call__28 rfl 2 rfl ?_
    refine r_aload_n (pc := 29) dX12_call__29 rfl 2 rfl ?_
    refine r_get (pc := 30) (j := 92) (v := .ref 64) oM0 cf12 flRX12_272 rfl dX12_call__30 rfl ?_
    refine r_iload_n (pc := 33) dX12_call__33 rfl 3 rfl ?_
    replace h := if_n h; obtain ⟨hb10, h⟩ := h
    refine r_iald (pc := 34) aM64 (inb_in hb10) dX12_call__34 ?_
    replace h := bn2_e h; obtain ⟨x11, w12, ew12, h⟩ := h
    refine r_cVi (pc := 35) wyX12_envUp oM0 rfl mlRX12_774 iyX12_envUp syX12_envUp ⟨(Nat.le_of_ble_eq_true rfl), (Nat.le_of_ble_eq_true rfl)⟩ rfl rfl (Nat.le_of_ble_eq_true rfl) dX12_call__35 (mX12_envUp ew12 (pI.mk ?_))
    refine r_istore (pc := 38) (loc' := [(5, .int x11), (4, .int x9), (3, .int x8), (0, .ref 0), (1, .int a1), (2, .int a2)]) dX12_call__38 (Nat.le_of_ble_eq_true rfl) rfl ?_
    refine r_aload_n (pc := 40) dX12_call__40 rfl 3 rfl ?_
    refine r_iload_n (pc := 41) dX12_call__41 rfl 2 rfl ?_
    refine r_iload (pc := 42) dX12_call__42 0 rfl ?_
    refine r_iload_n (pc := 44) dX12_call__44 rfl 5 rfl ?_
    replace h := bn_e h; obtain ⟨w13, ew13, h⟩ := h
    refine r_cVv (pc := 45) wyX12_enter oM0 rfl mlRX12_830 iyX12_enter syX12_enter ⟨(Nat.le_of_ble_eq_true rfl), (Nat.le_of_ble_eq_true rfl)⟩ rfl rfl (Nat.le_of_ble_eq_true rfl) dX12_call__45 (mX12_enter ew13 (pV.mk ?_))
    refine r_aload_n (pc := 48) dX12_call__48 rfl 3 rfl ?_
    refine r_get (pc := 49) (j := 131) (v := .int (gi w13 0 131)) oM0 cf12 flRX12_821 rfl dX12_call__49 rfl ?_
    refine r_iconst (pc := 52) dX12_call__52 ki_1 ?_
    refine r_isub (pc := 53) dX12_call__53 ?_
    replace h := lt_e h; obtain ⟨x14, ex14, h⟩ := h
    refine r_topi ex14 ?_
    refine r_istore (pc := 54) (loc' := [(6, .int x14), (5, .int x11), (4, .int x9), (3, .int x8), (0, .ref 0), (1, .int a1), (2, .int a2)]) dX12_call__54 (Nat.le_of_ble_eq_true rfl) rfl ?_
    refine r_iconst (pc := 56) dX12_call__56 ki_0 ?_
    refine r_istore (pc := 57) (loc' := [(7, .int 0), (6, .int x14), (5, .int x11), (4, .int x9), (3, .int x8), (0, .ref 0), (1, .int a1), (2, .int a2)]) dX12_call__57 (Nat.le_of_ble_eq_true rfl) rfl ?_
    refine r_drop (loc' := [(0, .ref 0), (1, .int a1), (3, .int x8), (4, .int x9), (6, .int x14), (7, .int 0)]) [5, 6, 4, 3, 1, 0] rfl ?_
    exact qX12_call__59 hN FU a1 x8 x9 x14 0 w13 h
  replace h := if_f hc6 h
  exact rO_v (pc := 14) rfl dX12_call__14 h hN
theorem mX12_call_ {q : Gq} {l : Launch} {N : Option Value → Wd → Prop} {X : String → Wd → Prop} {a1 : Int32} {a2 : Int32} {w : Wd} {u : Wd} (h : fX12_call_ a1 a2 w = some u) (hN : N none u) : Ct (GM q) l 2 yX12_call_ cX12_call_ 13 (none) [.ref 0, .int a1, .int a2] w N X := Ct.of (by decide) (Nat.le_of_ble_eq_true rfl) (pX12_call_ hN h)
/-! AlgolMillModel.callFormal (II)V: O, 2 -/
theorem dX12_callFormal_0 : decode cX12_callFormal 0 = .ok (.aload_n 0, 1) := by decide +kernel
theorem dX12_callFormal_1 : decode cX12_callFormal 1 = .ok (.invokevirtual 795, 3) := by decide +kernel
theorem dX12_callFormal_4 : decode cX12_callFormal 4 = .ok (.ifCond .eq 10, 3) := by decide +kernel
theorem dX12_callFormal_7 : decode cX12_callFormal 7 = .ok (.aload_n 0, 1) := by decide +kernel
theorem dX12_callFormal_8 : decode cX12_callFormal 8 = .ok (.invokevirtual 798, 3) := by decide +kernel
theorem dX12_callFormal_11 : decode cX12_callFormal 11 = .ok (.ifCond .ne 4, 3) := by decide +kernel
theorem dX12_callFormal_14 : decode cX12_callFormal 14 = .ok (.return_, 1) := by decide +kernel
theorem dX12_callFormal_15 : decode cX12_callFormal 15 = .ok (.aload_n 0, 1) := by decide +kernel
theorem dX12_callFormal_16 : decode cX12_callFormal 16 = .ok (.getfield 330, 3) := by decide +kernel
theorem dX12_callFormal_19 : decode cX12_callFormal 19 = .ok (.iload_n 1, 1) := by decide +kernel
theorem dX12_callFormal_20 : decode cX12_callFormal 20 = .ok (.laload, 1) := by decide +kernel
theorem dX12_callFormal_21 : decode cX12_callFormal 21 = .ok (.l2i, 1) := by decide +kernel
theorem dX12_callFormal_22 : decode cX12_callFormal 22 = .ok (.istore_n 3, 1) := by decide +kernel
theorem dX12_callFormal_23 : decode cX12_callFormal 23 = .ok (.aload_n 0, 1) := by decide +kernel
theorem dX12_callFormal_24 : decode cX12_callFormal 24 = .ok (.getfield 330, 3) := by decide +kernel
theorem dX12_callFormal_27 : decode cX12_callFormal 27 = .ok (.iload_n 1, 1) := by decide +kernel
theorem dX12_callFormal_28 : decode cX12_callFormal 28 = .ok (.iconst 1, 1) := by decide +kernel
theorem dX12_callFormal_29 : decode cX12_callFormal 29 = .ok (.iadd, 1) := by decide +kernel
theorem dX12_callFormal_30 : decode cX12_callFormal 30 = .ok (.laload, 1) := by decide +kernel
theorem dX12_callFormal_31 : decode cX12_callFormal 31 = .ok (.l2i, 1) := by decide +kernel
theorem dX12_callFormal_32 : decode cX12_callFormal 32 = .ok (.istore 4, 2) := by decide +kernel
theorem dX12_callFormal_34 : decode cX12_callFormal 34 = .ok (.aload_n 0, 1) := by decide +kernel
theorem dX12_callFormal_35 : decode cX12_callFormal 35 = .ok (.iload_n 3, 1) := by decide +kernel
theorem dX12_callFormal_36 : decode cX12_callFormal 36 = .ok (.iload 4, 2) := by decide +kernel
theorem dX12_callFormal_38 : decode cX12_callFormal 38 = .ok (.iload_n 2, 1) := by decide +kernel
theorem dX12_callFormal_39 : decode cX12_callFormal 39 = .ok (.invokevirtual 830, 3) := by decide +kernel
theorem dX12_callFormal_42 : decode cX12_callFormal 42 = .ok (.aload_n 0, 1) := by decide +kernel
theorem dX12_callFormal_43 : decode cX12_callFormal 43 = .ok (.aload_n 0, 1) := by decide +kernel
theorem dX12_callFormal_44 : decode cX12_callFormal 44 = .ok (.getfield 821, 3) := by decide +kernel
theorem dX12_callFormal_47 : decode cX12_callFormal 47 = .ok (.iconst 1, 1) := by decide +kernel
theorem dX12_callFormal_48 : decode cX12_callFormal 48 = .ok (.isub, 1) := by decide +kernel
theorem dX12_callFormal_49 : decode cX12_callFormal 49 = .ok (.putfield 771, 3) := by decide +kernel
theorem dX12_callFormal_52 : decode cX12_callFormal 52 = .ok (.aload_n 0, 1) := by decide +kernel
theorem dX12_callFormal_53 : decode cX12_callFormal 53 = .ok (.aload_n 0, 1) := by decide +kernel
theorem dX12_callFormal_54 : decode cX12_callFormal 54 = .ok (.getfield 290, 3) := by decide +kernel
theorem dX12_callFormal_57 : decode cX12_callFormal 57 = .ok (.iload_n 3, 1) := by decide +kernel
theorem dX12_callFormal_58 : decode cX12_callFormal 58 = .ok (.iaload, 1) := by decide +kernel
theorem dX12_callFormal_59 : decode cX12_callFormal 59 = .ok (.putfield 786, 3) := by decide +kernel
theorem dX12_callFormal_62 : decode cX12_callFormal 62 = .ok (.return_, 1) := by decide +kernel
def fX12_callFormal (a1 : Int32) (a2 : Int32) (w : Wd) : Option Wd :=
  lt2 (fX12_pay w) fun x1 w2 => if x1 = true then (lt2 (fX12_deeper w2) fun x4 w5 => if x4 = true then (if inb a1 200000 = true then lt ((Int64.toInt32 (gl w5 83 (Int32.toNatClampNeg a1)))) fun x8 => if inb (a1 + 1) 200000 = true then lt ((Int64.toInt32 (gl w5 83 (Int32.toNatClampNeg (a1 + 1))))) fun x10 => bn (fX12_enter x8 x10 a2 w5) fun w11 => lt (si w11 0 129 ((gi w11 0 131) - 1)) fun w12 => if inb x8 1200 = true then lt (si w12 0 128 (gi w12 70 (Int32.toNatClampNeg x8))) fun w14 => some w14 else none else none else none) else (some w5)) else (some w2)
theorem pX12_callFormal {q : Gq} {l : Launch} {N : Option Value → Wd → Prop} {X : String → Wd → Prop} {w : Wd} {R : Wd} (hN : N none R) {a1 : Int32} {a2 : Int32} (h : fX12_callFormal a1 a2 w = some R) : RT (GM q) l 2 yX12_callFormal cX12_callFormal 5 (none) N X 0 [] [(0, .ref 0), (1, .int a1), (2, .int a2)] w := by
  unfold fX12_callFormal at h
  refine r_aload_n (pc := 0) dX12_callFormal_0 rfl 0 rfl ?_
  replace h := lt2_e h; obtain ⟨x1, w2, ew2, h⟩ := h
  refine r_cVi (pc := 1) wyX12_pay oM0 rfl mlRX12_795 iyX12_pay syX12_pay ⟨(Nat.le_of_ble_eq_true rfl), (Nat.le_of_ble_eq_true rfl)⟩ rfl rfl (Nat.le_of_ble_eq_true rfl) dX12_callFormal_1 (mX12_pay ew2 (pI.mk ?_))
  refine r_z_eq (pc := 4) dX12_callFormal_4 rfl (fun hc3 => ?_) (fun hc3 => ?_)
  · replace h := if_f hc3 h
    exact rO_v (pc := 14) rfl dX12_callFormal_14 h hN
  replace h := if_t hc3 h
  refine r_aload_n (pc := 7) dX12_callFormal_7 rfl 0 rfl ?_
  replace h := lt2_e h; obtain ⟨x4, w5, ew5, h⟩ := h
  refine r_cVi (pc := 8) wyX12_deeper oM0 rfl mlRX12_798 iyX12_deeper syX12_deeper ⟨(Nat.le_of_ble_eq_true rfl), (Nat.le_of_ble_eq_true rfl)⟩ rfl rfl (Nat.le_of_ble_eq_true rfl) dX12_callFormal_8 (mX12_deeper ew5 (pI.mk ?_))
  refine r_z_ne (pc := 11) dX12_callFormal_11 rfl (fun hc6 => ?_) (fun hc6 => ?_)
  · replace h := if_t hc6 h
    refine r_aload_n (pc := 15) dX12_callFormal_15 rfl 0 rfl ?_
    refine r_get (pc := 16) (j := 112) (v := .ref 83) oM0 cf12 flRX12_330 rfl dX12_callFormal_16 rfl ?_
    refine r_iload_n (pc := 19) dX12_callFormal_19 rfl 1 rfl ?_
    replace h := if_n h; obtain ⟨hb7, h⟩ := h
    refine r_lald (pc := 20) aM83 (inb_in hb7) dX12_callFormal_20 ?_
    refine r_l2i (pc := 21) dX12_callFormal_21 ?_
    replace h := lt_e h; obtain ⟨x8, ex8, h⟩ := h
    refine r_topi ex8 ?_
    refine r_istore_n (pc := 22) (loc' := [(3, .int x8), (0, .ref 0), (1, .int a1), (2, .int a2)]) dX12_callFormal_22 rfl (Nat.le_of_ble_eq_true rfl) rfl ?_
    refine r_aload_n (pc := 23) dX12_callFormal_23 rfl 1 rfl ?_
    refine r_get (pc := 24) (j := 112) (v := .ref 83) oM0 cf12 flRX12_330 rfl dX12_callFormal_24 rfl ?_
    refine r_iload_n (pc := 27) dX12_callFormal_27 rfl 2 rfl ?_
    refine r_iconst (pc := 28) dX12_callFormal_28 ki_1 ?_
    refine r_iadd (pc := 29) dX12_callFormal_29 ?_
    replace h := if_n h; obtain ⟨hb9, h⟩ := h
    refine r_lald (pc := 30) aM83 (inb_in hb9) dX12_callFormal_30 ?_
    refine r_l2i (pc := 31) dX12_callFormal_31 ?_
    replace h := lt_e h; obtain ⟨x10, ex10, h⟩ := h
    refine r_topi ex10 ?_
    refine r_istore (pc := 32) (loc' := [(4, .int x10), (3, .int x8), (0, .ref 0), (1, .int a1), (2, .int a2)]) dX12_callFormal_32 (Nat.le_of_ble_eq_true rfl) rfl ?_
    refine r_aload_n (pc := 34) dX12_callFormal_34 rfl 2 rfl ?_
    refine r_iload_n (pc := 35) dX12_callFormal_35 rfl 1 rfl ?_
    refine r_iload (pc := 36) dX12_callFormal_36 0 rfl ?_
    refine r_iload_n (pc := 38) dX12_callFormal_38 rfl 4 rfl ?_
    replace h := bn_e h; obtain ⟨w11, ew11, h⟩ := h
    refine r_cVv (pc := 39) wyX12_enter oM0 rfl mlRX12_830 iyX12_enter syX12_enter ⟨(Nat.le_of_ble_eq_true rfl), (Nat.le_of_ble_eq_true rfl)⟩ rfl rfl (Nat.le_of_ble_eq_true rfl) dX12_callFormal_39 (mX12_enter ew11 (pV.mk ?_))
    refine r_aload_n (pc := 42) dX12_callFormal_42 rfl 2 rfl ?_
    refine r_aload_n (pc := 43) dX12_callFormal_43 rfl 2 rfl ?_
    refine r_get (pc := 44) (j := 131) (v := .int (gi w11 0 131)) oM0 cf12 flRX12_821 rfl dX12_callFormal_44 rfl ?_
    refine r_iconst (pc := 47) dX12_callFormal_47 ki_1 ?_
    refine r_isub (pc := 48) dX12_callFormal_48 ?_
    replace h := lt_e h; obtain ⟨w12, ew12, h⟩ := h
    refine r_putI (pc := 49) (j := 129) oM0 cf12 flRX12_771 rfl rfl rfl rfl dX12_callFormal_49 ?_
    refine r_w ew12 ?_
    refine r_aload_n (pc := 52) dX12_callFormal_52 rfl 2 rfl ?_
    refine r_aload_n (pc := 53) dX12_callFormal_53 rfl 2 rfl ?_
    refine r_get (pc := 54) (j := 98) (v := .ref 70) oM0 cf12 flRX12_290 rfl dX12_callFormal_54 rfl ?_
    refine r_iload_n (pc := 57) dX12_callFormal_57 rfl 1 rfl ?_
    replace h := if_n h; obtain ⟨hb13, h⟩ := h
    refine r_iald (pc := 58) aM70 (inb_in hb13) dX12_callFormal_58 ?_
    replace h := lt_e h; obtain ⟨w14, ew14, h⟩ := h
    refine r_putI (pc := 59) (j := 128) oM0 cf12 flRX12_786 rfl rfl rfl rfl dX12_callFormal_59 ?_
    refine r_w ew14 ?_
    exact rO_v (pc := 62) rfl dX12_callFormal_62 h hN
  replace h := if_f hc6 h
  exact rO_v (pc := 14) rfl dX12_callFormal_14 h hN
theorem mX12_callFormal {q : Gq} {l : Launch} {N : Option Value → Wd → Prop} {X : String → Wd → Prop} {a1 : Int32} {a2 : Int32} {w : Wd} {u : Wd} (h : fX12_callFormal a1 a2 w = some u) (hN : N none u) : Ct (GM q) l 2 yX12_callFormal cX12_callFormal 5 (none) [.ref 0, .int a1, .int a2] w N X := Ct.of (by decide) (Nat.le_of_ble_eq_true rfl) (pX12_callFormal hN h)
/-! AlgolMillModel.leave ()V: O, 1 -/
theorem dX12_leave_0 : decode cX12_leave 0 = .ok (.aload_n 0, 1) := by decide +kernel
theorem dX12_leave_1 : decode cX12_leave 1 = .ok (.dup, 1) := by decide +kernel
theorem dX12_leave_2 : decode cX12_leave 2 = .ok (.getfield 783, 3) := by decide +kernel
theorem dX12_leave_5 : decode cX12_leave 5 = .ok (.iconst 1, 1) := by decide +kernel
theorem dX12_leave_6 : decode cX12_leave 6 = .ok (.isub, 1) := by decide +kernel
theorem dX12_leave_7 : decode cX12_leave 7 = .ok (.putfield 783, 3) := by decide +kernel
theorem dX12_leave_10 : decode cX12_leave 10 = .ok (.aload_n 0, 1) := by decide +kernel
theorem dX12_leave_11 : decode cX12_leave 11 = .ok (.getfield 330, 3) := by decide +kernel
theorem dX12_leave_14 : decode cX12_leave 14 = .ok (.aload_n 0, 1) := by decide +kernel
theorem dX12_leave_15 : decode cX12_leave 15 = .ok (.getfield 342, 3) := by decide +kernel
theorem dX12_leave_18 : decode cX12_leave 18 = .ok (.aload_n 0, 1) := by decide +kernel
theorem dX12_leave_19 : decode cX12_leave 19 = .ok (.getfield 771, 3) := by decide +kernel
theorem dX12_leave_22 : decode cX12_leave 22 = .ok (.iaload, 1) := by decide +kernel
theorem dX12_leave_23 : decode cX12_leave 23 = .ok (.laload, 1) := by decide +kernel
theorem dX12_leave_24 : decode cX12_leave 24 = .ok (.lstore_n 1, 1) := by decide +kernel
theorem dX12_leave_25 : decode cX12_leave 25 = .ok (.aload_n 0, 1) := by decide +kernel
theorem dX12_leave_26 : decode cX12_leave 26 = .ok (.dup, 1) := by decide +kernel
theorem dX12_leave_27 : decode cX12_leave 27 = .ok (.getfield 821, 3) := by decide +kernel
theorem dX12_leave_30 : decode cX12_leave 30 = .ok (.iconst 1, 1) := by decide +kernel
theorem dX12_leave_31 : decode cX12_leave 31 = .ok (.isub, 1) := by decide +kernel
theorem dX12_leave_32 : decode cX12_leave 32 = .ok (.putfield 821, 3) := by decide +kernel
theorem dX12_leave_35 : decode cX12_leave 35 = .ok (.aload_n 0, 1) := by decide +kernel
theorem dX12_leave_36 : decode cX12_leave 36 = .ok (.aload_n 0, 1) := by decide +kernel
theorem dX12_leave_37 : decode cX12_leave 37 = .ok (.getfield 342, 3) := by decide +kernel
theorem dX12_leave_40 : decode cX12_leave 40 = .ok (.aload_n 0, 1) := by decide +kernel
theorem dX12_leave_41 : decode cX12_leave 41 = .ok (.getfield 821, 3) := by decide +kernel
theorem dX12_leave_44 : decode cX12_leave 44 = .ok (.iaload, 1) := by decide +kernel
theorem dX12_leave_45 : decode cX12_leave 45 = .ok (.putfield 824, 3) := by decide +kernel
theorem dX12_leave_48 : decode cX12_leave 48 = .ok (.aload_n 0, 1) := by decide +kernel
theorem dX12_leave_49 : decode cX12_leave 49 = .ok (.aload_n 0, 1) := by decide +kernel
theorem dX12_leave_50 : decode cX12_leave 50 = .ok (.getfield 354, 3) := by decide +kernel
theorem dX12_leave_53 : decode cX12_leave 53 = .ok (.aload_n 0, 1) := by decide +kernel
theorem dX12_leave_54 : decode cX12_leave 54 = .ok (.getfield 821, 3) := by decide +kernel
theorem dX12_leave_57 : decode cX12_leave 57 = .ok (.iaload, 1) := by decide +kernel
theorem dX12_leave_58 : decode cX12_leave 58 = .ok (.putfield 827, 3) := by decide +kernel
theorem dX12_leave_61 : decode cX12_leave 61 = .ok (.aload_n 0, 1) := by decide +kernel
theorem dX12_leave_62 : decode cX12_leave 62 = .ok (.aload_n 0, 1) := by decide +kernel
theorem dX12_leave_63 : decode cX12_leave 63 = .ok (.getfield 360, 3) := by decide +kernel
theorem dX12_leave_66 : decode cX12_leave 66 = .ok (.aload_n 0, 1) := by decide +kernel
theorem dX12_leave_67 : decode cX12_leave 67 = .ok (.getfield 783, 3) := by decide +kernel
theorem dX12_leave_70 : decode cX12_leave 70 = .ok (.iaload, 1) := by decide +kernel
theorem dX12_leave_71 : decode cX12_leave 71 = .ok (.putfield 786, 3) := by decide +kernel
theorem dX12_leave_74 : decode cX12_leave 74 = .ok (.aload_n 0, 1) := by decide +kernel
theorem dX12_leave_75 : decode cX12_leave 75 = .ok (.aload_n 0, 1) := by decide +kernel
theorem dX12_leave_76 : decode cX12_leave 76 = .ok (.getfield 363, 3) := by decide +kernel
theorem dX12_leave_79 : decode cX12_leave 79 = .ok (.aload_n 0, 1) := by decide +kernel
theorem dX12_leave_80 : decode cX12_leave 80 = .ok (.getfield 783, 3) := by decide +kernel
theorem dX12_leave_83 : decode cX12_leave 83 = .ok (.iaload, 1) := by decide +kernel
theorem dX12_leave_84 : decode cX12_leave 84 = .ok (.putfield 771, 3) := by decide +kernel
theorem dX12_leave_87 : decode cX12_leave 87 = .ok (.aload_n 0, 1) := by decide +kernel
theorem dX12_leave_88 : decode cX12_leave 88 = .ok (.aload_n 0, 1) := by decide +kernel
theorem dX12_leave_89 : decode cX12_leave 89 = .ok (.getfield 369, 3) := by decide +kernel
theorem dX12_leave_92 : decode cX12_leave 92 = .ok (.aload_n 0, 1) := by decide +kernel
theorem dX12_leave_93 : decode cX12_leave 93 = .ok (.getfield 783, 3) := by decide +kernel
theorem dX12_leave_96 : decode cX12_leave 96 = .ok (.iaload, 1) := by decide +kernel
theorem dX12_leave_97 : decode cX12_leave 97 = .ok (.putfield 789, 3) := by decide +kernel
theorem dX12_leave_100 : decode cX12_leave 100 = .ok (.aload_n 0, 1) := by decide +kernel
theorem dX12_leave_101 : decode cX12_leave 101 = .ok (.getfield 372, 3) := by decide +kernel
theorem dX12_leave_104 : decode cX12_leave 104 = .ok (.aload_n 0, 1) := by decide +kernel
theorem dX12_leave_105 : decode cX12_leave 105 = .ok (.getfield 783, 3) := by decide +kernel
theorem dX12_leave_108 : decode cX12_leave 108 = .ok (.iaload, 1) := by decide +kernel
theorem dX12_leave_109 : decode cX12_leave 109 = .ok (.iconst 1, 1) := by decide +kernel
theorem dX12_leave_110 : decode cX12_leave 110 = .ok (.if_icmp .ne 8, 3) := by decide +kernel
theorem dX12_leave_113 : decode cX12_leave 113 = .ok (.aload_n 0, 1) := by decide +kernel
theorem dX12_leave_114 : decode cX12_leave 114 = .ok (.lload_n 1, 1) := by decide +kernel
theorem dX12_leave_115 : decode cX12_leave 115 = .ok (.invokevirtual 817, 3) := by decide +kernel
theorem dX12_leave_118 : decode cX12_leave 118 = .ok (.return_, 1) := by decide +kernel
def fX12_leave (w : Wd) : Option Wd :=
  lt (si w 0 127 ((gi w 0 127) - 1)) fun w1 => if inb (gi w1 0 129) 64 = true then if inb (gi w1 87 (Int32.toNatClampNeg (gi w1 0 129))) 200000 = true then lt ((gl w1 83 (Int32.toNatClampNeg (gi w1 87 (Int32.toNatClampNeg (gi w1 0 129)))))) fun x4 => lt (si w1 0 131 ((gi w1 0 131) - 1)) fun w5 => if inb (gi w5 0 131) 64 = true then lt (si w5 0 132 (gi w5 87 (Int32.toNatClampNeg (gi w5 0 131)))) fun w7 => if inb (gi w7 0 131) 64 = true then lt (si w7 0 133 (gi w7 91 (Int32.toNatClampNeg (gi w7 0 131)))) fun w9 => if inb (gi w9 0 127) 1000 = true then lt (si w9 0 128 (gi w9 93 (Int32.toNatClampNeg (gi w9 0 127)))) fun w11 => if inb (gi w11 0 127) 1000 = true then lt (si w11 0 129 (gi w11 94 (Int32.toNatClampNeg (gi w11 0 127)))) fun w13 => if inb (gi w13 0 127) 1000 = true then lt (si w13 0 134 (gi w13 96 (Int32.toNatClampNeg (gi w13 0 127)))) fun w15 => if inb (gi w15 0 127) 1000 = true then if (gi w15 97 (Int32.toNatClampNeg (gi w15 0 127))) = 1 then (bn (fX12_push x4 w15) fun w18 => some w18) else (some w15) else none else none else none else none else none else none else none else none
set_option maxHeartbeats 16000000 in
theorem pX12_leave {q : Gq} {l : Launch} {N : Option Value → Wd → Prop} {X : String → Wd → Prop} {w : Wd} {R : Wd} (hN : N none R) (h : fX12_leave w = some R) : RT (GM q) l 1 yX12_leave cX12_leave 3 (none) N X 0 [] [(0, .ref 0)] w := by
  unfold fX12_leave at h
  refine r_aload_n (pc := 0) dX12_leave_0 rfl 0 rfl ?_
  refine r_dup (pc := 1) dX12_leave_1 rfl ?_
  refine r_get (pc := 2) (j := 127) (v := .int (gi w 0 127)) oM0 cf12 flRX12_783 rfl dX12_leave_2 rfl ?_
  refine r_iconst (pc := 5) dX12_leave_5 ki_1 ?_
  refine r_isub (pc := 6) dX12_leave_6 ?_
  replace h := lt_e h; obtain ⟨w1, ew1, h⟩ := h
  refine r_putI (pc := 7) (j := 127) oM0 cf12 flRX12_783 rfl rfl rfl rfl dX12_leave_7 ?_
  refine r_w ew1 ?_
  refine r_aload_n (pc := 10) dX12_leave_10 rfl 0 rfl ?_
  refine r_get (pc := 11) (j := 112) (v := .ref 83) oM0 cf12 flRX12_330 rfl dX12_leave_11 rfl ?_
  refine r_aload_n (pc := 14) dX12_leave_14 rfl 0 rfl ?_
  refine r_get (pc := 15) (j := 116) (v := .ref 87) oM0 cf12 flRX12_342 rfl dX12_leave_15 rfl ?_
  refine r_aload_n (pc := 18) dX12_leave_18 rfl 0 rfl ?_
  refine r_get (pc := 19) (j := 129) (v := .int (gi w1 0 129)) oM0 cf12 flRX12_771 rfl dX12_leave_19 rfl ?_
  replace h := if_n h; obtain ⟨hb2, h⟩ := h
  refine r_iald (pc := 22) aM87 (inb_in hb2) dX12_leave_22 ?_
  replace h := if_n h; obtain ⟨hb3, h⟩ := h
  refine r_lald (pc := 23) aM83 (inb_in hb3) dX12_leave_23 ?_
  replace h := lt_e h; obtain ⟨x4, ex4, h⟩ := h
  refine r_topl ex4 ?_
  refine r_lstore_n (pc := 24) (loc' := [(1, .long x4), (0, .ref 0)]) dX12_leave_24 rfl (Nat.le_of_ble_eq_true rfl) rfl ?_
  refine r_aload_n (pc := 25) dX12_leave_25 rfl 1 rfl ?_
  refine r_dup (pc := 26) dX12_leave_26 rfl ?_
  refine r_get (pc := 27) (j := 131) (v := .int (gi w1 0 131)) oM0 cf12 flRX12_821 rfl dX12_leave_27 rfl ?_
  refine r_iconst (pc := 30) dX12_leave_30 ki_1 ?_
  refine r_isub (pc := 31) dX12_leave_31 ?_
  replace h := lt_e h; obtain ⟨w5, ew5, h⟩ := h
  refine r_putI (pc := 32) (j := 131) oM0 cf12 flRX12_821 rfl rfl rfl rfl dX12_leave_32 ?_
  refine r_w ew5 ?_
  refine r_aload_n (pc := 35) dX12_leave_35 rfl 1 rfl ?_
  refine r_aload_n (pc := 36) dX12_leave_36 rfl 1 rfl ?_
  refine r_get (pc := 37) (j := 116) (v := .ref 87) oM0 cf12 flRX12_342 rfl dX12_leave_37 rfl ?_
  refine r_aload_n (pc := 40) dX12_leave_40 rfl 1 rfl ?_
  refine r_get (pc := 41) (j := 131) (v := .int (gi w5 0 131)) oM0 cf12 flRX12_821 rfl dX12_leave_41 rfl ?_
  replace h := if_n h; obtain ⟨hb6, h⟩ := h
  refine r_iald (pc := 44) aM87 (inb_in hb6) dX12_leave_44 ?_
  replace h := lt_e h; obtain ⟨w7, ew7, h⟩ := h
  refine r_putI (pc := 45) (j := 132) oM0 cf12 flRX12_824 rfl rfl rfl rfl dX12_leave_45 ?_
  refine r_w ew7 ?_
  refine r_aload_n (pc := 48) dX12_leave_48 rfl 1 rfl ?_
  refine r_aload_n (pc := 49) dX12_leave_49 rfl 1 rfl ?_
  refine r_get (pc := 50) (j := 120) (v := .ref 91) oM0 cf12 flRX12_354 rfl dX12_leave_50 rfl ?_
  refine r_aload_n (pc := 53) dX12_leave_53 rfl 1 rfl ?_
  refine r_get (pc := 54) (j := 131) (v := .int (gi w7 0 131)) oM0 cf12 flRX12_821 rfl dX12_leave_54 rfl ?_
  replace h := if_n h; obtain ⟨hb8, h⟩ := h
  refine r_iald (pc := 57) aM91 (inb_in hb8) dX12_leave_57 ?_
  replace h := lt_e h; obtain ⟨w9, ew9, h⟩ := h
  refine r_putI (pc := 58) (j := 133) oM0 cf12 flRX12_827 rfl rfl rfl rfl dX12_leave_58 ?_
  refine r_w ew9 ?_
  refine r_aload_n (pc := 61) dX12_leave_61 rfl 1 rfl ?_
  refine r_aload_n (pc := 62) dX12_leave_62 rfl 1 rfl ?_
  refine r_get (pc := 63) (j := 122) (v := .ref 93) oM0 cf12 flRX12_360 rfl dX12_leave_63 rfl ?_
  refine r_aload_n (pc := 66) dX12_leave_66 rfl 1 rfl ?_
  refine r_get (pc := 67) (j := 127) (v := .int (gi w9 0 127)) oM0 cf12 flRX12_783 rfl dX12_leave_67 rfl ?_
  replace h := if_n h; obtain ⟨hb10, h⟩ := h
  refine r_iald (pc := 70) aM93 (inb_in hb10) dX12_leave_70 ?_
  replace h := lt_e h; obtain ⟨w11, ew11, h⟩ := h
  refine r_putI (pc := 71) (j := 128) oM0 cf12 flRX12_786 rfl rfl rfl rfl dX12_leave_71 ?_
  refine r_w ew11 ?_
  refine r_aload_n (pc := 74) dX12_leave_74 rfl 1 rfl ?_
  refine r_aload_n (pc := 75) dX12_leave_75 rfl 1 rfl ?_
  refine r_get (pc := 76) (j := 123) (v := .ref 94) oM0 cf12 flRX12_363 rfl dX12_leave_76 rfl ?_
  refine r_aload_n (pc := 79) dX12_leave_79 rfl 1 rfl ?_
  refine r_get (pc := 80) (j := 127) (v := .int (gi w11 0 127)) oM0 cf12 flRX12_783 rfl dX12_leave_80 rfl ?_
  replace h := if_n h; obtain ⟨hb12, h⟩ := h
  refine r_iald (pc := 83) aM94 (inb_in hb12) dX12_leave_83 ?_
  replace h := lt_e h; obtain ⟨w13, ew13, h⟩ := h
  refine r_putI (pc := 84) (j := 129) oM0 cf12 flRX12_771 rfl rfl rfl rfl dX12_leave_84 ?_
  refine r_w ew13 ?_
  refine r_aload_n (pc := 87) dX12_leave_87 rfl 1 rfl ?_
  refine r_aload_n (pc := 88) dX12_leave_88 rfl 1 rfl ?_
  refine r_get (pc := 89) (j := 125) (v := .ref 96) oM0 cf12 flRX12_369 rfl dX12_leave_89 rfl ?_
  refine r_aload_n (pc := 92) dX12_leave_92 rfl 1 rfl ?_
  refine r_get (pc := 93) (j := 127) (v := .int (gi w13 0 127)) oM0 cf12 flRX12_783 rfl dX12_leave_93 rfl ?_
  replace h := if_n h; obtain ⟨hb14, h⟩ := h
  refine r_iald (pc := 96) aM96 (inb_in hb14) dX12_leave_96 ?_
  replace h := lt_e h; obtain ⟨w15, ew15, h⟩ := h
  refine r_putI (pc := 97) (j := 134) oM0 cf12 flRX12_789 rfl rfl rfl rfl dX12_leave_97 ?_
  refine r_w ew15 ?_
  refine r_aload_n (pc := 100) dX12_leave_100 rfl 1 rfl ?_
  refine r_get (pc := 101) (j := 126) (v := .ref 97) oM0 cf12 flRX12_372 rfl dX12_leave_101 rfl ?_
  refine r_aload_n (pc := 104) dX12_leave_104 rfl 1 rfl ?_
  refine r_get (pc := 105) (j := 127) (v := .int (gi w15 0 127)) oM0 cf12 flRX12_783 rfl dX12_leave_105 rfl ?_
  replace h := if_n h; obtain ⟨hb16, h⟩ := h
  refine r_iald (pc := 108) aM97 (inb_in hb16) dX12_leave_108 ?_
  refine r_iconst (pc := 109) dX12_leave_109 ki_1 ?_
  refine r_icmp_ne (pc := 110) dX12_leave_110 rfl (fun hc17 => ?_) (fun hc17 => ?_)
  · replace h := if_f hc17 h
    exact rO_v (pc := 118) rfl dX12_leave_118 h hN
  replace h := if_t hc17 h
  refine r_aload_n (pc := 113) dX12_leave_113 rfl 1 rfl ?_
  refine r_lload_n (pc := 114) dX12_leave_114 rfl 0 rfl ?_
  replace h := bn_e h; obtain ⟨w18, ew18, h⟩ := h
  refine r_cVv (pc := 115) wyX12_push oM0 rfl mlRX12_817 iyX12_push syX12_push ⟨(Nat.le_of_ble_eq_true rfl), (Nat.le_of_ble_eq_true rfl)⟩ rfl rfl (Nat.le_of_ble_eq_true rfl) dX12_leave_115 (mX12_push ew18 (pV.mk ?_))
  exact rO_v (pc := 118) rfl dX12_leave_118 h hN
theorem mX12_leave {q : Gq} {l : Launch} {N : Option Value → Wd → Prop} {X : String → Wd → Prop} {w : Wd} {u : Wd} (h : fX12_leave w = some u) (hN : N none u) : Ct (GM q) l 1 yX12_leave cX12_leave 3 (none) [.ref 0] w N X := Ct.of (by decide) (Nat.le_of_ble_eq_true rfl) (pX12_leave hN h)
/-! AlgolMillModel.element (II)V: O, 1 -/
theorem dX12_element__0 : decode cX12_element_ 0 = .ok (.iload_n 1, 1) := by decide +kernel
theorem dX12_element__1 : decode cX12_element_ 1 = .ok (.istore_n 3, 1) := by decide +kernel
theorem dX12_element__2 : decode cX12_element_ 2 = .ok (.aload_n 0, 1) := by decide +kernel
theorem dX12_element__3 : decode cX12_element_ 3 = .ok (.getfield 330, 3) := by decide +kernel
theorem dX12_element__6 : decode cX12_element_ 6 = .ok (.iload_n 3, 1) := by decide +kernel
theorem dX12_element__7 : decode cX12_element_ 7 = .ok (.laload, 1) := by decide +kernel
theorem dX12_element__8 : decode cX12_element_ 8 = .ok (.iload_n 2, 1) := by decide +kernel
theorem dX12_element__9 : decode cX12_element_ 9 = .ok (.i2l, 1) := by decide +kernel
theorem dX12_element__10 : decode cX12_element_ 10 = .ok (.lcmp, 1) := by decide +kernel
theorem dX12_element__11 : decode cX12_element_ 11 = .ok (.ifCond .eq 19, 3) := by decide +kernel
theorem dX12_element__14 : decode cX12_element_ 14 = .ok (.aload_n 0, 1) := by decide +kernel
theorem dX12_element__15 : decode cX12_element_ 15 = .ok (.dup, 1) := by decide +kernel
theorem dX12_element__16 : decode cX12_element_ 16 = .ok (.getfield 780, 3) := by decide +kernel
theorem dX12_element__19 : decode cX12_element_ 19 = .ok (.iload_n 2, 1) := by decide +kernel
theorem dX12_element__20 : decode cX12_element_ 20 = .ok (.isub, 1) := by decide +kernel
theorem dX12_element__21 : decode cX12_element_ 21 = .ok (.putfield 780, 3) := by decide +kernel
theorem dX12_element__24 : decode cX12_element_ 24 = .ok (.aload_n 0, 1) := by decide +kernel
theorem dX12_element__25 : decode cX12_element_ 25 = .ok (.iconst 1, 1) := by decide +kernel
theorem dX12_element__26 : decode cX12_element_ 26 = .ok (.invokevirtual 792, 3) := by decide +kernel
theorem dX12_element__29 : decode cX12_element_ 29 = .ok (.return_, 1) := by decide +kernel
theorem dX12_element__30 : decode cX12_element_ 30 = .ok (.lconst 0, 1) := by decide +kernel
theorem dX12_element__31 : decode cX12_element_ 31 = .ok (.lstore 4, 2) := by decide +kernel
theorem dX12_element__33 : decode cX12_element_ 33 = .ok (.iconst 1, 1) := by decide +kernel
theorem dX12_element__34 : decode cX12_element_ 34 = .ok (.istore 6, 2) := by decide +kernel
theorem dX12_element__36 : decode cX12_element_ 36 = .ok (.iconst 0, 1) := by decide +kernel
theorem dX12_element__37 : decode cX12_element_ 37 = .ok (.istore 7, 2) := by decide +kernel
theorem dX12_element__39 : decode cX12_element_ 39 = .ok (.iload 7, 2) := by decide +kernel
theorem dX12_element__41 : decode cX12_element_ 41 = .ok (.iload_n 2, 1) := by decide +kernel
theorem dX12_element__42 : decode cX12_element_ 42 = .ok (.if_icmp .ge 92, 3) := by decide +kernel
theorem dX12_element__45 : decode cX12_element_ 45 = .ok (.aload_n 0, 1) := by decide +kernel
theorem dX12_element__46 : decode cX12_element_ 46 = .ok (.getfield 336, 3) := by decide +kernel
theorem dX12_element__49 : decode cX12_element_ 49 = .ok (.aload_n 0, 1) := by decide +kernel
theorem dX12_element__50 : decode cX12_element_ 50 = .ok (.getfield 780, 3) := by decide +kernel
theorem dX12_element__53 : decode cX12_element_ 53 = .ok (.iload_n 2, 1) := by decide +kernel
theorem dX12_element__54 : decode cX12_element_ 54 = .ok (.isub, 1) := by decide +kernel
theorem dX12_element__55 : decode cX12_element_ 55 = .ok (.iload 7, 2) := by decide +kernel
theorem dX12_element__57 : decode cX12_element_ 57 = .ok (.iadd, 1) := by decide +kernel
theorem dX12_element__58 : decode cX12_element_ 58 = .ok (.laload, 1) := by decide +kernel
theorem dX12_element__59 : decode cX12_element_ 59 = .ok (.lstore 8, 2) := by decide +kernel
theorem dX12_element__61 : decode cX12_element_ 61 = .ok (.aload_n 0, 1) := by decide +kernel
theorem dX12_element__62 : decode cX12_element_ 62 = .ok (.getfield 330, 3) := by decide +kernel
theorem dX12_element__65 : decode cX12_element_ 65 = .ok (.iload_n 3, 1) := by decide +kernel
theorem dX12_element__66 : decode cX12_element_ 66 = .ok (.iconst 2, 1) := by decide +kernel
theorem dX12_element__67 : decode cX12_element_ 67 = .ok (.iadd, 1) := by decide +kernel
theorem dX12_element__68 : decode cX12_element_ 68 = .ok (.iconst 2, 1) := by decide +kernel
theorem dX12_element__69 : decode cX12_element_ 69 = .ok (.iload 7, 2) := by decide +kernel
theorem dX12_element__71 : decode cX12_element_ 71 = .ok (.imul, 1) := by decide +kernel
theorem dX12_element__72 : decode cX12_element_ 72 = .ok (.iadd, 1) := by decide +kernel
theorem dX12_element__73 : decode cX12_element_ 73 = .ok (.laload, 1) := by decide +kernel
theorem dX12_element__74 : decode cX12_element_ 74 = .ok (.lstore 10, 2) := by decide +kernel
theorem dX12_element__76 : decode cX12_element_ 76 = .ok (.aload_n 0, 1) := by decide +kernel
theorem dX12_element__77 : decode cX12_element_ 77 = .ok (.getfield 330, 3) := by decide +kernel
theorem dX12_element__80 : decode cX12_element_ 80 = .ok (.iload_n 3, 1) := by decide +kernel
theorem dX12_element__81 : decode cX12_element_ 81 = .ok (.iconst 3, 1) := by decide +kernel
theorem dX12_element__82 : decode cX12_element_ 82 = .ok (.iadd, 1) := by decide +kernel
theorem dX12_element__83 : decode cX12_element_ 83 = .ok (.iconst 2, 1) := by decide +kernel
theorem dX12_element__84 : decode cX12_element_ 84 = .ok (.iload 7, 2) := by decide +kernel
theorem dX12_element__86 : decode cX12_element_ 86 = .ok (.imul, 1) := by decide +kernel
theorem dX12_element__87 : decode cX12_element_ 87 = .ok (.iadd, 1) := by decide +kernel
theorem dX12_element__88 : decode cX12_element_ 88 = .ok (.laload, 1) := by decide +kernel
theorem dX12_element__89 : decode cX12_element_ 89 = .ok (.lstore 12, 2) := by decide +kernel
theorem dX12_element__91 : decode cX12_element_ 91 = .ok (.lload 8, 2) := by decide +kernel
theorem dX12_element__93 : decode cX12_element_ 93 = .ok (.lload 10, 2) := by decide +kernel
theorem dX12_element__95 : decode cX12_element_ 95 = .ok (.lcmp, 1) := by decide +kernel
theorem dX12_element__96 : decode cX12_element_ 96 = .ok (.ifCond .lt 11, 3) := by decide +kernel
theorem dX12_element__99 : decode cX12_element_ 99 = .ok (.lload 8, 2) := by decide +kernel
theorem dX12_element__101 : decode cX12_element_ 101 = .ok (.lload 12, 2) := by decide +kernel
theorem dX12_element__103 : decode cX12_element_ 103 = .ok (.lcmp, 1) := by decide +kernel
theorem dX12_element__104 : decode cX12_element_ 104 = .ok (.ifCond .le 6, 3) := by decide +kernel
theorem dX12_element__107 : decode cX12_element_ 107 = .ok (.iconst 0, 1) := by decide +kernel
theorem dX12_element__108 : decode cX12_element_ 108 = .ok (.istore 6, 2) := by decide +kernel
theorem dX12_element__110 : decode cX12_element_ 110 = .ok (.lload 4, 2) := by decide +kernel
theorem dX12_element__112 : decode cX12_element_ 112 = .ok (.lload 12, 2) := by decide +kernel
theorem dX12_element__114 : decode cX12_element_ 114 = .ok (.lload 10, 2) := by decide +kernel
theorem dX12_element__116 : decode cX12_element_ 116 = .ok (.lsub, 1) := by decide +kernel
theorem dX12_element__117 : decode cX12_element_ 117 = .ok (.lconst 1, 1) := by decide +kernel
theorem dX12_element__118 : decode cX12_element_ 118 = .ok (.ladd, 1) := by decide +kernel
theorem dX12_element__119 : decode cX12_element_ 119 = .ok (.lmul, 1) := by decide +kernel
theorem dX12_element__120 : decode cX12_element_ 120 = .ok (.lload 8, 2) := by decide +kernel
theorem dX12_element__122 : decode cX12_element_ 122 = .ok (.lload 10, 2) := by decide +kernel
theorem dX12_element__124 : decode cX12_element_ 124 = .ok (.lsub, 1) := by decide +kernel
theorem dX12_element__125 : decode cX12_element_ 125 = .ok (.ladd, 1) := by decide +kernel
theorem dX12_element__126 : decode cX12_element_ 126 = .ok (.lstore 4, 2) := by decide +kernel
theorem dX12_element__128 : decode cX12_element_ 128 = .ok (.iinc 7 1, 3) := by decide +kernel
theorem dX12_element__131 : decode cX12_element_ 131 = .ok (.goto (-92), 3) := by decide +kernel
theorem dX12_element__134 : decode cX12_element_ 134 = .ok (.aload_n 0, 1) := by decide +kernel
theorem dX12_element__135 : decode cX12_element_ 135 = .ok (.dup, 1) := by decide +kernel
theorem dX12_element__136 : decode cX12_element_ 136 = .ok (.getfield 780, 3) := by decide +kernel
theorem dX12_element__139 : decode cX12_element_ 139 = .ok (.iload_n 2, 1) := by decide +kernel
theorem dX12_element__140 : decode cX12_element_ 140 = .ok (.isub, 1) := by decide +kernel
theorem dX12_element__141 : decode cX12_element_ 141 = .ok (.putfield 780, 3) := by decide +kernel
theorem dX12_element__144 : decode cX12_element_ 144 = .ok (.iload 6, 2) := by decide +kernel
theorem dX12_element__146 : decode cX12_element_ 146 = .ok (.ifCond .ne 9, 3) := by decide +kernel
theorem dX12_element__149 : decode cX12_element_ 149 = .ok (.aload_n 0, 1) := by decide +kernel
theorem dX12_element__150 : decode cX12_element_ 150 = .ok (.iconst 1, 1) := by decide +kernel
theorem dX12_element__151 : decode cX12_element_ 151 = .ok (.invokevirtual 792, 3) := by decide +kernel
theorem dX12_element__154 : decode cX12_element_ 154 = .ok (.return_, 1) := by decide +kernel
theorem dX12_element__155 : decode cX12_element_ 155 = .ok (.aload_n 0, 1) := by decide +kernel
theorem dX12_element__156 : decode cX12_element_ 156 = .ok (.ldc2_w 777, 3) := by decide +kernel
theorem dX12_element__159 : decode cX12_element_ 159 = .ok (.aload_n 0, 1) := by decide +kernel
theorem dX12_element__160 : decode cX12_element_ 160 = .ok (.getfield 330, 3) := by decide +kernel
theorem dX12_element__163 : decode cX12_element_ 163 = .ok (.iload_n 3, 1) := by decide +kernel
theorem dX12_element__164 : decode cX12_element_ 164 = .ok (.iconst 1, 1) := by decide +kernel
theorem dX12_element__165 : decode cX12_element_ 165 = .ok (.iadd, 1) := by decide +kernel
theorem dX12_element__166 : decode cX12_element_ 166 = .ok (.laload, 1) := by decide +kernel
theorem dX12_element__167 : decode cX12_element_ 167 = .ok (.ladd, 1) := by decide +kernel
theorem dX12_element__168 : decode cX12_element_ 168 = .ok (.lload 4, 2) := by decide +kernel
theorem dX12_element__170 : decode cX12_element_ 170 = .ok (.ladd, 1) := by decide +kernel
theorem dX12_element__171 : decode cX12_element_ 171 = .ok (.invokevirtual 817, 3) := by decide +kernel
theorem dX12_element__174 : decode cX12_element_ 174 = .ok (.return_, 1) := by decide +kernel
def fX12_element__110 (k_39 : Int32 → Int32 → Int64 → Bool → Int32 → Wd → Option Wd) (a2 : Int32) (a3 : Int32) (a4 : Int64) (a6 : Bool) (a7 : Int32) (a8 : Int64) (a10 : Int64) (a12 : Int64) (w : Wd) : Option Wd :=
  lt (((a4 * ((a12 - a10) + 1)) + (a8 - a10))) fun x1 => lt (a7 + 1) fun x2 => k_39 a2 a3 x1 a6 x2 w
theorem pX12_element__110 {q : Gq} {l : Launch} {N : Option Value → Wd → Prop} {X : String → Wd → Prop} {w : Wd} {R : Wd} (hN : N none R) {k_39 : Int32 → Int32 → Int64 → Bool → Int32 → Wd → Option Wd} (hk_39 : ∀ (a2 : Int32) (a3 : Int32) (a4 : Int64) (a6 : Bool) (a7 : Int32) (w : Wd), k_39 a2 a3 a4 a6 a7 w = some R → RT (GM q) l 1 yX12_element_ cX12_element_ 14 (none) N X 39 [] [(0, .ref 0), (2, .int a2), (3, .int a3), (4, .long a4), (6, .int (b2i a6)), (7, .int a7)] w) {a2 : Int32} {a3 : Int32} {a4 : Int64} {a6 : Bool} {a7 : Int32} {a8 : Int64} {a10 : Int64} {a12 : Int64} (h : fX12_element__110 k_39 a2 a3 a4 a6 a7 a8 a10 a12 w = some R) : RT (GM q) l 1 yX12_element_ cX12_element_ 14 (none) N X 110 [] [(0, .ref 0), (2, .int a2), (3, .int a3), (4, .long a4), (6, .int (b2i a6)), (7, .int a7), (8, .long a8), (10, .long a10), (12, .long a12)] w := by
  unfold fX12_element__110 at h
  refine r_lload (pc := 110) dX12_element__110 3 rfl ?_
  refine r_lload (pc := 112) dX12_element__112 8 rfl ?_
  refine r_lload (pc := 114) dX12_element__114 7 rfl ?_
  refine r_lsub (pc := 116) dX12_element__116 ?_
  refine r_lconst (pc := 117) dX12_element__117 kl_1 ?_
  refine r_ladd (pc := 118) dX12_element__118 ?_
  refine r_lmul (pc := 119) dX12_element__119 ?_
  refine r_lload (pc := 120) dX12_element__120 6 rfl ?_
  refine r_lload (pc := 122) dX12_element__122 7 rfl ?_
  refine r_lsub (pc := 124) dX12_element__124 ?_
  refine r_ladd (pc := 125) dX12_element__125 ?_
  replace h := lt_e h; obtain ⟨x1, ex1, h⟩ := h
  refine r_topl ex1 ?_
  refine r_lstore (pc := 126) (loc' := [(4, .long x1), (0, .ref 0), (2, .int a2), (3, .int a3), (6, .int (b2i a6)), (7, .int a7), (8, .long a8), (10, .long a10), (12, .long a12)]) dX12_element__126 (Nat.le_of_ble_eq_true rfl) rfl ?_
  replace h := lt_e h; obtain ⟨x2, ex2, h⟩ := h
  refine r_inc (pc := 128) (loc' := [(7, .int x2), (4, .long x1), (0, .ref 0), (2, .int a2), (3, .int a3), (6, .int (b2i a6)), (8, .long a8), (10, .long a10), (12, .long a12)]) dX12_element__128 ki_1 ex2 5 rfl (Nat.le_of_ble_eq_true rfl) rfl ?_
  refine r_goto (pc := 131) dX12_element__131 rfl ?_
  refine r_drop (loc' := [(0, .ref 0), (2, .int a2), (3, .int a3), (4, .long x1), (6, .int (b2i a6)), (7, .int x2)]) [2, 3, 4, 1, 5, 0] rfl ?_
  exact hk_39 a2 a3 x1 a6 x2 w h
def fX12_element__39 (k_39 : Int32 → Int32 → Int64 → Bool → Int32 → Wd → Option Wd) (a2 : Int32) (a3 : Int32) (a4 : Int64) (a6 : Bool) (a7 : Int32) (w : Wd) : Option Wd :=
  if a2 ≤ a7 then (lt (si w 0 130 ((gi w 0 130) - a2)) fun w2 => if a6 = true then (if inb (a3 + 1) 200000 = true then bn (fX12_push ((1048576 + (gl w2 83 (Int32.toNatClampNeg (a3 + 1)))) + a4) w2) fun w5 => some w5 else none) else (lt (fX12_fail 1 w2) fun w6 => some w6)) else (if inb (((gi w 0 130) - a2) + a7) 200000 = true then lt ((gl w 85 (Int32.toNatClampNeg (((gi w 0 130) - a2) + a7)))) fun x8 => if inb ((a3 + 2) + (2 * a7)) 200000 = true then lt ((gl w 83 (Int32.toNatClampNeg ((a3 + 2) + (2 * a7))))) fun x10 => if inb ((a3 + 3) + (2 * a7)) 200000 = true then lt ((gl w 83 (Int32.toNatClampNeg ((a3 + 3) + (2 * a7))))) fun x12 => if x8 < x10 then (fX12_element__110 k_39 a2 a3 a4 false a7 x8 x10 x12 w) else (if x8 ≤ x12 then (fX12_element__110 k_39 a2 a3 a4 a6 a7 x8 x10 x12 w) else (fX12_element__110 k_39 a2 a3 a4 false a7 x8 x10 x12 w)) else none else none else none)
set_option maxHeartbeats 16000000 in
theorem pX12_element__39 {q : Gq} {l : Launch} {N : Option Value → Wd → Prop} {X : String → Wd → Prop} {w : Wd} {R : Wd} (hN : N none R) {k_39 : Int32 → Int32 → Int64 → Bool → Int32 → Wd → Option Wd} (hk_39 : ∀ (a2 : Int32) (a3 : Int32) (a4 : Int64) (a6 : Bool) (a7 : Int32) (w : Wd), k_39 a2 a3 a4 a6 a7 w = some R → RT (GM q) l 1 yX12_element_ cX12_element_ 14 (none) N X 39 [] [(0, .ref 0), (2, .int a2), (3, .int a3), (4, .long a4), (6, .int (b2i a6)), (7, .int a7)] w) {a2 : Int32} {a3 : Int32} {a4 : Int64} {a6 : Bool} {a7 : Int32} (h : fX12_element__39 k_39 a2 a3 a4 a6 a7 w = some R) : RT (GM q) l 1 yX12_element_ cX12_element_ 14 (none) N X 39 [] [(0, .ref 0), (2, .int a2), (3, .int a3), (4, .long a4), (6, .int (b2i a6)), (7, .int a7)] w := by
  unfold fX12_element__39 at h
  refine r_iload (pc := 39) dX12_element__39 5 rfl ?_
  refine r_iload_n (pc := 41) dX12_element__41 rfl 1 rfl ?_
  refine r_icmp_ge (pc := 42) dX12_element__42 rfl (fun hc1 => ?_) (fun hc1 => ?_)
  · replace h := if_t hc1 h
    refine r_aload_n (pc := 134) dX12_element__134 rfl 0 rfl ?_
    refine r_dup (pc := 135) dX12_element__135 rfl ?_
    refine r_get (pc := 136) (j := 130) (v := .int (gi w 0 130)) oM0 cf12 flRX12_780 rfl dX12_element__136 rfl ?_
    refine r_iload_n (pc := 139) dX12_element__139 rfl 1 rfl ?_
    refine r_isub (pc := 140) dX12_element__140 ?_
    replace h := lt_e h; obtain ⟨w2, ew2, h⟩ := h
    refine r_putI (pc := 141) (j := 130) oM0 cf12 flRX12_780 rfl rfl rfl rfl dX12_element__141 ?_
    refine r_w ew2 ?_
    refine r_iload (pc := 144) dX12_element__144 4 rfl ?_
    refine r_z_ne (pc := 146) dX12_element__146 rfl (fun hc3 => ?_) (fun hc3 => ?_)
    · replace h := if_t hc3 h
      refine r_aload_n (pc := 155) dX12_element__155 rfl 0 rfl ?_
      refine r_ldc2 (pc := 156) dX12_element__156 kcRX12_777 ?_
      refine r_aload_n (pc := 159) dX12_element__159 rfl 0 rfl ?_
      refine r_get (pc := 160) (j := 112) (v := .ref 83) oM0 cf12 flRX12_330 rfl dX12_element__160 rfl ?_
      refine r_iload_n (pc := 163) dX12_element__163 rfl 2 rfl ?_
      refine r_iconst (pc := 164) dX12_element__164 ki_1 ?_
      refine r_iadd (pc := 165) dX12_element__165 ?_
      replace h := if_n h; obtain ⟨hb4, h⟩ := h
      refine r_lald (pc := 166) aM83 (inb_in hb4) dX12_element__166 ?_
      refine r_ladd (pc := 167) dX12_element__167 ?_
      refine r_lload (pc := 168) dX12_element__168 3 rfl ?_
      refine r_ladd (pc := 170) dX12_element__170 ?_
      replace h := bn_e h; obtain ⟨w5, ew5, h⟩ := h
      refine r_cVv (pc := 171) wyX12_push oM0 rfl mlRX12_817 iyX12_push syX12_push ⟨(Nat.le_of_ble_eq_true rfl), (Nat.le_of_ble_eq_true rfl)⟩ rfl rfl (Nat.le_of_ble_eq_true rfl) dX12_element__171 (mX12_push ew5 (pV.mk ?_))
      exact rO_v (pc := 174) rfl dX12_element__174 h hN
    replace h := if_f hc3 h
    refine r_aload_n (pc := 149) dX12_element__149 rfl 0 rfl ?_
    refine r_iconst (pc := 150) dX12_element__150 ki_1 ?_
    replace h := lt_e h; obtain ⟨w6, ew6, h⟩ := h
    refine r_cVv (pc := 151) wyX12_fail oM0 rfl mlRX12_792 iyX12_fail syX12_fail ⟨(Nat.le_of_ble_eq_true rfl), (Nat.le_of_ble_eq_true rfl)⟩ rfl rfl (Nat.le_of_ble_eq_true rfl) dX12_element__151 (mX12_fail ew6 (pV.mk ?_))
    exact rO_v (pc := 154) rfl dX12_element__154 h hN
  replace h := if_f hc1 h
  refine r_aload_n (pc := 45) dX12_element__45 rfl 0 rfl ?_
  refine r_get (pc := 46) (j := 114) (v := .ref 85) oM0 cf12 flRX12_336 rfl dX12_element__46 rfl ?_
  refine r_aload_n (pc := 49) dX12_element__49 rfl 0 rfl ?_
  refine r_get (pc := 50) (j := 130) (v := .int (gi w 0 130)) oM0 cf12 flRX12_780 rfl dX12_element__50 rfl ?_
  refine r_iload_n (pc := 53) dX12_element__53 rfl 1 rfl ?_
  refine r_isub (pc := 54) dX12_element__54 ?_
  refine r_iload (pc := 55) dX12_element__55 5 rfl ?_
  refine r_iadd (pc := 57) dX12_element__57 ?_
  replace h := if_n h; obtain ⟨hb7, h⟩ := h
  refine r_lald (pc := 58) aM85 (inb_in hb7) dX12_element__58 ?_
  replace h := lt_e h; obtain ⟨x8, ex8, h⟩ := h
  refine r_topl ex8 ?_
  refine r_lstore (pc := 59) (loc' := [(8, .long x8), (0, .ref 0), (2, .int a2), (3, .int a3), (4, .long a4), (6, .int (b2i a6)), (7, .int a7)]) dX12_element__59 (Nat.le_of_ble_eq_true rfl) rfl ?_
  refine r_aload_n (pc := 61) dX12_element__61 rfl 1 rfl ?_
  refine r_get (pc := 62) (j := 112) (v := .ref 83) oM0 cf12 flRX12_330 rfl dX12_element__62 rfl ?_
  refine r_iload_n (pc := 65) dX12_element__65 rfl 3 rfl ?_
  refine r_iconst (pc := 66) dX12_element__66 ki_2 ?_
  refine r_iadd (pc := 67) dX12_element__67 ?_
  refine r_iconst (pc := 68) dX12_element__68 ki_2 ?_
  refine r_iload (pc := 69) dX12_element__69 6 rfl ?_
  refine r_imul (pc := 71) dX12_element__71 ?_
  refine r_iadd (pc := 72) dX12_element__72 ?_
  replace h := if_n h; obtain ⟨hb9, h⟩ := h
  refine r_lald (pc := 73) aM83 (inb_in hb9) dX12_element__73 ?_
  replace h := lt_e h; obtain ⟨x10, ex10, h⟩ := h
  refine r_topl ex10 ?_
  refine r_lstore (pc := 74) (loc' := [(10, .long x10), (8, .long x8), (0, .ref 0), (2, .int a2), (3, .int a3), (4, .long a4), (6, .int (b2i a6)), (7, .int a7)]) dX12_element__74 (Nat.le_of_ble_eq_true rfl) rfl ?_
  refine r_aload_n (pc := 76) dX12_element__76 rfl 2 rfl ?_
  refine r_get (pc := 77) (j := 112) (v := .ref 83) oM0 cf12 flRX12_330 rfl dX12_element__77 rfl ?_
  refine r_iload_n (pc := 80) dX12_element__80 rfl 4 rfl ?_
  refine r_iconst (pc := 81) dX12_element__81 ki_3 ?_
  refine r_iadd (pc := 82) dX12_element__82 ?_
  refine r_iconst (pc := 83) dX12_element__83 ki_2 ?_
  refine r_iload (pc := 84) dX12_element__84 7 rfl ?_
  refine r_imul (pc := 86) dX12_element__86 ?_
  refine r_iadd (pc := 87) dX12_element__87 ?_
  replace h := if_n h; obtain ⟨hb11, h⟩ := h
  refine r_lald (pc := 88) aM83 (inb_in hb11) dX12_element__88 ?_
  replace h := lt_e h; obtain ⟨x12, ex12, h⟩ := h
  refine r_topl ex12 ?_
  refine r_lstore (pc := 89) (loc' := [(12, .long x12), (10, .long x10), (8, .long x8), (0, .ref 0), (2, .int a2), (3, .int a3), (4, .long a4), (6, .int (b2i a6)), (7, .int a7)]) dX12_element__89 (Nat.le_of_ble_eq_true rfl) rfl ?_
  refine r_lload (pc := 91) dX12_element__91 2 rfl ?_
  refine r_lload (pc := 93) dX12_element__93 1 rfl ?_
  refine r_l_lt (pc := 95) dX12_element__95 dX12_element__96 rfl (fun hc13 => ?_) (fun hc13 => ?_)
  · replace h := if_t hc13 h
    refine r_iconst (pc := 107) dX12_element__107 ki_0 ?_
    refine r_istore (pc := 108) (loc' := [(6, .int 0), (12, .long x12), (10, .long x10), (8, .long x8), (0, .ref 0), (2, .int a2), (3, .int a3), (4, .long a4), (7, .int a7)]) dX12_element__108 (Nat.le_of_ble_eq_true rfl) rfl ?_
    refine r_drop (loc' := [(0, .ref 0), (2, .int a2), (3, .int a3), (4, .long a4), (6, .int 0), (7, .int a7), (8, .long x8), (10, .long x10), (12, .long x12)]) [4, 5, 6, 7, 0, 8, 3, 2, 1] rfl ?_
    exact pX12_element__110 hN hk_39 h
  replace h := if_f hc13 h
  refine r_lload (pc := 99) dX12_element__99 2 rfl ?_
  refine r_lload (pc := 101) dX12_element__101 0 rfl ?_
  refine r_l_le (pc := 103) dX12_element__103 dX12_element__104 rfl (fun hc14 => ?_) (fun hc14 => ?_)
  · replace h := if_t hc14 h
    refine r_drop (loc' := [(0, .ref 0), (2, .int a2), (3, .int a3), (4, .long a4), (6, .int (b2i a6)), (7, .int a7), (8, .long x8), (10, .long x10), (12, .long x12)]) [3, 4, 5, 6, 7, 8, 2, 1, 0] rfl ?_
    exact pX12_element__110 hN hk_39 h
  replace h := if_f hc14 h
  refine r_iconst (pc := 107) dX12_element__107 ki_0 ?_
  refine r_istore (pc := 108) (loc' := [(6, .int 0), (12, .long x12), (10, .long x10), (8, .long x8), (0, .ref 0), (2, .int a2), (3, .int a3), (4, .long a4), (7, .int a7)]) dX12_element__108 (Nat.le_of_ble_eq_true rfl) rfl ?_
  refine r_drop (loc' := [(0, .ref 0), (2, .int a2), (3, .int a3), (4, .long a4), (6, .int 0), (7, .int a7), (8, .long x8), (10, .long x10), (12, .long x12)]) [4, 5, 6, 7, 0, 8, 3, 2, 1] rfl ?_
  exact pX12_element__110 hN hk_39 h
def oX12_element__39 : Nat → Int32 → Int32 → Int64 → Bool → Int32 → Wd → Option Wd
  | 0 => fun _ _ _ _ _ _ => none
  | n + 1 => fX12_element__39 (oX12_element__39 n)
theorem qX12_element__39 {q : Gq} {l : Launch} {N : Option Value → Wd → Prop} {X : String → Wd → Prop} {R : Wd} (hN : N none R) : ∀ (n : Nat) (a2 : Int32) (a3 : Int32) (a4 : Int64) (a6 : Bool) (a7 : Int32) (w : Wd), oX12_element__39 n a2 a3 a4 a6 a7 w = some R → RT (GM q) l 1 yX12_element_ cX12_element_ 14 (none) N X 39 [] [(0, .ref 0), (2, .int a2), (3, .int a3), (4, .long a4), (6, .int (b2i a6)), (7, .int a7)] w := by
  intro n
  induction n with
  | zero =>
    intro a2 a3 a4 a6 a7 w h
    exact absurd h (fun q => nomatch q)
  | succ n ih =>
    intro a2 a3 a4 a6 a7 w h
    exact pX12_element__39 hN ih h
def fX12_element_ (a1 : Int32) (a2 : Int32) (w : Wd) : Option Wd :=
  if inb a1 200000 = true then if (gl w 83 (Int32.toNatClampNeg a1)) = (Int32.toInt64 a2) then (oX12_element__39 FU a2 a1 0 true 0 w) else (lt (si w 0 130 ((gi w 0 130) - a2)) fun w3 => lt (fX12_fail 1 w3) fun w4 => some w4) else none
theorem pX12_element_ {q : Gq} {l : Launch} {N : Option Value → Wd → Prop} {X : String → Wd → Prop} {w : Wd} {R : Wd} (hN : N none R) {a1 : Int32} {a2 : Int32} (h : fX12_element_ a1 a2 w = some R) : RT (GM q) l 1 yX12_element_ cX12_element_ 14 (none) N X 0 [] [(0, .ref 0), (1, .int a1), (2, .int a2)] w := by
  unfold fX12_element_ at h
  refine r_iload_n (pc := 0) dX12_element__0 rfl 1 rfl ?_
  refine r_istore_n (pc := 1) (loc' := [(3, .int a1), (0, .ref 0), (1, .int a1), (2, .int a2)]) dX12_element__1 rfl (Nat.le_of_ble_eq_true rfl) rfl ?_
  refine r_aload_n (pc := 2) dX12_element__2 rfl 1 rfl ?_
  refine r_get (pc := 3) (j := 112) (v := .ref 83) oM0 cf12 flRX12_330 rfl dX12_element__3 rfl ?_
  refine r_iload_n (pc := 6) dX12_element__6 rfl 0 rfl ?_
  replace h := if_n h; obtain ⟨hb1, h⟩ := h
  refine r_lald (pc := 7) aM83 (inb_in hb1) dX12_element__7 ?_
  refine r_iload_n (pc := 8) dX12_element__8 rfl 3 rfl ?_
  refine r_i2l (pc := 9) dX12_element__9 ?_
  refine r_l_eq (pc := 10) dX12_element__10 dX12_element__11 rfl (fun hc2 => ?_) (fun hc2 => ?_)
  · replace h := if_t hc2 h
    refine r_lconst (pc := 30) dX12_element__30 kl_0 ?_
    refine r_lstore (pc := 31) (loc' := [(4, .long 0), (3, .int a1), (0, .ref 0), (1, .int a1), (2, .int a2)]) dX12_element__31 (Nat.le_of_ble_eq_true rfl) rfl ?_
    refine r_iconst (pc := 33) dX12_element__33 ki_1 ?_
    refine r_istore (pc := 34) (loc' := [(6, .int 1), (4, .long 0), (3, .int a1), (0, .ref 0), (1, .int a1), (2, .int a2)]) dX12_element__34 (Nat.le_of_ble_eq_true rfl) rfl ?_
    refine r_iconst (pc := 36) dX12_element__36 ki_0 ?_
    refine r_istore (pc := 37) (loc' := [(7, .int 0), (6, .int 1), (4, .long 0), (3, .int a1), (0, .ref 0), (1, .int a1), (2, .int a2)]) dX12_element__37 (Nat.le_of_ble_eq_true rfl) rfl ?_
    refine r_drop (loc' := [(0, .ref 0), (2, .int a2), (3, .int a1), (4, .long 0), (6, .int 1), (7, .int 0)]) [4, 6, 3, 2, 1, 0] rfl ?_
    exact qX12_element__39 hN FU a2 a1 0 true 0 w h
  replace h := if_f hc2 h
  refine r_aload_n (pc := 14) dX12_element__14 rfl 1 rfl ?_
  refine r_dup (pc := 15) dX12_element__15 rfl ?_
  refine r_get (pc := 16) (j := 130) (v := .int (gi w 0 130)) oM0 cf12 flRX12_780 rfl dX12_element__16 rfl ?_
  refine r_iload_n (pc := 19) dX12_element__19 rfl 3 rfl ?_
  refine r_isub (pc := 20) dX12_element__20 ?_
  replace h := lt_e h; obtain ⟨w3, ew3, h⟩ := h
  refine r_putI (pc := 21) (j := 130) oM0 cf12 flRX12_780 rfl rfl rfl rfl dX12_element__21 ?_
  refine r_w ew3 ?_
  refine r_aload_n (pc := 24) dX12_element__24 rfl 1 rfl ?_
  refine r_iconst (pc := 25) dX12_element__25 ki_1 ?_
  replace h := lt_e h; obtain ⟨w4, ew4, h⟩ := h
  refine r_cVv (pc := 26) wyX12_fail oM0 rfl mlRX12_792 iyX12_fail syX12_fail ⟨(Nat.le_of_ble_eq_true rfl), (Nat.le_of_ble_eq_true rfl)⟩ rfl rfl (Nat.le_of_ble_eq_true rfl) dX12_element__26 (mX12_fail ew4 (pV.mk ?_))
  exact rO_v (pc := 29) rfl dX12_element__29 h hN
theorem mX12_element_ {q : Gq} {l : Launch} {N : Option Value → Wd → Prop} {X : String → Wd → Prop} {a1 : Int32} {a2 : Int32} {w : Wd} {u : Wd} (h : fX12_element_ a1 a2 w = some u) (hN : N none u) : Ct (GM q) l 1 yX12_element_ cX12_element_ 14 (none) [.ref 0, .int a1, .int a2] w N X := Ct.of (by decide) (Nat.le_of_ble_eq_true rfl) (pX12_element_ hN h)
/-! AlgolMillModel.allot (II)V: O, 1 -/
theorem dX12_allot_0 : decode cX12_allot 0 = .ok (.lconst 1, 1) := by decide +kernel
theorem dX12_allot_1 : decode cX12_allot 1 = .ok (.lstore_n 3, 1) := by decide +kernel
theorem dX12_allot_2 : decode cX12_allot 2 = .ok (.iconst 0, 1) := by decide +kernel
theorem dX12_allot_3 : decode cX12_allot 3 = .ok (.istore 5, 2) := by decide +kernel
theorem dX12_allot_5 : decode cX12_allot 5 = .ok (.iload 5, 2) := by decide +kernel
theorem dX12_allot_7 : decode cX12_allot 7 = .ok (.iload_n 2, 1) := by decide +kernel
theorem dX12_allot_8 : decode cX12_allot 8 = .ok (.if_icmp .ge 115, 3) := by decide +kernel
theorem dX12_allot_11 : decode cX12_allot 11 = .ok (.aload_n 0, 1) := by decide +kernel
theorem dX12_allot_12 : decode cX12_allot 12 = .ok (.getfield 336, 3) := by decide +kernel
theorem dX12_allot_15 : decode cX12_allot 15 = .ok (.aload_n 0, 1) := by decide +kernel
theorem dX12_allot_16 : decode cX12_allot 16 = .ok (.getfield 780, 3) := by decide +kernel
theorem dX12_allot_19 : decode cX12_allot 19 = .ok (.iconst 2, 1) := by decide +kernel
theorem dX12_allot_20 : decode cX12_allot 20 = .ok (.iload_n 2, 1) := by decide +kernel
theorem dX12_allot_21 : decode cX12_allot 21 = .ok (.imul, 1) := by decide +kernel
theorem dX12_allot_22 : decode cX12_allot 22 = .ok (.isub, 1) := by decide +kernel
theorem dX12_allot_23 : decode cX12_allot 23 = .ok (.iconst 2, 1) := by decide +kernel
theorem dX12_allot_24 : decode cX12_allot 24 = .ok (.iload 5, 2) := by decide +kernel
theorem dX12_allot_26 : decode cX12_allot 26 = .ok (.imul, 1) := by decide +kernel
theorem dX12_allot_27 : decode cX12_allot 27 = .ok (.iadd, 1) := by decide +kernel
theorem dX12_allot_28 : decode cX12_allot 28 = .ok (.laload, 1) := by decide +kernel
theorem dX12_allot_29 : decode cX12_allot 29 = .ok (.lstore 6, 2) := by decide +kernel
theorem dX12_allot_31 : decode cX12_allot 31 = .ok (.aload_n 0, 1) := by decide +kernel
theorem dX12_allot_32 : decode cX12_allot 32 = .ok (.getfield 336, 3) := by decide +kernel
theorem dX12_allot_35 : decode cX12_allot 35 = .ok (.aload_n 0, 1) := by decide +kernel
theorem dX12_allot_36 : decode cX12_allot 36 = .ok (.getfield 780, 3) := by decide +kernel
theorem dX12_allot_39 : decode cX12_allot 39 = .ok (.iconst 2, 1) := by decide +kernel
theorem dX12_allot_40 : decode cX12_allot 40 = .ok (.iload_n 2, 1) := by decide +kernel
theorem dX12_allot_41 : decode cX12_allot 41 = .ok (.imul, 1) := by decide +kernel
theorem dX12_allot_42 : decode cX12_allot 42 = .ok (.isub, 1) := by decide +kernel
theorem dX12_allot_43 : decode cX12_allot 43 = .ok (.iconst 2, 1) := by decide +kernel
theorem dX12_allot_44 : decode cX12_allot 44 = .ok (.iload 5, 2) := by decide +kernel
theorem dX12_allot_46 : decode cX12_allot 46 = .ok (.imul, 1) := by decide +kernel
theorem dX12_allot_47 : decode cX12_allot 47 = .ok (.iadd, 1) := by decide +kernel
theorem dX12_allot_48 : decode cX12_allot 48 = .ok (.iconst 1, 1) := by decide +kernel
theorem dX12_allot_49 : decode cX12_allot 49 = .ok (.iadd, 1) := by decide +kernel
theorem dX12_allot_50 : decode cX12_allot 50 = .ok (.laload, 1) := by decide +kernel
theorem dX12_allot_51 : decode cX12_allot 51 = .ok (.lstore 8, 2) := by decide +kernel
theorem dX12_allot_53 : decode cX12_allot 53 = .ok (.aload_n 0, 1) := by decide +kernel
theorem dX12_allot_54 : decode cX12_allot 54 = .ok (.getfield 330, 3) := by decide +kernel
theorem dX12_allot_57 : decode cX12_allot 57 = .ok (.iload_n 1, 1) := by decide +kernel
theorem dX12_allot_58 : decode cX12_allot 58 = .ok (.iconst 2, 1) := by decide +kernel
theorem dX12_allot_59 : decode cX12_allot 59 = .ok (.iadd, 1) := by decide +kernel
theorem dX12_allot_60 : decode cX12_allot 60 = .ok (.iconst 2, 1) := by decide +kernel
theorem dX12_allot_61 : decode cX12_allot 61 = .ok (.iload 5, 2) := by decide +kernel
theorem dX12_allot_63 : decode cX12_allot 63 = .ok (.imul, 1) := by decide +kernel
theorem dX12_allot_64 : decode cX12_allot 64 = .ok (.iadd, 1) := by decide +kernel
theorem dX12_allot_65 : decode cX12_allot 65 = .ok (.lload 6, 2) := by decide +kernel
theorem dX12_allot_67 : decode cX12_allot 67 = .ok (.lastore, 1) := by decide +kernel
theorem dX12_allot_68 : decode cX12_allot 68 = .ok (.aload_n 0, 1) := by decide +kernel
theorem dX12_allot_69 : decode cX12_allot 69 = .ok (.getfield 330, 3) := by decide +kernel
theorem dX12_allot_72 : decode cX12_allot 72 = .ok (.iload_n 1, 1) := by decide +kernel
theorem dX12_allot_73 : decode cX12_allot 73 = .ok (.iconst 3, 1) := by decide +kernel
theorem dX12_allot_74 : decode cX12_allot 74 = .ok (.iadd, 1) := by decide +kernel
theorem dX12_allot_75 : decode cX12_allot 75 = .ok (.iconst 2, 1) := by decide +kernel
theorem dX12_allot_76 : decode cX12_allot 76 = .ok (.iload 5, 2) := by decide +kernel
theorem dX12_allot_78 : decode cX12_allot 78 = .ok (.imul, 1) := by decide +kernel
theorem dX12_allot_79 : decode cX12_allot 79 = .ok (.iadd, 1) := by decide +kernel
theorem dX12_allot_80 : decode cX12_allot 80 = .ok (.lload 8, 2) := by decide +kernel
theorem dX12_allot_82 : decode cX12_allot 82 = .ok (.lastore, 1) := by decide +kernel
theorem dX12_allot_83 : decode cX12_allot 83 = .ok (.lload 6, 2) := by decide +kernel
theorem dX12_allot_85 : decode cX12_allot 85 = .ok (.lload 8, 2) := by decide +kernel
theorem dX12_allot_87 : decode cX12_allot 87 = .ok (.lcmp, 1) := by decide +kernel
theorem dX12_allot_88 : decode cX12_allot 88 = .ok (.ifCond .le 7, 3) := by decide +kernel
theorem dX12_allot_91 : decode cX12_allot 91 = .ok (.lconst 0, 1) := by decide +kernel
theorem dX12_allot_92 : decode cX12_allot 92 = .ok (.goto 24, 3) := by decide +kernel
theorem dX12_allot_95 : decode cX12_allot 95 = .ok (.lload_n 3, 1) := by decide +kernel
theorem dX12_allot_96 : decode cX12_allot 96 = .ok (.lload 8, 2) := by decide +kernel
theorem dX12_allot_98 : decode cX12_allot 98 = .ok (.lload 6, 2) := by decide +kernel
theorem dX12_allot_100 : decode cX12_allot 100 = .ok (.lsub, 1) := by decide +kernel
theorem dX12_allot_101 : decode cX12_allot 101 = .ok (.lconst 1, 1) := by decide +kernel
theorem dX12_allot_102 : decode cX12_allot 102 = .ok (.ladd, 1) := by decide +kernel
theorem dX12_allot_103 : decode cX12_allot 103 = .ok (.ldc2_w 833, 3) := by decide +kernel
theorem dX12_allot_106 : decode cX12_allot 106 = .ok (.invokestatic 429, 3) := by decide +kernel
theorem dX12_allot_109 : decode cX12_allot 109 = .ok (.lmul, 1) := by decide +kernel
theorem dX12_allot_110 : decode cX12_allot 110 = .ok (.ldc2_w 833, 3) := by decide +kernel
theorem dX12_allot_113 : decode cX12_allot 113 = .ok (.invokestatic 429, 3) := by decide +kernel
theorem dX12_allot_116 : decode cX12_allot 116 = .ok (.lstore_n 3, 1) := by decide +kernel
theorem dX12_allot_117 : decode cX12_allot 117 = .ok (.iinc 5 1, 3) := by decide +kernel
theorem dX12_allot_120 : decode cX12_allot 120 = .ok (.goto (-115), 3) := by decide +kernel
theorem dX12_allot_123 : decode cX12_allot 123 = .ok (.iconst 0, 1) := by decide +kernel
theorem dX12_allot_124 : decode cX12_allot 124 = .ok (.istore 5, 2) := by decide +kernel
theorem dX12_allot_126 : decode cX12_allot 126 = .ok (.iload 5, 2) := by decide +kernel
theorem dX12_allot_128 : decode cX12_allot 128 = .ok (.iload_n 2, 1) := by decide +kernel
theorem dX12_allot_129 : decode cX12_allot 129 = .ok (.if_icmp .ge 41, 3) := by decide +kernel
theorem dX12_allot_132 : decode cX12_allot 132 = .ok (.aload_n 0, 1) := by decide +kernel
theorem dX12_allot_133 : decode cX12_allot 133 = .ok (.getfield 330, 3) := by decide +kernel
theorem dX12_allot_136 : decode cX12_allot 136 = .ok (.iload_n 1, 1) := by decide +kernel
theorem dX12_allot_137 : decode cX12_allot 137 = .ok (.iconst 2, 1) := by decide +kernel
theorem dX12_allot_138 : decode cX12_allot 138 = .ok (.iadd, 1) := by decide +kernel
theorem dX12_allot_139 : decode cX12_allot 139 = .ok (.iconst 2, 1) := by decide +kernel
theorem dX12_allot_140 : decode cX12_allot 140 = .ok (.iload 5, 2) := by decide +kernel
theorem dX12_allot_142 : decode cX12_allot 142 = .ok (.imul, 1) := by decide +kernel
theorem dX12_allot_143 : decode cX12_allot 143 = .ok (.iadd, 1) := by decide +kernel
theorem dX12_allot_144 : decode cX12_allot 144 = .ok (.laload, 1) := by decide +kernel
theorem dX12_allot_145 : decode cX12_allot 145 = .ok (.aload_n 0, 1) := by decide +kernel
theorem dX12_allot_146 : decode cX12_allot 146 = .ok (.getfield 330, 3) := by decide +kernel
theorem dX12_allot_149 : decode cX12_allot 149 = .ok (.iload_n 1, 1) := by decide +kernel
theorem dX12_allot_150 : decode cX12_allot 150 = .ok (.iconst 3, 1) := by decide +kernel
theorem dX12_allot_151 : decode cX12_allot 151 = .ok (.iadd, 1) := by decide +kernel
theorem dX12_allot_152 : decode cX12_allot 152 = .ok (.iconst 2, 1) := by decide +kernel
theorem dX12_allot_153 : decode cX12_allot 153 = .ok (.iload 5, 2) := by decide +kernel
theorem dX12_allot_155 : decode cX12_allot 155 = .ok (.imul, 1) := by decide +kernel
theorem dX12_allot_156 : decode cX12_allot 156 = .ok (.iadd, 1) := by decide +kernel
theorem dX12_allot_157 : decode cX12_allot 157 = .ok (.laload, 1) := by decide +kernel
theorem dX12_allot_158 : decode cX12_allot 158 = .ok (.lcmp, 1) := by decide +kernel
theorem dX12_allot_159 : decode cX12_allot 159 = .ok (.ifCond .le 5, 3) := by decide +kernel
theorem dX12_allot_162 : decode cX12_allot 162 = .ok (.lconst 0, 1) := by decide +kernel
theorem dX12_allot_163 : decode cX12_allot 163 = .ok (.lstore_n 3, 1) := by decide +kernel
theorem dX12_allot_164 : decode cX12_allot 164 = .ok (.iinc 5 1, 3) := by decide +kernel
theorem dX12_allot_167 : decode cX12_allot 167 = .ok (.goto (-41), 3) := by decide +kernel
theorem dX12_allot_170 : decode cX12_allot 170 = .ok (.aload_n 0, 1) := by decide +kernel
theorem dX12_allot_171 : decode cX12_allot 171 = .ok (.getfield 330, 3) := by decide +kernel
theorem dX12_allot_174 : decode cX12_allot 174 = .ok (.iload_n 1, 1) := by decide +kernel
theorem dX12_allot_175 : decode cX12_allot 175 = .ok (.iload_n 2, 1) := by decide +kernel
theorem dX12_allot_176 : decode cX12_allot 176 = .ok (.i2l, 1) := by decide +kernel
theorem dX12_allot_177 : decode cX12_allot 177 = .ok (.lastore, 1) := by decide +kernel
theorem dX12_allot_178 : decode cX12_allot 178 = .ok (.aload_n 0, 1) := by decide +kernel
theorem dX12_allot_179 : decode cX12_allot 179 = .ok (.getfield 330, 3) := by decide +kernel
theorem dX12_allot_182 : decode cX12_allot 182 = .ok (.iload_n 1, 1) := by decide +kernel
theorem dX12_allot_183 : decode cX12_allot 183 = .ok (.iconst 1, 1) := by decide +kernel
theorem dX12_allot_184 : decode cX12_allot 184 = .ok (.iadd, 1) := by decide +kernel
theorem dX12_allot_185 : decode cX12_allot 185 = .ok (.aload_n 0, 1) := by decide +kernel
theorem dX12_allot_186 : decode cX12_allot 186 = .ok (.getfield 827, 3) := by decide +kernel
theorem dX12_allot_189 : decode cX12_allot 189 = .ok (.i2l, 1) := by decide +kernel
theorem dX12_allot_190 : decode cX12_allot 190 = .ok (.lastore, 1) := by decide +kernel
theorem dX12_allot_191 : decode cX12_allot 191 = .ok (.aload_n 0, 1) := by decide +kernel
theorem dX12_allot_192 : decode cX12_allot 192 = .ok (.getfield 827, 3) := by decide +kernel
theorem dX12_allot_195 : decode cX12_allot 195 = .ok (.i2l, 1) := by decide +kernel
theorem dX12_allot_196 : decode cX12_allot 196 = .ok (.lload_n 3, 1) := by decide +kernel
theorem dX12_allot_197 : decode cX12_allot 197 = .ok (.ladd, 1) := by decide +kernel
theorem dX12_allot_198 : decode cX12_allot 198 = .ok (.ldc2_w 835, 3) := by decide +kernel
theorem dX12_allot_201 : decode cX12_allot 201 = .ok (.lcmp, 1) := by decide +kernel
theorem dX12_allot_202 : decode cX12_allot 202 = .ok (.ifCond .le 9, 3) := by decide +kernel
theorem dX12_allot_205 : decode cX12_allot 205 = .ok (.aload_n 0, 1) := by decide +kernel
theorem dX12_allot_206 : decode cX12_allot 206 = .ok (.iconst 3, 1) := by decide +kernel
theorem dX12_allot_207 : decode cX12_allot 207 = .ok (.invokevirtual 792, 3) := by decide +kernel
theorem dX12_allot_210 : decode cX12_allot 210 = .ok (.return_, 1) := by decide +kernel
theorem dX12_allot_211 : decode cX12_allot 211 = .ok (.iconst 0, 1) := by decide +kernel
theorem dX12_allot_212 : decode cX12_allot 212 = .ok (.istore 5, 2) := by decide +kernel
theorem dX12_allot_214 : decode cX12_allot 214 = .ok (.iload 5, 2) := by decide +kernel
theorem dX12_allot_216 : decode cX12_allot 216 = .ok (.i2l, 1) := by decide +kernel
theorem dX12_allot_217 : decode cX12_allot 217 = .ok (.lload_n 3, 1) := by decide +kernel
theorem dX12_allot_218 : decode cX12_allot 218 = .ok (.lcmp, 1) := by decide +kernel
theorem dX12_allot_219 : decode cX12_allot 219 = .ok (.ifCond .ge 22, 3) := by decide +kernel
theorem dX12_allot_222 : decode cX12_allot 222 = .ok (.aload_n 0, 1) := by decide +kernel
theorem dX12_allot_223 : decode cX12_allot 223 = .ok (.getfield 333, 3) := by decide +kernel
theorem dX12_allot_226 : decode cX12_allot 226 = .ok (.aload_n 0, 1) := by decide +kernel
theorem dX12_allot_227 : decode cX12_allot 227 = .ok (.getfield 827, 3) := by decide +kernel
theorem dX12_allot_230 : decode cX12_allot 230 = .ok (.iload 5, 2) := by decide +kernel
theorem dX12_allot_232 : decode cX12_allot 232 = .ok (.iadd, 1) := by decide +kernel
theorem dX12_allot_233 : decode cX12_allot 233 = .ok (.lconst 0, 1) := by decide +kernel
theorem dX12_allot_234 : decode cX12_allot 234 = .ok (.lastore, 1) := by decide +kernel
theorem dX12_allot_235 : decode cX12_allot 235 = .ok (.iinc 5 1, 3) := by decide +kernel
theorem dX12_allot_238 : decode cX12_allot 238 = .ok (.goto (-24), 3) := by decide +kernel
theorem dX12_allot_241 : decode cX12_allot 241 = .ok (.aload_n 0, 1) := by decide +kernel
theorem dX12_allot_242 : decode cX12_allot 242 = .ok (.dup, 1) := by decide +kernel
theorem dX12_allot_243 : decode cX12_allot 243 = .ok (.getfield 827, 3) := by decide +kernel
theorem dX12_allot_246 : decode cX12_allot 246 = .ok (.lload_n 3, 1) := by decide +kernel
theorem dX12_allot_247 : decode cX12_allot 247 = .ok (.l2i, 1) := by decide +kernel
theorem dX12_allot_248 : decode cX12_allot 248 = .ok (.iadd, 1) := by decide +kernel
theorem dX12_allot_249 : decode cX12_allot 249 = .ok (.putfield 827, 3) := by decide +kernel
theorem dX12_allot_252 : decode cX12_allot 252 = .ok (.aload_n 0, 1) := by decide +kernel
theorem dX12_allot_253 : decode cX12_allot 253 = .ok (.aload_n 0, 1) := by decide +kernel
theorem dX12_allot_254 : decode cX12_allot 254 = .ok (.getfield 837, 3) := by decide +kernel
theorem dX12_allot_257 : decode cX12_allot 257 = .ok (.aload_n 0, 1) := by decide +kernel
theorem dX12_allot_258 : decode cX12_allot 258 = .ok (.getfield 827, 3) := by decide +kernel
theorem dX12_allot_261 : decode cX12_allot 261 = .ok (.invokestatic 804, 3) := by decide +kernel
theorem dX12_allot_264 : decode cX12_allot 264 = .ok (.putfield 837, 3) := by decide +kernel
theorem dX12_allot_267 : decode cX12_allot 267 = .ok (.return_, 1) := by decide +kernel
def fX12_allot_214 (k_214 : Int64 → Int32 → Wd → Option Wd) (a3 : Int64) (a5 : Int32) (w : Wd) : Option Wd :=
  if a3 ≤ (Int32.toInt64 a5) then (lt (si w 0 133 ((gi w 0 133) + (Int64.toInt32 a3))) fun w2 => lt (fJ9_max_7cf53 (gi w2 0 136) (gi w2 0 133)) fun x3 => lt (si w2 0 136 x3) fun w4 => some w4) else (if inb ((gi w 0 133) + a5) 2000 = true then lt (sl w 84 (Int32.toNatClampNeg ((gi w 0 133) + a5)) 0) fun w6 => lt (a5 + 1) fun x7 => k_214 a3 x7 w6 else none)
theorem pX12_allot_214 {q : Gq} {l : Launch} {N : Option Value → Wd → Prop} {X : String → Wd → Prop} {w : Wd} {R : Wd} (hN : N none R) {k_214 : Int64 → Int32 → Wd → Option Wd} (hk_214 : ∀ (a3 : Int64) (a5 : Int32) (w : Wd), k_214 a3 a5 w = some R → RT (GM q) l 1 yX12_allot cX12_allot 10 (none) N X 214 [] [(0, .ref 0), (3, .long a3), (5, .int a5)] w) {a3 : Int64} {a5 : Int32} (h : fX12_allot_214 k_214 a3 a5 w = some R) : RT (GM q) l 1 yX12_allot cX12_allot 10 (none) N X 214 [] [(0, .ref 0), (3, .long a3), (5, .int a5)] w := by
  unfold fX12_allot_214 at h
  refine r_iload (pc := 214) dX12_allot_214 2 rfl ?_
  refine r_i2l (pc := 216) dX12_allot_216 ?_
  refine r_lload_n (pc := 217) dX12_allot_217 rfl 1 rfl ?_
  refine r_l_ge (pc := 218) dX12_allot_218 dX12_allot_219 rfl (fun hc1 => ?_) (fun hc1 => ?_)
  · replace h := if_t hc1 h
    refine r_aload_n (pc := 241) dX12_allot_241 rfl 0 rfl ?_
    refine r_dup (pc := 242) dX12_allot_242 rfl ?_
    refine r_get (pc := 243) (j := 133) (v := .int (gi w 0 133)) oM0 cf12 flRX12_827 rfl dX12_allot_243 rfl ?_
    refine r_lload_n (pc := 246) dX12_allot_246 rfl 1 rfl ?_
    refine r_l2i (pc := 247) dX12_allot_247 ?_
    refine r_iadd (pc := 248) dX12_allot_248 ?_
    replace h := lt_e h; obtain ⟨w2, ew2, h⟩ := h
    refine r_putI (pc := 249) (j := 133) oM0 cf12 flRX12_827 rfl rfl rfl rfl dX12_allot_249 ?_
    refine r_w ew2 ?_
    refine r_aload_n (pc := 252) dX12_allot_252 rfl 0 rfl ?_
    refine r_aload_n (pc := 253) dX12_allot_253 rfl 0 rfl ?_
    refine r_get (pc := 254) (j := 136) (v := .int (gi w2 0 136)) oM0 cf12 flRX12_837 rfl dX12_allot_254 rfl ?_
    refine r_aload_n (pc := 257) dX12_allot_257 rfl 0 rfl ?_
    refine r_get (pc := 258) (j := 133) (v := .int (gi w2 0 133)) oM0 cf12 flRX12_827 rfl dX12_allot_258 rfl ?_
    replace h := lt_e h; obtain ⟨x3, ex3, h⟩ := h
    refine r_cSi (pc := 261) wyJ9_max_7cf53 mlRX12_804 tyJ9_max_7cf53 ⟨(Nat.le_of_ble_eq_true rfl), (Nat.le_of_ble_eq_true rfl)⟩ rfl rfl (Nat.le_of_ble_eq_true rfl) dX12_allot_261 (mJ9_max_7cf53 ex3 (pI.mk ?_))
    replace h := lt_e h; obtain ⟨w4, ew4, h⟩ := h
    refine r_putI (pc := 264) (j := 136) oM0 cf12 flRX12_837 rfl rfl rfl rfl dX12_allot_264 ?_
    refine r_w ew4 ?_
    exact rO_v (pc := 267) rfl dX12_allot_267 h hN
  replace h := if_f hc1 h
  refine r_aload_n (pc := 222) dX12_allot_222 rfl 0 rfl ?_
  refine r_get (pc := 223) (j := 113) (v := .ref 84) oM0 cf12 flRX12_333 rfl dX12_allot_223 rfl ?_
  refine r_aload_n (pc := 226) dX12_allot_226 rfl 0 rfl ?_
  refine r_get (pc := 227) (j := 133) (v := .int (gi w 0 133)) oM0 cf12 flRX12_827 rfl dX12_allot_227 rfl ?_
  refine r_iload (pc := 230) dX12_allot_230 2 rfl ?_
  refine r_iadd (pc := 232) dX12_allot_232 ?_
  refine r_lconst (pc := 233) dX12_allot_233 kl_0 ?_
  replace h := if_n h; obtain ⟨hb5, h⟩ := h
  replace h := lt_e h; obtain ⟨w6, ew6, h⟩ := h
  refine r_last (pc := 234) aM84 (inb_in hb5) dX12_allot_234 ?_
  refine r_w ew6 ?_
  replace h := lt_e h; obtain ⟨x7, ex7, h⟩ := h
  refine r_inc (pc := 235) (loc' := [(5, .int x7), (0, .ref 0), (3, .long a3)]) dX12_allot_235 ki_1 ex7 2 rfl (Nat.le_of_ble_eq_true rfl) rfl ?_
  refine r_goto (pc := 238) dX12_allot_238 rfl ?_
  refine r_drop (loc' := [(0, .ref 0), (3, .long a3), (5, .int x7)]) [1, 2, 0] rfl ?_
  exact hk_214 a3 x7 w6 h
def oX12_allot_214 : Nat → Int64 → Int32 → Wd → Option Wd
  | 0 => fun _ _ _ => none
  | n + 1 => fX12_allot_214 (oX12_allot_214 n)
theorem qX12_allot_214 {q : Gq} {l : Launch} {N : Option Value → Wd → Prop} {X : String → Wd → Prop} {R : Wd} (hN : N none R) : ∀ (n : Nat) (a3 : Int64) (a5 : Int32) (w : Wd), oX12_allot_214 n a3 a5 w = some R → RT (GM q) l 1 yX12_allot cX12_allot 10 (none) N X 214 [] [(0, .ref 0), (3, .long a3), (5, .int a5)] w := by
  intro n
  induction n with
  | zero =>
    intro a3 a5 w h
    exact absurd h (fun q => nomatch q)
  | succ n ih =>
    intro a3 a5 w h
    exact pX12_allot_214 hN ih h
def fX12_allot_126 (k_126 : Int32 → Int32 → Int64 → Int32 → Wd → Option Wd) (a1 : Int32) (a2 : Int32) (a3 : Int64) (a5 : Int32) (w : Wd) : Option Wd :=
  if a2 ≤ a5 then (if inb a1 200000 = true then lt (sl w 83 (Int32.toNatClampNeg a1) (Int32.toInt64 a2)) fun w3 => if inb (a1 + 1) 200000 = true then lt (sl w3 83 (Int32.toNatClampNeg (a1 + 1)) (Int32.toInt64 (gi w3 0 133))) fun w5 => if ((Int32.toInt64 (gi w5 0 133)) + a3) ≤ 2000 then (oX12_allot_214 FU a3 0 w5) else (lt (fX12_fail 3 w5) fun w7 => some w7) else none else none) else (if inb ((a1 + 2) + (2 * a5)) 200000 = true then if inb ((a1 + 3) + (2 * a5)) 200000 = true then if (gl w 83 (Int32.toNatClampNeg ((a1 + 2) + (2 * a5)))) ≤ (gl w 83 (Int32.toNatClampNeg ((a1 + 3) + (2 * a5)))) then (lt (a5 + 1) fun x11 => k_126 a1 a2 a3 x11 w) else (lt (a5 + 1) fun x12 => k_126 a1 a2 0 x12 w) else none else none)
theorem pX12_allot_126 {q : Gq} {l : Launch} {N : Option Value → Wd → Prop} {X : String → Wd → Prop} {w : Wd} {R : Wd} (hN : N none R) {k_126 : Int32 → Int32 → Int64 → Int32 → Wd → Option Wd} (hk_126 : ∀ (a1 : Int32) (a2 : Int32) (a3 : Int64) (a5 : Int32) (w : Wd), k_126 a1 a2 a3 a5 w = some R → RT (GM q) l 1 yX12_allot cX12_allot 10 (none) N X 126 [] [(0, .ref 0), (1, .int a1), (2, .int a2), (3, .long a3), (5, .int a5)] w) {a1 : Int32} {a2 : Int32} {a3 : Int64} {a5 : Int32} (h : fX12_allot_126 k_126 a1 a2 a3 a5 w = some R) : RT (GM q) l 1 yX12_allot cX12_allot 10 (none) N X 126 [] [(0, .ref 0), (1, .int a1), (2, .int a2), (3, .long a3), (5, .int a5)] w := by
  unfold fX12_allot_126 at h
  refine r_iload (pc := 126) dX12_allot_126 4 rfl ?_
  refine r_iload_n (pc := 128) dX12_allot_128 rfl 2 rfl ?_
  refine r_icmp_ge (pc := 129) dX12_allot_129 rfl (fun hc1 => ?_) (fun hc1 => ?_)
  · replace h := if_t hc1 h
    refine r_aload_n (pc := 170) dX12_allot_170 rfl 0 rfl ?_
    refine r_get (pc := 171) (j := 112) (v := .ref 83) oM0 cf12 flRX12_330 rfl dX12_allot_171 rfl ?_
    refine r_iload_n (pc := 174) dX12_allot_174 rfl 1 rfl ?_
    refine r_iload_n (pc := 175) dX12_allot_175 rfl 2 rfl ?_
    refine r_i2l (pc := 176) dX12_allot_176 ?_
    replace h := if_n h; obtain ⟨hb2, h⟩ := h
    replace h := lt_e h; obtain ⟨w3, ew3, h⟩ := h
    refine r_last (pc := 177) aM83 (inb_in hb2) dX12_allot_177 ?_
    refine r_w ew3 ?_
    refine r_aload_n (pc := 178) dX12_allot_178 rfl 0 rfl ?_
    refine r_get (pc := 179) (j := 112) (v := .ref 83) oM0 cf12 flRX12_330 rfl dX12_allot_179 rfl ?_
    refine r_iload_n (pc := 182) dX12_allot_182 rfl 1 rfl ?_
    refine r_iconst (pc := 183) dX12_allot_183 ki_1 ?_
    refine r_iadd (pc := 184) dX12_allot_184 ?_
    refine r_aload_n (pc := 185) dX12_allot_185 rfl 0 rfl ?_
    refine r_get (pc := 186) (j := 133) (v := .int (gi w3 0 133)) oM0 cf12 flRX12_827 rfl dX12_allot_186 rfl ?_
    refine r_i2l (pc := 189) dX12_allot_189 ?_
    replace h := if_n h; obtain ⟨hb4, h⟩ := h
    replace h := lt_e h; obtain ⟨w5, ew5, h⟩ := h
    refine r_last (pc := 190) aM83 (inb_in hb4) dX12_allot_190 ?_
    refine r_w ew5 ?_
    refine r_aload_n (pc := 191) dX12_allot_191 rfl 0 rfl ?_
    refine r_get (pc := 192) (j := 133) (v := .int (gi w5 0 133)) oM0 cf12 flRX12_827 rfl dX12_allot_192 rfl ?_
    refine r_i2l (pc := 195) dX12_allot_195 ?_
    refine r_lload_n (pc := 196) dX12_allot_196 rfl 3 rfl ?_
    refine r_ladd (pc := 197) dX12_allot_197 ?_
    refine r_ldc2 (pc := 198) dX12_allot_198 kcRX12_835 ?_
    refine r_l_le (pc := 201) dX12_allot_201 dX12_allot_202 rfl (fun hc6 => ?_) (fun hc6 => ?_)
    · replace h := if_t hc6 h
      refine r_iconst (pc := 211) dX12_allot_211 ki_0 ?_
      refine r_istore (pc := 212) (loc' := [(5, .int 0), (0, .ref 0), (1, .int a1), (2, .int a2), (3, .long a3)]) dX12_allot_212 (Nat.le_of_ble_eq_true rfl) rfl ?_
      refine r_drop (loc' := [(0, .ref 0), (3, .long a3), (5, .int 0)]) [1, 4, 0] rfl ?_
      exact qX12_allot_214 hN FU a3 0 w5 h
    replace h := if_f hc6 h
    refine r_aload_n (pc := 205) dX12_allot_205 rfl 0 rfl ?_
    refine r_iconst (pc := 206) dX12_allot_206 ki_3 ?_
    replace h := lt_e h; obtain ⟨w7, ew7, h⟩ := h
    refine r_cVv (pc := 207) wyX12_fail oM0 rfl mlRX12_792 iyX12_fail syX12_fail ⟨(Nat.le_of_ble_eq_true rfl), (Nat.le_of_ble_eq_true rfl)⟩ rfl rfl (Nat.le_of_ble_eq_true rfl) dX12_allot_207 (mX12_fail ew7 (pV.mk ?_))
    exact rO_v (pc := 210) rfl dX12_allot_210 h hN
  replace h := if_f hc1 h
  refine r_aload_n (pc := 132) dX12_allot_132 rfl 0 rfl ?_
  refine r_get (pc := 133) (j := 112) (v := .ref 83) oM0 cf12 flRX12_330 rfl dX12_allot_133 rfl ?_
  refine r_iload_n (pc := 136) dX12_allot_136 rfl 1 rfl ?_
  refine r_iconst (pc := 137) dX12_allot_137 ki_2 ?_
  refine r_iadd (pc := 138) dX12_allot_138 ?_
  refine r_iconst (pc := 139) dX12_allot_139 ki_2 ?_
  refine r_iload (pc := 140) dX12_allot_140 4 rfl ?_
  refine r_imul (pc := 142) dX12_allot_142 ?_
  refine r_iadd (pc := 143) dX12_allot_143 ?_
  replace h := if_n h; obtain ⟨hb8, h⟩ := h
  refine r_lald (pc := 144) aM83 (inb_in hb8) dX12_allot_144 ?_
  refine r_aload_n (pc := 145) dX12_allot_145 rfl 0 rfl ?_
  refine r_get (pc := 146) (j := 112) (v := .ref 83) oM0 cf12 flRX12_330 rfl dX12_allot_146 rfl ?_
  refine r_iload_n (pc := 149) dX12_allot_149 rfl 1 rfl ?_
  refine r_iconst (pc := 150) dX12_allot_150 ki_3 ?_
  refine r_iadd (pc := 151) dX12_allot_151 ?_
  refine r_iconst (pc := 152) dX12_allot_152 ki_2 ?_
  refine r_iload (pc := 153) dX12_allot_153 4 rfl ?_
  refine r_imul (pc := 155) dX12_allot_155 ?_
  refine r_iadd (pc := 156) dX12_allot_156 ?_
  replace h := if_n h; obtain ⟨hb9, h⟩ := h
  refine r_lald (pc := 157) aM83 (inb_in hb9) dX12_allot_157 ?_
  refine r_l_le (pc := 158) dX12_allot_158 dX12_allot_159 rfl (fun hc10 => ?_) (fun hc10 => ?_)
  · replace h := if_t hc10 h
    replace h := lt_e h; obtain ⟨x11, ex11, h⟩ := h
    refine r_inc (pc := 164) (loc' := [(5, .int x11), (0, .ref 0), (1, .int a1), (2, .int a2), (3, .long a3)]) dX12_allot_164 ki_1 ex11 4 rfl (Nat.le_of_ble_eq_true rfl) rfl ?_
    refine r_goto (pc := 167) dX12_allot_167 rfl ?_
    refine r_drop (loc' := [(0, .ref 0), (1, .int a1), (2, .int a2), (3, .long a3), (5, .int x11)]) [1, 2, 3, 4, 0] rfl ?_
    exact hk_126 a1 a2 a3 x11 w h
  replace h := if_f hc10 h
  refine r_lconst (pc := 162) dX12_allot_162 kl_0 ?_
  refine r_lstore_n (pc := 163) (loc' := [(3, .long 0), (0, .ref 0), (1, .int a1), (2, .int a2), (5, .int a5)]) dX12_allot_163 rfl (Nat.le_of_ble_eq_true rfl) rfl ?_
  replace h := lt_e h; obtain ⟨x12, ex12, h⟩ := h
  refine r_inc (pc := 164) (loc' := [(5, .int x12), (3, .long 0), (0, .ref 0), (1, .int a1), (2, .int a2)]) dX12_allot_164 ki_1 ex12 4 rfl (Nat.le_of_ble_eq_true rfl) rfl ?_
  refine r_goto (pc := 167) dX12_allot_167 rfl ?_
  refine r_drop (loc' := [(0, .ref 0), (1, .int a1), (2, .int a2), (3, .long 0), (5, .int x12)]) [2, 3, 4, 1, 0] rfl ?_
  exact hk_126 a1 a2 0 x12 w h
def oX12_allot_126 : Nat → Int32 → Int32 → Int64 → Int32 → Wd → Option Wd
  | 0 => fun _ _ _ _ _ => none
  | n + 1 => fX12_allot_126 (oX12_allot_126 n)
theorem qX12_allot_126 {q : Gq} {l : Launch} {N : Option Value → Wd → Prop} {X : String → Wd → Prop} {R : Wd} (hN : N none R) : ∀ (n : Nat) (a1 : Int32) (a2 : Int32) (a3 : Int64) (a5 : Int32) (w : Wd), oX12_allot_126 n a1 a2 a3 a5 w = some R → RT (GM q) l 1 yX12_allot cX12_allot 10 (none) N X 126 [] [(0, .ref 0), (1, .int a1), (2, .int a2), (3, .long a3), (5, .int a5)] w := by
  intro n
  induction n with
  | zero =>
    intro a1 a2 a3 a5 w h
    exact absurd h (fun q => nomatch q)
  | succ n ih =>
    intro a1 a2 a3 a5 w h
    exact pX12_allot_126 hN ih h
def fX12_allot_5 (k_5 : Int32 → Int32 → Int64 → Int32 → Wd → Option Wd) (a1 : Int32) (a2 : Int32) (a3 : Int64) (a5 : Int32) (w : Wd) : Option Wd :=
  if a2 ≤ a5 then (oX12_allot_126 FU a1 a2 a3 0 w) else (if inb (((gi w 0 130) - (2 * a2)) + (2 * a5)) 200000 = true then lt ((gl w 85 (Int32.toNatClampNeg (((gi w 0 130) - (2 * a2)) + (2 * a5))))) fun x3 => if inb ((((gi w 0 130) - (2 * a2)) + (2 * a5)) + 1) 200000 = true then lt ((gl w 85 (Int32.toNatClampNeg ((((gi w 0 130) - (2 * a2)) + (2 * a5)) + 1)))) fun x5 => if inb ((a1 + 2) + (2 * a5)) 200000 = true then lt (sl w 83 (Int32.toNatClampNeg ((a1 + 2) + (2 * a5))) x3) fun w7 => if inb ((a1 + 3) + (2 * a5)) 200000 = true then lt (sl w7 83 (Int32.toNatClampNeg ((a1 + 3) + (2 * a5))) x5) fun w9 => if x3 ≤ x5 then (lt (fJ9_min_f86c9 ((x5 - x3) + 1) 5000) fun x11 => lt (fJ9_min_f86c9 (a3 * x11) 5000) fun x12 => lt (a5 + 1) fun x13 => k_5 a1 a2 x12 x13 w9) else (lt (a5 + 1) fun x14 => k_5 a1 a2 0 x14 w9) else none else none else none else none)
set_option maxHeartbeats 16000000 in
theorem pX12_allot_5 {q : Gq} {l : Launch} {N : Option Value → Wd → Prop} {X : String → Wd → Prop} {w : Wd} {R : Wd} (hN : N none R) {k_5 : Int32 → Int32 → Int64 → Int32 → Wd → Option Wd} (hk_5 : ∀ (a1 : Int32) (a2 : Int32) (a3 : Int64) (a5 : Int32) (w : Wd), k_5 a1 a2 a3 a5 w = some R → RT (GM q) l 1 yX12_allot cX12_allot 10 (none) N X 5 [] [(0, .ref 0), (1, .int a1), (2, .int a2), (3, .long a3), (5, .int a5)] w) {a1 : Int32} {a2 : Int32} {a3 : Int64} {a5 : Int32} (h : fX12_allot_5 k_5 a1 a2 a3 a5 w = some R) : RT (GM q) l 1 yX12_allot cX12_allot 10 (none) N X 5 [] [(0, .ref 0), (1, .int a1), (2, .int a2), (3, .long a3), (5, .int a5)] w := by
  unfold fX12_allot_5 at h
  refine r_iload (pc := 5) dX12_allot_5 4 rfl ?_
  refine r_iload_n (pc := 7) dX12_allot_7 rfl 2 rfl ?_
  refine r_icmp_ge (pc := 8) dX12_allot_8 rfl (fun hc1 => ?_) (fun hc1 => ?_)
  · replace h := if_t hc1 h
    refine r_iconst (pc := 123) dX12_allot_123 ki_0 ?_
    refine r_istore (pc := 124) (loc' := [(5, .int 0), (0, .ref 0), (1, .int a1), (2, .int a2), (3, .long a3)]) dX12_allot_124 (Nat.le_of_ble_eq_true rfl) rfl ?_
    refine r_drop (loc' := [(0, .ref 0), (1, .int a1), (2, .int a2), (3, .long a3), (5, .int 0)]) [1, 2, 3, 4, 0] rfl ?_
    exact qX12_allot_126 hN FU a1 a2 a3 0 w h
  replace h := if_f hc1 h
  refine r_aload_n (pc := 11) dX12_allot_11 rfl 0 rfl ?_
  refine r_get (pc := 12) (j := 114) (v := .ref 85) oM0 cf12 flRX12_336 rfl dX12_allot_12 rfl ?_
  refine r_aload_n (pc := 15) dX12_allot_15 rfl 0 rfl ?_
  refine r_get (pc := 16) (j := 130) (v := .int (gi w 0 130)) oM0 cf12 flRX12_780 rfl dX12_allot_16 rfl ?_
  refine r_iconst (pc := 19) dX12_allot_19 ki_2 ?_
  refine r_iload_n (pc := 20) dX12_allot_20 rfl 2 rfl ?_
  refine r_imul (pc := 21) dX12_allot_21 ?_
  refine r_isub (pc := 22) dX12_allot_22 ?_
  refine r_iconst (pc := 23) dX12_allot_23 ki_2 ?_
  refine r_iload (pc := 24) dX12_allot_24 4 rfl ?_
  refine r_imul (pc := 26) dX12_allot_26 ?_
  refine r_iadd (pc := 27) dX12_allot_27 ?_
  replace h := if_n h; obtain ⟨hb2, h⟩ := h
  refine r_lald (pc := 28) aM85 (inb_in hb2) dX12_allot_28 ?_
  replace h := lt_e h; obtain ⟨x3, ex3, h⟩ := h
  refine r_topl ex3 ?_
  refine r_lstore (pc := 29) (loc' := [(6, .long x3), (0, .ref 0), (1, .int a1), (2, .int a2), (3, .long a3), (5, .int a5)]) dX12_allot_29 (Nat.le_of_ble_eq_true rfl) rfl ?_
  refine r_aload_n (pc := 31) dX12_allot_31 rfl 1 rfl ?_
  refine r_get (pc := 32) (j := 114) (v := .ref 85) oM0 cf12 flRX12_336 rfl dX12_allot_32 rfl ?_
  refine r_aload_n (pc := 35) dX12_allot_35 rfl 1 rfl ?_
  refine r_get (pc := 36) (j := 130) (v := .int (gi w 0 130)) oM0 cf12 flRX12_780 rfl dX12_allot_36 rfl ?_
  refine r_iconst (pc := 39) dX12_allot_39 ki_2 ?_
  refine r_iload_n (pc := 40) dX12_allot_40 rfl 3 rfl ?_
  refine r_imul (pc := 41) dX12_allot_41 ?_
  refine r_isub (pc := 42) dX12_allot_42 ?_
  refine r_iconst (pc := 43) dX12_allot_43 ki_2 ?_
  refine r_iload (pc := 44) dX12_allot_44 5 rfl ?_
  refine r_imul (pc := 46) dX12_allot_46 ?_
  refine r_iadd (pc := 47) dX12_allot_47 ?_
  refine r_iconst (pc := 48) dX12_allot_48 ki_1 ?_
  refine r_iadd (pc := 49) dX12_allot_49 ?_
  replace h := if_n h; obtain ⟨hb4, h⟩ := h
  refine r_lald (pc := 50) aM85 (inb_in hb4) dX12_allot_50 ?_
  replace h := lt_e h; obtain ⟨x5, ex5, h⟩ := h
  refine r_topl ex5 ?_
  refine r_lstore (pc := 51) (loc' := [(8, .long x5), (6, .long x3), (0, .ref 0), (1, .int a1), (2, .int a2), (3, .long a3), (5, .int a5)]) dX12_allot_51 (Nat.le_of_ble_eq_true rfl) rfl ?_
  refine r_aload_n (pc := 53) dX12_allot_53 rfl 2 rfl ?_
  refine r_get (pc := 54) (j := 112) (v := .ref 83) oM0 cf12 flRX12_330 rfl dX12_allot_54 rfl ?_
  refine r_iload_n (pc := 57) dX12_allot_57 rfl 3 rfl ?_
  refine r_iconst (pc := 58) dX12_allot_58 ki_2 ?_
  refine r_iadd (pc := 59) dX12_allot_59 ?_
  refine r_iconst (pc := 60) dX12_allot_60 ki_2 ?_
  refine r_iload (pc := 61) dX12_allot_61 6 rfl ?_
  refine r_imul (pc := 63) dX12_allot_63 ?_
  refine r_iadd (pc := 64) dX12_allot_64 ?_
  refine r_lload (pc := 65) dX12_allot_65 1 rfl ?_
  replace h := if_n h; obtain ⟨hb6, h⟩ := h
  replace h := lt_e h; obtain ⟨w7, ew7, h⟩ := h
  refine r_last (pc := 67) aM83 (inb_in hb6) dX12_allot_67 ?_
  refine r_w ew7 ?_
  refine r_aload_n (pc := 68) dX12_allot_68 rfl 2 rfl ?_
  refine r_get (pc := 69) (j := 112) (v := .ref 83) oM0 cf12 flRX12_330 rfl dX12_allot_69 rfl ?_
  refine r_iload_n (pc := 72) dX12_allot_72 rfl 3 rfl ?_
  refine r_iconst (pc := 73) dX12_allot_73 ki_3 ?_
  refine r_iadd (pc := 74) dX12_allot_74 ?_
  refine r_iconst (pc := 75) dX12_allot_75 ki_2 ?_
  refine r_iload (pc := 76) dX12_allot_76 6 rfl ?_
  refine r_imul (pc := 78) dX12_allot_78 ?_
  refine r_iadd (pc := 79) dX12_allot_79 ?_
  refine r_lload (pc := 80) dX12_allot_80 0 rfl ?_
  replace h := if_n h; obtain ⟨hb8, h⟩ := h
  replace h := lt_e h; obtain ⟨w9, ew9, h⟩ := h
  refine r_last (pc := 82) aM83 (inb_in hb8) dX12_allot_82 ?_
  refine r_w ew9 ?_
  refine r_lload (pc := 83) dX12_allot_83 1 rfl ?_
  refine r_lload (pc := 85) dX12_allot_85 0 rfl ?_
  refine r_l_le (pc := 87) dX12_allot_87 dX12_allot_88 rfl (fun hc10 => ?_) (fun hc10 => ?_)
  · replace h := if_t hc10 h
    refine r_lload_n (pc := 95) dX12_allot_95 rfl 5 rfl ?_
    refine r_lload (pc := 96) dX12_allot_96 0 rfl ?_
    refine r_lload (pc := 98) dX12_allot_98 1 rfl ?_
    refine r_lsub (pc := 100) dX12_allot_100 ?_
    refine r_lconst (pc := 101) dX12_allot_101 kl_1 ?_
    refine r_ladd (pc := 102) dX12_allot_102 ?_
    refine r_ldc2 (pc := 103) dX12_allot_103 kcRX12_833 ?_
    replace h := lt_e h; obtain ⟨x11, ex11, h⟩ := h
    refine r_cSl (pc := 106) wyJ9_min_f86c9 mlRX12_429 tyJ9_min_f86c9 ⟨(Nat.le_of_ble_eq_true rfl), (Nat.le_of_ble_eq_true rfl)⟩ rfl rfl (Nat.le_of_ble_eq_true rfl) dX12_allot_106 (mJ9_min_f86c9 ex11 (pL.mk ?_))
    refine r_lmul (pc := 109) dX12_allot_109 ?_
    refine r_ldc2 (pc := 110) dX12_allot_110 kcRX12_833 ?_
    replace h := lt_e h; obtain ⟨x12, ex12, h⟩ := h
    refine r_cSl (pc := 113) wyJ9_min_f86c9 mlRX12_429 tyJ9_min_f86c9 ⟨(Nat.le_of_ble_eq_true rfl), (Nat.le_of_ble_eq_true rfl)⟩ rfl rfl (Nat.le_of_ble_eq_true rfl) dX12_allot_113 (mJ9_min_f86c9 ex12 (pL.mk ?_))
    refine r_lstore_n (pc := 116) (loc' := [(3, .long x12), (8, .long x5), (6, .long x3), (0, .ref 0), (1, .int a1), (2, .int a2), (5, .int a5)]) dX12_allot_116 rfl (Nat.le_of_ble_eq_true rfl) rfl ?_
    replace h := lt_e h; obtain ⟨x13, ex13, h⟩ := h
    refine r_inc (pc := 117) (loc' := [(5, .int x13), (3, .long x12), (8, .long x5), (6, .long x3), (0, .ref 0), (1, .int a1), (2, .int a2)]) dX12_allot_117 ki_1 ex13 6 rfl (Nat.le_of_ble_eq_true rfl) rfl ?_
    refine r_goto (pc := 120) dX12_allot_120 rfl ?_
    refine r_drop (loc' := [(0, .ref 0), (1, .int a1), (2, .int a2), (3, .long x12), (5, .int x13)]) [4, 5, 6, 1, 0] rfl ?_
    exact hk_5 a1 a2 x12 x13 w9 h
  replace h := if_f hc10 h
  refine r_lconst (pc := 91) dX12_allot_91 kl_0 ?_
  refine r_goto (pc := 92) dX12_allot_92 rfl ?_
  refine r_lstore_n (pc := 116) (loc' := [(3, .long 0), (8, .long x5), (6, .long x3), (0, .ref 0), (1, .int a1), (2, .int a2), (5, .int a5)]) dX12_allot_116 rfl (Nat.le_of_ble_eq_true rfl) rfl ?_
  replace h := lt_e h; obtain ⟨x14, ex14, h⟩ := h
  refine r_inc (pc := 117) (loc' := [(5, .int x14), (3, .long 0), (8, .long x5), (6, .long x3), (0, .ref 0), (1, .int a1), (2, .int a2)]) dX12_allot_117 ki_1 ex14 6 rfl (Nat.le_of_ble_eq_true rfl) rfl ?_
  refine r_goto (pc := 120) dX12_allot_120 rfl ?_
  refine r_drop (loc' := [(0, .ref 0), (1, .int a1), (2, .int a2), (3, .long 0), (5, .int x14)]) [4, 5, 6, 1, 0] rfl ?_
  exact hk_5 a1 a2 0 x14 w9 h
def oX12_allot_5 : Nat → Int32 → Int32 → Int64 → Int32 → Wd → Option Wd
  | 0 => fun _ _ _ _ _ => none
  | n + 1 => fX12_allot_5 (oX12_allot_5 n)
theorem qX12_allot_5 {q : Gq} {l : Launch} {N : Option Value → Wd → Prop} {X : String → Wd → Prop} {R : Wd} (hN : N none R) : ∀ (n : Nat) (a1 : Int32) (a2 : Int32) (a3 : Int64) (a5 : Int32) (w : Wd), oX12_allot_5 n a1 a2 a3 a5 w = some R → RT (GM q) l 1 yX12_allot cX12_allot 10 (none) N X 5 [] [(0, .ref 0), (1, .int a1), (2, .int a2), (3, .long a3), (5, .int a5)] w := by
  intro n
  induction n with
  | zero =>
    intro a1 a2 a3 a5 w h
    exact absurd h (fun q => nomatch q)
  | succ n ih =>
    intro a1 a2 a3 a5 w h
    exact pX12_allot_5 hN ih h
def fX12_allot (a1 : Int32) (a2 : Int32) (w : Wd) : Option Wd :=
  oX12_allot_5 FU a1 a2 1 0 w
theorem pX12_allot {q : Gq} {l : Launch} {N : Option Value → Wd → Prop} {X : String → Wd → Prop} {w : Wd} {R : Wd} (hN : N none R) {a1 : Int32} {a2 : Int32} (h : fX12_allot a1 a2 w = some R) : RT (GM q) l 1 yX12_allot cX12_allot 10 (none) N X 0 [] [(0, .ref 0), (1, .int a1), (2, .int a2)] w := by
  unfold fX12_allot at h
  refine r_lconst (pc := 0) dX12_allot_0 kl_1 ?_
  refine r_lstore_n (pc := 1) (loc' := [(3, .long 1), (0, .ref 0), (1, .int a1), (2, .int a2)]) dX12_allot_1 rfl (Nat.le_of_ble_eq_true rfl) rfl ?_
  refine r_iconst (pc := 2) dX12_allot_2 ki_0 ?_
  refine r_istore (pc := 3) (loc' := [(5, .int 0), (3, .long 1), (0, .ref 0), (1, .int a1), (2, .int a2)]) dX12_allot_3 (Nat.le_of_ble_eq_true rfl) rfl ?_
  refine r_drop (loc' := [(0, .ref 0), (1, .int a1), (2, .int a2), (3, .long 1), (5, .int 0)]) [2, 3, 4, 1, 0] rfl ?_
  exact qX12_allot_5 hN FU a1 a2 1 0 w h
theorem mX12_allot {q : Gq} {l : Launch} {N : Option Value → Wd → Prop} {X : String → Wd → Prop} {a1 : Int32} {a2 : Int32} {w : Wd} {u : Wd} (h : fX12_allot a1 a2 w = some u) (hN : N none u) : Ct (GM q) l 1 yX12_allot cX12_allot 10 (none) [.ref 0, .int a1, .int a2] w N X := Ct.of (by decide) (Nat.le_of_ble_eq_true rfl) (pX12_allot hN h)
/-! AlgolMillModel.power (JJ)V: O, 1 -/
theorem dX12_power_0 : decode cX12_power 0 = .ok (.lload_n 3, 1) := by decide +kernel
theorem dX12_power_1 : decode cX12_power 1 = .ok (.lconst 0, 1) := by decide +kernel
theorem dX12_power_2 : decode cX12_power 2 = .ok (.lcmp, 1) := by decide +kernel
theorem dX12_power_3 : decode cX12_power 3 = .ok (.ifCond .ge 9, 3) := by decide +kernel
theorem dX12_power_6 : decode cX12_power 6 = .ok (.aload_n 0, 1) := by decide +kernel
theorem dX12_power_7 : decode cX12_power 7 = .ok (.iconst 2, 1) := by decide +kernel
theorem dX12_power_8 : decode cX12_power 8 = .ok (.invokevirtual 792, 3) := by decide +kernel
theorem dX12_power_11 : decode cX12_power 11 = .ok (.return_, 1) := by decide +kernel
theorem dX12_power_12 : decode cX12_power 12 = .ok (.lconst 1, 1) := by decide +kernel
theorem dX12_power_13 : decode cX12_power 13 = .ok (.lstore 5, 2) := by decide +kernel
theorem dX12_power_15 : decode cX12_power 15 = .ok (.lload_n 1, 1) := by decide +kernel
theorem dX12_power_16 : decode cX12_power 16 = .ok (.lstore 7, 2) := by decide +kernel
theorem dX12_power_18 : decode cX12_power 18 = .ok (.lload_n 3, 1) := by decide +kernel
theorem dX12_power_19 : decode cX12_power 19 = .ok (.lstore 9, 2) := by decide +kernel
theorem dX12_power_21 : decode cX12_power 21 = .ok (.lload 9, 2) := by decide +kernel
theorem dX12_power_23 : decode cX12_power 23 = .ok (.lconst 0, 1) := by decide +kernel
theorem dX12_power_24 : decode cX12_power 24 = .ok (.lcmp, 1) := by decide +kernel
theorem dX12_power_25 : decode cX12_power 25 = .ok (.ifCond .le 41, 3) := by decide +kernel
theorem dX12_power_28 : decode cX12_power 28 = .ok (.lload 9, 2) := by decide +kernel
theorem dX12_power_30 : decode cX12_power 30 = .ok (.lconst 1, 1) := by decide +kernel
theorem dX12_power_31 : decode cX12_power 31 = .ok (.land, 1) := by decide +kernel
theorem dX12_power_32 : decode cX12_power 32 = .ok (.lconst 0, 1) := by decide +kernel
theorem dX12_power_33 : decode cX12_power 33 = .ok (.lcmp, 1) := by decide +kernel
theorem dX12_power_34 : decode cX12_power 34 = .ok (.ifCond .eq 13, 3) := by decide +kernel
theorem dX12_power_37 : decode cX12_power 37 = .ok (.lload 5, 2) := by decide +kernel
theorem dX12_power_39 : decode cX12_power 39 = .ok (.lload 7, 2) := by decide +kernel
theorem dX12_power_41 : decode cX12_power 41 = .ok (.lmul, 1) := by decide +kernel
theorem dX12_power_42 : decode cX12_power 42 = .ok (.invokestatic 840, 3) := by decide +kernel
theorem dX12_power_45 : decode cX12_power 45 = .ok (.lstore 5, 2) := by decide +kernel
theorem dX12_power_47 : decode cX12_power 47 = .ok (.lload 7, 2) := by decide +kernel
theorem dX12_power_49 : decode cX12_power 49 = .ok (.lload 7, 2) := by decide +kernel
theorem dX12_power_51 : decode cX12_power 51 = .ok (.lmul, 1) := by decide +kernel
theorem dX12_power_52 : decode cX12_power 52 = .ok (.invokestatic 840, 3) := by decide +kernel
theorem dX12_power_55 : decode cX12_power 55 = .ok (.lstore 7, 2) := by decide +kernel
theorem dX12_power_57 : decode cX12_power 57 = .ok (.lload 9, 2) := by decide +kernel
theorem dX12_power_59 : decode cX12_power 59 = .ok (.iconst 1, 1) := by decide +kernel
theorem dX12_power_60 : decode cX12_power 60 = .ok (.lshr, 1) := by decide +kernel
theorem dX12_power_61 : decode cX12_power 61 = .ok (.lstore 9, 2) := by decide +kernel
theorem dX12_power_63 : decode cX12_power 63 = .ok (.goto (-42), 3) := by decide +kernel
theorem dX12_power_66 : decode cX12_power 66 = .ok (.aload_n 0, 1) := by decide +kernel
theorem dX12_power_67 : decode cX12_power 67 = .ok (.lload 5, 2) := by decide +kernel
theorem dX12_power_69 : decode cX12_power 69 = .ok (.invokevirtual 817, 3) := by decide +kernel
theorem dX12_power_72 : decode cX12_power 72 = .ok (.return_, 1) := by decide +kernel
def fX12_power_47 (k_21 : Int64 → Int64 → Int64 → Wd → Option Wd) (a5 : Int64) (a7 : Int64) (a9 : Int64) (w : Wd) : Option Wd :=
  lt (fX12_wrap (a7 * a7) w) fun x1 => lt ((a9 >>> (Int32.toInt64 1 &&& 63))) fun x2 => k_21 a5 x1 x2 w
theorem pX12_power_47 {q : Gq} {l : Launch} {N : Option Value → Wd → Prop} {X : String → Wd → Prop} {w : Wd} {R : Wd} (hN : N none R) {k_21 : Int64 → Int64 → Int64 → Wd → Option Wd} (hk_21 : ∀ (a5 : Int64) (a7 : Int64) (a9 : Int64) (w : Wd), k_21 a5 a7 a9 w = some R → RT (GM q) l 1 yX12_power cX12_power 11 (none) N X 21 [] [(0, .ref 0), (5, .long a5), (7, .long a7), (9, .long a9)] w) {a5 : Int64} {a7 : Int64} {a9 : Int64} (h : fX12_power_47 k_21 a5 a7 a9 w = some R) : RT (GM q) l 1 yX12_power cX12_power 11 (none) N X 47 [] [(0, .ref 0), (5, .long a5), (7, .long a7), (9, .long a9)] w := by
  unfold fX12_power_47 at h
  refine r_lload (pc := 47) dX12_power_47 2 rfl ?_
  refine r_lload (pc := 49) dX12_power_49 2 rfl ?_
  refine r_lmul (pc := 51) dX12_power_51 ?_
  replace h := lt_e h; obtain ⟨x1, ex1, h⟩ := h
  refine r_cSl (pc := 52) wyX12_wrap mlRX12_840 tyX12_wrap ⟨(Nat.le_of_ble_eq_true rfl), (Nat.le_of_ble_eq_true rfl)⟩ rfl rfl (Nat.le_of_ble_eq_true rfl) dX12_power_52 (mX12_wrap ex1 (pL.mk ?_))
  refine r_lstore (pc := 55) (loc' := [(7, .long x1), (0, .ref 0), (5, .long a5), (9, .long a9)]) dX12_power_55 (Nat.le_of_ble_eq_true rfl) rfl ?_
  refine r_lload (pc := 57) dX12_power_57 3 rfl ?_
  refine r_iconst (pc := 59) dX12_power_59 ki_1 ?_
  refine r_lshr (pc := 60) dX12_power_60 ?_
  replace h := lt_e h; obtain ⟨x2, ex2, h⟩ := h
  refine r_topl ex2 ?_
  refine r_lstore (pc := 61) (loc' := [(9, .long x2), (7, .long x1), (0, .ref 0), (5, .long a5)]) dX12_power_61 (Nat.le_of_ble_eq_true rfl) rfl ?_
  refine r_goto (pc := 63) dX12_power_63 rfl ?_
  refine r_drop (loc' := [(0, .ref 0), (5, .long a5), (7, .long x1), (9, .long x2)]) [2, 3, 1, 0] rfl ?_
  exact hk_21 a5 x1 x2 w h
def fX12_power_21 (k_21 : Int64 → Int64 → Int64 → Wd → Option Wd) (a5 : Int64) (a7 : Int64) (a9 : Int64) (w : Wd) : Option Wd :=
  if a9 ≤ 0 then (bn (fX12_push a5 w) fun w2 => some w2) else (if (a9 &&& 1) = 0 then (fX12_power_47 k_21 a5 a7 a9 w) else (lt (fX12_wrap (a5 * a7) w) fun x4 => fX12_power_47 k_21 x4 a7 a9 w))
theorem pX12_power_21 {q : Gq} {l : Launch} {N : Option Value → Wd → Prop} {X : String → Wd → Prop} {w : Wd} {R : Wd} (hN : N none R) {k_21 : Int64 → Int64 → Int64 → Wd → Option Wd} (hk_21 : ∀ (a5 : Int64) (a7 : Int64) (a9 : Int64) (w : Wd), k_21 a5 a7 a9 w = some R → RT (GM q) l 1 yX12_power cX12_power 11 (none) N X 21 [] [(0, .ref 0), (5, .long a5), (7, .long a7), (9, .long a9)] w) {a5 : Int64} {a7 : Int64} {a9 : Int64} (h : fX12_power_21 k_21 a5 a7 a9 w = some R) : RT (GM q) l 1 yX12_power cX12_power 11 (none) N X 21 [] [(0, .ref 0), (5, .long a5), (7, .long a7), (9, .long a9)] w := by
  unfold fX12_power_21 at h
  refine r_lload (pc := 21) dX12_power_21 3 rfl ?_
  refine r_lconst (pc := 23) dX12_power_23 kl_0 ?_
  refine r_l_le (pc := 24) dX12_power_24 dX12_power_25 rfl (fun hc1 => ?_) (fun hc1 => ?_)
  · replace h := if_t hc1 h
    refine r_aload_n (pc := 66) dX12_power_66 rfl 0 rfl ?_
    refine r_lload (pc := 67) dX12_power_67 1 rfl ?_
    replace h := bn_e h; obtain ⟨w2, ew2, h⟩ := h
    refine r_cVv (pc := 69) wyX12_push oM0 rfl mlRX12_817 iyX12_push syX12_push ⟨(Nat.le_of_ble_eq_true rfl), (Nat.le_of_ble_eq_true rfl)⟩ rfl rfl (Nat.le_of_ble_eq_true rfl) dX12_power_69 (mX12_push ew2 (pV.mk ?_))
    exact rO_v (pc := 72) rfl dX12_power_72 h hN
  replace h := if_f hc1 h
  refine r_lload (pc := 28) dX12_power_28 3 rfl ?_
  refine r_lconst (pc := 30) dX12_power_30 kl_1 ?_
  refine r_land (pc := 31) dX12_power_31 ?_
  refine r_lconst (pc := 32) dX12_power_32 kl_0 ?_
  refine r_l_eq (pc := 33) dX12_power_33 dX12_power_34 rfl (fun hc3 => ?_) (fun hc3 => ?_)
  · replace h := if_t hc3 h
    exact pX12_power_47 hN hk_21 h
  replace h := if_f hc3 h
  refine r_lload (pc := 37) dX12_power_37 1 rfl ?_
  refine r_lload (pc := 39) dX12_power_39 2 rfl ?_
  refine r_lmul (pc := 41) dX12_power_41 ?_
  replace h := lt_e h; obtain ⟨x4, ex4, h⟩ := h
  refine r_cSl (pc := 42) wyX12_wrap mlRX12_840 tyX12_wrap ⟨(Nat.le_of_ble_eq_true rfl), (Nat.le_of_ble_eq_true rfl)⟩ rfl rfl (Nat.le_of_ble_eq_true rfl) dX12_power_42 (mX12_wrap ex4 (pL.mk ?_))
  refine r_lstore (pc := 45) (loc' := [(5, .long x4), (0, .ref 0), (7, .long a7), (9, .long a9)]) dX12_power_45 (Nat.le_of_ble_eq_true rfl) rfl ?_
  refine r_drop (loc' := [(0, .ref 0), (5, .long x4), (7, .long a7), (9, .long a9)]) [1, 0, 2, 3] rfl ?_
  exact pX12_power_47 hN hk_21 h
def oX12_power_21 : Nat → Int64 → Int64 → Int64 → Wd → Option Wd
  | 0 => fun _ _ _ _ => none
  | n + 1 => fX12_power_21 (oX12_power_21 n)
theorem qX12_power_21 {q : Gq} {l : Launch} {N : Option Value → Wd → Prop} {X : String → Wd → Prop} {R : Wd} (hN : N none R) : ∀ (n : Nat) (a5 : Int64) (a7 : Int64) (a9 : Int64) (w : Wd), oX12_power_21 n a5 a7 a9 w = some R → RT (GM q) l 1 yX12_power cX12_power 11 (none) N X 21 [] [(0, .ref 0), (5, .long a5), (7, .long a7), (9, .long a9)] w := by
  intro n
  induction n with
  | zero =>
    intro a5 a7 a9 w h
    exact absurd h (fun q => nomatch q)
  | succ n ih =>
    intro a5 a7 a9 w h
    exact pX12_power_21 hN ih h
def fX12_power (a1 : Int64) (a3 : Int64) (w : Wd) : Option Wd :=
  if 0 ≤ a3 then (oX12_power_21 FU 1 a1 a3 w) else (lt (fX12_fail 2 w) fun w2 => some w2)
theorem pX12_power {q : Gq} {l : Launch} {N : Option Value → Wd → Prop} {X : String → Wd → Prop} {w : Wd} {R : Wd} (hN : N none R) {a1 : Int64} {a3 : Int64} (h : fX12_power a1 a3 w = some R) : RT (GM q) l 1 yX12_power cX12_power 11 (none) N X 0 [] [(0, .ref 0), (1, .long a1), (3, .long a3)] w := by
  unfold fX12_power at h
  refine r_lload_n (pc := 0) dX12_power_0 rfl 2 rfl ?_
  refine r_lconst (pc := 1) dX12_power_1 kl_0 ?_
  refine r_l_ge (pc := 2) dX12_power_2 dX12_power_3 rfl (fun hc1 => ?_) (fun hc1 => ?_)
  · replace h := if_t hc1 h
    refine r_lconst (pc := 12) dX12_power_12 kl_1 ?_
    refine r_lstore (pc := 13) (loc' := [(5, .long 1), (0, .ref 0), (1, .long a1), (3, .long a3)]) dX12_power_13 (Nat.le_of_ble_eq_true rfl) rfl ?_
    refine r_lload_n (pc := 15) dX12_power_15 rfl 2 rfl ?_
    refine r_lstore (pc := 16) (loc' := [(7, .long a1), (5, .long 1), (0, .ref 0), (1, .long a1), (3, .long a3)]) dX12_power_16 (Nat.le_of_ble_eq_true rfl) rfl ?_
    refine r_lload_n (pc := 18) dX12_power_18 rfl 4 rfl ?_
    refine r_lstore (pc := 19) (loc' := [(9, .long a3), (7, .long a1), (5, .long 1), (0, .ref 0), (1, .long a1), (3, .long a3)]) dX12_power_19 (Nat.le_of_ble_eq_true rfl) rfl ?_
    refine r_drop (loc' := [(0, .ref 0), (5, .long 1), (7, .long a1), (9, .long a3)]) [3, 2, 1, 0] rfl ?_
    exact qX12_power_21 hN FU 1 a1 a3 w h
  replace h := if_f hc1 h
  refine r_aload_n (pc := 6) dX12_power_6 rfl 0 rfl ?_
  refine r_iconst (pc := 7) dX12_power_7 ki_2 ?_
  replace h := lt_e h; obtain ⟨w2, ew2, h⟩ := h
  refine r_cVv (pc := 8) wyX12_fail oM0 rfl mlRX12_792 iyX12_fail syX12_fail ⟨(Nat.le_of_ble_eq_true rfl), (Nat.le_of_ble_eq_true rfl)⟩ rfl rfl (Nat.le_of_ble_eq_true rfl) dX12_power_8 (mX12_fail ew2 (pV.mk ?_))
  exact rO_v (pc := 11) rfl dX12_power_11 h hN
theorem mX12_power {q : Gq} {l : Launch} {N : Option Value → Wd → Prop} {X : String → Wd → Prop} {a1 : Int64} {a3 : Int64} {w : Wd} {u : Wd} (h : fX12_power a1 a3 w = some u) (hN : N none u) : Ct (GM q) l 1 yX12_power cX12_power 11 (none) [.ref 0, .long a1, .long a3] w N X := Ct.of (by decide) (Nat.le_of_ble_eq_true rfl) (pX12_power hN h)
/-! AlgolMillModel.reckon (I)V: O, 2 -/
theorem dX12_reckon_0 : decode cX12_reckon 0 = .ok (.aload_n 0, 1) := by decide +kernel
theorem dX12_reckon_1 : decode cX12_reckon 1 = .ok (.invokevirtual 810, 3) := by decide +kernel
theorem dX12_reckon_4 : decode cX12_reckon 4 = .ok (.lstore_n 2, 1) := by decide +kernel
theorem dX12_reckon_5 : decode cX12_reckon 5 = .ok (.aload_n 0, 1) := by decide +kernel
theorem dX12_reckon_6 : decode cX12_reckon 6 = .ok (.invokevirtual 810, 3) := by decide +kernel
theorem dX12_reckon_9 : decode cX12_reckon 9 = .ok (.lstore 4, 2) := by decide +kernel
theorem dX12_reckon_11 : decode cX12_reckon 11 = .ok (.iload_n 1, 1) := by decide +kernel
theorem dX12_reckon_12 : decode cX12_reckon 12 = .ok (.lookupswitch 364 #[(42, 156), (43, 132), (45, 144), (60, 216), (61, 250), (62, 284), (94, 208), (277, 318), (278, 341), (280, 250), (282, 168), (283, 168), (287, 233), (288, 267), (289, 301)], 132) := by decide +kernel
theorem dX12_reckon_144 : decode cX12_reckon 144 = .ok (.aload_n 0, 1) := by decide +kernel
theorem dX12_reckon_145 : decode cX12_reckon 145 = .ok (.lload 4, 2) := by decide +kernel
theorem dX12_reckon_147 : decode cX12_reckon 147 = .ok (.lload_n 2, 1) := by decide +kernel
theorem dX12_reckon_148 : decode cX12_reckon 148 = .ok (.ladd, 1) := by decide +kernel
theorem dX12_reckon_149 : decode cX12_reckon 149 = .ok (.invokestatic 840, 3) := by decide +kernel
theorem dX12_reckon_152 : decode cX12_reckon 152 = .ok (.invokevirtual 817, 3) := by decide +kernel
theorem dX12_reckon_155 : decode cX12_reckon 155 = .ok (.return_, 1) := by decide +kernel
theorem dX12_reckon_156 : decode cX12_reckon 156 = .ok (.aload_n 0, 1) := by decide +kernel
theorem dX12_reckon_157 : decode cX12_reckon 157 = .ok (.lload 4, 2) := by decide +kernel
theorem dX12_reckon_159 : decode cX12_reckon 159 = .ok (.lload_n 2, 1) := by decide +kernel
theorem dX12_reckon_160 : decode cX12_reckon 160 = .ok (.lsub, 1) := by decide +kernel
theorem dX12_reckon_161 : decode cX12_reckon 161 = .ok (.invokestatic 840, 3) := by decide +kernel
theorem dX12_reckon_164 : decode cX12_reckon 164 = .ok (.invokevirtual 817, 3) := by decide +kernel
theorem dX12_reckon_167 : decode cX12_reckon 167 = .ok (.return_, 1) := by decide +kernel
theorem dX12_reckon_168 : decode cX12_reckon 168 = .ok (.aload_n 0, 1) := by decide +kernel
theorem dX12_reckon_169 : decode cX12_reckon 169 = .ok (.lload 4, 2) := by decide +kernel
theorem dX12_reckon_171 : decode cX12_reckon 171 = .ok (.lload_n 2, 1) := by decide +kernel
theorem dX12_reckon_172 : decode cX12_reckon 172 = .ok (.lmul, 1) := by decide +kernel
theorem dX12_reckon_173 : decode cX12_reckon 173 = .ok (.invokestatic 840, 3) := by decide +kernel
theorem dX12_reckon_176 : decode cX12_reckon 176 = .ok (.invokevirtual 817, 3) := by decide +kernel
theorem dX12_reckon_179 : decode cX12_reckon 179 = .ok (.return_, 1) := by decide +kernel
theorem dX12_reckon_180 : decode cX12_reckon 180 = .ok (.lload_n 2, 1) := by decide +kernel
theorem dX12_reckon_181 : decode cX12_reckon 181 = .ok (.lconst 0, 1) := by decide +kernel
theorem dX12_reckon_182 : decode cX12_reckon 182 = .ok (.lcmp, 1) := by decide +kernel
theorem dX12_reckon_183 : decode cX12_reckon 183 = .ok (.ifCond .ne 11, 3) := by decide +kernel
theorem dX12_reckon_186 : decode cX12_reckon 186 = .ok (.aload_n 0, 1) := by decide +kernel
theorem dX12_reckon_187 : decode cX12_reckon 187 = .ok (.iconst 2, 1) := by decide +kernel
theorem dX12_reckon_188 : decode cX12_reckon 188 = .ok (.invokevirtual 792, 3) := by decide +kernel
theorem dX12_reckon_191 : decode cX12_reckon 191 = .ok (.goto 28, 3) := by decide +kernel
theorem dX12_reckon_194 : decode cX12_reckon 194 = .ok (.aload_n 0, 1) := by decide +kernel
theorem dX12_reckon_195 : decode cX12_reckon 195 = .ok (.iload_n 1, 1) := by decide +kernel
theorem dX12_reckon_196 : decode cX12_reckon 196 = .ok (.sipush 282, 3) := by decide +kernel
theorem dX12_reckon_199 : decode cX12_reckon 199 = .ok (.if_icmp .ne 10, 3) := by decide +kernel
theorem dX12_reckon_202 : decode cX12_reckon 202 = .ok (.lload 4, 2) := by decide +kernel
theorem dX12_reckon_204 : decode cX12_reckon 204 = .ok (.lload_n 2, 1) := by decide +kernel
theorem dX12_reckon_205 : decode cX12_reckon 205 = .ok (.ldiv, 1) := by decide +kernel
theorem dX12_reckon_206 : decode cX12_reckon 206 = .ok (.goto 7, 3) := by decide +kernel
theorem dX12_reckon_209 : decode cX12_reckon 209 = .ok (.lload 4, 2) := by decide +kernel
theorem dX12_reckon_211 : decode cX12_reckon 211 = .ok (.lload_n 2, 1) := by decide +kernel
theorem dX12_reckon_212 : decode cX12_reckon 212 = .ok (.lrem, 1) := by decide +kernel
theorem dX12_reckon_213 : decode cX12_reckon 213 = .ok (.invokestatic 840, 3) := by decide +kernel
theorem dX12_reckon_216 : decode cX12_reckon 216 = .ok (.invokevirtual 817, 3) := by decide +kernel
theorem dX12_reckon_219 : decode cX12_reckon 219 = .ok (.return_, 1) := by decide +kernel
theorem dX12_reckon_220 : decode cX12_reckon 220 = .ok (.aload_n 0, 1) := by decide +kernel
theorem dX12_reckon_221 : decode cX12_reckon 221 = .ok (.lload 4, 2) := by decide +kernel
theorem dX12_reckon_223 : decode cX12_reckon 223 = .ok (.lload_n 2, 1) := by decide +kernel
theorem dX12_reckon_224 : decode cX12_reckon 224 = .ok (.invokevirtual 843, 3) := by decide +kernel
theorem dX12_reckon_227 : decode cX12_reckon 227 = .ok (.return_, 1) := by decide +kernel
theorem dX12_reckon_228 : decode cX12_reckon 228 = .ok (.lload 4, 2) := by decide +kernel
theorem dX12_reckon_230 : decode cX12_reckon 230 = .ok (.lload_n 2, 1) := by decide +kernel
theorem dX12_reckon_231 : decode cX12_reckon 231 = .ok (.lcmp, 1) := by decide +kernel
theorem dX12_reckon_232 : decode cX12_reckon 232 = .ok (.ifCond .ge 7, 3) := by decide +kernel
theorem dX12_reckon_235 : decode cX12_reckon 235 = .ok (.iconst 1, 1) := by decide +kernel
theorem dX12_reckon_236 : decode cX12_reckon 236 = .ok (.goto 4, 3) := by decide +kernel
theorem dX12_reckon_239 : decode cX12_reckon 239 = .ok (.iconst 0, 1) := by decide +kernel
theorem dX12_reckon_240 : decode cX12_reckon 240 = .ok (.istore 6, 2) := by decide +kernel
theorem dX12_reckon_242 : decode cX12_reckon 242 = .ok (.goto 154, 3) := by decide +kernel
theorem dX12_reckon_245 : decode cX12_reckon 245 = .ok (.lload 4, 2) := by decide +kernel
theorem dX12_reckon_247 : decode cX12_reckon 247 = .ok (.lload_n 2, 1) := by decide +kernel
theorem dX12_reckon_248 : decode cX12_reckon 248 = .ok (.lcmp, 1) := by decide +kernel
theorem dX12_reckon_249 : decode cX12_reckon 249 = .ok (.ifCond .gt 7, 3) := by decide +kernel
theorem dX12_reckon_252 : decode cX12_reckon 252 = .ok (.iconst 1, 1) := by decide +kernel
theorem dX12_reckon_253 : decode cX12_reckon 253 = .ok (.goto 4, 3) := by decide +kernel
theorem dX12_reckon_256 : decode cX12_reckon 256 = .ok (.iconst 0, 1) := by decide +kernel
theorem dX12_reckon_257 : decode cX12_reckon 257 = .ok (.istore 6, 2) := by decide +kernel
theorem dX12_reckon_259 : decode cX12_reckon 259 = .ok (.goto 137, 3) := by decide +kernel
theorem dX12_reckon_262 : decode cX12_reckon 262 = .ok (.lload 4, 2) := by decide +kernel
theorem dX12_reckon_264 : decode cX12_reckon 264 = .ok (.lload_n 2, 1) := by decide +kernel
theorem dX12_reckon_265 : decode cX12_reckon 265 = .ok (.lcmp, 1) := by decide +kernel
theorem dX12_reckon_266 : decode cX12_reckon 266 = .ok (.ifCond .ne 7, 3) := by decide +kernel
theorem dX12_reckon_269 : decode cX12_reckon 269 = .ok (.iconst 1, 1) := by decide +kernel
theorem dX12_reckon_270 : decode cX12_reckon 270 = .ok (.goto 4, 3) := by decide +kernel
theorem dX12_reckon_273 : decode cX12_reckon 273 = .ok (.iconst 0, 1) := by decide +kernel
theorem dX12_reckon_274 : decode cX12_reckon 274 = .ok (.istore 6, 2) := by decide +kernel
theorem dX12_reckon_276 : decode cX12_reckon 276 = .ok (.goto 120, 3) := by decide +kernel
theorem dX12_reckon_279 : decode cX12_reckon 279 = .ok (.lload 4, 2) := by decide +kernel
theorem dX12_reckon_281 : decode cX12_reckon 281 = .ok (.lload_n 2, 1) := by decide +kernel
theorem dX12_reckon_282 : decode cX12_reckon 282 = .ok (.lcmp, 1) := by decide +kernel
theorem dX12_reckon_283 : decode cX12_reckon 283 = .ok (.ifCond .lt 7, 3) := by decide +kernel
theorem dX12_reckon_286 : decode cX12_reckon 286 = .ok (.iconst 1, 1) := by decide +kernel
theorem dX12_reckon_287 : decode cX12_reckon 287 = .ok (.goto 4, 3) := by decide +kernel
theorem dX12_reckon_290 : decode cX12_reckon 290 = .ok (.iconst 0, 1) := by decide +kernel
theorem dX12_reckon_291 : decode cX12_reckon 291 = .ok (.istore 6, 2) := by decide +kernel
theorem dX12_reckon_293 : decode cX12_reckon 293 = .ok (.goto 103, 3) := by decide +kernel
theorem dX12_reckon_296 : decode cX12_reckon 296 = .ok (.lload 4, 2) := by decide +kernel
theorem dX12_reckon_298 : decode cX12_reckon 298 = .ok (.lload_n 2, 1) := by decide +kernel
theorem dX12_reckon_299 : decode cX12_reckon 299 = .ok (.lcmp, 1) := by decide +kernel
theorem dX12_reckon_300 : decode cX12_reckon 300 = .ok (.ifCond .le 7, 3) := by decide +kernel
theorem dX12_reckon_303 : decode cX12_reckon 303 = .ok (.iconst 1, 1) := by decide +kernel
theorem dX12_reckon_304 : decode cX12_reckon 304 = .ok (.goto 4, 3) := by decide +kernel
theorem dX12_reckon_307 : decode cX12_reckon 307 = .ok (.iconst 0, 1) := by decide +kernel
theorem dX12_reckon_308 : decode cX12_reckon 308 = .ok (.istore 6, 2) := by decide +kernel
theorem dX12_reckon_310 : decode cX12_reckon 310 = .ok (.goto 86, 3) := by decide +kernel
theorem dX12_reckon_313 : decode cX12_reckon 313 = .ok (.lload 4, 2) := by decide +kernel
theorem dX12_reckon_315 : decode cX12_reckon 315 = .ok (.lload_n 2, 1) := by decide +kernel
theorem dX12_reckon_316 : decode cX12_reckon 316 = .ok (.lcmp, 1) := by decide +kernel
theorem dX12_reckon_317 : decode cX12_reckon 317 = .ok (.ifCond .eq 7, 3) := by decide +kernel
theorem dX12_reckon_320 : decode cX12_reckon 320 = .ok (.iconst 1, 1) := by decide +kernel
theorem dX12_reckon_321 : decode cX12_reckon 321 = .ok (.goto 4, 3) := by decide +kernel
theorem dX12_reckon_324 : decode cX12_reckon 324 = .ok (.iconst 0, 1) := by decide +kernel
theorem dX12_reckon_325 : decode cX12_reckon 325 = .ok (.istore 6, 2) := by decide +kernel
theorem dX12_reckon_327 : decode cX12_reckon 327 = .ok (.goto 69, 3) := by decide +kernel
theorem dX12_reckon_330 : decode cX12_reckon 330 = .ok (.lload 4, 2) := by decide +kernel
theorem dX12_reckon_332 : decode cX12_reckon 332 = .ok (.lconst 0, 1) := by decide +kernel
theorem dX12_reckon_333 : decode cX12_reckon 333 = .ok (.lcmp, 1) := by decide +kernel
theorem dX12_reckon_334 : decode cX12_reckon 334 = .ok (.ifCond .eq 13, 3) := by decide +kernel
theorem dX12_reckon_337 : decode cX12_reckon 337 = .ok (.lload_n 2, 1) := by decide +kernel
theorem dX12_reckon_338 : decode cX12_reckon 338 = .ok (.lconst 0, 1) := by decide +kernel
theorem dX12_reckon_339 : decode cX12_reckon 339 = .ok (.lcmp, 1) := by decide +kernel
theorem dX12_reckon_340 : decode cX12_reckon 340 = .ok (.ifCond .eq 7, 3) := by decide +kernel
theorem dX12_reckon_343 : decode cX12_reckon 343 = .ok (.iconst 1, 1) := by decide +kernel
theorem dX12_reckon_344 : decode cX12_reckon 344 = .ok (.goto 4, 3) := by decide +kernel
theorem dX12_reckon_347 : decode cX12_reckon 347 = .ok (.iconst 0, 1) := by decide +kernel
theorem dX12_reckon_348 : decode cX12_reckon 348 = .ok (.istore 6, 2) := by decide +kernel
theorem dX12_reckon_350 : decode cX12_reckon 350 = .ok (.goto 46, 3) := by decide +kernel
theorem dX12_reckon_353 : decode cX12_reckon 353 = .ok (.lload 4, 2) := by decide +kernel
theorem dX12_reckon_355 : decode cX12_reckon 355 = .ok (.lconst 0, 1) := by decide +kernel
theorem dX12_reckon_356 : decode cX12_reckon 356 = .ok (.lcmp, 1) := by decide +kernel
theorem dX12_reckon_357 : decode cX12_reckon 357 = .ok (.ifCond .ne 9, 3) := by decide +kernel
theorem dX12_reckon_360 : decode cX12_reckon 360 = .ok (.lload_n 2, 1) := by decide +kernel
theorem dX12_reckon_361 : decode cX12_reckon 361 = .ok (.lconst 0, 1) := by decide +kernel
theorem dX12_reckon_362 : decode cX12_reckon 362 = .ok (.lcmp, 1) := by decide +kernel
theorem dX12_reckon_363 : decode cX12_reckon 363 = .ok (.ifCond .eq 7, 3) := by decide +kernel
theorem dX12_reckon_366 : decode cX12_reckon 366 = .ok (.iconst 1, 1) := by decide +kernel
theorem dX12_reckon_367 : decode cX12_reckon 367 = .ok (.goto 4, 3) := by decide +kernel
theorem dX12_reckon_370 : decode cX12_reckon 370 = .ok (.iconst 0, 1) := by decide +kernel
theorem dX12_reckon_371 : decode cX12_reckon 371 = .ok (.istore 6, 2) := by decide +kernel
theorem dX12_reckon_373 : decode cX12_reckon 373 = .ok (.goto 23, 3) := by decide +kernel
theorem dX12_reckon_376 : decode cX12_reckon 376 = .ok (.lload 4, 2) := by decide +kernel
theorem dX12_reckon_378 : decode cX12_reckon 378 = .ok (.lconst 0, 1) := by decide +kernel
theorem dX12_reckon_379 : decode cX12_reckon 379 = .ok (.lcmp, 1) := by decide +kernel
theorem dX12_reckon_380 : decode cX12_reckon 380 = .ok (.ifCond .eq 9, 3) := by decide +kernel
theorem dX12_reckon_383 : decode cX12_reckon 383 = .ok (.lload_n 2, 1) := by decide +kernel
theorem dX12_reckon_384 : decode cX12_reckon 384 = .ok (.lconst 0, 1) := by decide +kernel
theorem dX12_reckon_385 : decode cX12_reckon 385 = .ok (.lcmp, 1) := by decide +kernel
theorem dX12_reckon_386 : decode cX12_reckon 386 = .ok (.ifCond .eq 7, 3) := by decide +kernel
theorem dX12_reckon_389 : decode cX12_reckon 389 = .ok (.iconst 1, 1) := by decide +kernel
theorem dX12_reckon_390 : decode cX12_reckon 390 = .ok (.goto 4, 3) := by decide +kernel
theorem dX12_reckon_393 : decode cX12_reckon 393 = .ok (.iconst 0, 1) := by decide +kernel
theorem dX12_reckon_394 : decode cX12_reckon 394 = .ok (.istore 6, 2) := by decide +kernel
theorem dX12_reckon_396 : decode cX12_reckon 396 = .ok (.aload_n 0, 1) := by decide +kernel
theorem dX12_reckon_397 : decode cX12_reckon 397 = .ok (.iload 6, 2) := by decide +kernel
theorem dX12_reckon_399 : decode cX12_reckon 399 = .ok (.ifCond .eq 7, 3) := by decide +kernel
theorem dX12_reckon_402 : decode cX12_reckon 402 = .ok (.lconst 1, 1) := by decide +kernel
theorem dX12_reckon_403 : decode cX12_reckon 403 = .ok (.goto 4, 3) := by decide +kernel
theorem dX12_reckon_406 : decode cX12_reckon 406 = .ok (.lconst 0, 1) := by decide +kernel
theorem dX12_reckon_407 : decode cX12_reckon 407 = .ok (.invokevirtual 817, 3) := by decide +kernel
theorem dX12_reckon_410 : decode cX12_reckon 410 = .ok (.return_, 1) := by decide +kernel
def fX12_reckon_396 (a6 : Bool) (w : Wd) : Option Wd :=
  if a6 = true then (bn (fX12_push 1 w) fun w2 => some w2) else (bn (fX12_push 0 w) fun w3 => some w3)
theorem pX12_reckon_396 {q : Gq} {l : Launch} {N : Option Value → Wd → Prop} {X : String → Wd → Prop} {w : Wd} {R : Wd} (hN : N none R) {a6 : Bool} (h : fX12_reckon_396 a6 w = some R) : RT (GM q) l 2 yX12_reckon cX12_reckon 7 (none) N X 396 [] [(0, .ref 0), (6, .int (b2i a6))] w := by
  unfold fX12_reckon_396 at h
  refine r_aload_n (pc := 396) dX12_reckon_396 rfl 0 rfl ?_
  refine r_iload (pc := 397) dX12_reckon_397 1 rfl ?_
  refine r_z_eq (pc := 399) dX12_reckon_399 rfl (fun hc1 => ?_) (fun hc1 => ?_)
  · replace h := if_f hc1 h
    refine r_lconst (pc := 406) dX12_reckon_406 kl_0 ?_
    replace h := bn_e h; obtain ⟨w3, ew3, h⟩ := h
    refine r_cVv (pc := 407) wyX12_push oM0 rfl mlRX12_817 iyX12_push syX12_push ⟨(Nat.le_of_ble_eq_true rfl), (Nat.le_of_ble_eq_true rfl)⟩ rfl rfl (Nat.le_of_ble_eq_true rfl) dX12_reckon_407 (mX12_push ew3 (pV.mk ?_))
    exact rO_v (pc := 410) rfl dX12_reckon_410 h hN
  replace h := if_t hc1 h
  refine r_lconst (pc := 402) dX12_reckon_402 kl_1 ?_
  refine r_goto (pc := 403) dX12_reckon_403 rfl ?_
  replace h := bn_e h; obtain ⟨w2, ew2, h⟩ := h
  refine r_cVv (pc := 407) wyX12_push oM0 rfl mlRX12_817 iyX12_push syX12_push ⟨(Nat.le_of_ble_eq_true rfl), (Nat.le_of_ble_eq_true rfl)⟩ rfl rfl (Nat.le_of_ble_eq_true rfl) dX12_reckon_407 (mX12_push ew2 (pV.mk ?_))
  exact rO_v (pc := 410) rfl dX12_reckon_410 h hN
def fX12_reckon (a1 : Int32) (w : Wd) : Option Wd :=
  bn2 (fX12_pop w) fun x1 w2 => bn2 (fX12_pop w2) fun x3 w4 => if a1 = 42 then (lt (fX12_wrap (x3 * x1) w4) fun x6 => bn (fX12_push x6 w4) fun w7 => some w7) else if a1 = 43 then (lt (fX12_wrap (x3 + x1) w4) fun x9 => bn (fX12_push x9 w4) fun w10 => some w10) else if a1 = 45 then (lt (fX12_wrap (x3 - x1) w4) fun x12 => bn (fX12_push x12 w4) fun w13 => some w13) else if a1 = 60 then (if x1 ≤ x3 then (fX12_reckon_396 false w4) else (fX12_reckon_396 true w4)) else if a1 = 61 ∨ a1 = 280 then (if x3 = x1 then (fX12_reckon_396 true w4) else (fX12_reckon_396 false w4)) else if a1 = 62 then (if x3 ≤ x1 then (fX12_reckon_396 false w4) else (fX12_reckon_396 true w4)) else if a1 = 94 then (bn (fX12_power x3 x1 w4) fun w21 => some w21) else if a1 = 277 then (if x3 = 0 then (fX12_reckon_396 false w4) else (if x1 = 0 then (fX12_reckon_396 false w4) else (fX12_reckon_396 true w4))) else if a1 = 278 then (if x3 = 0 then (if x1 = 0 then (fX12_reckon_396 false w4) else (fX12_reckon_396 true w4)) else (fX12_reckon_396 true w4)) else if a1 = 282 ∨ a1 = 283 then (if x1 = 0 then (lt (fX12_fail 2 w4) fun w30 => some w30) else (if a1 = 282 then (lt (fX12_wrap (x3 / x1) w4) fun x32 => bn (fX12_push x32 w4) fun w33 => some w33) else (lt (fX12_wrap (x3 - x3 / x1 * x1) w4) fun x34 => bn (fX12_push x34 w4) fun w35 => some w35))) else if a1 = 287 then (if x1 < x3 then (fX12_reckon_396 false w4) else (fX12_reckon_396 true w4)) else if a1 = 288 then (if x3 < x1 then (fX12_reckon_396 false w4) else (fX12_reckon_396 true w4)) else if a1 = 289 then (if x3 = x1 then (fX12_reckon_396 false w4) else (fX12_reckon_396 true w4)) else (if x3 = 0 then (fX12_reckon_396 true w4) else (if x1 = 0 then (fX12_reckon_396 false w4) else (fX12_reckon_396 true w4)))
set_option maxHeartbeats 16000000 in
theorem pX12_reckon {q : Gq} {l : Launch} {N : Option Value → Wd → Prop} {X : String → Wd → Prop} {w : Wd} {R : Wd} (hN : N none R) {a1 : Int32} (h : fX12_reckon a1 w = some R) : RT (GM q) l 2 yX12_reckon cX12_reckon 7 (none) N X 0 [] [(0, .ref 0), (1, .int a1)] w := by
  unfold fX12_reckon at h
  refine r_aload_n (pc := 0) dX12_reckon_0 rfl 0 rfl ?_
  replace h := bn2_e h; obtain ⟨x1, w2, ew2, h⟩ := h
  refine r_cVl (pc := 1) wyX12_pop oM0 rfl mlRX12_810 iyX12_pop syX12_pop ⟨(Nat.le_of_ble_eq_true rfl), (Nat.le_of_ble_eq_true rfl)⟩ rfl rfl (Nat.le_of_ble_eq_true rfl) dX12_reckon_1 (mX12_pop ew2 (pL.mk ?_))
  refine r_lstore_n (pc := 4) (loc' := [(2, .long x1), (0, .ref 0), (1, .int a1)]) dX12_reckon_4 rfl (Nat.le_of_ble_eq_true rfl) rfl ?_
  refine r_aload_n (pc := 5) dX12_reckon_5 rfl 1 rfl ?_
  replace h := bn2_e h; obtain ⟨x3, w4, ew4, h⟩ := h
  refine r_cVl (pc := 6) wyX12_pop oM0 rfl mlRX12_810 iyX12_pop syX12_pop ⟨(Nat.le_of_ble_eq_true rfl), (Nat.le_of_ble_eq_true rfl)⟩ rfl rfl (Nat.le_of_ble_eq_true rfl) dX12_reckon_6 (mX12_pop ew4 (pL.mk ?_))
  refine r_lstore (pc := 9) (loc' := [(4, .long x3), (2, .long x1), (0, .ref 0), (1, .int a1)]) dX12_reckon_9 (Nat.le_of_ble_eq_true rfl) rfl ?_
  refine r_iload_n (pc := 11) dX12_reckon_11 rfl 3 rfl ?_
  by_cases hc5 : a1 = 42
  · refine r_lkC (pc := 12) (off := 156) (tgt := 168) (L := [42]) dX12_reckon_12 (by decide) hc5 (by decide) rfl ?_
    replace h := if_t hc5 h
    refine r_aload_n (pc := 168) dX12_reckon_168 rfl 2 rfl ?_
    refine r_lload (pc := 169) dX12_reckon_169 0 rfl ?_
    refine r_lload_n (pc := 171) dX12_reckon_171 rfl 1 rfl ?_
    refine r_lmul (pc := 172) dX12_reckon_172 ?_
    replace h := lt_e h; obtain ⟨x6, ex6, h⟩ := h
    refine r_cSl (pc := 173) wyX12_wrap mlRX12_840 tyX12_wrap ⟨(Nat.le_of_ble_eq_true rfl), (Nat.le_of_ble_eq_true rfl)⟩ rfl rfl (Nat.le_of_ble_eq_true rfl) dX12_reckon_173 (mX12_wrap ex6 (pL.mk ?_))
    replace h := bn_e h; obtain ⟨w7, ew7, h⟩ := h
    refine r_cVv (pc := 176) wyX12_push oM0 rfl mlRX12_817 iyX12_push syX12_push ⟨(Nat.le_of_ble_eq_true rfl), (Nat.le_of_ble_eq_true rfl)⟩ rfl rfl (Nat.le_of_ble_eq_true rfl) dX12_reckon_176 (mX12_push ew7 (pV.mk ?_))
    exact rO_v (pc := 179) rfl dX12_reckon_179 h hN
  replace h := if_f hc5 h
  by_cases hc8 : a1 = 43
  · refine r_lkC (pc := 12) (off := 132) (tgt := 144) (L := [43]) dX12_reckon_12 (by decide) hc8 (by decide) rfl ?_
    replace h := if_t hc8 h
    refine r_aload_n (pc := 144) dX12_reckon_144 rfl 2 rfl ?_
    refine r_lload (pc := 145) dX12_reckon_145 0 rfl ?_
    refine r_lload_n (pc := 147) dX12_reckon_147 rfl 1 rfl ?_
    refine r_ladd (pc := 148) dX12_reckon_148 ?_
    replace h := lt_e h; obtain ⟨x9, ex9, h⟩ := h
    refine r_cSl (pc := 149) wyX12_wrap mlRX12_840 tyX12_wrap ⟨(Nat.le_of_ble_eq_true rfl), (Nat.le_of_ble_eq_true rfl)⟩ rfl rfl (Nat.le_of_ble_eq_true rfl) dX12_reckon_149 (mX12_wrap ex9 (pL.mk ?_))
    replace h := bn_e h; obtain ⟨w10, ew10, h⟩ := h
    refine r_cVv (pc := 152) wyX12_push oM0 rfl mlRX12_817 iyX12_push syX12_push ⟨(Nat.le_of_ble_eq_true rfl), (Nat.le_of_ble_eq_true rfl)⟩ rfl rfl (Nat.le_of_ble_eq_true rfl) dX12_reckon_152 (mX12_push ew10 (pV.mk ?_))
    exact rO_v (pc := 155) rfl dX12_reckon_155 h hN
  replace h := if_f hc8 h
  by_cases hc11 : a1 = 45
  · refine r_lkC (pc := 12) (off := 144) (tgt := 156) (L := [45]) dX12_reckon_12 (by decide) hc11 (by decide) rfl ?_
    replace h := if_t hc11 h
    refine r_aload_n (pc := 156) dX12_reckon_156 rfl 2 rfl ?_
    refine r_lload (pc := 157) dX12_reckon_157 0 rfl ?_
    refine r_lload_n (pc := 159) dX12_reckon_159 rfl 1 rfl ?_
    refine r_lsub (pc := 160) dX12_reckon_160 ?_
    replace h := lt_e h; obtain ⟨x12, ex12, h⟩ := h
    refine r_cSl (pc := 161) wyX12_wrap mlRX12_840 tyX12_wrap ⟨(Nat.le_of_ble_eq_true rfl), (Nat.le_of_ble_eq_true rfl)⟩ rfl rfl (Nat.le_of_ble_eq_true rfl) dX12_reckon_161 (mX12_wrap ex12 (pL.mk ?_))
    replace h := bn_e h; obtain ⟨w13, ew13, h⟩ := h
    refine r_cVv (pc := 164) wyX12_push oM0 rfl mlRX12_817 iyX12_push syX12_push ⟨(Nat.le_of_ble_eq_true rfl), (Nat.le_of_ble_eq_true rfl)⟩ rfl rfl (Nat.le_of_ble_eq_true rfl) dX12_reckon_164 (mX12_push ew13 (pV.mk ?_))
    exact rO_v (pc := 167) rfl dX12_reckon_167 h hN
  replace h := if_f hc11 h
  by_cases hc14 : a1 = 60
  · refine r_lkC (pc := 12) (off := 216) (tgt := 228) (L := [60]) dX12_reckon_12 (by decide) hc14 (by decide) rfl ?_
    replace h := if_t hc14 h
    refine r_lload (pc := 228) dX12_reckon_228 0 rfl ?_
    refine r_lload_n (pc := 230) dX12_reckon_230 rfl 1 rfl ?_
    refine r_l_ge (pc := 231) dX12_reckon_231 dX12_reckon_232 rfl (fun hc15 => ?_) (fun hc15 => ?_)
    · replace h := if_t hc15 h
      refine r_iconst (pc := 239) dX12_reckon_239 ki_0 ?_
      refine r_istore (pc := 240) (loc' := [(6, .int 0), (4, .long x3), (2, .long x1), (0, .ref 0), (1, .int a1)]) dX12_reckon_240 (Nat.le_of_ble_eq_true rfl) rfl ?_
      refine r_goto (pc := 242) dX12_reckon_242 rfl ?_
      refine r_drop (loc' := [(0, .ref 0), (6, .int 0)]) [3, 0] rfl ?_
      exact pX12_reckon_396 hN h
    replace h := if_f hc15 h
    refine r_iconst (pc := 235) dX12_reckon_235 ki_1 ?_
    refine r_goto (pc := 236) dX12_reckon_236 rfl ?_
    refine r_istore (pc := 240) (loc' := [(6, .int 1), (4, .long x3), (2, .long x1), (0, .ref 0), (1, .int a1)]) dX12_reckon_240 (Nat.le_of_ble_eq_true rfl) rfl ?_
    refine r_goto (pc := 242) dX12_reckon_242 rfl ?_
    refine r_drop (loc' := [(0, .ref 0), (6, .int 1)]) [3, 0] rfl ?_
    exact pX12_reckon_396 hN h
  replace h := if_f hc14 h
  by_cases hc16 : a1 = 61 ∨ a1 = 280
  · refine r_lkC (pc := 12) (off := 250) (tgt := 262) (L := [61, 280]) dX12_reckon_12 (by decide) hc16 (by decide) rfl ?_
    replace h := if_t hc16 h
    refine r_lload (pc := 262) dX12_reckon_262 0 rfl ?_
    refine r_lload_n (pc := 264) dX12_reckon_264 rfl 1 rfl ?_
    refine r_l_ne (pc := 265) dX12_reckon_265 dX12_reckon_266 rfl (fun hc17 => ?_) (fun hc17 => ?_)
    · replace h := if_f hc17 h
      refine r_iconst (pc := 273) dX12_reckon_273 ki_0 ?_
      refine r_istore (pc := 274) (loc' := [(6, .int 0), (4, .long x3), (2, .long x1), (0, .ref 0), (1, .int a1)]) dX12_reckon_274 (Nat.le_of_ble_eq_true rfl) rfl ?_
      refine r_goto (pc := 276) dX12_reckon_276 rfl ?_
      refine r_drop (loc' := [(0, .ref 0), (6, .int 0)]) [3, 0] rfl ?_
      exact pX12_reckon_396 hN h
    replace h := if_t hc17 h
    refine r_iconst (pc := 269) dX12_reckon_269 ki_1 ?_
    refine r_goto (pc := 270) dX12_reckon_270 rfl ?_
    refine r_istore (pc := 274) (loc' := [(6, .int 1), (4, .long x3), (2, .long x1), (0, .ref 0), (1, .int a1)]) dX12_reckon_274 (Nat.le_of_ble_eq_true rfl) rfl ?_
    refine r_goto (pc := 276) dX12_reckon_276 rfl ?_
    refine r_drop (loc' := [(0, .ref 0), (6, .int 1)]) [3, 0] rfl ?_
    exact pX12_reckon_396 hN h
  replace h := if_f hc16 h
  by_cases hc18 : a1 = 62
  · refine r_lkC (pc := 12) (off := 284) (tgt := 296) (L := [62]) dX12_reckon_12 (by decide) hc18 (by decide) rfl ?_
    replace h := if_t hc18 h
    refine r_lload (pc := 296) dX12_reckon_296 0 rfl ?_
    refine r_lload_n (pc := 298) dX12_reckon_298 rfl 1 rfl ?_
    refine r_l_le (pc := 299) dX12_reckon_299 dX12_reckon_300 rfl (fun hc19 => ?_) (fun hc19 => ?_)
    · replace h := if_t hc19 h
      refine r_iconst (pc := 307) dX12_reckon_307 ki_0 ?_
      refine r_istore (pc := 308) (loc' := [(6, .int 0), (4, .long x3), (2, .long x1), (0, .ref 0), (1, .int a1)]) dX12_reckon_308 (Nat.le_of_ble_eq_true rfl) rfl ?_
      refine r_goto (pc := 310) dX12_reckon_310 rfl ?_
      refine r_drop (loc' := [(0, .ref 0), (6, .int 0)]) [3, 0] rfl ?_
      exact pX12_reckon_396 hN h
    replace h := if_f hc19 h
    refine r_iconst (pc := 303) dX12_reckon_303 ki_1 ?_
    refine r_goto (pc := 304) dX12_reckon_304 rfl ?_
    refine r_istore (pc := 308) (loc' := [(6, .int 1), (4, .long x3), (2, .long x1), (0, .ref 0), (1, .int a1)]) dX12_reckon_308 (Nat.le_of_ble_eq_true rfl) rfl ?_
    refine r_goto (pc := 310) dX12_reckon_310 rfl ?_
    refine r_drop (loc' := [(0, .ref 0), (6, .int 1)]) [3, 0] rfl ?_
    exact pX12_reckon_396 hN h
  replace h := if_f hc18 h
  by_cases hc20 : a1 = 94
  · refine r_lkC (pc := 12) (off := 208) (tgt := 220) (L := [94]) dX12_reckon_12 (by decide) hc20 (by decide) rfl ?_
    replace h := if_t hc20 h
    refine r_aload_n (pc := 220) dX12_reckon_220 rfl 2 rfl ?_
    refine r_lload (pc := 221) dX12_reckon_221 0 rfl ?_
    refine r_lload_n (pc := 223) dX12_reckon_223 rfl 1 rfl ?_
    replace h := bn_e h; obtain ⟨w21, ew21, h⟩ := h
    refine r_cVv (pc := 224) wyX12_power oM0 rfl mlRX12_843 iyX12_power syX12_power ⟨(Nat.le_of_ble_eq_true rfl), (Nat.le_of_ble_eq_true rfl)⟩ rfl rfl (Nat.le_of_ble_eq_true rfl) dX12_reckon_224 (mX12_power ew21 (pV.mk ?_))
    exact rO_v (pc := 227) rfl dX12_reckon_227 h hN
  replace h := if_f hc20 h
  by_cases hc22 : a1 = 277
  · refine r_lkC (pc := 12) (off := 318) (tgt := 330) (L := [277]) dX12_reckon_12 (by decide) hc22 (by decide) rfl ?_
    replace h := if_t hc22 h
    refine r_lload (pc := 330) dX12_reckon_330 0 rfl ?_
    refine r_lconst (pc := 332) dX12_reckon_332 kl_0 ?_
    refine r_l_eq (pc := 333) dX12_reckon_333 dX12_reckon_334 rfl (fun hc23 => ?_) (fun hc23 => ?_)
    · replace h := if_t hc23 h
      refine r_iconst (pc := 347) dX12_reckon_347 ki_0 ?_
      refine r_istore (pc := 348) (loc' := [(6, .int 0), (4, .long x3), (2, .long x1), (0, .ref 0), (1, .int a1)]) dX12_reckon_348 (Nat.le_of_ble_eq_true rfl) rfl ?_
      refine r_goto (pc := 350) dX12_reckon_350 rfl ?_
      refine r_drop (loc' := [(0, .ref 0), (6, .int 0)]) [3, 0] rfl ?_
      exact pX12_reckon_396 hN h
    replace h := if_f hc23 h
    refine r_lload_n (pc := 337) dX12_reckon_337 rfl 1 rfl ?_
    refine r_lconst (pc := 338) dX12_reckon_338 kl_0 ?_
    refine r_l_eq (pc := 339) dX12_reckon_339 dX12_reckon_340 rfl (fun hc24 => ?_) (fun hc24 => ?_)
    · replace h := if_t hc24 h
      refine r_iconst (pc := 347) dX12_reckon_347 ki_0 ?_
      refine r_istore (pc := 348) (loc' := [(6, .int 0), (4, .long x3), (2, .long x1), (0, .ref 0), (1, .int a1)]) dX12_reckon_348 (Nat.le_of_ble_eq_true rfl) rfl ?_
      refine r_goto (pc := 350) dX12_reckon_350 rfl ?_
      refine r_drop (loc' := [(0, .ref 0), (6, .int 0)]) [3, 0] rfl ?_
      exact pX12_reckon_396 hN h
    replace h := if_f hc24 h
    refine r_iconst (pc := 343) dX12_reckon_343 ki_1 ?_
    refine r_goto (pc := 344) dX12_reckon_344 rfl ?_
    refine r_istore (pc := 348) (loc' := [(6, .int 1), (4, .long x3), (2, .long x1), (0, .ref 0), (1, .int a1)]) dX12_reckon_348 (Nat.le_of_ble_eq_true rfl) rfl ?_
    refine r_goto (pc := 350) dX12_reckon_350 rfl ?_
    refine r_drop (loc' := [(0, .ref 0), (6, .int 1)]) [3, 0] rfl ?_
    exact pX12_reckon_396 hN h
  replace h := if_f hc22 h
  by_cases hc25 : a1 = 278
  · refine r_lkC (pc := 12) (off := 341) (tgt := 353) (L := [278]) dX12_reckon_12 (by decide) hc25 (by decide) rfl ?_
    replace h := if_t hc25 h
    refine r_lload (pc := 353) dX12_reckon_353 0 rfl ?_
    refine r_lconst (pc := 355) dX12_reckon_355 kl_0 ?_
    refine r_l_ne (pc := 356) dX12_reckon_356 dX12_reckon_357 rfl (fun hc26 => ?_) (fun hc26 => ?_)
    · replace h := if_f hc26 h
      refine r_iconst (pc := 366) dX12_reckon_366 ki_1 ?_
      refine r_goto (pc := 367) dX12_reckon_367 rfl ?_
      refine r_istore (pc := 371) (loc' := [(6, .int 1), (4, .long x3), (2, .long x1), (0, .ref 0), (1, .int a1)]) dX12_reckon_371 (Nat.le_of_ble_eq_true rfl) rfl ?_
      refine r_goto (pc := 373) dX12_reckon_373 rfl ?_
      refine r_drop (loc' := [(0, .ref 0), (6, .int 1)]) [3, 0] rfl ?_
      exact pX12_reckon_396 hN h
    replace h := if_t hc26 h
    refine r_lload_n (pc := 360) dX12_reckon_360 rfl 1 rfl ?_
    refine r_lconst (pc := 361) dX12_reckon_361 kl_0 ?_
    refine r_l_eq (pc := 362) dX12_reckon_362 dX12_reckon_363 rfl (fun hc27 => ?_) (fun hc27 => ?_)
    · replace h := if_t hc27 h
      refine r_iconst (pc := 370) dX12_reckon_370 ki_0 ?_
      refine r_istore (pc := 371) (loc' := [(6, .int 0), (4, .long x3), (2, .long x1), (0, .ref 0), (1, .int a1)]) dX12_reckon_371 (Nat.le_of_ble_eq_true rfl) rfl ?_
      refine r_goto (pc := 373) dX12_reckon_373 rfl ?_
      refine r_drop (loc' := [(0, .ref 0), (6, .int 0)]) [3, 0] rfl ?_
      exact pX12_reckon_396 hN h
    replace h := if_f hc27 h
    refine r_iconst (pc := 366) dX12_reckon_366 ki_1 ?_
    refine r_goto (pc := 367) dX12_reckon_367 rfl ?_
    refine r_istore (pc := 371) (loc' := [(6, .int 1), (4, .long x3), (2, .long x1), (0, .ref 0), (1, .int a1)]) dX12_reckon_371 (Nat.le_of_ble_eq_true rfl) rfl ?_
    refine r_goto (pc := 373) dX12_reckon_373 rfl ?_
    refine r_drop (loc' := [(0, .ref 0), (6, .int 1)]) [3, 0] rfl ?_
    exact pX12_reckon_396 hN h
  replace h := if_f hc25 h
  by_cases hc28 : a1 = 282 ∨ a1 = 283
  · refine r_lkC (pc := 12) (off := 168) (tgt := 180) (L := [282, 283]) dX12_reckon_12 (by decide) hc28 (by decide) rfl ?_
    replace h := if_t hc28 h
    refine r_lload_n (pc := 180) dX12_reckon_180 rfl 1 rfl ?_
    refine r_lconst (pc := 181) dX12_reckon_181 kl_0 ?_
    refine r_l_ne (pc := 182) dX12_reckon_182 dX12_reckon_183 rfl (fun hc29 => ?_) (fun hc29 => ?_)
    · replace h := if_f hc29 h
      refine r_aload_n (pc := 194) dX12_reckon_194 rfl 2 rfl ?_
      refine r_iload_n (pc := 195) dX12_reckon_195 rfl 3 rfl ?_
      refine r_sipush (pc := 196) dX12_reckon_196 ks_282 ?_
      refine r_icmp_ne (pc := 199) dX12_reckon_199 rfl (fun hc31 => ?_) (fun hc31 => ?_)
      · replace h := if_f hc31 h
        refine r_lload (pc := 209) dX12_reckon_209 0 rfl ?_
        refine r_lload_n (pc := 211) dX12_reckon_211 rfl 1 rfl ?_
        refine r_lrem (pc := 212) dX12_reckon_212 (by assumption) ?_
        replace h := lt_e h; obtain ⟨x34, ex34, h⟩ := h
        refine r_cSl (pc := 213) wyX12_wrap mlRX12_840 tyX12_wrap ⟨(Nat.le_of_ble_eq_true rfl), (Nat.le_of_ble_eq_true rfl)⟩ rfl rfl (Nat.le_of_ble_eq_true rfl) dX12_reckon_213 (mX12_wrap ex34 (pL.mk ?_))
        replace h := bn_e h; obtain ⟨w35, ew35, h⟩ := h
        refine r_cVv (pc := 216) wyX12_push oM0 rfl mlRX12_817 iyX12_push syX12_push ⟨(Nat.le_of_ble_eq_true rfl), (Nat.le_of_ble_eq_true rfl)⟩ rfl rfl (Nat.le_of_ble_eq_true rfl) dX12_reckon_216 (mX12_push ew35 (pV.mk ?_))
        exact rO_v (pc := 219) rfl dX12_reckon_219 h hN
      replace h := if_t hc31 h
      refine r_lload (pc := 202) dX12_reckon_202 0 rfl ?_
      refine r_lload_n (pc := 204) dX12_reckon_204 rfl 1 rfl ?_
      refine r_ldiv (pc := 205) dX12_reckon_205 (by assumption) ?_
      refine r_goto (pc := 206) dX12_reckon_206 rfl ?_
      replace h := lt_e h; obtain ⟨x32, ex32, h⟩ := h
      refine r_cSl (pc := 213) wyX12_wrap mlRX12_840 tyX12_wrap ⟨(Nat.le_of_ble_eq_true rfl), (Nat.le_of_ble_eq_true rfl)⟩ rfl rfl (Nat.le_of_ble_eq_true rfl) dX12_reckon_213 (mX12_wrap ex32 (pL.mk ?_))
      replace h := bn_e h; obtain ⟨w33, ew33, h⟩ := h
      refine r_cVv (pc := 216) wyX12_push oM0 rfl mlRX12_817 iyX12_push syX12_push ⟨(Nat.le_of_ble_eq_true rfl), (Nat.le_of_ble_eq_true rfl)⟩ rfl rfl (Nat.le_of_ble_eq_true rfl) dX12_reckon_216 (mX12_push ew33 (pV.mk ?_))
      exact rO_v (pc := 219) rfl dX12_reckon_219 h hN
    replace h := if_t hc29 h
    refine r_aload_n (pc := 186) dX12_reckon_186 rfl 2 rfl ?_
    refine r_iconst (pc := 187) dX12_reckon_187 ki_2 ?_
    replace h := lt_e h; obtain ⟨w30, ew30, h⟩ := h
    refine r_cVv (pc := 188) wyX12_fail oM0 rfl mlRX12_792 iyX12_fail syX12_fail ⟨(Nat.le_of_ble_eq_true rfl), (Nat.le_of_ble_eq_true rfl)⟩ rfl rfl (Nat.le_of_ble_eq_true rfl) dX12_reckon_188 (mX12_fail ew30 (pV.mk ?_))
    refine r_goto (pc := 191) dX12_reckon_191 rfl ?_
    exact rO_v (pc := 219) rfl dX12_reckon_219 h hN
  replace h := if_f hc28 h
  by_cases hc36 : a1 = 287
  · refine r_lkC (pc := 12) (off := 233) (tgt := 245) (L := [287]) dX12_reckon_12 (by decide) hc36 (by decide) rfl ?_
    replace h := if_t hc36 h
    refine r_lload (pc := 245) dX12_reckon_245 0 rfl ?_
    refine r_lload_n (pc := 247) dX12_reckon_247 rfl 1 rfl ?_
    refine r_l_gt (pc := 248) dX12_reckon_248 dX12_reckon_249 rfl (fun hc37 => ?_) (fun hc37 => ?_)
    · replace h := if_t hc37 h
      refine r_iconst (pc := 256) dX12_reckon_256 ki_0 ?_
      refine r_istore (pc := 257) (loc' := [(6, .int 0), (4, .long x3), (2, .long x1), (0, .ref 0), (1, .int a1)]) dX12_reckon_257 (Nat.le_of_ble_eq_true rfl) rfl ?_
      refine r_goto (pc := 259) dX12_reckon_259 rfl ?_
      refine r_drop (loc' := [(0, .ref 0), (6, .int 0)]) [3, 0] rfl ?_
      exact pX12_reckon_396 hN h
    replace h := if_f hc37 h
    refine r_iconst (pc := 252) dX12_reckon_252 ki_1 ?_
    refine r_goto (pc := 253) dX12_reckon_253 rfl ?_
    refine r_istore (pc := 257) (loc' := [(6, .int 1), (4, .long x3), (2, .long x1), (0, .ref 0), (1, .int a1)]) dX12_reckon_257 (Nat.le_of_ble_eq_true rfl) rfl ?_
    refine r_goto (pc := 259) dX12_reckon_259 rfl ?_
    refine r_drop (loc' := [(0, .ref 0), (6, .int 1)]) [3, 0] rfl ?_
    exact pX12_reckon_396 hN h
  replace h := if_f hc36 h
  by_cases hc38 : a1 = 288
  · refine r_lkC (pc := 12) (off := 267) (tgt := 279) (L := [288]) dX12_reckon_12 (by decide) hc38 (by decide) rfl ?_
    replace h := if_t hc38 h
    refine r_lload (pc := 279) dX12_reckon_279 0 rfl ?_
    refine r_lload_n (pc := 281) dX12_reckon_281 rfl 1 rfl ?_
    refine r_l_lt (pc := 282) dX12_reckon_282 dX12_reckon_283 rfl (fun hc39 => ?_) (fun hc39 => ?_)
    · replace h := if_t hc39 h
      refine r_iconst (pc := 290) dX12_reckon_290 ki_0 ?_
      refine r_istore (pc := 291) (loc' := [(6, .int 0), (4, .long x3), (2, .long x1), (0, .ref 0), (1, .int a1)]) dX12_reckon_291 (Nat.le_of_ble_eq_true rfl) rfl ?_
      refine r_goto (pc := 293) dX12_reckon_293 rfl ?_
      refine r_drop (loc' := [(0, .ref 0), (6, .int 0)]) [3, 0] rfl ?_
      exact pX12_reckon_396 hN h
    replace h := if_f hc39 h
    refine r_iconst (pc := 286) dX12_reckon_286 ki_1 ?_
    refine r_goto (pc := 287) dX12_reckon_287 rfl ?_
    refine r_istore (pc := 291) (loc' := [(6, .int 1), (4, .long x3), (2, .long x1), (0, .ref 0), (1, .int a1)]) dX12_reckon_291 (Nat.le_of_ble_eq_true rfl) rfl ?_
    refine r_goto (pc := 293) dX12_reckon_293 rfl ?_
    refine r_drop (loc' := [(0, .ref 0), (6, .int 1)]) [3, 0] rfl ?_
    exact pX12_reckon_396 hN h
  replace h := if_f hc38 h
  by_cases hc40 : a1 = 289
  · refine r_lkC (pc := 12) (off := 301) (tgt := 313) (L := [289]) dX12_reckon_12 (by decide) hc40 (by decide) rfl ?_
    replace h := if_t hc40 h
    refine r_lload (pc := 313) dX12_reckon_313 0 rfl ?_
    refine r_lload_n (pc := 315) dX12_reckon_315 rfl 1 rfl ?_
    refine r_l_eq (pc := 316) dX12_reckon_316 dX12_reckon_317 rfl (fun hc41 => ?_) (fun hc41 => ?_)
    · replace h := if_t hc41 h
      refine r_iconst (pc := 324) dX12_reckon_324 ki_0 ?_
      refine r_istore (pc := 325) (loc' := [(6, .int 0), (4, .long x3), (2, .long x1), (0, .ref 0), (1, .int a1)]) dX12_reckon_325 (Nat.le_of_ble_eq_true rfl) rfl ?_
      refine r_goto (pc := 327) dX12_reckon_327 rfl ?_
      refine r_drop (loc' := [(0, .ref 0), (6, .int 0)]) [3, 0] rfl ?_
      exact pX12_reckon_396 hN h
    replace h := if_f hc41 h
    refine r_iconst (pc := 320) dX12_reckon_320 ki_1 ?_
    refine r_goto (pc := 321) dX12_reckon_321 rfl ?_
    refine r_istore (pc := 325) (loc' := [(6, .int 1), (4, .long x3), (2, .long x1), (0, .ref 0), (1, .int a1)]) dX12_reckon_325 (Nat.le_of_ble_eq_true rfl) rfl ?_
    refine r_goto (pc := 327) dX12_reckon_327 rfl ?_
    refine r_drop (loc' := [(0, .ref 0), (6, .int 1)]) [3, 0] rfl ?_
    exact pX12_reckon_396 hN h
  replace h := if_f hc40 h
  refine r_lkD (pc := 12) (tgt := 376) (K := [[42], [43], [45], [60], [61, 280], [62], [94], [277], [278], [282, 283], [287], [288], [289]]) dX12_reckon_12 (by decide) ⟨hc5, hc8, hc11, hc14, hc16, hc18, hc20, hc22, hc25, hc28, hc36, hc38, hc40, trivial⟩ (by decide) rfl ?_
  refine r_lload (pc := 376) dX12_reckon_376 0 rfl ?_
  refine r_lconst (pc := 378) dX12_reckon_378 kl_0 ?_
  refine r_l_eq (pc := 379) dX12_reckon_379 dX12_reckon_380 rfl (fun hc42 => ?_) (fun hc42 => ?_)
  · replace h := if_t hc42 h
    refine r_iconst (pc := 389) dX12_reckon_389 ki_1 ?_
    refine r_goto (pc := 390) dX12_reckon_390 rfl ?_
    refine r_istore (pc := 394) (loc' := [(6, .int 1), (4, .long x3), (2, .long x1), (0, .ref 0), (1, .int a1)]) dX12_reckon_394 (Nat.le_of_ble_eq_true rfl) rfl ?_
    refine r_drop (loc' := [(0, .ref 0), (6, .int 1)]) [3, 0] rfl ?_
    exact pX12_reckon_396 hN h
  replace h := if_f hc42 h
  refine r_lload_n (pc := 383) dX12_reckon_383 rfl 1 rfl ?_
  refine r_lconst (pc := 384) dX12_reckon_384 kl_0 ?_
  refine r_l_eq (pc := 385) dX12_reckon_385 dX12_reckon_386 rfl (fun hc43 => ?_) (fun hc43 => ?_)
  · replace h := if_t hc43 h
    refine r_iconst (pc := 393) dX12_reckon_393 ki_0 ?_
    refine r_istore (pc := 394) (loc' := [(6, .int 0), (4, .long x3), (2, .long x1), (0, .ref 0), (1, .int a1)]) dX12_reckon_394 (Nat.le_of_ble_eq_true rfl) rfl ?_
    refine r_drop (loc' := [(0, .ref 0), (6, .int 0)]) [3, 0] rfl ?_
    exact pX12_reckon_396 hN h
  replace h := if_f hc43 h
  refine r_iconst (pc := 389) dX12_reckon_389 ki_1 ?_
  refine r_goto (pc := 390) dX12_reckon_390 rfl ?_
  refine r_istore (pc := 394) (loc' := [(6, .int 1), (4, .long x3), (2, .long x1), (0, .ref 0), (1, .int a1)]) dX12_reckon_394 (Nat.le_of_ble_eq_true rfl) rfl ?_
  refine r_drop (loc' := [(0, .ref 0), (6, .int 1)]) [3, 0] rfl ?_
  exact pX12_reckon_396 hN h
theorem mX12_reckon {q : Gq} {l : Launch} {N : Option Value → Wd → Prop} {X : String → Wd → Prop} {a1 : Int32} {w : Wd} {u : Wd} (h : fX12_reckon a1 w = some u) (hN : N none u) : Ct (GM q) l 2 yX12_reckon cX12_reckon 7 (none) [.ref 0, .int a1] w N X := Ct.of (by decide) (Nat.le_of_ble_eq_true rfl) (pX12_reckon hN h)
/-! AlgolMillModel.actSize (I)I: O, 0 -/
theorem dX12_actSize_0 : decode cX12_actSize 0 = .ok (.aload_n 0, 1) := by decide +kernel
theorem dX12_actSize_1 : decode cX12_actSize 1 = .ok (.getfield 293, 3) := by decide +kernel
theorem dX12_actSize_4 : decode cX12_actSize 4 = .ok (.aload_n 0, 1) := by decide +kernel
theorem dX12_actSize_5 : decode cX12_actSize 5 = .ok (.getfield 375, 3) := by decide +kernel
theorem dX12_actSize_8 : decode cX12_actSize 8 = .ok (.iload_n 1, 1) := by decide +kernel
theorem dX12_actSize_9 : decode cX12_actSize 9 = .ok (.iaload, 1) := by decide +kernel
theorem dX12_actSize_10 : decode cX12_actSize 10 = .ok (.iaload, 1) := by decide +kernel
theorem dX12_actSize_11 : decode cX12_actSize 11 = .ok (.ireturn, 1) := by decide +kernel
def fX12_actSize (a1 : Int32) (w : Wd) : Option (Int32 × Wd) :=
  if inb a1 64 = true then if inb (gi w 98 (Int32.toNatClampNeg a1)) 1200 = true then some ((gi w 71 (Int32.toNatClampNeg (gi w 98 (Int32.toNatClampNeg a1)))), w) else none else none
theorem pX12_actSize {q : Gq} {l : Launch} {N : Option Value → Wd → Prop} {X : String → Wd → Prop} {w : Wd} {R : Int32 × Wd} (hN : N (some (.int R.1)) R.2) {a1 : Int32} (h : fX12_actSize a1 w = some R) : RT (GM q) l 0 yX12_actSize cX12_actSize 2 ((some .int)) N X 0 [] [(0, .ref 0), (1, .int a1)] w := by
  unfold fX12_actSize at h
  refine r_aload_n (pc := 0) dX12_actSize_0 rfl 0 rfl ?_
  refine r_get (pc := 1) (j := 99) (v := .ref 71) oM0 cf12 flRX12_293 rfl dX12_actSize_1 rfl ?_
  refine r_aload_n (pc := 4) dX12_actSize_4 rfl 0 rfl ?_
  refine r_get (pc := 5) (j := 141) (v := .ref 98) oM0 cf12 flRX12_375 rfl dX12_actSize_5 rfl ?_
  refine r_iload_n (pc := 8) dX12_actSize_8 rfl 1 rfl ?_
  replace h := if_n h; obtain ⟨hb1, h⟩ := h
  refine r_iald (pc := 9) aM98 (inb_in hb1) dX12_actSize_9 ?_
  replace h := if_n h; obtain ⟨hb2, h⟩ := h
  refine r_iald (pc := 10) aM71 (inb_in hb2) dX12_actSize_10 ?_
  exact rO_i (pc := 11) rfl dX12_actSize_11 h hN
theorem mX12_actSize {q : Gq} {l : Launch} {N : Option Value → Wd → Prop} {X : String → Wd → Prop} {a1 : Int32} {w : Wd} {x : Int32} {u : Wd} (h : fX12_actSize a1 w = some (x, u)) (hN : N (some (.int x)) u) : Ct (GM q) l 0 yX12_actSize cX12_actSize 2 ((some .int)) [.ref 0, .int a1] w N X := Ct.of (by decide) (Nat.le_of_ble_eq_true rfl) (pX12_actSize hN h)
/-! AlgolMillModel.jump ()V: O, 1 -/
theorem dX12_jump_0 : decode cX12_jump 0 = .ok (.aload_n 0, 1) := by decide +kernel
theorem dX12_jump_1 : decode cX12_jump 1 = .ok (.invokevirtual 810, 3) := by decide +kernel
theorem dX12_jump_4 : decode cX12_jump 4 = .ok (.l2i, 1) := by decide +kernel
theorem dX12_jump_5 : decode cX12_jump 5 = .ok (.istore_n 1, 1) := by decide +kernel
theorem dX12_jump_6 : decode cX12_jump 6 = .ok (.aload_n 0, 1) := by decide +kernel
theorem dX12_jump_7 : decode cX12_jump 7 = .ok (.invokevirtual 810, 3) := by decide +kernel
theorem dX12_jump_10 : decode cX12_jump 10 = .ok (.l2i, 1) := by decide +kernel
theorem dX12_jump_11 : decode cX12_jump 11 = .ok (.istore_n 2, 1) := by decide +kernel
theorem dX12_jump_12 : decode cX12_jump 12 = .ok (.aload_n 0, 1) := by decide +kernel
theorem dX12_jump_13 : decode cX12_jump 13 = .ok (.aload_n 0, 1) := by decide +kernel
theorem dX12_jump_14 : decode cX12_jump 14 = .ok (.getfield 348, 3) := by decide +kernel
theorem dX12_jump_17 : decode cX12_jump 17 = .ok (.iload_n 1, 1) := by decide +kernel
theorem dX12_jump_18 : decode cX12_jump 18 = .ok (.iaload, 1) := by decide +kernel
theorem dX12_jump_19 : decode cX12_jump 19 = .ok (.putfield 783, 3) := by decide +kernel
theorem dX12_jump_22 : decode cX12_jump 22 = .ok (.aload_n 0, 1) := by decide +kernel
theorem dX12_jump_23 : decode cX12_jump 23 = .ok (.iload_n 1, 1) := by decide +kernel
theorem dX12_jump_24 : decode cX12_jump 24 = .ok (.ifCond .ne 7, 3) := by decide +kernel
theorem dX12_jump_27 : decode cX12_jump 27 = .ok (.iconst 0, 1) := by decide +kernel
theorem dX12_jump_28 : decode cX12_jump 28 = .ok (.goto 16, 3) := by decide +kernel
theorem dX12_jump_31 : decode cX12_jump 31 = .ok (.aload_n 0, 1) := by decide +kernel
theorem dX12_jump_32 : decode cX12_jump 32 = .ok (.getfield 369, 3) := by decide +kernel
theorem dX12_jump_35 : decode cX12_jump 35 = .ok (.aload_n 0, 1) := by decide +kernel
theorem dX12_jump_36 : decode cX12_jump 36 = .ok (.getfield 783, 3) := by decide +kernel
theorem dX12_jump_39 : decode cX12_jump 39 = .ok (.iconst 1, 1) := by decide +kernel
theorem dX12_jump_40 : decode cX12_jump 40 = .ok (.isub, 1) := by decide +kernel
theorem dX12_jump_41 : decode cX12_jump 41 = .ok (.iaload, 1) := by decide +kernel
theorem dX12_jump_42 : decode cX12_jump 42 = .ok (.iconst 1, 1) := by decide +kernel
theorem dX12_jump_43 : decode cX12_jump 43 = .ok (.iadd, 1) := by decide +kernel
theorem dX12_jump_44 : decode cX12_jump 44 = .ok (.putfield 789, 3) := by decide +kernel
theorem dX12_jump_47 : decode cX12_jump 47 = .ok (.aload_n 0, 1) := by decide +kernel
theorem dX12_jump_48 : decode cX12_jump 48 = .ok (.iload_n 1, 1) := by decide +kernel
theorem dX12_jump_49 : decode cX12_jump 49 = .ok (.iconst 1, 1) := by decide +kernel
theorem dX12_jump_50 : decode cX12_jump 50 = .ok (.iadd, 1) := by decide +kernel
theorem dX12_jump_51 : decode cX12_jump 51 = .ok (.putfield 821, 3) := by decide +kernel
theorem dX12_jump_54 : decode cX12_jump 54 = .ok (.aload_n 0, 1) := by decide +kernel
theorem dX12_jump_55 : decode cX12_jump 55 = .ok (.aload_n 0, 1) := by decide +kernel
theorem dX12_jump_56 : decode cX12_jump 56 = .ok (.getfield 342, 3) := by decide +kernel
theorem dX12_jump_59 : decode cX12_jump 59 = .ok (.iload_n 1, 1) := by decide +kernel
theorem dX12_jump_60 : decode cX12_jump 60 = .ok (.iaload, 1) := by decide +kernel
theorem dX12_jump_61 : decode cX12_jump 61 = .ok (.aload_n 0, 1) := by decide +kernel
theorem dX12_jump_62 : decode cX12_jump 62 = .ok (.iload_n 1, 1) := by decide +kernel
theorem dX12_jump_63 : decode cX12_jump 63 = .ok (.invokevirtual 847, 3) := by decide +kernel
theorem dX12_jump_66 : decode cX12_jump 66 = .ok (.iadd, 1) := by decide +kernel
theorem dX12_jump_67 : decode cX12_jump 67 = .ok (.putfield 824, 3) := by decide +kernel
theorem dX12_jump_70 : decode cX12_jump 70 = .ok (.aload_n 0, 1) := by decide +kernel
theorem dX12_jump_71 : decode cX12_jump 71 = .ok (.iload_n 1, 1) := by decide +kernel
theorem dX12_jump_72 : decode cX12_jump 72 = .ok (.putfield 771, 3) := by decide +kernel
theorem dX12_jump_75 : decode cX12_jump 75 = .ok (.aload_n 0, 1) := by decide +kernel
theorem dX12_jump_76 : decode cX12_jump 76 = .ok (.aload_n 0, 1) := by decide +kernel
theorem dX12_jump_77 : decode cX12_jump 77 = .ok (.getfield 351, 3) := by decide +kernel
theorem dX12_jump_80 : decode cX12_jump 80 = .ok (.iload_n 1, 1) := by decide +kernel
theorem dX12_jump_81 : decode cX12_jump 81 = .ok (.iaload, 1) := by decide +kernel
theorem dX12_jump_82 : decode cX12_jump 82 = .ok (.putfield 780, 3) := by decide +kernel
theorem dX12_jump_85 : decode cX12_jump 85 = .ok (.aload_n 0, 1) := by decide +kernel
theorem dX12_jump_86 : decode cX12_jump 86 = .ok (.getfield 308, 3) := by decide +kernel
theorem dX12_jump_89 : decode cX12_jump 89 = .ok (.iload_n 2, 1) := by decide +kernel
theorem dX12_jump_90 : decode cX12_jump 90 = .ok (.iaload, 1) := by decide +kernel
theorem dX12_jump_91 : decode cX12_jump 91 = .ok (.istore_n 3, 1) := by decide +kernel
theorem dX12_jump_92 : decode cX12_jump 92 = .ok (.aload_n 0, 1) := by decide +kernel
theorem dX12_jump_93 : decode cX12_jump 93 = .ok (.iload_n 3, 1) := by decide +kernel
theorem dX12_jump_94 : decode cX12_jump 94 = .ok (.ifCond .lt 27, 3) := by decide +kernel
theorem dX12_jump_97 : decode cX12_jump 97 = .ok (.aload_n 0, 1) := by decide +kernel
theorem dX12_jump_98 : decode cX12_jump 98 = .ok (.getfield 330, 3) := by decide +kernel
theorem dX12_jump_101 : decode cX12_jump 101 = .ok (.aload_n 0, 1) := by decide +kernel
theorem dX12_jump_102 : decode cX12_jump 102 = .ok (.getfield 342, 3) := by decide +kernel
theorem dX12_jump_105 : decode cX12_jump 105 = .ok (.iload_n 1, 1) := by decide +kernel
theorem dX12_jump_106 : decode cX12_jump 106 = .ok (.iaload, 1) := by decide +kernel
theorem dX12_jump_107 : decode cX12_jump 107 = .ok (.aload_n 0, 1) := by decide +kernel
theorem dX12_jump_108 : decode cX12_jump 108 = .ok (.getfield 320, 3) := by decide +kernel
theorem dX12_jump_111 : decode cX12_jump 111 = .ok (.iload_n 3, 1) := by decide +kernel
theorem dX12_jump_112 : decode cX12_jump 112 = .ok (.iaload, 1) := by decide +kernel
theorem dX12_jump_113 : decode cX12_jump 113 = .ok (.iadd, 1) := by decide +kernel
theorem dX12_jump_114 : decode cX12_jump 114 = .ok (.iconst 1, 1) := by decide +kernel
theorem dX12_jump_115 : decode cX12_jump 115 = .ok (.iadd, 1) := by decide +kernel
theorem dX12_jump_116 : decode cX12_jump 116 = .ok (.laload, 1) := by decide +kernel
theorem dX12_jump_117 : decode cX12_jump 117 = .ok (.l2i, 1) := by decide +kernel
theorem dX12_jump_118 : decode cX12_jump 118 = .ok (.goto 9, 3) := by decide +kernel
theorem dX12_jump_121 : decode cX12_jump 121 = .ok (.aload_n 0, 1) := by decide +kernel
theorem dX12_jump_122 : decode cX12_jump 122 = .ok (.getfield 354, 3) := by decide +kernel
theorem dX12_jump_125 : decode cX12_jump 125 = .ok (.iload_n 1, 1) := by decide +kernel
theorem dX12_jump_126 : decode cX12_jump 126 = .ok (.iaload, 1) := by decide +kernel
theorem dX12_jump_127 : decode cX12_jump 127 = .ok (.putfield 827, 3) := by decide +kernel
theorem dX12_jump_130 : decode cX12_jump 130 = .ok (.aload_n 0, 1) := by decide +kernel
theorem dX12_jump_131 : decode cX12_jump 131 = .ok (.aload_n 0, 1) := by decide +kernel
theorem dX12_jump_132 : decode cX12_jump 132 = .ok (.getfield 305, 3) := by decide +kernel
theorem dX12_jump_135 : decode cX12_jump 135 = .ok (.iload_n 2, 1) := by decide +kernel
theorem dX12_jump_136 : decode cX12_jump 136 = .ok (.iaload, 1) := by decide +kernel
theorem dX12_jump_137 : decode cX12_jump 137 = .ok (.putfield 786, 3) := by decide +kernel
theorem dX12_jump_140 : decode cX12_jump 140 = .ok (.return_, 1) := by decide +kernel
def fX12_jump_44 (s1 : Int32) (a1 : Int32) (a2 : Int32) (w : Wd) : Option Wd :=
  lt (si w 0 134 s1) fun w1 => lt (si w1 0 131 (a1 + 1)) fun w2 => if inb a1 64 = true then bn2 (fX12_actSize a1 w2) fun x4 w5 => lt (si w5 0 132 ((gi w2 87 (Int32.toNatClampNeg a1)) + x4)) fun w6 => lt (si w6 0 129 a1) fun w7 => if inb a1 64 = true then lt (si w7 0 130 (gi w7 90 (Int32.toNatClampNeg a1))) fun w9 => if inb a2 5000 = true then lt ((gi w9 76 (Int32.toNatClampNeg a2))) fun x11 => if x11 < 0 then (if inb a1 64 = true then lt (si w9 0 133 (gi w9 91 (Int32.toNatClampNeg a1))) fun w14 => if inb a2 5000 = true then lt (si w14 0 128 (gi w14 75 (Int32.toNatClampNeg a2))) fun w16 => some w16 else none else none) else (if inb a1 64 = true then if inb x11 9000 = true then if inb (((gi w9 87 (Int32.toNatClampNeg a1)) + (gi w9 80 (Int32.toNatClampNeg x11))) + 1) 200000 = true then lt (si w9 0 133 (Int64.toInt32 (gl w9 83 (Int32.toNatClampNeg (((gi w9 87 (Int32.toNatClampNeg a1)) + (gi w9 80 (Int32.toNatClampNeg x11))) + 1))))) fun w20 => if inb a2 5000 = true then lt (si w20 0 128 (gi w20 75 (Int32.toNatClampNeg a2))) fun w22 => some w22 else none else none else none else none) else none else none else none
set_option maxHeartbeats 16000000 in
theorem pX12_jump_44 {q : Gq} {l : Launch} {N : Option Value → Wd → Prop} {X : String → Wd → Prop} {w : Wd} {R : Wd} (hN : N none R) {s1 : Int32} {a1 : Int32} {a2 : Int32} (h : fX12_jump_44 s1 a1 a2 w = some R) : RT (GM q) l 1 yX12_jump cX12_jump 4 (none) N X 44 [.int s1, .ref 0] [(0, .ref 0), (1, .int a1), (2, .int a2)] w := by
  unfold fX12_jump_44 at h
  replace h := lt_e h; obtain ⟨w1, ew1, h⟩ := h
  refine r_putI (pc := 44) (j := 134) oM0 cf12 flRX12_789 rfl rfl rfl rfl dX12_jump_44 ?_
  refine r_w ew1 ?_
  refine r_aload_n (pc := 47) dX12_jump_47 rfl 0 rfl ?_
  refine r_iload_n (pc := 48) dX12_jump_48 rfl 1 rfl ?_
  refine r_iconst (pc := 49) dX12_jump_49 ki_1 ?_
  refine r_iadd (pc := 50) dX12_jump_50 ?_
  replace h := lt_e h; obtain ⟨w2, ew2, h⟩ := h
  refine r_putI (pc := 51) (j := 131) oM0 cf12 flRX12_821 rfl rfl rfl rfl dX12_jump_51 ?_
  refine r_w ew2 ?_
  refine r_aload_n (pc := 54) dX12_jump_54 rfl 0 rfl ?_
  refine r_aload_n (pc := 55) dX12_jump_55 rfl 0 rfl ?_
  refine r_get (pc := 56) (j := 116) (v := .ref 87) oM0 cf12 flRX12_342 rfl dX12_jump_56 rfl ?_
  refine r_iload_n (pc := 59) dX12_jump_59 rfl 1 rfl ?_
  replace h := if_n h; obtain ⟨hb3, h⟩ := h
  refine r_iald (pc := 60) aM87 (inb_in hb3) dX12_jump_60 ?_
  refine r_aload_n (pc := 61) dX12_jump_61 rfl 0 rfl ?_
  refine r_iload_n (pc := 62) dX12_jump_62 rfl 1 rfl ?_
  replace h := bn2_e h; obtain ⟨x4, w5, ew5, h⟩ := h
  refine r_cVi (pc := 63) wyX12_actSize oM0 rfl mlRX12_847 iyX12_actSize syX12_actSize ⟨(Nat.le_of_ble_eq_true rfl), (Nat.le_of_ble_eq_true rfl)⟩ rfl rfl (Nat.le_of_ble_eq_true rfl) dX12_jump_63 (mX12_actSize ew5 (pI.mk ?_))
  refine r_iadd (pc := 66) dX12_jump_66 ?_
  replace h := lt_e h; obtain ⟨w6, ew6, h⟩ := h
  refine r_putI (pc := 67) (j := 132) oM0 cf12 flRX12_824 rfl rfl rfl rfl dX12_jump_67 ?_
  refine r_w ew6 ?_
  refine r_aload_n (pc := 70) dX12_jump_70 rfl 0 rfl ?_
  refine r_iload_n (pc := 71) dX12_jump_71 rfl 1 rfl ?_
  replace h := lt_e h; obtain ⟨w7, ew7, h⟩ := h
  refine r_putI (pc := 72) (j := 129) oM0 cf12 flRX12_771 rfl rfl rfl rfl dX12_jump_72 ?_
  refine r_w ew7 ?_
  refine r_aload_n (pc := 75) dX12_jump_75 rfl 0 rfl ?_
  refine r_aload_n (pc := 76) dX12_jump_76 rfl 0 rfl ?_
  refine r_get (pc := 77) (j := 119) (v := .ref 90) oM0 cf12 flRX12_351 rfl dX12_jump_77 rfl ?_
  refine r_iload_n (pc := 80) dX12_jump_80 rfl 1 rfl ?_
  replace h := if_n h; obtain ⟨hb8, h⟩ := h
  refine r_iald (pc := 81) aM90 (inb_in hb8) dX12_jump_81 ?_
  replace h := lt_e h; obtain ⟨w9, ew9, h⟩ := h
  refine r_putI (pc := 82) (j := 130) oM0 cf12 flRX12_780 rfl rfl rfl rfl dX12_jump_82 ?_
  refine r_w ew9 ?_
  refine r_aload_n (pc := 85) dX12_jump_85 rfl 0 rfl ?_
  refine r_get (pc := 86) (j := 104) (v := .ref 76) oM0 cf12 flRX12_308 rfl dX12_jump_86 rfl ?_
  refine r_iload_n (pc := 89) dX12_jump_89 rfl 2 rfl ?_
  replace h := if_n h; obtain ⟨hb10, h⟩ := h
  refine r_iald (pc := 90) aM76 (inb_in hb10) dX12_jump_90 ?_
  replace h := lt_e h; obtain ⟨x11, ex11, h⟩ := h
  refine r_topi ex11 ?_
  refine r_istore_n (pc := 91) (loc' := [(3, .int x11), (0, .ref 0), (1, .int a1), (2, .int a2)]) dX12_jump_91 rfl (Nat.le_of_ble_eq_true rfl) rfl ?_
  refine r_aload_n (pc := 92) dX12_jump_92 rfl 1 rfl ?_
  refine r_iload_n (pc := 93) dX12_jump_93 rfl 0 rfl ?_
  refine r_if_lt (pc := 94) dX12_jump_94 rfl (fun hc12 => ?_) (fun hc12 => ?_)
  · replace h := if_t hc12 h
    refine r_aload_n (pc := 121) dX12_jump_121 rfl 1 rfl ?_
    refine r_get (pc := 122) (j := 120) (v := .ref 91) oM0 cf12 flRX12_354 rfl dX12_jump_122 rfl ?_
    refine r_iload_n (pc := 125) dX12_jump_125 rfl 2 rfl ?_
    replace h := if_n h; obtain ⟨hb13, h⟩ := h
    refine r_iald (pc := 126) aM91 (inb_in hb13) dX12_jump_126 ?_
    replace h := lt_e h; obtain ⟨w14, ew14, h⟩ := h
    refine r_putI (pc := 127) (j := 133) oM0 cf12 flRX12_827 rfl rfl rfl rfl dX12_jump_127 ?_
    refine r_w ew14 ?_
    refine r_aload_n (pc := 130) dX12_jump_130 rfl 1 rfl ?_
    refine r_aload_n (pc := 131) dX12_jump_131 rfl 1 rfl ?_
    refine r_get (pc := 132) (j := 103) (v := .ref 75) oM0 cf12 flRX12_305 rfl dX12_jump_132 rfl ?_
    refine r_iload_n (pc := 135) dX12_jump_135 rfl 3 rfl ?_
    replace h := if_n h; obtain ⟨hb15, h⟩ := h
    refine r_iald (pc := 136) aM75 (inb_in hb15) dX12_jump_136 ?_
    replace h := lt_e h; obtain ⟨w16, ew16, h⟩ := h
    refine r_putI (pc := 137) (j := 128) oM0 cf12 flRX12_786 rfl rfl rfl rfl dX12_jump_137 ?_
    refine r_w ew16 ?_
    exact rO_v (pc := 140) rfl dX12_jump_140 h hN
  replace h := if_f hc12 h
  refine r_aload_n (pc := 97) dX12_jump_97 rfl 1 rfl ?_
  refine r_get (pc := 98) (j := 112) (v := .ref 83) oM0 cf12 flRX12_330 rfl dX12_jump_98 rfl ?_
  refine r_aload_n (pc := 101) dX12_jump_101 rfl 1 rfl ?_
  refine r_get (pc := 102) (j := 116) (v := .ref 87) oM0 cf12 flRX12_342 rfl dX12_jump_102 rfl ?_
  refine r_iload_n (pc := 105) dX12_jump_105 rfl 2 rfl ?_
  replace h := if_n h; obtain ⟨hb17, h⟩ := h
  refine r_iald (pc := 106) aM87 (inb_in hb17) dX12_jump_106 ?_
  refine r_aload_n (pc := 107) dX12_jump_107 rfl 1 rfl ?_
  refine r_get (pc := 108) (j := 108) (v := .ref 80) oM0 cf12 flRX12_320 rfl dX12_jump_108 rfl ?_
  refine r_iload_n (pc := 111) dX12_jump_111 rfl 0 rfl ?_
  replace h := if_n h; obtain ⟨hb18, h⟩ := h
  refine r_iald (pc := 112) aM80 (inb_in hb18) dX12_jump_112 ?_
  refine r_iadd (pc := 113) dX12_jump_113 ?_
  refine r_iconst (pc := 114) dX12_jump_114 ki_1 ?_
  refine r_iadd (pc := 115) dX12_jump_115 ?_
  replace h := if_n h; obtain ⟨hb19, h⟩ := h
  refine r_lald (pc := 116) aM83 (inb_in hb19) dX12_jump_116 ?_
  refine r_l2i (pc := 117) dX12_jump_117 ?_
  refine r_goto (pc := 118) dX12_jump_118 rfl ?_
  replace h := lt_e h; obtain ⟨w20, ew20, h⟩ := h
  refine r_putI (pc := 127) (j := 133) oM0 cf12 flRX12_827 rfl rfl rfl rfl dX12_jump_127 ?_
  refine r_w ew20 ?_
  refine r_aload_n (pc := 130) dX12_jump_130 rfl 1 rfl ?_
  refine r_aload_n (pc := 131) dX12_jump_131 rfl 1 rfl ?_
  refine r_get (pc := 132) (j := 103) (v := .ref 75) oM0 cf12 flRX12_305 rfl dX12_jump_132 rfl ?_
  refine r_iload_n (pc := 135) dX12_jump_135 rfl 3 rfl ?_
  replace h := if_n h; obtain ⟨hb21, h⟩ := h
  refine r_iald (pc := 136) aM75 (inb_in hb21) dX12_jump_136 ?_
  replace h := lt_e h; obtain ⟨w22, ew22, h⟩ := h
  refine r_putI (pc := 137) (j := 128) oM0 cf12 flRX12_786 rfl rfl rfl rfl dX12_jump_137 ?_
  refine r_w ew22 ?_
  exact rO_v (pc := 140) rfl dX12_jump_140 h hN
def fX12_jump (w : Wd) : Option Wd :=
  bn2 (fX12_pop w) fun x1 w2 => lt ((Int64.toInt32 x1)) fun x3 => bn2 (fX12_pop w2) fun x4 w5 => lt ((Int64.toInt32 x4)) fun x6 => if inb x3 64 = true then lt (si w5 0 127 (gi w5 89 (Int32.toNatClampNeg x3))) fun w8 => if x3 = 0 then (fX12_jump_44 0 x3 x6 w8) else (if inb ((gi w8 0 127) - 1) 1000 = true then fX12_jump_44 ((gi w8 96 (Int32.toNatClampNeg ((gi w8 0 127) - 1))) + 1) x3 x6 w8 else none) else none
theorem pX12_jump {q : Gq} {l : Launch} {N : Option Value → Wd → Prop} {X : String → Wd → Prop} {w : Wd} {R : Wd} (hN : N none R) (h : fX12_jump w = some R) : RT (GM q) l 1 yX12_jump cX12_jump 4 (none) N X 0 [] [(0, .ref 0)] w := by
  unfold fX12_jump at h
  refine r_aload_n (pc := 0) dX12_jump_0 rfl 0 rfl ?_
  replace h := bn2_e h; obtain ⟨x1, w2, ew2, h⟩ := h
  refine r_cVl (pc := 1) wyX12_pop oM0 rfl mlRX12_810 iyX12_pop syX12_pop ⟨(Nat.le_of_ble_eq_true rfl), (Nat.le_of_ble_eq_true rfl)⟩ rfl rfl (Nat.le_of_ble_eq_true rfl) dX12_jump_1 (mX12_pop ew2 (pL.mk ?_))
  refine r_l2i (pc := 4) dX12_jump_4 ?_
  replace h := lt_e h; obtain ⟨x3, ex3, h⟩ := h
  refine r_topi ex3 ?_
  refine r_istore_n (pc := 5) (loc' := [(1, .int x3), (0, .ref 0)]) dX12_jump_5 rfl (Nat.le_of_ble_eq_true rfl) rfl ?_
  refine r_aload_n (pc := 6) dX12_jump_6 rfl 1 rfl ?_
  replace h := bn2_e h; obtain ⟨x4, w5, ew5, h⟩ := h
  refine r_cVl (pc := 7) wyX12_pop oM0 rfl mlRX12_810 iyX12_pop syX12_pop ⟨(Nat.le_of_ble_eq_true rfl), (Nat.le_of_ble_eq_true rfl)⟩ rfl rfl (Nat.le_of_ble_eq_true rfl) dX12_jump_7 (mX12_pop ew5 (pL.mk ?_))
  refine r_l2i (pc := 10) dX12_jump_10 ?_
  replace h := lt_e h; obtain ⟨x6, ex6, h⟩ := h
  refine r_topi ex6 ?_
  refine r_istore_n (pc := 11) (loc' := [(2, .int x6), (1, .int x3), (0, .ref 0)]) dX12_jump_11 rfl (Nat.le_of_ble_eq_true rfl) rfl ?_
  refine r_aload_n (pc := 12) dX12_jump_12 rfl 2 rfl ?_
  refine r_aload_n (pc := 13) dX12_jump_13 rfl 2 rfl ?_
  refine r_get (pc := 14) (j := 118) (v := .ref 89) oM0 cf12 flRX12_348 rfl dX12_jump_14 rfl ?_
  refine r_iload_n (pc := 17) dX12_jump_17 rfl 1 rfl ?_
  replace h := if_n h; obtain ⟨hb7, h⟩ := h
  refine r_iald (pc := 18) aM89 (inb_in hb7) dX12_jump_18 ?_
  replace h := lt_e h; obtain ⟨w8, ew8, h⟩ := h
  refine r_putI (pc := 19) (j := 127) oM0 cf12 flRX12_783 rfl rfl rfl rfl dX12_jump_19 ?_
  refine r_w ew8 ?_
  refine r_aload_n (pc := 22) dX12_jump_22 rfl 2 rfl ?_
  refine r_iload_n (pc := 23) dX12_jump_23 rfl 1 rfl ?_
  refine r_if_ne (pc := 24) dX12_jump_24 rfl (fun hc9 => ?_) (fun hc9 => ?_)
  · replace h := if_f hc9 h
    refine r_aload_n (pc := 31) dX12_jump_31 rfl 2 rfl ?_
    refine r_get (pc := 32) (j := 125) (v := .ref 96) oM0 cf12 flRX12_369 rfl dX12_jump_32 rfl ?_
    refine r_aload_n (pc := 35) dX12_jump_35 rfl 2 rfl ?_
    refine r_get (pc := 36) (j := 127) (v := .int (gi w8 0 127)) oM0 cf12 flRX12_783 rfl dX12_jump_36 rfl ?_
    refine r_iconst (pc := 39) dX12_jump_39 ki_1 ?_
    refine r_isub (pc := 40) dX12_jump_40 ?_
    replace h := if_n h; obtain ⟨hb10, h⟩ := h
    refine r_iald (pc := 41) aM96 (inb_in hb10) dX12_jump_41 ?_
    refine r_iconst (pc := 42) dX12_jump_42 ki_1 ?_
    refine r_iadd (pc := 43) dX12_jump_43 ?_
    refine r_drop (loc' := [(0, .ref 0), (1, .int x3), (2, .int x6)]) [2, 1, 0] rfl ?_
    exact pX12_jump_44 hN h
  replace h := if_t hc9 h
  refine r_iconst (pc := 27) dX12_jump_27 ki_0 ?_
  refine r_goto (pc := 28) dX12_jump_28 rfl ?_
  refine r_drop (loc' := [(0, .ref 0), (1, .int x3), (2, .int x6)]) [2, 1, 0] rfl ?_
  exact pX12_jump_44 hN h
theorem mX12_jump {q : Gq} {l : Launch} {N : Option Value → Wd → Prop} {X : String → Wd → Prop} {w : Wd} {u : Wd} (h : fX12_jump w = some u) (hN : N none u) : Ct (GM q) l 1 yX12_jump cX12_jump 4 (none) [.ref 0] w N X := Ct.of (by decide) (Nat.le_of_ble_eq_true rfl) (pX12_jump hN h)
