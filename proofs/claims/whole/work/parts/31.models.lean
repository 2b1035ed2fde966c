/-! the reference: methods that call each other -/
theorem kb_91 : (Int8.ofInt 91).toInt32 = 91 := by decide
theorem kb_93 : (Int8.ofInt 93).toInt32 = 93 := by decide
theorem ks_267 : (Int16.ofInt 267).toInt32 = 267 := by decide
theorem ks_268 : (Int16.ofInt 268).toInt32 = 268 := by decide
theorem ks_269 : (Int16.ofInt 269).toInt32 = 269 := by decide
theorem ks_275 : (Int16.ofInt 275).toInt32 = 275 := by decide
theorem ks_281 : (Int16.ofInt 281).toInt32 = 281 := by decide
/-! X12_variable: methods that call each other: 0 X12_variable, 1 X12_indices, 2 X12_call, 3 X12_aim, 4 X12_expr, 5 X12_whole, 6 X12_simple, 7 X12_level, 8 X12_primary -/
abbrev TX12_variable : Type := Nat → Int32 → Int32 → Int32 → Wd → Option (Option Int32 × Wd)
def HX12_variable (q : Gq) (l : Launch) (rc : TX12_variable) (dd : Nat) : Prop := ∀ (w : Wd) (o : Option Int32) (u : Wd) (N : Option Value → Wd → Prop) (X : String → Wd → Prop), rc 0 0 0 0 w = some (o, u) → (∀ r : Int32, o = some r → N (some (.int r)) u) → (o = none → X RAE u) → Ct (GM q) l dd yX12_variable cX12_variable 2 ((some .int)) [.ref 0] w N X
def HX12_indices (q : Gq) (l : Launch) (rc : TX12_variable) (dd : Nat) : Prop := ∀ (a1 : Int32) (w : Wd) (o : Option Int32) (u : Wd) (N : Option Value → Wd → Prop) (X : String → Wd → Prop), rc 1 a1 0 0 w = some (o, u) → (∀ r : Int32, o = some r → N (some (.int r)) u) → (o = none → X RAE u) → Ct (GM q) l dd yX12_indices cX12_indices 7 ((some .int)) [.ref 0, .int a1] w N X
def HX12_call (q : Gq) (l : Launch) (rc : TX12_variable) (dd : Nat) : Prop := ∀ (w : Wd) (o : Option Int32) (u : Wd) (N : Option Value → Wd → Prop) (X : String → Wd → Prop), rc 2 0 0 0 w = some (o, u) → (∀ r : Int32, o = some r → N (some (.int r)) u) → (o = none → X RAE u) → Ct (GM q) l dd yX12_call cX12_call 7 ((some .int)) [.ref 0] w N X
def HX12_aim (q : Gq) (l : Launch) (rc : TX12_variable) (dd : Nat) : Prop := ∀ (w : Wd) (o : Option Int32) (u : Wd) (N : Option Value → Wd → Prop) (X : String → Wd → Prop), rc 3 0 0 0 w = some (o, u) → (∀ r : Int32, o = some r → N (some (.int r)) u) → (o = none → X RAE u) → Ct (GM q) l dd yX12_aim cX12_aim 6 ((some .int)) [.ref 0] w N X
def HX12_expr (q : Gq) (l : Launch) (rc : TX12_variable) (dd : Nat) : Prop := ∀ (w : Wd) (o : Option Int32) (u : Wd) (N : Option Value → Wd → Prop) (X : String → Wd → Prop), rc 4 0 0 0 w = some (o, u) → (∀ r : Int32, o = some r → N (some (.int r)) u) → (o = none → X RAE u) → Ct (GM q) l dd yX12_expr cX12_expr 1 ((some .int)) [.ref 0] w N X
def HX12_whole (q : Gq) (l : Launch) (rc : TX12_variable) (dd : Nat) : Prop := ∀ (a1 : Int32) (w : Wd) (o : Option Int32) (u : Wd) (N : Option Value → Wd → Prop) (X : String → Wd → Prop), rc 5 a1 0 0 w = some (o, u) → (∀ r : Int32, o = some r → N (some (.int r)) u) → (o = none → X RAE u) → Ct (GM q) l dd yX12_whole cX12_whole 7 ((some .int)) [.ref 0, .int a1] w N X
def HX12_simple (q : Gq) (l : Launch) (rc : TX12_variable) (dd : Nat) : Prop := ∀ (a1 : Int32) (w : Wd) (o : Option Int32) (u : Wd) (N : Option Value → Wd → Prop) (X : String → Wd → Prop), rc 6 a1 0 0 w = some (o, u) → (∀ r : Int32, o = some r → N (some (.int r)) u) → (o = none → X RAE u) → Ct (GM q) l dd yX12_simple cX12_simple 2 ((some .int)) [.ref 0, .int a1] w N X
def HX12_level (q : Gq) (l : Launch) (rc : TX12_variable) (dd : Nat) : Prop := ∀ (a1 : Int32) (a2 : Int32) (w : Wd) (o : Option Int32) (u : Wd) (N : Option Value → Wd → Prop) (X : String → Wd → Prop), rc 7 a1 a2 0 w = some (o, u) → (∀ r : Int32, o = some r → N (some (.int r)) u) → (o = none → X RAE u) → Ct (GM q) l dd yX12_level cX12_level 7 ((some .int)) [.ref 0, .int a1, .int a2] w N X
def HX12_primary (q : Gq) (l : Launch) (rc : TX12_variable) (dd : Nat) : Prop := ∀ (a1 : Int32) (w : Wd) (o : Option Int32) (u : Wd) (N : Option Value → Wd → Prop) (X : String → Wd → Prop), rc 8 a1 0 0 w = some (o, u) → (∀ r : Int32, o = some r → N (some (.int r)) u) → (o = none → X RAE u) → Ct (GM q) l dd yX12_primary cX12_primary 5 ((some .int)) [.ref 0, .int a1] w N X
def HSX12_variable (q : Gq) (l : Launch) (rc : TX12_variable) (dd : Nat) : Prop := HX12_variable q l rc dd ∧ HX12_indices q l rc dd ∧ HX12_call q l rc dd ∧ HX12_aim q l rc dd ∧ HX12_expr q l rc dd ∧ HX12_whole q l rc dd ∧ HX12_simple q l rc dd ∧ HX12_level q l rc dd ∧ HX12_primary q l rc dd
/-! AlgolMillModel.aim ()I: E, 903 -/
theorem dX12_aim_0 : decode cX12_aim 0 = .ok (.aload_n 0, 1) := by decide +kernel
theorem dX12_aim_1 : decode cX12_aim 1 = .ok (.getfield 443, 3) := by decide +kernel
theorem dX12_aim_4 : decode cX12_aim 4 = .ok (.istore_n 1, 1) := by decide +kernel
theorem dX12_aim_5 : decode cX12_aim 5 = .ok (.aload_n 0, 1) := by decide +kernel
theorem dX12_aim_6 : decode cX12_aim 6 = .ok (.invokevirtual 452, 3) := by decide +kernel
theorem dX12_aim_9 : decode cX12_aim 9 = .ok (.sipush 267, 3) := by decide +kernel
theorem dX12_aim_12 : decode cX12_aim 12 = .ok (.if_icmp .ne 79, 3) := by decide +kernel
theorem dX12_aim_15 : decode cX12_aim 15 = .ok (.aload_n 0, 1) := by decide +kernel
theorem dX12_aim_16 : decode cX12_aim 16 = .ok (.invokevirtual 459, 3) := by decide +kernel
theorem dX12_aim_19 : decode cX12_aim 19 = .ok (.istore_n 2, 1) := by decide +kernel
theorem dX12_aim_20 : decode cX12_aim 20 = .ok (.aload_n 0, 1) := by decide +kernel
theorem dX12_aim_21 : decode cX12_aim 21 = .ok (.dup, 1) := by decide +kernel
theorem dX12_aim_22 : decode cX12_aim 22 = .ok (.getfield 449, 3) := by decide +kernel
theorem dX12_aim_25 : decode cX12_aim 25 = .ok (.iconst 1, 1) := by decide +kernel
theorem dX12_aim_26 : decode cX12_aim 26 = .ok (.iadd, 1) := by decide +kernel
theorem dX12_aim_27 : decode cX12_aim 27 = .ok (.putfield 449, 3) := by decide +kernel
theorem dX12_aim_30 : decode cX12_aim 30 = .ok (.aload_n 0, 1) := by decide +kernel
theorem dX12_aim_31 : decode cX12_aim 31 = .ok (.invokevirtual 538, 3) := by decide +kernel
theorem dX12_aim_34 : decode cX12_aim 34 = .ok (.istore_n 3, 1) := by decide +kernel
theorem dX12_aim_35 : decode cX12_aim 35 = .ok (.aload_n 0, 1) := by decide +kernel
theorem dX12_aim_36 : decode cX12_aim 36 = .ok (.sipush 268, 3) := by decide +kernel
theorem dX12_aim_39 : decode cX12_aim 39 = .ok (.invokevirtual 491, 3) := by decide +kernel
theorem dX12_aim_42 : decode cX12_aim 42 = .ok (.istore_n 2, 1) := by decide +kernel
theorem dX12_aim_43 : decode cX12_aim 43 = .ok (.aload_n 0, 1) := by decide +kernel
theorem dX12_aim_44 : decode cX12_aim 44 = .ok (.invokevirtual 541, 3) := by decide +kernel
theorem dX12_aim_47 : decode cX12_aim 47 = .ok (.istore 4, 2) := by decide +kernel
theorem dX12_aim_49 : decode cX12_aim 49 = .ok (.aload_n 0, 1) := by decide +kernel
theorem dX12_aim_50 : decode cX12_aim 50 = .ok (.sipush 269, 3) := by decide +kernel
theorem dX12_aim_53 : decode cX12_aim 53 = .ok (.invokevirtual 491, 3) := by decide +kernel
theorem dX12_aim_56 : decode cX12_aim 56 = .ok (.istore_n 2, 1) := by decide +kernel
theorem dX12_aim_57 : decode cX12_aim 57 = .ok (.aload_n 0, 1) := by decide +kernel
theorem dX12_aim_58 : decode cX12_aim 58 = .ok (.invokevirtual 541, 3) := by decide +kernel
theorem dX12_aim_61 : decode cX12_aim 61 = .ok (.istore 5, 2) := by decide +kernel
theorem dX12_aim_63 : decode cX12_aim 63 = .ok (.aload_n 0, 1) := by decide +kernel
theorem dX12_aim_64 : decode cX12_aim 64 = .ok (.dup, 1) := by decide +kernel
theorem dX12_aim_65 : decode cX12_aim 65 = .ok (.getfield 449, 3) := by decide +kernel
theorem dX12_aim_68 : decode cX12_aim 68 = .ok (.iconst 1, 1) := by decide +kernel
theorem dX12_aim_69 : decode cX12_aim 69 = .ok (.isub, 1) := by decide +kernel
theorem dX12_aim_70 : decode cX12_aim 70 = .ok (.putfield 449, 3) := by decide +kernel
theorem dX12_aim_73 : decode cX12_aim 73 = .ok (.aload_n 0, 1) := by decide +kernel
theorem dX12_aim_74 : decode cX12_aim 74 = .ok (.aload_n 0, 1) := by decide +kernel
theorem dX12_aim_75 : decode cX12_aim 75 = .ok (.bipush 8, 2) := by decide +kernel
theorem dX12_aim_77 : decode cX12_aim 77 = .ok (.iload_n 3, 1) := by decide +kernel
theorem dX12_aim_78 : decode cX12_aim 78 = .ok (.iload 4, 2) := by decide +kernel
theorem dX12_aim_80 : decode cX12_aim 80 = .ok (.iload 5, 2) := by decide +kernel
theorem dX12_aim_82 : decode cX12_aim 82 = .ok (.iload_n 1, 1) := by decide +kernel
theorem dX12_aim_83 : decode cX12_aim 83 = .ok (.invokevirtual 500, 3) := by decide +kernel
theorem dX12_aim_86 : decode cX12_aim 86 = .ok (.iconst 2, 1) := by decide +kernel
theorem dX12_aim_87 : decode cX12_aim 87 = .ok (.invokevirtual 578, 3) := by decide +kernel
theorem dX12_aim_90 : decode cX12_aim 90 = .ok (.ireturn, 1) := by decide +kernel
theorem dX12_aim_91 : decode cX12_aim 91 = .ok (.aload_n 0, 1) := by decide +kernel
theorem dX12_aim_92 : decode cX12_aim 92 = .ok (.invokevirtual 452, 3) := by decide +kernel
theorem dX12_aim_95 : decode cX12_aim 95 = .ok (.bipush 40, 2) := by decide +kernel
theorem dX12_aim_97 : decode cX12_aim 97 = .ok (.if_icmp .ne 56, 3) := by decide +kernel
theorem dX12_aim_100 : decode cX12_aim 100 = .ok (.aload_n 0, 1) := by decide +kernel
theorem dX12_aim_101 : decode cX12_aim 101 = .ok (.invokevirtual 459, 3) := by decide +kernel
theorem dX12_aim_104 : decode cX12_aim 104 = .ok (.istore_n 2, 1) := by decide +kernel
theorem dX12_aim_105 : decode cX12_aim 105 = .ok (.aload_n 0, 1) := by decide +kernel
theorem dX12_aim_106 : decode cX12_aim 106 = .ok (.dup, 1) := by decide +kernel
theorem dX12_aim_107 : decode cX12_aim 107 = .ok (.getfield 449, 3) := by decide +kernel
theorem dX12_aim_110 : decode cX12_aim 110 = .ok (.iconst 1, 1) := by decide +kernel
theorem dX12_aim_111 : decode cX12_aim 111 = .ok (.iadd, 1) := by decide +kernel
theorem dX12_aim_112 : decode cX12_aim 112 = .ok (.putfield 449, 3) := by decide +kernel
theorem dX12_aim_115 : decode cX12_aim 115 = .ok (.aload_n 0, 1) := by decide +kernel
theorem dX12_aim_116 : decode cX12_aim 116 = .ok (.invokevirtual 541, 3) := by decide +kernel
theorem dX12_aim_119 : decode cX12_aim 119 = .ok (.istore_n 3, 1) := by decide +kernel
theorem dX12_aim_120 : decode cX12_aim 120 = .ok (.aload_n 0, 1) := by decide +kernel
theorem dX12_aim_121 : decode cX12_aim 121 = .ok (.dup, 1) := by decide +kernel
theorem dX12_aim_122 : decode cX12_aim 122 = .ok (.getfield 449, 3) := by decide +kernel
theorem dX12_aim_125 : decode cX12_aim 125 = .ok (.iconst 1, 1) := by decide +kernel
theorem dX12_aim_126 : decode cX12_aim 126 = .ok (.isub, 1) := by decide +kernel
theorem dX12_aim_127 : decode cX12_aim 127 = .ok (.putfield 449, 3) := by decide +kernel
theorem dX12_aim_130 : decode cX12_aim 130 = .ok (.aload_n 0, 1) := by decide +kernel
theorem dX12_aim_131 : decode cX12_aim 131 = .ok (.bipush 41, 2) := by decide +kernel
theorem dX12_aim_133 : decode cX12_aim 133 = .ok (.invokevirtual 491, 3) := by decide +kernel
theorem dX12_aim_136 : decode cX12_aim 136 = .ok (.istore_n 2, 1) := by decide +kernel
theorem dX12_aim_137 : decode cX12_aim 137 = .ok (.aload_n 0, 1) := by decide +kernel
theorem dX12_aim_138 : decode cX12_aim 138 = .ok (.aload_n 0, 1) := by decide +kernel
theorem dX12_aim_139 : decode cX12_aim 139 = .ok (.bipush 9, 2) := by decide +kernel
theorem dX12_aim_141 : decode cX12_aim 141 = .ok (.iload_n 3, 1) := by decide +kernel
theorem dX12_aim_142 : decode cX12_aim 142 = .ok (.iconst 0, 1) := by decide +kernel
theorem dX12_aim_143 : decode cX12_aim 143 = .ok (.iconst 0, 1) := by decide +kernel
theorem dX12_aim_144 : decode cX12_aim 144 = .ok (.iload_n 1, 1) := by decide +kernel
theorem dX12_aim_145 : decode cX12_aim 145 = .ok (.invokevirtual 500, 3) := by decide +kernel
theorem dX12_aim_148 : decode cX12_aim 148 = .ok (.iconst 2, 1) := by decide +kernel
theorem dX12_aim_149 : decode cX12_aim 149 = .ok (.invokevirtual 578, 3) := by decide +kernel
theorem dX12_aim_152 : decode cX12_aim 152 = .ok (.ireturn, 1) := by decide +kernel
theorem dX12_aim_153 : decode cX12_aim 153 = .ok (.aload_n 0, 1) := by decide +kernel
theorem dX12_aim_154 : decode cX12_aim 154 = .ok (.sipush 285, 3) := by decide +kernel
theorem dX12_aim_157 : decode cX12_aim 157 = .ok (.invokevirtual 491, 3) := by decide +kernel
theorem dX12_aim_160 : decode cX12_aim 160 = .ok (.istore_n 2, 1) := by decide +kernel
theorem dX12_aim_161 : decode cX12_aim 161 = .ok (.aload_n 0, 1) := by decide +kernel
theorem dX12_aim_162 : decode cX12_aim 162 = .ok (.invokevirtual 452, 3) := by decide +kernel
theorem dX12_aim_165 : decode cX12_aim 165 = .ok (.bipush 91, 2) := by decide +kernel
theorem dX12_aim_167 : decode cX12_aim 167 = .ok (.if_icmp .eq 18, 3) := by decide +kernel
theorem dX12_aim_170 : decode cX12_aim 170 = .ok (.aload_n 0, 1) := by decide +kernel
theorem dX12_aim_171 : decode cX12_aim 171 = .ok (.aload_n 0, 1) := by decide +kernel
theorem dX12_aim_172 : decode cX12_aim 172 = .ok (.iconst 3, 1) := by decide +kernel
theorem dX12_aim_173 : decode cX12_aim 173 = .ok (.iconst 0, 1) := by decide +kernel
theorem dX12_aim_174 : decode cX12_aim 174 = .ok (.iconst 0, 1) := by decide +kernel
theorem dX12_aim_175 : decode cX12_aim 175 = .ok (.iconst 0, 1) := by decide +kernel
theorem dX12_aim_176 : decode cX12_aim 176 = .ok (.iload_n 2, 1) := by decide +kernel
theorem dX12_aim_177 : decode cX12_aim 177 = .ok (.invokevirtual 500, 3) := by decide +kernel
theorem dX12_aim_180 : decode cX12_aim 180 = .ok (.iconst 2, 1) := by decide +kernel
theorem dX12_aim_181 : decode cX12_aim 181 = .ok (.invokevirtual 578, 3) := by decide +kernel
theorem dX12_aim_184 : decode cX12_aim 184 = .ok (.ireturn, 1) := by decide +kernel
theorem dX12_aim_185 : decode cX12_aim 185 = .ok (.aload_n 0, 1) := by decide +kernel
theorem dX12_aim_186 : decode cX12_aim 186 = .ok (.invokevirtual 459, 3) := by decide +kernel
theorem dX12_aim_189 : decode cX12_aim 189 = .ok (.istore_n 3, 1) := by decide +kernel
theorem dX12_aim_190 : decode cX12_aim 190 = .ok (.aload_n 0, 1) := by decide +kernel
theorem dX12_aim_191 : decode cX12_aim 191 = .ok (.dup, 1) := by decide +kernel
theorem dX12_aim_192 : decode cX12_aim 192 = .ok (.getfield 449, 3) := by decide +kernel
theorem dX12_aim_195 : decode cX12_aim 195 = .ok (.iconst 1, 1) := by decide +kernel
theorem dX12_aim_196 : decode cX12_aim 196 = .ok (.iadd, 1) := by decide +kernel
theorem dX12_aim_197 : decode cX12_aim 197 = .ok (.putfield 449, 3) := by decide +kernel
theorem dX12_aim_200 : decode cX12_aim 200 = .ok (.aload_n 0, 1) := by decide +kernel
theorem dX12_aim_201 : decode cX12_aim 201 = .ok (.invokevirtual 538, 3) := by decide +kernel
theorem dX12_aim_204 : decode cX12_aim 204 = .ok (.istore 4, 2) := by decide +kernel
theorem dX12_aim_206 : decode cX12_aim 206 = .ok (.aload_n 0, 1) := by decide +kernel
theorem dX12_aim_207 : decode cX12_aim 207 = .ok (.dup, 1) := by decide +kernel
theorem dX12_aim_208 : decode cX12_aim 208 = .ok (.getfield 449, 3) := by decide +kernel
theorem dX12_aim_211 : decode cX12_aim 211 = .ok (.iconst 1, 1) := by decide +kernel
theorem dX12_aim_212 : decode cX12_aim 212 = .ok (.isub, 1) := by decide +kernel
theorem dX12_aim_213 : decode cX12_aim 213 = .ok (.putfield 449, 3) := by decide +kernel
theorem dX12_aim_216 : decode cX12_aim 216 = .ok (.aload_n 0, 1) := by decide +kernel
theorem dX12_aim_217 : decode cX12_aim 217 = .ok (.bipush 93, 2) := by decide +kernel
theorem dX12_aim_219 : decode cX12_aim 219 = .ok (.invokevirtual 491, 3) := by decide +kernel
theorem dX12_aim_222 : decode cX12_aim 222 = .ok (.istore_n 3, 1) := by decide +kernel
theorem dX12_aim_223 : decode cX12_aim 223 = .ok (.aload_n 0, 1) := by decide +kernel
theorem dX12_aim_224 : decode cX12_aim 224 = .ok (.aload_n 0, 1) := by decide +kernel
theorem dX12_aim_225 : decode cX12_aim 225 = .ok (.iconst 4, 1) := by decide +kernel
theorem dX12_aim_226 : decode cX12_aim 226 = .ok (.iload 4, 2) := by decide +kernel
theorem dX12_aim_228 : decode cX12_aim 228 = .ok (.iconst 1, 1) := by decide +kernel
theorem dX12_aim_229 : decode cX12_aim 229 = .ok (.iconst 0, 1) := by decide +kernel
theorem dX12_aim_230 : decode cX12_aim 230 = .ok (.iload_n 2, 1) := by decide +kernel
theorem dX12_aim_231 : decode cX12_aim 231 = .ok (.invokevirtual 500, 3) := by decide +kernel
theorem dX12_aim_234 : decode cX12_aim 234 = .ok (.iconst 2, 1) := by decide +kernel
theorem dX12_aim_235 : decode cX12_aim 235 = .ok (.invokevirtual 578, 3) := by decide +kernel
theorem dX12_aim_238 : decode cX12_aim 238 = .ok (.ireturn, 1) := by decide +kernel
def fX12_aim (rc : TX12_variable) (w : Wd) : Option (Option Int32 × Wd) :=
  lt ((gi w 0 7)) fun x1 => bn2 (fX12_kind w) fun x2 w3 => if x2 = 267 then (be (fX12_taken w3) fun x5 w6 => lt (si w6 0 8 ((gi w6 0 8) + 1)) fun w8 => be (rc 4 0 0 0 w8) fun x9 w10 => be (fX12_expect 268 w10) fun x12 w13 => be (rc 3 0 0 0 w13) fun x15 w16 => be (fX12_expect 269 w16) fun x18 w19 => be (rc 3 0 0 0 w19) fun x21 w22 => lt (si w22 0 8 ((gi w22 0 8) - 1)) fun w24 => bn2 (fX12_node 8 x9 x15 x21 x1 w24) fun x25 w26 => bn2 (fX12_may x25 2 w26) fun x27 w28 => some (some x27, w28)) else (bn2 (fX12_kind w3) fun x29 w30 => if x29 = 40 then (be (fX12_taken w30) fun x32 w33 => lt (si w33 0 8 ((gi w33 0 8) + 1)) fun w35 => be (rc 3 0 0 0 w35) fun x36 w37 => lt (si w37 0 8 ((gi w37 0 8) - 1)) fun w39 => be (fX12_expect 41 w39) fun x40 w41 => bn2 (fX12_node 9 x36 0 0 x1 w41) fun x43 w44 => bn2 (fX12_may x43 2 w44) fun x45 w46 => some (some x45, w46)) else (be (fX12_expect 285 w30) fun x47 w48 => bn2 (fX12_kind w48) fun x50 w51 => if x50 = 91 then (be (fX12_taken w51) fun x53 w54 => lt (si w54 0 8 ((gi w54 0 8) + 1)) fun w56 => be (rc 4 0 0 0 w56) fun x57 w58 => lt (si w58 0 8 ((gi w58 0 8) - 1)) fun w60 => be (fX12_expect 93 w60) fun x61 w62 => bn2 (fX12_node 4 x57 1 0 x47 w62) fun x64 w65 => bn2 (fX12_may x64 2 w65) fun x66 w67 => some (some x66, w67)) else (bn2 (fX12_node 3 0 0 0 x47 w51) fun x68 w69 => bn2 (fX12_may x68 2 w69) fun x70 w71 => some (some x70, w71))))
set_option maxHeartbeats 16000000 in
theorem pX12_aim {q : Gq} {l : Launch} {N : Option Value → Wd → Prop} {X : String → Wd → Prop} {rc : TX12_variable} {dd : Nat} (hS : HSX12_variable q l rc dd) (hK : 3 ≤ dd) {w : Wd} {R : Option Int32 × Wd} (hN : ∀ r : Int32, R.1 = some r → N (some (.int r)) R.2) (hX : R.1 = none → X RAE R.2) (h : fX12_aim rc w = some R) : RT (GM q) l (dd + 1) yX12_aim cX12_aim 6 ((some .int)) N X 0 [] [(0, .ref 0)] w := by
  unfold fX12_aim at h
  refine r_aload_n (pc := 0) dX12_aim_0 rfl 0 rfl ?_
  refine r_get (pc := 1) (j := 7) (v := .int (gi w 0 7)) oM0 cf12 flRX12_443 rfl dX12_aim_1 rfl ?_
  replace h := lt_e h; obtain ⟨x1, ex1, h⟩ := h
  refine r_topi ex1 ?_
  refine r_istore_n (pc := 4) (loc' := [(1, .int x1), (0, .ref 0)]) dX12_aim_4 rfl (Nat.le_of_ble_eq_true rfl) rfl ?_
  refine r_aload_n (pc := 5) dX12_aim_5 rfl 1 rfl ?_
  replace h := bn2_e h; obtain ⟨x2, w3, ew3, h⟩ := h
  refine r_cVi (pc := 6) wyX12_kind oM0 rfl mlRX12_452 iyX12_kind syX12_kind ⟨Nat.succ_le_succ (Nat.le_trans (Nat.le_of_ble_eq_true rfl) hK), (Nat.le_of_ble_eq_true rfl)⟩ rfl rfl (Nat.le_of_ble_eq_true rfl) dX12_aim_6 (mX12_kind ew3 (pI.mk ?_))
  refine r_sipush (pc := 9) dX12_aim_9 ks_267 ?_
  refine r_icmp_ne (pc := 12) dX12_aim_12 rfl (fun hc4 => ?_) (fun hc4 => ?_)
  · replace h := if_f hc4 h
    refine r_aload_n (pc := 91) dX12_aim_91 rfl 1 rfl ?_
    replace h := bn2_e h; obtain ⟨x29, w30, ew30, h⟩ := h
    refine r_cVi (pc := 92) wyX12_kind oM0 rfl mlRX12_452 iyX12_kind syX12_kind ⟨Nat.succ_le_succ (Nat.le_trans (Nat.le_of_ble_eq_true rfl) hK), (Nat.le_of_ble_eq_true rfl)⟩ rfl rfl (Nat.le_of_ble_eq_true rfl) dX12_aim_92 (mX12_kind ew30 (pI.mk ?_))
    refine r_bipush (pc := 95) dX12_aim_95 kb_40 ?_
    refine r_icmp_ne (pc := 97) dX12_aim_97 rfl (fun hc31 => ?_) (fun hc31 => ?_)
    · replace h := if_f hc31 h
      refine r_aload_n (pc := 153) dX12_aim_153 rfl 1 rfl ?_
      refine r_sipush (pc := 154) dX12_aim_154 ks_285 ?_
      replace h := be_e h; obtain ⟨o49, w48, ew48, h1, h2⟩ := h
      refine r_cVi (pc := 157) wyX12_expect oM0 rfl mlRX12_491 iyX12_expect syX12_expect ⟨Nat.succ_le_succ (Nat.le_trans (Nat.le_of_ble_eq_true rfl) hK), (Nat.le_of_ble_eq_true rfl)⟩ rfl rfl (Nat.le_of_ble_eq_true rfl) dX12_aim_157 (mX12_expect ew48 (fun x47 ex47 => pI.mk ?_) (fun ez => be_x h2 ez hX))
      replace h := h1 _ ex47
      refine r_istore_n (pc := 160) (loc' := [(2, .int x47), (1, .int x1), (0, .ref 0)]) dX12_aim_160 rfl (Nat.le_of_ble_eq_true rfl) rfl ?_
      refine r_aload_n (pc := 161) dX12_aim_161 rfl 2 rfl ?_
      replace h := bn2_e h; obtain ⟨x50, w51, ew51, h⟩ := h
      refine r_cVi (pc := 162) wyX12_kind oM0 rfl mlRX12_452 iyX12_kind syX12_kind ⟨Nat.succ_le_succ (Nat.le_trans (Nat.le_of_ble_eq_true rfl) hK), (Nat.le_of_ble_eq_true rfl)⟩ rfl rfl (Nat.le_of_ble_eq_true rfl) dX12_aim_162 (mX12_kind ew51 (pI.mk ?_))
      refine r_bipush (pc := 165) dX12_aim_165 kb_91 ?_
      refine r_icmp_eq (pc := 167) dX12_aim_167 rfl (fun hc52 => ?_) (fun hc52 => ?_)
      · replace h := if_t hc52 h
        refine r_aload_n (pc := 185) dX12_aim_185 rfl 2 rfl ?_
        replace h := be_e h; obtain ⟨o55, w54, ew54, h1, h2⟩ := h
        refine r_cVi (pc := 186) wyX12_taken oM0 rfl mlRX12_459 iyX12_taken syX12_taken ⟨Nat.succ_le_succ (Nat.le_trans (Nat.le_of_ble_eq_true rfl) hK), (Nat.le_of_ble_eq_true rfl)⟩ rfl rfl (Nat.le_of_ble_eq_true rfl) dX12_aim_186 (mX12_taken ew54 (fun x53 ex53 => pI.mk ?_) (fun ez => be_x h2 ez hX))
        replace h := h1 _ ex53
        refine r_istore_n (pc := 189) (loc' := [(3, .int x53), (2, .int x47), (1, .int x1), (0, .ref 0)]) dX12_aim_189 rfl (Nat.le_of_ble_eq_true rfl) rfl ?_
        refine r_aload_n (pc := 190) dX12_aim_190 rfl 3 rfl ?_
        refine r_dup (pc := 191) dX12_aim_191 rfl ?_
        refine r_get (pc := 192) (j := 8) (v := .int (gi w54 0 8)) oM0 cf12 flRX12_449 rfl dX12_aim_192 rfl ?_
        refine r_iconst (pc := 195) dX12_aim_195 ki_1 ?_
        refine r_iadd (pc := 196) dX12_aim_196 ?_
        replace h := lt_e h; obtain ⟨w56, ew56, h⟩ := h
        refine r_putI (pc := 197) (j := 8) oM0 cf12 flRX12_449 rfl rfl rfl rfl dX12_aim_197 ?_
        refine r_w ew56 ?_
        refine r_aload_n (pc := 200) dX12_aim_200 rfl 3 rfl ?_
        replace h := be_e h; obtain ⟨o59, w58, ew58, h1, h2⟩ := h
        refine r_cVi (pc := 201) wyX12_expr oM0 rfl mlRX12_538 iyX12_expr syX12_expr ⟨Nat.le_refl _, (Nat.le_of_ble_eq_true rfl)⟩ rfl rfl (Nat.le_of_ble_eq_true rfl) dX12_aim_201 ((hS.2.2.2.2.1 _ _ _ _ _) ew58 (fun x57 ex57 => pI.mk ?_) (fun ez => be_x h2 ez hX))
        replace h := h1 _ ex57
        refine r_istore (pc := 204) (loc' := [(4, .int x57), (3, .int x53), (2, .int x47), (1, .int x1), (0, .ref 0)]) dX12_aim_204 (Nat.le_of_ble_eq_true rfl) rfl ?_
        refine r_aload_n (pc := 206) dX12_aim_206 rfl 4 rfl ?_
        refine r_dup (pc := 207) dX12_aim_207 rfl ?_
        refine r_get (pc := 208) (j := 8) (v := .int (gi w58 0 8)) oM0 cf12 flRX12_449 rfl dX12_aim_208 rfl ?_
        refine r_iconst (pc := 211) dX12_aim_211 ki_1 ?_
        refine r_isub (pc := 212) dX12_aim_212 ?_
        replace h := lt_e h; obtain ⟨w60, ew60, h⟩ := h
        refine r_putI (pc := 213) (j := 8) oM0 cf12 flRX12_449 rfl rfl rfl rfl dX12_aim_213 ?_
        refine r_w ew60 ?_
        refine r_aload_n (pc := 216) dX12_aim_216 rfl 4 rfl ?_
        refine r_bipush (pc := 217) dX12_aim_217 kb_93 ?_
        replace h := be_e h; obtain ⟨o63, w62, ew62, h1, h2⟩ := h
        refine r_cVi (pc := 219) wyX12_expect oM0 rfl mlRX12_491 iyX12_expect syX12_expect ⟨Nat.succ_le_succ (Nat.le_trans (Nat.le_of_ble_eq_true rfl) hK), (Nat.le_of_ble_eq_true rfl)⟩ rfl rfl (Nat.le_of_ble_eq_true rfl) dX12_aim_219 (mX12_expect ew62 (fun x61 ex61 => pI.mk ?_) (fun ez => be_x h2 ez hX))
        replace h := h1 _ ex61
        refine r_istore_n (pc := 222) (loc' := [(3, .int x61), (4, .int x57), (2, .int x47), (1, .int x1), (0, .ref 0)]) dX12_aim_222 rfl (Nat.le_of_ble_eq_true rfl) rfl ?_
        refine r_aload_n (pc := 223) dX12_aim_223 rfl 4 rfl ?_
        refine r_aload_n (pc := 224) dX12_aim_224 rfl 4 rfl ?_
        refine r_iconst (pc := 225) dX12_aim_225 ki_4 ?_
        refine r_iload (pc := 226) dX12_aim_226 1 rfl ?_
        refine r_iconst (pc := 228) dX12_aim_228 ki_1 ?_
        refine r_iconst (pc := 229) dX12_aim_229 ki_0 ?_
        refine r_iload_n (pc := 230) dX12_aim_230 rfl 2 rfl ?_
        replace h := bn2_e h; obtain ⟨x64, w65, ew65, h⟩ := h
        refine r_cVi (pc := 231) wyX12_node oM0 rfl mlRX12_500 iyX12_node syX12_node ⟨Nat.succ_le_succ (Nat.le_trans (Nat.le_of_ble_eq_true rfl) hK), (Nat.le_of_ble_eq_true rfl)⟩ rfl rfl (Nat.le_of_ble_eq_true rfl) dX12_aim_231 (mX12_node ew65 (pI.mk ?_))
        refine r_iconst (pc := 234) dX12_aim_234 ki_2 ?_
        replace h := bn2_e h; obtain ⟨x66, w67, ew67, h⟩ := h
        refine r_cVi (pc := 235) wyX12_may oM0 rfl mlRX12_578 iyX12_may syX12_may ⟨Nat.succ_le_succ (Nat.le_trans (Nat.le_of_ble_eq_true rfl) hK), (Nat.le_of_ble_eq_true rfl)⟩ rfl rfl (Nat.le_of_ble_eq_true rfl) dX12_aim_235 (mX12_may ew67 (pI.mk ?_))
        exact rE_i (pc := 238) rfl dX12_aim_238 h hN
      replace h := if_f hc52 h
      refine r_aload_n (pc := 170) dX12_aim_170 rfl 2 rfl ?_
      refine r_aload_n (pc := 171) dX12_aim_171 rfl 2 rfl ?_
      refine r_iconst (pc := 172) dX12_aim_172 ki_3 ?_
      refine r_iconst (pc := 173) dX12_aim_173 ki_0 ?_
      refine r_iconst (pc := 174) dX12_aim_174 ki_0 ?_
      refine r_iconst (pc := 175) dX12_aim_175 ki_0 ?_
      refine r_iload_n (pc := 176) dX12_aim_176 rfl 0 rfl ?_
      replace h := bn2_e h; obtain ⟨x68, w69, ew69, h⟩ := h
      refine r_cVi (pc := 177) wyX12_node oM0 rfl mlRX12_500 iyX12_node syX12_node ⟨Nat.succ_le_succ (Nat.le_trans (Nat.le_of_ble_eq_true rfl) hK), (Nat.le_of_ble_eq_true rfl)⟩ rfl rfl (Nat.le_of_ble_eq_true rfl) dX12_aim_177 (mX12_node ew69 (pI.mk ?_))
      refine r_iconst (pc := 180) dX12_aim_180 ki_2 ?_
      replace h := bn2_e h; obtain ⟨x70, w71, ew71, h⟩ := h
      refine r_cVi (pc := 181) wyX12_may oM0 rfl mlRX12_578 iyX12_may syX12_may ⟨Nat.succ_le_succ (Nat.le_trans (Nat.le_of_ble_eq_true rfl) hK), (Nat.le_of_ble_eq_true rfl)⟩ rfl rfl (Nat.le_of_ble_eq_true rfl) dX12_aim_181 (mX12_may ew71 (pI.mk ?_))
      exact rE_i (pc := 184) rfl dX12_aim_184 h hN
    replace h := if_t hc31 h
    refine r_aload_n (pc := 100) dX12_aim_100 rfl 1 rfl ?_
    replace h := be_e h; obtain ⟨o34, w33, ew33, h1, h2⟩ := h
    refine r_cVi (pc := 101) wyX12_taken oM0 rfl mlRX12_459 iyX12_taken syX12_taken ⟨Nat.succ_le_succ (Nat.le_trans (Nat.le_of_ble_eq_true rfl) hK), (Nat.le_of_ble_eq_true rfl)⟩ rfl rfl (Nat.le_of_ble_eq_true rfl) dX12_aim_101 (mX12_taken ew33 (fun x32 ex32 => pI.mk ?_) (fun ez => be_x h2 ez hX))
    replace h := h1 _ ex32
    refine r_istore_n (pc := 104) (loc' := [(2, .int x32), (1, .int x1), (0, .ref 0)]) dX12_aim_104 rfl (Nat.le_of_ble_eq_true rfl) rfl ?_
    refine r_aload_n (pc := 105) dX12_aim_105 rfl 2 rfl ?_
    refine r_dup (pc := 106) dX12_aim_106 rfl ?_
    refine r_get (pc := 107) (j := 8) (v := .int (gi w33 0 8)) oM0 cf12 flRX12_449 rfl dX12_aim_107 rfl ?_
    refine r_iconst (pc := 110) dX12_aim_110 ki_1 ?_
    refine r_iadd (pc := 111) dX12_aim_111 ?_
    replace h := lt_e h; obtain ⟨w35, ew35, h⟩ := h
    refine r_putI (pc := 112) (j := 8) oM0 cf12 flRX12_449 rfl rfl rfl rfl dX12_aim_112 ?_
    refine r_w ew35 ?_
    refine r_aload_n (pc := 115) dX12_aim_115 rfl 2 rfl ?_
    replace h := be_e h; obtain ⟨o38, w37, ew37, h1, h2⟩ := h
    refine r_cVi (pc := 116) wyX12_aim oM0 rfl mlRX12_541 iyX12_aim syX12_aim ⟨Nat.le_refl _, (Nat.le_of_ble_eq_true rfl)⟩ rfl rfl (Nat.le_of_ble_eq_true rfl) dX12_aim_116 ((hS.2.2.2.1 _ _ _ _ _) ew37 (fun x36 ex36 => pI.mk ?_) (fun ez => be_x h2 ez hX))
    replace h := h1 _ ex36
    refine r_istore_n (pc := 119) (loc' := [(3, .int x36), (2, .int x32), (1, .int x1), (0, .ref 0)]) dX12_aim_119 rfl (Nat.le_of_ble_eq_true rfl) rfl ?_
    refine r_aload_n (pc := 120) dX12_aim_120 rfl 3 rfl ?_
    refine r_dup (pc := 121) dX12_aim_121 rfl ?_
    refine r_get (pc := 122) (j := 8) (v := .int (gi w37 0 8)) oM0 cf12 flRX12_449 rfl dX12_aim_122 rfl ?_
    refine r_iconst (pc := 125) dX12_aim_125 ki_1 ?_
    refine r_isub (pc := 126) dX12_aim_126 ?_
    replace h := lt_e h; obtain ⟨w39, ew39, h⟩ := h
    refine r_putI (pc := 127) (j := 8) oM0 cf12 flRX12_449 rfl rfl rfl rfl dX12_aim_127 ?_
    refine r_w ew39 ?_
    refine r_aload_n (pc := 130) dX12_aim_130 rfl 3 rfl ?_
    refine r_bipush (pc := 131) dX12_aim_131 kb_41 ?_
    replace h := be_e h; obtain ⟨o42, w41, ew41, h1, h2⟩ := h
    refine r_cVi (pc := 133) wyX12_expect oM0 rfl mlRX12_491 iyX12_expect syX12_expect ⟨Nat.succ_le_succ (Nat.le_trans (Nat.le_of_ble_eq_true rfl) hK), (Nat.le_of_ble_eq_true rfl)⟩ rfl rfl (Nat.le_of_ble_eq_true rfl) dX12_aim_133 (mX12_expect ew41 (fun x40 ex40 => pI.mk ?_) (fun ez => be_x h2 ez hX))
    replace h := h1 _ ex40
    refine r_istore_n (pc := 136) (loc' := [(2, .int x40), (3, .int x36), (1, .int x1), (0, .ref 0)]) dX12_aim_136 rfl (Nat.le_of_ble_eq_true rfl) rfl ?_
    refine r_aload_n (pc := 137) dX12_aim_137 rfl 3 rfl ?_
    refine r_aload_n (pc := 138) dX12_aim_138 rfl 3 rfl ?_
    refine r_bipush (pc := 139) dX12_aim_139 kb_9 ?_
    refine r_iload_n (pc := 141) dX12_aim_141 rfl 1 rfl ?_
    refine r_iconst (pc := 142) dX12_aim_142 ki_0 ?_
    refine r_iconst (pc := 143) dX12_aim_143 ki_0 ?_
    refine r_iload_n (pc := 144) dX12_aim_144 rfl 2 rfl ?_
    replace h := bn2_e h; obtain ⟨x43, w44, ew44, h⟩ := h
    refine r_cVi (pc := 145) wyX12_node oM0 rfl mlRX12_500 iyX12_node syX12_node ⟨Nat.succ_le_succ (Nat.le_trans (Nat.le_of_ble_eq_true rfl) hK), (Nat.le_of_ble_eq_true rfl)⟩ rfl rfl (Nat.le_of_ble_eq_true rfl) dX12_aim_145 (mX12_node ew44 (pI.mk ?_))
    refine r_iconst (pc := 148) dX12_aim_148 ki_2 ?_
    replace h := bn2_e h; obtain ⟨x45, w46, ew46, h⟩ := h
    refine r_cVi (pc := 149) wyX12_may oM0 rfl mlRX12_578 iyX12_may syX12_may ⟨Nat.succ_le_succ (Nat.le_trans (Nat.le_of_ble_eq_true rfl) hK), (Nat.le_of_ble_eq_true rfl)⟩ rfl rfl (Nat.le_of_ble_eq_true rfl) dX12_aim_149 (mX12_may ew46 (pI.mk ?_))
    exact rE_i (pc := 152) rfl dX12_aim_152 h hN
  replace h := if_t hc4 h
  refine r_aload_n (pc := 15) dX12_aim_15 rfl 1 rfl ?_
  replace h := be_e h; obtain ⟨o7, w6, ew6, h1, h2⟩ := h
  refine r_cVi (pc := 16) wyX12_taken oM0 rfl mlRX12_459 iyX12_taken syX12_taken ⟨Nat.succ_le_succ (Nat.le_trans (Nat.le_of_ble_eq_true rfl) hK), (Nat.le_of_ble_eq_true rfl)⟩ rfl rfl (Nat.le_of_ble_eq_true rfl) dX12_aim_16 (mX12_taken ew6 (fun x5 ex5 => pI.mk ?_) (fun ez => be_x h2 ez hX))
  replace h := h1 _ ex5
  refine r_istore_n (pc := 19) (loc' := [(2, .int x5), (1, .int x1), (0, .ref 0)]) dX12_aim_19 rfl (Nat.le_of_ble_eq_true rfl) rfl ?_
  refine r_aload_n (pc := 20) dX12_aim_20 rfl 2 rfl ?_
  refine r_dup (pc := 21) dX12_aim_21 rfl ?_
  refine r_get (pc := 22) (j := 8) (v := .int (gi w6 0 8)) oM0 cf12 flRX12_449 rfl dX12_aim_22 rfl ?_
  refine r_iconst (pc := 25) dX12_aim_25 ki_1 ?_
  refine r_iadd (pc := 26) dX12_aim_26 ?_
  replace h := lt_e h; obtain ⟨w8, ew8, h⟩ := h
  refine r_putI (pc := 27) (j := 8) oM0 cf12 flRX12_449 rfl rfl rfl rfl dX12_aim_27 ?_
  refine r_w ew8 ?_
  refine r_aload_n (pc := 30) dX12_aim_30 rfl 2 rfl ?_
  replace h := be_e h; obtain ⟨o11, w10, ew10, h1, h2⟩ := h
  refine r_cVi (pc := 31) wyX12_expr oM0 rfl mlRX12_538 iyX12_expr syX12_expr ⟨Nat.le_refl _, (Nat.le_of_ble_eq_true rfl)⟩ rfl rfl (Nat.le_of_ble_eq_true rfl) dX12_aim_31 ((hS.2.2.2.2.1 _ _ _ _ _) ew10 (fun x9 ex9 => pI.mk ?_) (fun ez => be_x h2 ez hX))
  replace h := h1 _ ex9
  refine r_istore_n (pc := 34) (loc' := [(3, .int x9), (2, .int x5), (1, .int x1), (0, .ref 0)]) dX12_aim_34 rfl (Nat.le_of_ble_eq_true rfl) rfl ?_
  refine r_aload_n (pc := 35) dX12_aim_35 rfl 3 rfl ?_
  refine r_sipush (pc := 36) dX12_aim_36 ks_268 ?_
  replace h := be_e h; obtain ⟨o14, w13, ew13, h1, h2⟩ := h
  refine r_cVi (pc := 39) wyX12_expect oM0 rfl mlRX12_491 iyX12_expect syX12_expect ⟨Nat.succ_le_succ (Nat.le_trans (Nat.le_of_ble_eq_true rfl) hK), (Nat.le_of_ble_eq_true rfl)⟩ rfl rfl (Nat.le_of_ble_eq_true rfl) dX12_aim_39 (mX12_expect ew13 (fun x12 ex12 => pI.mk ?_) (fun ez => be_x h2 ez hX))
  replace h := h1 _ ex12
  refine r_istore_n (pc := 42) (loc' := [(2, .int x12), (3, .int x9), (1, .int x1), (0, .ref 0)]) dX12_aim_42 rfl (Nat.le_of_ble_eq_true rfl) rfl ?_
  refine r_aload_n (pc := 43) dX12_aim_43 rfl 3 rfl ?_
  replace h := be_e h; obtain ⟨o17, w16, ew16, h1, h2⟩ := h
  refine r_cVi (pc := 44) wyX12_aim oM0 rfl mlRX12_541 iyX12_aim syX12_aim ⟨Nat.le_refl _, (Nat.le_of_ble_eq_true rfl)⟩ rfl rfl (Nat.le_of_ble_eq_true rfl) dX12_aim_44 ((hS.2.2.2.1 _ _ _ _ _) ew16 (fun x15 ex15 => pI.mk ?_) (fun ez => be_x h2 ez hX))
  replace h := h1 _ ex15
  refine r_istore (pc := 47) (loc' := [(4, .int x15), (2, .int x12), (3, .int x9), (1, .int x1), (0, .ref 0)]) dX12_aim_47 (Nat.le_of_ble_eq_true rfl) rfl ?_
  refine r_aload_n (pc := 49) dX12_aim_49 rfl 4 rfl ?_
  refine r_sipush (pc := 50) dX12_aim_50 ks_269 ?_
  replace h := be_e h; obtain ⟨o20, w19, ew19, h1, h2⟩ := h
  refine r_cVi (pc := 53) wyX12_expect oM0 rfl mlRX12_491 iyX12_expect syX12_expect ⟨Nat.succ_le_succ (Nat.le_trans (Nat.le_of_ble_eq_true rfl) hK), (Nat.le_of_ble_eq_true rfl)⟩ rfl rfl (Nat.le_of_ble_eq_true rfl) dX12_aim_53 (mX12_expect ew19 (fun x18 ex18 => pI.mk ?_) (fun ez => be_x h2 ez hX))
  replace h := h1 _ ex18
  refine r_istore_n (pc := 56) (loc' := [(2, .int x18), (4, .int x15), (3, .int x9), (1, .int x1), (0, .ref 0)]) dX12_aim_56 rfl (Nat.le_of_ble_eq_true rfl) rfl ?_
  refine r_aload_n (pc := 57) dX12_aim_57 rfl 4 rfl ?_
  replace h := be_e h; obtain ⟨o23, w22, ew22, h1, h2⟩ := h
  refine r_cVi (pc := 58) wyX12_aim oM0 rfl mlRX12_541 iyX12_aim syX12_aim ⟨Nat.le_refl _, (Nat.le_of_ble_eq_true rfl)⟩ rfl rfl (Nat.le_of_ble_eq_true rfl) dX12_aim_58 ((hS.2.2.2.1 _ _ _ _ _) ew22 (fun x21 ex21 => pI.mk ?_) (fun ez => be_x h2 ez hX))
  replace h := h1 _ ex21
  refine r_istore (pc := 61) (loc' := [(5, .int x21), (2, .int x18), (4, .int x15), (3, .int x9), (1, .int x1), (0, .ref 0)]) dX12_aim_61 (Nat.le_of_ble_eq_true rfl) rfl ?_
  refine r_aload_n (pc := 63) dX12_aim_63 rfl 5 rfl ?_
  refine r_dup (pc := 64) dX12_aim_64 rfl ?_
  refine r_get (pc := 65) (j := 8) (v := .int (gi w22 0 8)) oM0 cf12 flRX12_449 rfl dX12_aim_65 rfl ?_
  refine r_iconst (pc := 68) dX12_aim_68 ki_1 ?_
  refine r_isub (pc := 69) dX12_aim_69 ?_
  replace h := lt_e h; obtain ⟨w24, ew24, h⟩ := h
  refine r_putI (pc := 70) (j := 8) oM0 cf12 flRX12_449 rfl rfl rfl rfl dX12_aim_70 ?_
  refine r_w ew24 ?_
  refine r_aload_n (pc := 73) dX12_aim_73 rfl 5 rfl ?_
  refine r_aload_n (pc := 74) dX12_aim_74 rfl 5 rfl ?_
  refine r_bipush (pc := 75) dX12_aim_75 kb_8 ?_
  refine r_iload_n (pc := 77) dX12_aim_77 rfl 3 rfl ?_
  refine r_iload (pc := 78) dX12_aim_78 2 rfl ?_
  refine r_iload (pc := 80) dX12_aim_80 0 rfl ?_
  refine r_iload_n (pc := 82) dX12_aim_82 rfl 4 rfl ?_
  replace h := bn2_e h; obtain ⟨x25, w26, ew26, h⟩ := h
  refine r_cVi (pc := 83) wyX12_node oM0 rfl mlRX12_500 iyX12_node syX12_node ⟨Nat.succ_le_succ (Nat.le_trans (Nat.le_of_ble_eq_true rfl) hK), (Nat.le_of_ble_eq_true rfl)⟩ rfl rfl (Nat.le_of_ble_eq_true rfl) dX12_aim_83 (mX12_node ew26 (pI.mk ?_))
  refine r_iconst (pc := 86) dX12_aim_86 ki_2 ?_
  replace h := bn2_e h; obtain ⟨x27, w28, ew28, h⟩ := h
  refine r_cVi (pc := 87) wyX12_may oM0 rfl mlRX12_578 iyX12_may syX12_may ⟨Nat.succ_le_succ (Nat.le_trans (Nat.le_of_ble_eq_true rfl) hK), (Nat.le_of_ble_eq_true rfl)⟩ rfl rfl (Nat.le_of_ble_eq_true rfl) dX12_aim_87 (mX12_may ew28 (pI.mk ?_))
  exact rE_i (pc := 90) rfl dX12_aim_90 h hN
/-! AlgolMillModel.call ()I: E, 903 -/
theorem dX12_call_0 : decode cX12_call 0 = .ok (.aload_n 0, 1) := by decide +kernel
theorem dX12_call_1 : decode cX12_call 1 = .ok (.invokevirtual 459, 3) := by decide +kernel
theorem dX12_call_4 : decode cX12_call 4 = .ok (.istore_n 1, 1) := by decide +kernel
theorem dX12_call_5 : decode cX12_call 5 = .ok (.aload_n 0, 1) := by decide +kernel
theorem dX12_call_6 : decode cX12_call 6 = .ok (.invokevirtual 459, 3) := by decide +kernel
theorem dX12_call_9 : decode cX12_call 9 = .ok (.istore_n 2, 1) := by decide +kernel
theorem dX12_call_10 : decode cX12_call 10 = .ok (.aload_n 0, 1) := by decide +kernel
theorem dX12_call_11 : decode cX12_call 11 = .ok (.dup, 1) := by decide +kernel
theorem dX12_call_12 : decode cX12_call 12 = .ok (.getfield 449, 3) := by decide +kernel
theorem dX12_call_15 : decode cX12_call 15 = .ok (.iconst 1, 1) := by decide +kernel
theorem dX12_call_16 : decode cX12_call 16 = .ok (.iadd, 1) := by decide +kernel
theorem dX12_call_17 : decode cX12_call 17 = .ok (.putfield 449, 3) := by decide +kernel
theorem dX12_call_20 : decode cX12_call 20 = .ok (.iconst (-1), 1) := by decide +kernel
theorem dX12_call_21 : decode cX12_call 21 = .ok (.istore_n 3, 1) := by decide +kernel
theorem dX12_call_22 : decode cX12_call 22 = .ok (.iconst (-1), 1) := by decide +kernel
theorem dX12_call_23 : decode cX12_call 23 = .ok (.istore 4, 2) := by decide +kernel
theorem dX12_call_25 : decode cX12_call 25 = .ok (.iconst 0, 1) := by decide +kernel
theorem dX12_call_26 : decode cX12_call 26 = .ok (.istore 5, 2) := by decide +kernel
theorem dX12_call_28 : decode cX12_call 28 = .ok (.aload_n 0, 1) := by decide +kernel
theorem dX12_call_29 : decode cX12_call 29 = .ok (.invokevirtual 538, 3) := by decide +kernel
theorem dX12_call_32 : decode cX12_call 32 = .ok (.istore 6, 2) := by decide +kernel
theorem dX12_call_34 : decode cX12_call 34 = .ok (.iload_n 3, 1) := by decide +kernel
theorem dX12_call_35 : decode cX12_call 35 = .ok (.ifCond .ge 9, 3) := by decide +kernel
theorem dX12_call_38 : decode cX12_call 38 = .ok (.iload 6, 2) := by decide +kernel
theorem dX12_call_40 : decode cX12_call 40 = .ok (.istore_n 3, 1) := by decide +kernel
theorem dX12_call_41 : decode cX12_call 41 = .ok (.goto 12, 3) := by decide +kernel
theorem dX12_call_44 : decode cX12_call 44 = .ok (.aload_n 0, 1) := by decide +kernel
theorem dX12_call_45 : decode cX12_call 45 = .ok (.getfield 111, 3) := by decide +kernel
theorem dX12_call_48 : decode cX12_call 48 = .ok (.iload 4, 2) := by decide +kernel
theorem dX12_call_50 : decode cX12_call 50 = .ok (.iload 6, 2) := by decide +kernel
theorem dX12_call_52 : decode cX12_call 52 = .ok (.iastore, 1) := by decide +kernel
theorem dX12_call_53 : decode cX12_call 53 = .ok (.iload 6, 2) := by decide +kernel
theorem dX12_call_55 : decode cX12_call 55 = .ok (.istore 4, 2) := by decide +kernel
theorem dX12_call_57 : decode cX12_call 57 = .ok (.iinc 5 1, 3) := by decide +kernel
theorem dX12_call_60 : decode cX12_call 60 = .ok (.aload_n 0, 1) := by decide +kernel
theorem dX12_call_61 : decode cX12_call 61 = .ok (.bipush 44, 2) := by decide +kernel
theorem dX12_call_63 : decode cX12_call 63 = .ok (.invokevirtual 517, 3) := by decide +kernel
theorem dX12_call_66 : decode cX12_call 66 = .ok (.ifCond .ne (-38), 3) := by decide +kernel
theorem dX12_call_69 : decode cX12_call 69 = .ok (.aload_n 0, 1) := by decide +kernel
theorem dX12_call_70 : decode cX12_call 70 = .ok (.dup, 1) := by decide +kernel
theorem dX12_call_71 : decode cX12_call 71 = .ok (.getfield 449, 3) := by decide +kernel
theorem dX12_call_74 : decode cX12_call 74 = .ok (.iconst 1, 1) := by decide +kernel
theorem dX12_call_75 : decode cX12_call 75 = .ok (.isub, 1) := by decide +kernel
theorem dX12_call_76 : decode cX12_call 76 = .ok (.putfield 449, 3) := by decide +kernel
theorem dX12_call_79 : decode cX12_call 79 = .ok (.aload_n 0, 1) := by decide +kernel
theorem dX12_call_80 : decode cX12_call 80 = .ok (.bipush 41, 2) := by decide +kernel
theorem dX12_call_82 : decode cX12_call 82 = .ok (.invokevirtual 491, 3) := by decide +kernel
theorem dX12_call_85 : decode cX12_call 85 = .ok (.istore_n 2, 1) := by decide +kernel
theorem dX12_call_86 : decode cX12_call 86 = .ok (.aload_n 0, 1) := by decide +kernel
theorem dX12_call_87 : decode cX12_call 87 = .ok (.iconst 5, 1) := by decide +kernel
theorem dX12_call_88 : decode cX12_call 88 = .ok (.iload_n 3, 1) := by decide +kernel
theorem dX12_call_89 : decode cX12_call 89 = .ok (.iload 5, 2) := by decide +kernel
theorem dX12_call_91 : decode cX12_call 91 = .ok (.iconst 0, 1) := by decide +kernel
theorem dX12_call_92 : decode cX12_call 92 = .ok (.iload_n 1, 1) := by decide +kernel
theorem dX12_call_93 : decode cX12_call 93 = .ok (.invokevirtual 500, 3) := by decide +kernel
theorem dX12_call_96 : decode cX12_call 96 = .ok (.ireturn, 1) := by decide +kernel
def fX12_call_53 (rc : TX12_variable) (k_28 : Int32 → Int32 → Int32 → Int32 → Wd → Option (Option Int32 × Wd)) (a1 : Int32) (a3 : Int32) (a5 : Int32) (a6 : Int32) (w : Wd) : Option (Option Int32 × Wd) :=
  lt (a5 + 1) fun x1 => be (fX12_skip 44 w) fun x2 w3 => if x2 = true then (k_28 a1 a3 a6 x1 w3) else (lt (si w3 0 8 ((gi w3 0 8) - 1)) fun w6 => be (fX12_expect 41 w6) fun x7 w8 => bn2 (fX12_node 5 a3 x1 0 a1 w8) fun x10 w11 => some (some x10, w11))
theorem pX12_call_53 {q : Gq} {l : Launch} {N : Option Value → Wd → Prop} {X : String → Wd → Prop} {rc : TX12_variable} {dd : Nat} (hS : HSX12_variable q l rc dd) (hK : 3 ≤ dd) {w : Wd} {R : Option Int32 × Wd} (hN : ∀ r : Int32, R.1 = some r → N (some (.int r)) R.2) (hX : R.1 = none → X RAE R.2) {k_28 : Int32 → Int32 → Int32 → Int32 → Wd → Option (Option Int32 × Wd)} (hk_28 : ∀ (a1 : Int32) (a3 : Int32) (a4 : Int32) (a5 : Int32) (w : Wd), k_28 a1 a3 a4 a5 w = some R → RT (GM q) l (dd + 1) yX12_call cX12_call 7 ((some .int)) N X 28 [] [(0, .ref 0), (1, .int a1), (3, .int a3), (4, .int a4), (5, .int a5)] w) {a1 : Int32} {a3 : Int32} {a5 : Int32} {a6 : Int32} (h : fX12_call_53 rc k_28 a1 a3 a5 a6 w = some R) : RT (GM q) l (dd + 1) yX12_call cX12_call 7 ((some .int)) N X 53 [] [(0, .ref 0), (1, .int a1), (3, .int a3), (5, .int a5), (6, .int a6)] w := by
  unfold fX12_call_53 at h
  refine r_iload (pc := 53) dX12_call_53 4 rfl ?_
  refine r_istore (pc := 55) (loc' := [(4, .int a6), (0, .ref 0), (1, .int a1), (3, .int a3), (5, .int a5), (6, .int a6)]) dX12_call_55 (Nat.le_of_ble_eq_true rfl) rfl ?_
  replace h := lt_e h; obtain ⟨x1, ex1, h⟩ := h
  refine r_inc (pc := 57) (loc' := [(5, .int x1), (4, .int a6), (0, .ref 0), (1, .int a1), (3, .int a3), (6, .int a6)]) dX12_call_57 ki_1 ex1 4 rfl (Nat.le_of_ble_eq_true rfl) rfl ?_
  refine r_aload_n (pc := 60) dX12_call_60 rfl 2 rfl ?_
  refine r_bipush (pc := 61) dX12_call_61 kb_44 ?_
  replace h := be_e h; obtain ⟨o4, w3, ew3, h1, h2⟩ := h
  refine r_cVi (pc := 63) wyX12_skip oM0 rfl mlRX12_517 iyX12_skip syX12_skip ⟨Nat.succ_le_succ (Nat.le_trans (Nat.le_of_ble_eq_true rfl) hK), (Nat.le_of_ble_eq_true rfl)⟩ rfl rfl (Nat.le_of_ble_eq_true rfl) dX12_call_63 (mX12_skip ew3 (fun x2 ex2 => pI.mk ?_) (fun ez => be_x h2 ez hX))
  replace h := h1 _ ex2
  refine r_z_ne (pc := 66) dX12_call_66 rfl (fun hc5 => ?_) (fun hc5 => ?_)
  · replace h := if_t hc5 h
    refine r_drop (loc' := [(0, .ref 0), (1, .int a1), (3, .int a3), (4, .int a6), (5, .int x1)]) [2, 3, 4, 1, 0] rfl ?_
    exact hk_28 a1 a3 a6 x1 w3 h
  replace h := if_f hc5 h
  refine r_aload_n (pc := 69) dX12_call_69 rfl 2 rfl ?_
  refine r_dup (pc := 70) dX12_call_70 rfl ?_
  refine r_get (pc := 71) (j := 8) (v := .int (gi w3 0 8)) oM0 cf12 flRX12_449 rfl dX12_call_71 rfl ?_
  refine r_iconst (pc := 74) dX12_call_74 ki_1 ?_
  refine r_isub (pc := 75) dX12_call_75 ?_
  replace h := lt_e h; obtain ⟨w6, ew6, h⟩ := h
  refine r_putI (pc := 76) (j := 8) oM0 cf12 flRX12_449 rfl rfl rfl rfl dX12_call_76 ?_
  refine r_w ew6 ?_
  refine r_aload_n (pc := 79) dX12_call_79 rfl 2 rfl ?_
  refine r_bipush (pc := 80) dX12_call_80 kb_41 ?_
  replace h := be_e h; obtain ⟨o9, w8, ew8, h1, h2⟩ := h
  refine r_cVi (pc := 82) wyX12_expect oM0 rfl mlRX12_491 iyX12_expect syX12_expect ⟨Nat.succ_le_succ (Nat.le_trans (Nat.le_of_ble_eq_true rfl) hK), (Nat.le_of_ble_eq_true rfl)⟩ rfl rfl (Nat.le_of_ble_eq_true rfl) dX12_call_82 (mX12_expect ew8 (fun x7 ex7 => pI.mk ?_) (fun ez => be_x h2 ez hX))
  replace h := h1 _ ex7
  refine r_istore_n (pc := 85) (loc' := [(2, .int x7), (5, .int x1), (4, .int a6), (0, .ref 0), (1, .int a1), (3, .int a3), (6, .int a6)]) dX12_call_85 rfl (Nat.le_of_ble_eq_true rfl) rfl ?_
  refine r_aload_n (pc := 86) dX12_call_86 rfl 3 rfl ?_
  refine r_iconst (pc := 87) dX12_call_87 ki_5 ?_
  refine r_iload_n (pc := 88) dX12_call_88 rfl 5 rfl ?_
  refine r_iload (pc := 89) dX12_call_89 1 rfl ?_
  refine r_iconst (pc := 91) dX12_call_91 ki_0 ?_
  refine r_iload_n (pc := 92) dX12_call_92 rfl 4 rfl ?_
  replace h := bn2_e h; obtain ⟨x10, w11, ew11, h⟩ := h
  refine r_cVi (pc := 93) wyX12_node oM0 rfl mlRX12_500 iyX12_node syX12_node ⟨Nat.succ_le_succ (Nat.le_trans (Nat.le_of_ble_eq_true rfl) hK), (Nat.le_of_ble_eq_true rfl)⟩ rfl rfl (Nat.le_of_ble_eq_true rfl) dX12_call_93 (mX12_node ew11 (pI.mk ?_))
  exact rE_i (pc := 96) rfl dX12_call_96 h hN
def fX12_call_28 (rc : TX12_variable) (k_28 : Int32 → Int32 → Int32 → Int32 → Wd → Option (Option Int32 × Wd)) (a1 : Int32) (a3 : Int32) (a4 : Int32) (a5 : Int32) (w : Wd) : Option (Option Int32 × Wd) :=
  be (rc 4 0 0 0 w) fun x1 w2 => if 0 ≤ a3 then (if inb a4 24000 = true then lt (si w2 11 (Int32.toNatClampNeg a4) x1) fun w6 => fX12_call_53 rc k_28 a1 a3 a5 x1 w6 else none) else (fX12_call_53 rc k_28 a1 x1 a5 x1 w2)
theorem pX12_call_28 {q : Gq} {l : Launch} {N : Option Value → Wd → Prop} {X : String → Wd → Prop} {rc : TX12_variable} {dd : Nat} (hS : HSX12_variable q l rc dd) (hK : 3 ≤ dd) {w : Wd} {R : Option Int32 × Wd} (hN : ∀ r : Int32, R.1 = some r → N (some (.int r)) R.2) (hX : R.1 = none → X RAE R.2) {k_28 : Int32 → Int32 → Int32 → Int32 → Wd → Option (Option Int32 × Wd)} (hk_28 : ∀ (a1 : Int32) (a3 : Int32) (a4 : Int32) (a5 : Int32) (w : Wd), k_28 a1 a3 a4 a5 w = some R → RT (GM q) l (dd + 1) yX12_call cX12_call 7 ((some .int)) N X 28 [] [(0, .ref 0), (1, .int a1), (3, .int a3), (4, .int a4), (5, .int a5)] w) {a1 : Int32} {a3 : Int32} {a4 : Int32} {a5 : Int32} (h : fX12_call_28 rc k_28 a1 a3 a4 a5 w = some R) : RT (GM q) l (dd + 1) yX12_call cX12_call 7 ((some .int)) N X 28 [] [(0, .ref 0), (1, .int a1), (3, .int a3), (4, .int a4), (5, .int a5)] w := by
  unfold fX12_call_28 at h
  refine r_aload_n (pc := 28) dX12_call_28 rfl 0 rfl ?_
  replace h := be_e h; obtain ⟨o3, w2, ew2, h1, h2⟩ := h
  refine r_cVi (pc := 29) wyX12_expr oM0 rfl mlRX12_538 iyX12_expr syX12_expr ⟨Nat.le_refl _, (Nat.le_of_ble_eq_true rfl)⟩ rfl rfl (Nat.le_of_ble_eq_true rfl) dX12_call_29 ((hS.2.2.2.2.1 _ _ _ _ _) ew2 (fun x1 ex1 => pI.mk ?_) (fun ez => be_x h2 ez hX))
  replace h := h1 _ ex1
  refine r_istore (pc := 32) (loc' := [(6, .int x1), (0, .ref 0), (1, .int a1), (3, .int a3), (4, .int a4), (5, .int a5)]) dX12_call_32 (Nat.le_of_ble_eq_true rfl) rfl ?_
  refine r_iload_n (pc := 34) dX12_call_34 rfl 3 rfl ?_
  refine r_if_ge (pc := 35) dX12_call_35 rfl (fun hc4 => ?_) (fun hc4 => ?_)
  · replace h := if_t hc4 h
    refine r_aload_n (pc := 44) dX12_call_44 rfl 1 rfl ?_
    refine r_get (pc := 45) (j := 20) (v := .ref 11) oM0 cf12 flRX12_111 rfl dX12_call_45 rfl ?_
    refine r_iload (pc := 48) dX12_call_48 4 rfl ?_
    refine r_iload (pc := 50) dX12_call_50 0 rfl ?_
    replace h := if_n h; obtain ⟨hb5, h⟩ := h
    replace h := lt_e h; obtain ⟨w6, ew6, h⟩ := h
    refine r_iast (pc := 52) aM11 (inb_in hb5) dX12_call_52 ?_
    refine r_w ew6 ?_
    refine r_drop (loc' := [(0, .ref 0), (1, .int a1), (3, .int a3), (5, .int a5), (6, .int x1)]) [1, 2, 3, 5, 0] rfl ?_
    exact pX12_call_53 hS hK hN hX hk_28 h
  replace h := if_f hc4 h
  refine r_iload (pc := 38) dX12_call_38 0 rfl ?_
  refine r_istore_n (pc := 40) (loc' := [(3, .int x1), (6, .int x1), (0, .ref 0), (1, .int a1), (4, .int a4), (5, .int a5)]) dX12_call_40 rfl (Nat.le_of_ble_eq_true rfl) rfl ?_
  refine r_goto (pc := 41) dX12_call_41 rfl ?_
  refine r_drop (loc' := [(0, .ref 0), (1, .int a1), (3, .int x1), (5, .int a5), (6, .int x1)]) [2, 3, 0, 5, 1] rfl ?_
  exact pX12_call_53 hS hK hN hX hk_28 h
def oX12_call_28 (rc : TX12_variable) : Nat → Int32 → Int32 → Int32 → Int32 → Wd → Option (Option Int32 × Wd)
  | 0 => fun _ _ _ _ _ => none
  | n + 1 => fX12_call_28 rc (oX12_call_28 rc n)
theorem qX12_call_28 {q : Gq} {l : Launch} {N : Option Value → Wd → Prop} {X : String → Wd → Prop} {rc : TX12_variable} {dd : Nat} (hS : HSX12_variable q l rc dd) (hK : 3 ≤ dd) {R : Option Int32 × Wd} (hN : ∀ r : Int32, R.1 = some r → N (some (.int r)) R.2) (hX : R.1 = none → X RAE R.2) : ∀ (n : Nat) (a1 : Int32) (a3 : Int32) (a4 : Int32) (a5 : Int32) (w : Wd), oX12_call_28 rc n a1 a3 a4 a5 w = some R → RT (GM q) l (dd + 1) yX12_call cX12_call 7 ((some .int)) N X 28 [] [(0, .ref 0), (1, .int a1), (3, .int a3), (4, .int a4), (5, .int a5)] w := by
  intro n
  induction n with
  | zero =>
    intro a1 a3 a4 a5 w h
    exact absurd h (fun q => nomatch q)
  | succ n ih =>
    intro a1 a3 a4 a5 w h
    exact pX12_call_28 hS hK hN hX ih h
def fX12_call (rc : TX12_variable) (w : Wd) : Option (Option Int32 × Wd) :=
  be (fX12_taken w) fun x1 w2 => be (fX12_taken w2) fun x4 w5 => lt (si w5 0 8 ((gi w5 0 8) + 1)) fun w7 => oX12_call_28 rc FU x1 (-1) (-1) 0 w7
theorem pX12_call {q : Gq} {l : Launch} {N : Option Value → Wd → Prop} {X : String → Wd → Prop} {rc : TX12_variable} {dd : Nat} (hS : HSX12_variable q l rc dd) (hK : 3 ≤ dd) {w : Wd} {R : Option Int32 × Wd} (hN : ∀ r : Int32, R.1 = some r → N (some (.int r)) R.2) (hX : R.1 = none → X RAE R.2) (h : fX12_call rc w = some R) : RT (GM q) l (dd + 1) yX12_call cX12_call 7 ((some .int)) N X 0 [] [(0, .ref 0)] w := by
  unfold fX12_call at h
  refine r_aload_n (pc := 0) dX12_call_0 rfl 0 rfl ?_
  replace h := be_e h; obtain ⟨o3, w2, ew2, h1, h2⟩ := h
  refine r_cVi (pc := 1) wyX12_taken oM0 rfl mlRX12_459 iyX12_taken syX12_taken ⟨Nat.succ_le_succ (Nat.le_trans (Nat.le_of_ble_eq_true rfl) hK), (Nat.le_of_ble_eq_true rfl)⟩ rfl rfl (Nat.le_of_ble_eq_true rfl) dX12_call_1 (mX12_taken ew2 (fun x1 ex1 => pI.mk ?_) (fun ez => be_x h2 ez hX))
  replace h := h1 _ ex1
  refine r_istore_n (pc := 4) (loc' := [(1, .int x1), (0, .ref 0)]) dX12_call_4 rfl (Nat.le_of_ble_eq_true rfl) rfl ?_
  refine r_aload_n (pc := 5) dX12_call_5 rfl 1 rfl ?_
  replace h := be_e h; obtain ⟨o6, w5, ew5, h1, h2⟩ := h
  refine r_cVi (pc := 6) wyX12_taken oM0 rfl mlRX12_459 iyX12_taken syX12_taken ⟨Nat.succ_le_succ (Nat.le_trans (Nat.le_of_ble_eq_true rfl) hK), (Nat.le_of_ble_eq_true rfl)⟩ rfl rfl (Nat.le_of_ble_eq_true rfl) dX12_call_6 (mX12_taken ew5 (fun x4 ex4 => pI.mk ?_) (fun ez => be_x h2 ez hX))
  replace h := h1 _ ex4
  refine r_istore_n (pc := 9) (loc' := [(2, .int x4), (1, .int x1), (0, .ref 0)]) dX12_call_9 rfl (Nat.le_of_ble_eq_true rfl) rfl ?_
  refine r_aload_n (pc := 10) dX12_call_10 rfl 2 rfl ?_
  refine r_dup (pc := 11) dX12_call_11 rfl ?_
  refine r_get (pc := 12) (j := 8) (v := .int (gi w5 0 8)) oM0 cf12 flRX12_449 rfl dX12_call_12 rfl ?_
  refine r_iconst (pc := 15) dX12_call_15 ki_1 ?_
  refine r_iadd (pc := 16) dX12_call_16 ?_
  replace h := lt_e h; obtain ⟨w7, ew7, h⟩ := h
  refine r_putI (pc := 17) (j := 8) oM0 cf12 flRX12_449 rfl rfl rfl rfl dX12_call_17 ?_
  refine r_w ew7 ?_
  refine r_iconst (pc := 20) dX12_call_20 ki_m1 ?_
  refine r_istore_n (pc := 21) (loc' := [(3, .int (-1)), (2, .int x4), (1, .int x1), (0, .ref 0)]) dX12_call_21 rfl (Nat.le_of_ble_eq_true rfl) rfl ?_
  refine r_iconst (pc := 22) dX12_call_22 ki_m1 ?_
  refine r_istore (pc := 23) (loc' := [(4, .int (-1)), (3, .int (-1)), (2, .int x4), (1, .int x1), (0, .ref 0)]) dX12_call_23 (Nat.le_of_ble_eq_true rfl) rfl ?_
  refine r_iconst (pc := 25) dX12_call_25 ki_0 ?_
  refine r_istore (pc := 26) (loc' := [(5, .int 0), (4, .int (-1)), (3, .int (-1)), (2, .int x4), (1, .int x1), (0, .ref 0)]) dX12_call_26 (Nat.le_of_ble_eq_true rfl) rfl ?_
  refine r_drop (loc' := [(0, .ref 0), (1, .int x1), (3, .int (-1)), (4, .int (-1)), (5, .int 0)]) [5, 4, 2, 1, 0] rfl ?_
  exact qX12_call_28 hS hK hN hX FU x1 (-1) (-1) 0 w7 h
/-! AlgolMillModel.primary (I)I: E, 903 -/
theorem dX12_primary_0 : decode cX12_primary 0 = .ok (.aload_n 0, 1) := by decide +kernel
theorem dX12_primary_1 : decode cX12_primary 1 = .ok (.getfield 443, 3) := by decide +kernel
theorem dX12_primary_4 : decode cX12_primary 4 = .ok (.istore_n 2, 1) := by decide +kernel
theorem dX12_primary_5 : decode cX12_primary 5 = .ok (.aload_n 0, 1) := by decide +kernel
theorem dX12_primary_6 : decode cX12_primary 6 = .ok (.invokevirtual 452, 3) := by decide +kernel
theorem dX12_primary_9 : decode cX12_primary 9 = .ok (.lookupswitch 231 #[(40, 107), (275, 71), (276, 71), (285, 169), (286, 51)], 51) := by decide +kernel
theorem dX12_primary_60 : decode cX12_primary 60 = .ok (.aload_n 0, 1) := by decide +kernel
theorem dX12_primary_61 : decode cX12_primary 61 = .ok (.invokevirtual 459, 3) := by decide +kernel
theorem dX12_primary_64 : decode cX12_primary 64 = .ok (.istore_n 3, 1) := by decide +kernel
theorem dX12_primary_65 : decode cX12_primary 65 = .ok (.aload_n 0, 1) := by decide +kernel
theorem dX12_primary_66 : decode cX12_primary 66 = .ok (.aload_n 0, 1) := by decide +kernel
theorem dX12_primary_67 : decode cX12_primary 67 = .ok (.iconst 1, 1) := by decide +kernel
theorem dX12_primary_68 : decode cX12_primary 68 = .ok (.iconst 0, 1) := by decide +kernel
theorem dX12_primary_69 : decode cX12_primary 69 = .ok (.iconst 0, 1) := by decide +kernel
theorem dX12_primary_70 : decode cX12_primary 70 = .ok (.iconst 0, 1) := by decide +kernel
theorem dX12_primary_71 : decode cX12_primary 71 = .ok (.iload_n 2, 1) := by decide +kernel
theorem dX12_primary_72 : decode cX12_primary 72 = .ok (.invokevirtual 500, 3) := by decide +kernel
theorem dX12_primary_75 : decode cX12_primary 75 = .ok (.iconst 1, 1) := by decide +kernel
theorem dX12_primary_76 : decode cX12_primary 76 = .ok (.invokevirtual 578, 3) := by decide +kernel
theorem dX12_primary_79 : decode cX12_primary 79 = .ok (.ireturn, 1) := by decide +kernel
theorem dX12_primary_80 : decode cX12_primary 80 = .ok (.aload_n 0, 1) := by decide +kernel
theorem dX12_primary_81 : decode cX12_primary 81 = .ok (.invokevirtual 459, 3) := by decide +kernel
theorem dX12_primary_84 : decode cX12_primary 84 = .ok (.istore_n 3, 1) := by decide +kernel
theorem dX12_primary_85 : decode cX12_primary 85 = .ok (.aload_n 0, 1) := by decide +kernel
theorem dX12_primary_86 : decode cX12_primary 86 = .ok (.aload_n 0, 1) := by decide +kernel
theorem dX12_primary_87 : decode cX12_primary 87 = .ok (.iconst 2, 1) := by decide +kernel
theorem dX12_primary_88 : decode cX12_primary 88 = .ok (.aload_n 0, 1) := by decide +kernel
theorem dX12_primary_89 : decode cX12_primary 89 = .ok (.getfield 13, 3) := by decide +kernel
theorem dX12_primary_92 : decode cX12_primary 92 = .ok (.iload_n 2, 1) := by decide +kernel
theorem dX12_primary_93 : decode cX12_primary 93 = .ok (.iaload, 1) := by decide +kernel
theorem dX12_primary_94 : decode cX12_primary 94 = .ok (.sipush 275, 3) := by decide +kernel
theorem dX12_primary_97 : decode cX12_primary 97 = .ok (.if_icmp .ne 7, 3) := by decide +kernel
theorem dX12_primary_100 : decode cX12_primary 100 = .ok (.iconst 1, 1) := by decide +kernel
theorem dX12_primary_101 : decode cX12_primary 101 = .ok (.goto 4, 3) := by decide +kernel
theorem dX12_primary_104 : decode cX12_primary 104 = .ok (.iconst 0, 1) := by decide +kernel
theorem dX12_primary_105 : decode cX12_primary 105 = .ok (.iconst 0, 1) := by decide +kernel
theorem dX12_primary_106 : decode cX12_primary 106 = .ok (.iconst 0, 1) := by decide +kernel
theorem dX12_primary_107 : decode cX12_primary 107 = .ok (.iload_n 2, 1) := by decide +kernel
theorem dX12_primary_108 : decode cX12_primary 108 = .ok (.invokevirtual 500, 3) := by decide +kernel
theorem dX12_primary_111 : decode cX12_primary 111 = .ok (.iconst 1, 1) := by decide +kernel
theorem dX12_primary_112 : decode cX12_primary 112 = .ok (.invokevirtual 578, 3) := by decide +kernel
theorem dX12_primary_115 : decode cX12_primary 115 = .ok (.ireturn, 1) := by decide +kernel
theorem dX12_primary_116 : decode cX12_primary 116 = .ok (.aload_n 0, 1) := by decide +kernel
theorem dX12_primary_117 : decode cX12_primary 117 = .ok (.invokevirtual 459, 3) := by decide +kernel
theorem dX12_primary_120 : decode cX12_primary 120 = .ok (.istore_n 3, 1) := by decide +kernel
theorem dX12_primary_121 : decode cX12_primary 121 = .ok (.aload_n 0, 1) := by decide +kernel
theorem dX12_primary_122 : decode cX12_primary 122 = .ok (.dup, 1) := by decide +kernel
theorem dX12_primary_123 : decode cX12_primary 123 = .ok (.getfield 449, 3) := by decide +kernel
theorem dX12_primary_126 : decode cX12_primary 126 = .ok (.iconst 1, 1) := by decide +kernel
theorem dX12_primary_127 : decode cX12_primary 127 = .ok (.iadd, 1) := by decide +kernel
theorem dX12_primary_128 : decode cX12_primary 128 = .ok (.putfield 449, 3) := by decide +kernel
theorem dX12_primary_131 : decode cX12_primary 131 = .ok (.aload_n 0, 1) := by decide +kernel
theorem dX12_primary_132 : decode cX12_primary 132 = .ok (.iload_n 1, 1) := by decide +kernel
theorem dX12_primary_133 : decode cX12_primary 133 = .ok (.invokevirtual 581, 3) := by decide +kernel
theorem dX12_primary_136 : decode cX12_primary 136 = .ok (.istore 4, 2) := by decide +kernel
theorem dX12_primary_138 : decode cX12_primary 138 = .ok (.aload_n 0, 1) := by decide +kernel
theorem dX12_primary_139 : decode cX12_primary 139 = .ok (.dup, 1) := by decide +kernel
theorem dX12_primary_140 : decode cX12_primary 140 = .ok (.getfield 449, 3) := by decide +kernel
theorem dX12_primary_143 : decode cX12_primary 143 = .ok (.iconst 1, 1) := by decide +kernel
theorem dX12_primary_144 : decode cX12_primary 144 = .ok (.isub, 1) := by decide +kernel
theorem dX12_primary_145 : decode cX12_primary 145 = .ok (.putfield 449, 3) := by decide +kernel
theorem dX12_primary_148 : decode cX12_primary 148 = .ok (.aload_n 0, 1) := by decide +kernel
theorem dX12_primary_149 : decode cX12_primary 149 = .ok (.bipush 41, 2) := by decide +kernel
theorem dX12_primary_151 : decode cX12_primary 151 = .ok (.invokevirtual 491, 3) := by decide +kernel
theorem dX12_primary_154 : decode cX12_primary 154 = .ok (.istore_n 3, 1) := by decide +kernel
theorem dX12_primary_155 : decode cX12_primary 155 = .ok (.aload_n 0, 1) := by decide +kernel
theorem dX12_primary_156 : decode cX12_primary 156 = .ok (.aload_n 0, 1) := by decide +kernel
theorem dX12_primary_157 : decode cX12_primary 157 = .ok (.bipush 9, 2) := by decide +kernel
theorem dX12_primary_159 : decode cX12_primary 159 = .ok (.iload 4, 2) := by decide +kernel
theorem dX12_primary_161 : decode cX12_primary 161 = .ok (.iconst 0, 1) := by decide +kernel
theorem dX12_primary_162 : decode cX12_primary 162 = .ok (.iconst 0, 1) := by decide +kernel
theorem dX12_primary_163 : decode cX12_primary 163 = .ok (.iload_n 2, 1) := by decide +kernel
theorem dX12_primary_164 : decode cX12_primary 164 = .ok (.invokevirtual 500, 3) := by decide +kernel
theorem dX12_primary_167 : decode cX12_primary 167 = .ok (.aload_n 0, 1) := by decide +kernel
theorem dX12_primary_168 : decode cX12_primary 168 = .ok (.getfield 214, 3) := by decide +kernel
theorem dX12_primary_171 : decode cX12_primary 171 = .ok (.iload 4, 2) := by decide +kernel
theorem dX12_primary_173 : decode cX12_primary 173 = .ok (.iaload, 1) := by decide +kernel
theorem dX12_primary_174 : decode cX12_primary 174 = .ok (.invokevirtual 578, 3) := by decide +kernel
theorem dX12_primary_177 : decode cX12_primary 177 = .ok (.ireturn, 1) := by decide +kernel
theorem dX12_primary_178 : decode cX12_primary 178 = .ok (.aload_n 0, 1) := by decide +kernel
theorem dX12_primary_179 : decode cX12_primary 179 = .ok (.getfield 13, 3) := by decide +kernel
theorem dX12_primary_182 : decode cX12_primary 182 = .ok (.aload_n 0, 1) := by decide +kernel
theorem dX12_primary_183 : decode cX12_primary 183 = .ok (.getfield 443, 3) := by decide +kernel
theorem dX12_primary_186 : decode cX12_primary 186 = .ok (.iconst 1, 1) := by decide +kernel
theorem dX12_primary_187 : decode cX12_primary 187 = .ok (.iadd, 1) := by decide +kernel
theorem dX12_primary_188 : decode cX12_primary 188 = .ok (.iaload, 1) := by decide +kernel
theorem dX12_primary_189 : decode cX12_primary 189 = .ok (.bipush 40, 2) := by decide +kernel
theorem dX12_primary_191 : decode cX12_primary 191 = .ok (.if_icmp .ne 13, 3) := by decide +kernel
theorem dX12_primary_194 : decode cX12_primary 194 = .ok (.aload_n 0, 1) := by decide +kernel
theorem dX12_primary_195 : decode cX12_primary 195 = .ok (.aload_n 0, 1) := by decide +kernel
theorem dX12_primary_196 : decode cX12_primary 196 = .ok (.invokevirtual 575, 3) := by decide +kernel
theorem dX12_primary_199 : decode cX12_primary 199 = .ok (.iconst 1, 1) := by decide +kernel
theorem dX12_primary_200 : decode cX12_primary 200 = .ok (.invokevirtual 578, 3) := by decide +kernel
theorem dX12_primary_203 : decode cX12_primary 203 = .ok (.ireturn, 1) := by decide +kernel
theorem dX12_primary_204 : decode cX12_primary 204 = .ok (.aload_n 0, 1) := by decide +kernel
theorem dX12_primary_205 : decode cX12_primary 205 = .ok (.invokevirtual 569, 3) := by decide +kernel
theorem dX12_primary_208 : decode cX12_primary 208 = .ok (.istore_n 3, 1) := by decide +kernel
theorem dX12_primary_209 : decode cX12_primary 209 = .ok (.aload_n 0, 1) := by decide +kernel
theorem dX12_primary_210 : decode cX12_primary 210 = .ok (.iload_n 3, 1) := by decide +kernel
theorem dX12_primary_211 : decode cX12_primary 211 = .ok (.aload_n 0, 1) := by decide +kernel
theorem dX12_primary_212 : decode cX12_primary 212 = .ok (.getfield 99, 3) := by decide +kernel
theorem dX12_primary_215 : decode cX12_primary 215 = .ok (.iload_n 3, 1) := by decide +kernel
theorem dX12_primary_216 : decode cX12_primary 216 = .ok (.iaload, 1) := by decide +kernel
theorem dX12_primary_217 : decode cX12_primary 217 = .ok (.iconst 4, 1) := by decide +kernel
theorem dX12_primary_218 : decode cX12_primary 218 = .ok (.if_icmp .ne 17, 3) := by decide +kernel
theorem dX12_primary_221 : decode cX12_primary 221 = .ok (.aload_n 0, 1) := by decide +kernel
theorem dX12_primary_222 : decode cX12_primary 222 = .ok (.getfield 105, 3) := by decide +kernel
theorem dX12_primary_225 : decode cX12_primary 225 = .ok (.iload_n 3, 1) := by decide +kernel
theorem dX12_primary_226 : decode cX12_primary 226 = .ok (.iaload, 1) := by decide +kernel
theorem dX12_primary_227 : decode cX12_primary 227 = .ok (.iconst 1, 1) := by decide +kernel
theorem dX12_primary_228 : decode cX12_primary 228 = .ok (.if_icmp .eq 7, 3) := by decide +kernel
theorem dX12_primary_231 : decode cX12_primary 231 = .ok (.iconst 1, 1) := by decide +kernel
theorem dX12_primary_232 : decode cX12_primary 232 = .ok (.goto 4, 3) := by decide +kernel
theorem dX12_primary_235 : decode cX12_primary 235 = .ok (.iconst 3, 1) := by decide +kernel
theorem dX12_primary_236 : decode cX12_primary 236 = .ok (.invokevirtual 578, 3) := by decide +kernel
theorem dX12_primary_239 : decode cX12_primary 239 = .ok (.ireturn, 1) := by decide +kernel
theorem dX12_primary_240 : decode cX12_primary 240 = .ok (.aload_n 0, 1) := by decide +kernel
theorem dX12_primary_241 : decode cX12_primary 241 = .ok (.invokevirtual 455, 3) := by decide +kernel
theorem dX12_primary_244 : decode cX12_primary 244 = .ok (.athrow, 1) := by decide +kernel
def fX12_primary_105 (rc : TX12_variable) (s2 : Int32) (s3 : Bool) (a2 : Int32) (w : Wd) : Option (Option Int32 × Wd) :=
  bn2 (fX12_node s2 (b2i s3) 0 0 a2 w) fun x1 w2 => bn2 (fX12_may x1 1 w2) fun x3 w4 => some (some x3, w4)
theorem pX12_primary_105 {q : Gq} {l : Launch} {N : Option Value → Wd → Prop} {X : String → Wd → Prop} {rc : TX12_variable} {dd : Nat} (hS : HSX12_variable q l rc dd) (hK : 3 ≤ dd) {w : Wd} {R : Option Int32 × Wd} (hN : ∀ r : Int32, R.1 = some r → N (some (.int r)) R.2) (hX : R.1 = none → X RAE R.2) {s2 : Int32} {s3 : Bool} {a2 : Int32} (h : fX12_primary_105 rc s2 s3 a2 w = some R) : RT (GM q) l (dd + 1) yX12_primary cX12_primary 5 ((some .int)) N X 105 [.int (b2i s3), .int s2, .ref 0, .ref 0] [(2, .int a2)] w := by
  unfold fX12_primary_105 at h
  refine r_iconst (pc := 105) dX12_primary_105 ki_0 ?_
  refine r_iconst (pc := 106) dX12_primary_106 ki_0 ?_
  refine r_iload_n (pc := 107) dX12_primary_107 rfl 0 rfl ?_
  replace h := bn2_e h; obtain ⟨x1, w2, ew2, h⟩ := h
  refine r_cVi (pc := 108) wyX12_node oM0 rfl mlRX12_500 iyX12_node syX12_node ⟨Nat.succ_le_succ (Nat.le_trans (Nat.le_of_ble_eq_true rfl) hK), (Nat.le_of_ble_eq_true rfl)⟩ rfl rfl (Nat.le_of_ble_eq_true rfl) dX12_primary_108 (mX12_node ew2 (pI.mk ?_))
  refine r_iconst (pc := 111) dX12_primary_111 ki_1 ?_
  replace h := bn2_e h; obtain ⟨x3, w4, ew4, h⟩ := h
  refine r_cVi (pc := 112) wyX12_may oM0 rfl mlRX12_578 iyX12_may syX12_may ⟨Nat.succ_le_succ (Nat.le_trans (Nat.le_of_ble_eq_true rfl) hK), (Nat.le_of_ble_eq_true rfl)⟩ rfl rfl (Nat.le_of_ble_eq_true rfl) dX12_primary_112 (mX12_may ew4 (pI.mk ?_))
  exact rE_i (pc := 115) rfl dX12_primary_115 h hN
def fX12_primary (rc : TX12_variable) (a1 : Int32) (w : Wd) : Option (Option Int32 × Wd) :=
  lt ((gi w 0 7)) fun x1 => bn2 (fX12_kind w) fun x2 w3 => if x2 = 40 then (be (fX12_taken w3) fun x5 w6 => lt (si w6 0 8 ((gi w6 0 8) + 1)) fun w8 => be (rc 5 a1 0 0 w8) fun x9 w10 => lt (si w10 0 8 ((gi w10 0 8) - 1)) fun w12 => be (fX12_expect 41 w12) fun x13 w14 => bn2 (fX12_node 9 x9 0 0 x1 w14) fun x16 w17 => if inb x9 24000 = true then bn2 (fX12_may x16 (gi w17 45 (Int32.toNatClampNeg x9)) w17) fun x19 w20 => some (some x19, w20) else none) else if x2 = 275 ∨ x2 = 276 then (be (fX12_taken w3) fun x22 w23 => if inb x1 8194 = true then if (gi w23 2 (Int32.toNatClampNeg x1)) = 275 then (fX12_primary_105 rc 2 true x1 w23) else (fX12_primary_105 rc 2 false x1 w23) else none) else if x2 = 285 then (if inb ((gi w3 0 7) + 1) 8194 = true then if (gi w3 2 (Int32.toNatClampNeg ((gi w3 0 7) + 1))) = 40 then (be (rc 2 0 0 0 w3) fun x30 w31 => bn2 (fX12_may x30 1 w31) fun x33 w34 => some (some x33, w34)) else (be (rc 0 0 0 0 w3) fun x35 w36 => if inb x35 24000 = true then if (gi w36 7 (Int32.toNatClampNeg x35)) = 4 then (if inb x35 24000 = true then if (gi w36 9 (Int32.toNatClampNeg x35)) = 1 then (bn2 (fX12_may x35 3 w36) fun x42 w43 => some (some x42, w43)) else (bn2 (fX12_may x35 1 w36) fun x44 w45 => some (some x44, w45)) else none) else (bn2 (fX12_may x35 3 w36) fun x46 w47 => some (some x46, w47)) else none) else none) else if x2 = 286 then (be (fX12_taken w3) fun x49 w50 => bn2 (fX12_node 1 0 0 0 x1 w50) fun x52 w53 => bn2 (fX12_may x52 1 w53) fun x54 w55 => some (some x54, w55)) else (bn (fX12_bad w3) fun w56 => some (none, w56))
set_option maxHeartbeats 16000000 in
theorem pX12_primary {q : Gq} {l : Launch} {N : Option Value → Wd → Prop} {X : String → Wd → Prop} {rc : TX12_variable} {dd : Nat} (hS : HSX12_variable q l rc dd) (hK : 3 ≤ dd) {w : Wd} {R : Option Int32 × Wd} (hN : ∀ r : Int32, R.1 = some r → N (some (.int r)) R.2) (hX : R.1 = none → X RAE R.2) {a1 : Int32} (h : fX12_primary rc a1 w = some R) : RT (GM q) l (dd + 1) yX12_primary cX12_primary 5 ((some .int)) N X 0 [] [(0, .ref 0), (1, .int a1)] w := by
  unfold fX12_primary at h
  refine r_aload_n (pc := 0) dX12_primary_0 rfl 0 rfl ?_
  refine r_get (pc := 1) (j := 7) (v := .int (gi w 0 7)) oM0 cf12 flRX12_443 rfl dX12_primary_1 rfl ?_
  replace h := lt_e h; obtain ⟨x1, ex1, h⟩ := h
  refine r_topi ex1 ?_
  refine r_istore_n (pc := 4) (loc' := [(2, .int x1), (0, .ref 0), (1, .int a1)]) dX12_primary_4 rfl (Nat.le_of_ble_eq_true rfl) rfl ?_
  refine r_aload_n (pc := 5) dX12_primary_5 rfl 1 rfl ?_
  replace h := bn2_e h; obtain ⟨x2, w3, ew3, h⟩ := h
  refine r_cVi (pc := 6) wyX12_kind oM0 rfl mlRX12_452 iyX12_kind syX12_kind ⟨Nat.succ_le_succ (Nat.le_trans (Nat.le_of_ble_eq_true rfl) hK), (Nat.le_of_ble_eq_true rfl)⟩ rfl rfl (Nat.le_of_ble_eq_true rfl) dX12_primary_6 (mX12_kind ew3 (pI.mk ?_))
  by_cases hc4 : x2 = 40
  · refine r_lkC (pc := 9) (off := 107) (tgt := 116) (L := [40]) dX12_primary_9 (by decide) hc4 (by decide) rfl ?_
    replace h := if_t hc4 h
    refine r_aload_n (pc := 116) dX12_primary_116 rfl 1 rfl ?_
    replace h := be_e h; obtain ⟨o7, w6, ew6, h1, h2⟩ := h
    refine r_cVi (pc := 117) wyX12_taken oM0 rfl mlRX12_459 iyX12_taken syX12_taken ⟨Nat.succ_le_succ (Nat.le_trans (Nat.le_of_ble_eq_true rfl) hK), (Nat.le_of_ble_eq_true rfl)⟩ rfl rfl (Nat.le_of_ble_eq_true rfl) dX12_primary_117 (mX12_taken ew6 (fun x5 ex5 => pI.mk ?_) (fun ez => be_x h2 ez hX))
    replace h := h1 _ ex5
    refine r_istore_n (pc := 120) (loc' := [(3, .int x5), (2, .int x1), (0, .ref 0), (1, .int a1)]) dX12_primary_120 rfl (Nat.le_of_ble_eq_true rfl) rfl ?_
    refine r_aload_n (pc := 121) dX12_primary_121 rfl 2 rfl ?_
    refine r_dup (pc := 122) dX12_primary_122 rfl ?_
    refine r_get (pc := 123) (j := 8) (v := .int (gi w6 0 8)) oM0 cf12 flRX12_449 rfl dX12_primary_123 rfl ?_
    refine r_iconst (pc := 126) dX12_primary_126 ki_1 ?_
    refine r_iadd (pc := 127) dX12_primary_127 ?_
    replace h := lt_e h; obtain ⟨w8, ew8, h⟩ := h
    refine r_putI (pc := 128) (j := 8) oM0 cf12 flRX12_449 rfl rfl rfl rfl dX12_primary_128 ?_
    refine r_w ew8 ?_
    refine r_aload_n (pc := 131) dX12_primary_131 rfl 2 rfl ?_
    refine r_iload_n (pc := 132) dX12_primary_132 rfl 3 rfl ?_
    replace h := be_e h; obtain ⟨o11, w10, ew10, h1, h2⟩ := h
    refine r_cVi (pc := 133) wyX12_whole oM0 rfl mlRX12_581 iyX12_whole syX12_whole ⟨Nat.le_refl _, (Nat.le_of_ble_eq_true rfl)⟩ rfl rfl (Nat.le_of_ble_eq_true rfl) dX12_primary_133 ((hS.2.2.2.2.2.1 _ _ _ _ _ _) ew10 (fun x9 ex9 => pI.mk ?_) (fun ez => be_x h2 ez hX))
    replace h := h1 _ ex9
    refine r_istore (pc := 136) (loc' := [(4, .int x9), (3, .int x5), (2, .int x1), (0, .ref 0), (1, .int a1)]) dX12_primary_136 (Nat.le_of_ble_eq_true rfl) rfl ?_
    refine r_aload_n (pc := 138) dX12_primary_138 rfl 3 rfl ?_
    refine r_dup (pc := 139) dX12_primary_139 rfl ?_
    refine r_get (pc := 140) (j := 8) (v := .int (gi w10 0 8)) oM0 cf12 flRX12_449 rfl dX12_primary_140 rfl ?_
    refine r_iconst (pc := 143) dX12_primary_143 ki_1 ?_
    refine r_isub (pc := 144) dX12_primary_144 ?_
    replace h := lt_e h; obtain ⟨w12, ew12, h⟩ := h
    refine r_putI (pc := 145) (j := 8) oM0 cf12 flRX12_449 rfl rfl rfl rfl dX12_primary_145 ?_
    refine r_w ew12 ?_
    refine r_aload_n (pc := 148) dX12_primary_148 rfl 3 rfl ?_
    refine r_bipush (pc := 149) dX12_primary_149 kb_41 ?_
    replace h := be_e h; obtain ⟨o15, w14, ew14, h1, h2⟩ := h
    refine r_cVi (pc := 151) wyX12_expect oM0 rfl mlRX12_491 iyX12_expect syX12_expect ⟨Nat.succ_le_succ (Nat.le_trans (Nat.le_of_ble_eq_true rfl) hK), (Nat.le_of_ble_eq_true rfl)⟩ rfl rfl (Nat.le_of_ble_eq_true rfl) dX12_primary_151 (mX12_expect ew14 (fun x13 ex13 => pI.mk ?_) (fun ez => be_x h2 ez hX))
    replace h := h1 _ ex13
    refine r_istore_n (pc := 154) (loc' := [(3, .int x13), (4, .int x9), (2, .int x1), (0, .ref 0), (1, .int a1)]) dX12_primary_154 rfl (Nat.le_of_ble_eq_true rfl) rfl ?_
    refine r_aload_n (pc := 155) dX12_primary_155 rfl 3 rfl ?_
    refine r_aload_n (pc := 156) dX12_primary_156 rfl 3 rfl ?_
    refine r_bipush (pc := 157) dX12_primary_157 kb_9 ?_
    refine r_iload (pc := 159) dX12_primary_159 1 rfl ?_
    refine r_iconst (pc := 161) dX12_primary_161 ki_0 ?_
    refine r_iconst (pc := 162) dX12_primary_162 ki_0 ?_
    refine r_iload_n (pc := 163) dX12_primary_163 rfl 2 rfl ?_
    replace h := bn2_e h; obtain ⟨x16, w17, ew17, h⟩ := h
    refine r_cVi (pc := 164) wyX12_node oM0 rfl mlRX12_500 iyX12_node syX12_node ⟨Nat.succ_le_succ (Nat.le_trans (Nat.le_of_ble_eq_true rfl) hK), (Nat.le_of_ble_eq_true rfl)⟩ rfl rfl (Nat.le_of_ble_eq_true rfl) dX12_primary_164 (mX12_node ew17 (pI.mk ?_))
    refine r_aload_n (pc := 167) dX12_primary_167 rfl 3 rfl ?_
    refine r_get (pc := 168) (j := 62) (v := .ref 45) oM0 cf12 flRX12_214 rfl dX12_primary_168 rfl ?_
    refine r_iload (pc := 171) dX12_primary_171 1 rfl ?_
    replace h := if_n h; obtain ⟨hb18, h⟩ := h
    refine r_iald (pc := 173) aM45 (inb_in hb18) dX12_primary_173 ?_
    replace h := bn2_e h; obtain ⟨x19, w20, ew20, h⟩ := h
    refine r_cVi (pc := 174) wyX12_may oM0 rfl mlRX12_578 iyX12_may syX12_may ⟨Nat.succ_le_succ (Nat.le_trans (Nat.le_of_ble_eq_true rfl) hK), (Nat.le_of_ble_eq_true rfl)⟩ rfl rfl (Nat.le_of_ble_eq_true rfl) dX12_primary_174 (mX12_may ew20 (pI.mk ?_))
    exact rE_i (pc := 177) rfl dX12_primary_177 h hN
  replace h := if_f hc4 h
  by_cases hc21 : x2 = 275 ∨ x2 = 276
  · refine r_lkC (pc := 9) (off := 71) (tgt := 80) (L := [275, 276]) dX12_primary_9 (by decide) hc21 (by decide) rfl ?_
    replace h := if_t hc21 h
    refine r_aload_n (pc := 80) dX12_primary_80 rfl 1 rfl ?_
    replace h := be_e h; obtain ⟨o24, w23, ew23, h1, h2⟩ := h
    refine r_cVi (pc := 81) wyX12_taken oM0 rfl mlRX12_459 iyX12_taken syX12_taken ⟨Nat.succ_le_succ (Nat.le_trans (Nat.le_of_ble_eq_true rfl) hK), (Nat.le_of_ble_eq_true rfl)⟩ rfl rfl (Nat.le_of_ble_eq_true rfl) dX12_primary_81 (mX12_taken ew23 (fun x22 ex22 => pI.mk ?_) (fun ez => be_x h2 ez hX))
    replace h := h1 _ ex22
    refine r_istore_n (pc := 84) (loc' := [(3, .int x22), (2, .int x1), (0, .ref 0), (1, .int a1)]) dX12_primary_84 rfl (Nat.le_of_ble_eq_true rfl) rfl ?_
    refine r_aload_n (pc := 85) dX12_primary_85 rfl 2 rfl ?_
    refine r_aload_n (pc := 86) dX12_primary_86 rfl 2 rfl ?_
    refine r_iconst (pc := 87) dX12_primary_87 ki_2 ?_
    refine r_aload_n (pc := 88) dX12_primary_88 rfl 2 rfl ?_
    refine r_get (pc := 89) (j := 3) (v := .ref 2) oM0 cf12 flRX12_13 rfl dX12_primary_89 rfl ?_
    refine r_iload_n (pc := 92) dX12_primary_92 rfl 1 rfl ?_
    replace h := if_n h; obtain ⟨hb25, h⟩ := h
    refine r_iald (pc := 93) aM2 (inb_in hb25) dX12_primary_93 ?_
    refine r_sipush (pc := 94) dX12_primary_94 ks_275 ?_
    refine r_icmp_ne (pc := 97) dX12_primary_97 rfl (fun hc26 => ?_) (fun hc26 => ?_)
    · replace h := if_f hc26 h
      refine r_iconst (pc := 104) dX12_primary_104 ki_0 ?_
      refine r_drop (loc' := [(2, .int x1)]) [1] rfl ?_
      exact pX12_primary_105 hS hK hN hX h
    replace h := if_t hc26 h
    refine r_iconst (pc := 100) dX12_primary_100 ki_1 ?_
    refine r_goto (pc := 101) dX12_primary_101 rfl ?_
    refine r_drop (loc' := [(2, .int x1)]) [1] rfl ?_
    exact pX12_primary_105 hS hK hN hX h
  replace h := if_f hc21 h
  by_cases hc27 : x2 = 285
  · refine r_lkC (pc := 9) (off := 169) (tgt := 178) (L := [285]) dX12_primary_9 (by decide) hc27 (by decide) rfl ?_
    replace h := if_t hc27 h
    refine r_aload_n (pc := 178) dX12_primary_178 rfl 1 rfl ?_
    refine r_get (pc := 179) (j := 3) (v := .ref 2) oM0 cf12 flRX12_13 rfl dX12_primary_179 rfl ?_
    refine r_aload_n (pc := 182) dX12_primary_182 rfl 1 rfl ?_
    refine r_get (pc := 183) (j := 7) (v := .int (gi w3 0 7)) oM0 cf12 flRX12_443 rfl dX12_primary_183 rfl ?_
    refine r_iconst (pc := 186) dX12_primary_186 ki_1 ?_
    refine r_iadd (pc := 187) dX12_primary_187 ?_
    replace h := if_n h; obtain ⟨hb28, h⟩ := h
    refine r_iald (pc := 188) aM2 (inb_in hb28) dX12_primary_188 ?_
    refine r_bipush (pc := 189) dX12_primary_189 kb_40 ?_
    refine r_icmp_ne (pc := 191) dX12_primary_191 rfl (fun hc29 => ?_) (fun hc29 => ?_)
    · replace h := if_f hc29 h
      refine r_aload_n (pc := 204) dX12_primary_204 rfl 1 rfl ?_
      replace h := be_e h; obtain ⟨o37, w36, ew36, h1, h2⟩ := h
      refine r_cVi (pc := 205) wyX12_variable oM0 rfl mlRX12_569 iyX12_variable syX12_variable ⟨Nat.le_refl _, (Nat.le_of_ble_eq_true rfl)⟩ rfl rfl (Nat.le_of_ble_eq_true rfl) dX12_primary_205 ((hS.1 _ _ _ _ _) ew36 (fun x35 ex35 => pI.mk ?_) (fun ez => be_x h2 ez hX))
      replace h := h1 _ ex35
      refine r_istore_n (pc := 208) (loc' := [(3, .int x35), (2, .int x1), (0, .ref 0), (1, .int a1)]) dX12_primary_208 rfl (Nat.le_of_ble_eq_true rfl) rfl ?_
      refine r_aload_n (pc := 209) dX12_primary_209 rfl 2 rfl ?_
      refine r_iload_n (pc := 210) dX12_primary_210 rfl 0 rfl ?_
      refine r_aload_n (pc := 211) dX12_primary_211 rfl 2 rfl ?_
      refine r_get (pc := 212) (j := 16) (v := .ref 7) oM0 cf12 flRX12_99 rfl dX12_primary_212 rfl ?_
      refine r_iload_n (pc := 215) dX12_primary_215 rfl 0 rfl ?_
      replace h := if_n h; obtain ⟨hb38, h⟩ := h
      refine r_iald (pc := 216) aM7 (inb_in hb38) dX12_primary_216 ?_
      refine r_iconst (pc := 217) dX12_primary_217 ki_4 ?_
      refine r_icmp_ne (pc := 218) dX12_primary_218 rfl (fun hc39 => ?_) (fun hc39 => ?_)
      · replace h := if_f hc39 h
        refine r_iconst (pc := 235) dX12_primary_235 ki_3 ?_
        replace h := bn2_e h; obtain ⟨x46, w47, ew47, h⟩ := h
        refine r_cVi (pc := 236) wyX12_may oM0 rfl mlRX12_578 iyX12_may syX12_may ⟨Nat.succ_le_succ (Nat.le_trans (Nat.le_of_ble_eq_true rfl) hK), (Nat.le_of_ble_eq_true rfl)⟩ rfl rfl (Nat.le_of_ble_eq_true rfl) dX12_primary_236 (mX12_may ew47 (pI.mk ?_))
        exact rE_i (pc := 239) rfl dX12_primary_239 h hN
      replace h := if_t hc39 h
      refine r_aload_n (pc := 221) dX12_primary_221 rfl 2 rfl ?_
      refine r_get (pc := 222) (j := 18) (v := .ref 9) oM0 cf12 flRX12_105 rfl dX12_primary_222 rfl ?_
      refine r_iload_n (pc := 225) dX12_primary_225 rfl 0 rfl ?_
      replace h := if_n h; obtain ⟨hb40, h⟩ := h
      refine r_iald (pc := 226) aM9 (inb_in hb40) dX12_primary_226 ?_
      refine r_iconst (pc := 227) dX12_primary_227 ki_1 ?_
      refine r_icmp_eq (pc := 228) dX12_primary_228 rfl (fun hc41 => ?_) (fun hc41 => ?_)
      · replace h := if_t hc41 h
        refine r_iconst (pc := 235) dX12_primary_235 ki_3 ?_
        replace h := bn2_e h; obtain ⟨x42, w43, ew43, h⟩ := h
        refine r_cVi (pc := 236) wyX12_may oM0 rfl mlRX12_578 iyX12_may syX12_may ⟨Nat.succ_le_succ (Nat.le_trans (Nat.le_of_ble_eq_true rfl) hK), (Nat.le_of_ble_eq_true rfl)⟩ rfl rfl (Nat.le_of_ble_eq_true rfl) dX12_primary_236 (mX12_may ew43 (pI.mk ?_))
        exact rE_i (pc := 239) rfl dX12_primary_239 h hN
      replace h := if_f hc41 h
      refine r_iconst (pc := 231) dX12_primary_231 ki_1 ?_
      refine r_goto (pc := 232) dX12_primary_232 rfl ?_
      replace h := bn2_e h; obtain ⟨x44, w45, ew45, h⟩ := h
      refine r_cVi (pc := 236) wyX12_may oM0 rfl mlRX12_578 iyX12_may syX12_may ⟨Nat.succ_le_succ (Nat.le_trans (Nat.le_of_ble_eq_true rfl) hK), (Nat.le_of_ble_eq_true rfl)⟩ rfl rfl (Nat.le_of_ble_eq_true rfl) dX12_primary_236 (mX12_may ew45 (pI.mk ?_))
      exact rE_i (pc := 239) rfl dX12_primary_239 h hN
    replace h := if_t hc29 h
    refine r_aload_n (pc := 194) dX12_primary_194 rfl 1 rfl ?_
    refine r_aload_n (pc := 195) dX12_primary_195 rfl 1 rfl ?_
    replace h := be_e h; obtain ⟨o32, w31, ew31, h1, h2⟩ := h
    refine r_cVi (pc := 196) wyX12_call oM0 rfl mlRX12_575 iyX12_call syX12_call ⟨Nat.le_refl _, (Nat.le_of_ble_eq_true rfl)⟩ rfl rfl (Nat.le_of_ble_eq_true rfl) dX12_primary_196 ((hS.2.2.1 _ _ _ _ _) ew31 (fun x30 ex30 => pI.mk ?_) (fun ez => be_x h2 ez hX))
    replace h := h1 _ ex30
    refine r_iconst (pc := 199) dX12_primary_199 ki_1 ?_
    replace h := bn2_e h; obtain ⟨x33, w34, ew34, h⟩ := h
    refine r_cVi (pc := 200) wyX12_may oM0 rfl mlRX12_578 iyX12_may syX12_may ⟨Nat.succ_le_succ (Nat.le_trans (Nat.le_of_ble_eq_true rfl) hK), (Nat.le_of_ble_eq_true rfl)⟩ rfl rfl (Nat.le_of_ble_eq_true rfl) dX12_primary_200 (mX12_may ew34 (pI.mk ?_))
    exact rE_i (pc := 203) rfl dX12_primary_203 h hN
  replace h := if_f hc27 h
  by_cases hc48 : x2 = 286
  · refine r_lkC (pc := 9) (off := 51) (tgt := 60) (L := [286]) dX12_primary_9 (by decide) hc48 (by decide) rfl ?_
    replace h := if_t hc48 h
    refine r_aload_n (pc := 60) dX12_primary_60 rfl 1 rfl ?_
    replace h := be_e h; obtain ⟨o51, w50, ew50, h1, h2⟩ := h
    refine r_cVi (pc := 61) wyX12_taken oM0 rfl mlRX12_459 iyX12_taken syX12_taken ⟨Nat.succ_le_succ (Nat.le_trans (Nat.le_of_ble_eq_true rfl) hK), (Nat.le_of_ble_eq_true rfl)⟩ rfl rfl (Nat.le_of_ble_eq_true rfl) dX12_primary_61 (mX12_taken ew50 (fun x49 ex49 => pI.mk ?_) (fun ez => be_x h2 ez hX))
    replace h := h1 _ ex49
    refine r_istore_n (pc := 64) (loc' := [(3, .int x49), (2, .int x1), (0, .ref 0), (1, .int a1)]) dX12_primary_64 rfl (Nat.le_of_ble_eq_true rfl) rfl ?_
    refine r_aload_n (pc := 65) dX12_primary_65 rfl 2 rfl ?_
    refine r_aload_n (pc := 66) dX12_primary_66 rfl 2 rfl ?_
    refine r_iconst (pc := 67) dX12_primary_67 ki_1 ?_
    refine r_iconst (pc := 68) dX12_primary_68 ki_0 ?_
    refine r_iconst (pc := 69) dX12_primary_69 ki_0 ?_
    refine r_iconst (pc := 70) dX12_primary_70 ki_0 ?_
    refine r_iload_n (pc := 71) dX12_primary_71 rfl 1 rfl ?_
    replace h := bn2_e h; obtain ⟨x52, w53, ew53, h⟩ := h
    refine r_cVi (pc := 72) wyX12_node oM0 rfl mlRX12_500 iyX12_node syX12_node ⟨Nat.succ_le_succ (Nat.le_trans (Nat.le_of_ble_eq_true rfl) hK), (Nat.le_of_ble_eq_true rfl)⟩ rfl rfl (Nat.le_of_ble_eq_true rfl) dX12_primary_72 (mX12_node ew53 (pI.mk ?_))
    refine r_iconst (pc := 75) dX12_primary_75 ki_1 ?_
    replace h := bn2_e h; obtain ⟨x54, w55, ew55, h⟩ := h
    refine r_cVi (pc := 76) wyX12_may oM0 rfl mlRX12_578 iyX12_may syX12_may ⟨Nat.succ_le_succ (Nat.le_trans (Nat.le_of_ble_eq_true rfl) hK), (Nat.le_of_ble_eq_true rfl)⟩ rfl rfl (Nat.le_of_ble_eq_true rfl) dX12_primary_76 (mX12_may ew55 (pI.mk ?_))
    exact rE_i (pc := 79) rfl dX12_primary_79 h hN
  replace h := if_f hc48 h
  refine r_lkD (pc := 9) (tgt := 240) (K := [[40], [275, 276], [285], [286]]) dX12_primary_9 (by decide) ⟨hc4, hc21, hc27, hc48, trivial⟩ (by decide) rfl ?_
  refine r_aload_n (pc := 240) dX12_primary_240 rfl 1 rfl ?_
  replace h := bn_e h; obtain ⟨w56, ew56, h⟩ := h
  refine r_cVr (pc := 241) wyX12_bad oM0 rfl mlRX12_455 iyX12_bad syX12_bad ⟨Nat.succ_le_succ (Nat.le_trans (Nat.le_of_ble_eq_true rfl) hK), (Nat.le_of_ble_eq_true rfl)⟩ rfl rfl (Nat.le_of_ble_eq_true rfl) dX12_primary_241 (mX12_bad ew56 (pR.mk ?_))
  exact rE_x (pc := 244) oM5 dX12_primary_244 h hX
/-! AlgolMillModel.level (II)I: E, 903 -/
theorem dX12_level_0 : decode cX12_level 0 = .ok (.iload_n 1, 1) := by decide +kernel
theorem dX12_level_1 : decode cX12_level 1 = .ok (.bipush 10, 2) := by decide +kernel
theorem dX12_level_3 : decode cX12_level 3 = .ok (.if_icmp .ne 9, 3) := by decide +kernel
theorem dX12_level_6 : decode cX12_level 6 = .ok (.aload_n 0, 1) := by decide +kernel
theorem dX12_level_7 : decode cX12_level 7 = .ok (.iload_n 2, 1) := by decide +kernel
theorem dX12_level_8 : decode cX12_level 8 = .ok (.invokevirtual 590, 3) := by decide +kernel
theorem dX12_level_11 : decode cX12_level 11 = .ok (.ireturn, 1) := by decide +kernel
theorem dX12_level_12 : decode cX12_level 12 = .ok (.aload_n 0, 1) := by decide +kernel
theorem dX12_level_13 : decode cX12_level 13 = .ok (.getfield 443, 3) := by decide +kernel
theorem dX12_level_16 : decode cX12_level 16 = .ok (.istore_n 3, 1) := by decide +kernel
theorem dX12_level_17 : decode cX12_level 17 = .ok (.iload_n 1, 1) := by decide +kernel
theorem dX12_level_18 : decode cX12_level 18 = .ok (.iconst 5, 1) := by decide +kernel
theorem dX12_level_19 : decode cX12_level 19 = .ok (.if_icmp .ne 66, 3) := by decide +kernel
theorem dX12_level_22 : decode cX12_level 22 = .ok (.aload_n 0, 1) := by decide +kernel
theorem dX12_level_23 : decode cX12_level 23 = .ok (.invokevirtual 452, 3) := by decide +kernel
theorem dX12_level_26 : decode cX12_level 26 = .ok (.sipush 281, 3) := by decide +kernel
theorem dX12_level_29 : decode cX12_level 29 = .ok (.if_icmp .ne 56, 3) := by decide +kernel
theorem dX12_level_32 : decode cX12_level 32 = .ok (.aload_n 0, 1) := by decide +kernel
theorem dX12_level_33 : decode cX12_level 33 = .ok (.invokevirtual 459, 3) := by decide +kernel
theorem dX12_level_36 : decode cX12_level 36 = .ok (.istore 4, 2) := by decide +kernel
theorem dX12_level_38 : decode cX12_level 38 = .ok (.aload_n 0, 1) := by decide +kernel
theorem dX12_level_39 : decode cX12_level 39 = .ok (.dup, 1) := by decide +kernel
theorem dX12_level_40 : decode cX12_level 40 = .ok (.getfield 449, 3) := by decide +kernel
theorem dX12_level_43 : decode cX12_level 43 = .ok (.iconst 1, 1) := by decide +kernel
theorem dX12_level_44 : decode cX12_level 44 = .ok (.iadd, 1) := by decide +kernel
theorem dX12_level_45 : decode cX12_level 45 = .ok (.putfield 449, 3) := by decide +kernel
theorem dX12_level_48 : decode cX12_level 48 = .ok (.aload_n 0, 1) := by decide +kernel
theorem dX12_level_49 : decode cX12_level 49 = .ok (.iconst 5, 1) := by decide +kernel
theorem dX12_level_50 : decode cX12_level 50 = .ok (.iconst 1, 1) := by decide +kernel
theorem dX12_level_51 : decode cX12_level 51 = .ok (.invokevirtual 587, 3) := by decide +kernel
theorem dX12_level_54 : decode cX12_level 54 = .ok (.istore 5, 2) := by decide +kernel
theorem dX12_level_56 : decode cX12_level 56 = .ok (.aload_n 0, 1) := by decide +kernel
theorem dX12_level_57 : decode cX12_level 57 = .ok (.dup, 1) := by decide +kernel
theorem dX12_level_58 : decode cX12_level 58 = .ok (.getfield 449, 3) := by decide +kernel
theorem dX12_level_61 : decode cX12_level 61 = .ok (.iconst 1, 1) := by decide +kernel
theorem dX12_level_62 : decode cX12_level 62 = .ok (.isub, 1) := by decide +kernel
theorem dX12_level_63 : decode cX12_level 63 = .ok (.putfield 449, 3) := by decide +kernel
theorem dX12_level_66 : decode cX12_level 66 = .ok (.aload_n 0, 1) := by decide +kernel
theorem dX12_level_67 : decode cX12_level 67 = .ok (.aload_n 0, 1) := by decide +kernel
theorem dX12_level_68 : decode cX12_level 68 = .ok (.bipush 7, 2) := by decide +kernel
theorem dX12_level_70 : decode cX12_level 70 = .ok (.iload 5, 2) := by decide +kernel
theorem dX12_level_72 : decode cX12_level 72 = .ok (.sipush 281, 3) := by decide +kernel
theorem dX12_level_75 : decode cX12_level 75 = .ok (.iconst 0, 1) := by decide +kernel
theorem dX12_level_76 : decode cX12_level 76 = .ok (.iload_n 3, 1) := by decide +kernel
theorem dX12_level_77 : decode cX12_level 77 = .ok (.invokevirtual 500, 3) := by decide +kernel
theorem dX12_level_80 : decode cX12_level 80 = .ok (.iconst 1, 1) := by decide +kernel
theorem dX12_level_81 : decode cX12_level 81 = .ok (.invokevirtual 578, 3) := by decide +kernel
theorem dX12_level_84 : decode cX12_level 84 = .ok (.ireturn, 1) := by decide +kernel
theorem dX12_level_85 : decode cX12_level 85 = .ok (.iload_n 1, 1) := by decide +kernel
theorem dX12_level_86 : decode cX12_level 86 = .ok (.bipush 7, 2) := by decide +kernel
theorem dX12_level_88 : decode cX12_level 88 = .ok (.if_icmp .ne 63, 3) := by decide +kernel
theorem dX12_level_91 : decode cX12_level 91 = .ok (.aload_n 0, 1) := by decide +kernel
theorem dX12_level_92 : decode cX12_level 92 = .ok (.invokevirtual 452, 3) := by decide +kernel
theorem dX12_level_95 : decode cX12_level 95 = .ok (.bipush 43, 2) := by decide +kernel
theorem dX12_level_97 : decode cX12_level 97 = .ok (.if_icmp .eq 12, 3) := by decide +kernel
theorem dX12_level_100 : decode cX12_level 100 = .ok (.aload_n 0, 1) := by decide +kernel
theorem dX12_level_101 : decode cX12_level 101 = .ok (.invokevirtual 452, 3) := by decide +kernel
theorem dX12_level_104 : decode cX12_level 104 = .ok (.bipush 45, 2) := by decide +kernel
theorem dX12_level_106 : decode cX12_level 106 = .ok (.if_icmp .ne 45, 3) := by decide +kernel
theorem dX12_level_109 : decode cX12_level 109 = .ok (.aload_n 0, 1) := by decide +kernel
theorem dX12_level_110 : decode cX12_level 110 = .ok (.getfield 13, 3) := by decide +kernel
theorem dX12_level_113 : decode cX12_level 113 = .ok (.aload_n 0, 1) := by decide +kernel
theorem dX12_level_114 : decode cX12_level 114 = .ok (.invokevirtual 459, 3) := by decide +kernel
theorem dX12_level_117 : decode cX12_level 117 = .ok (.iaload, 1) := by decide +kernel
theorem dX12_level_118 : decode cX12_level 118 = .ok (.istore 5, 2) := by decide +kernel
theorem dX12_level_120 : decode cX12_level 120 = .ok (.aload_n 0, 1) := by decide +kernel
theorem dX12_level_121 : decode cX12_level 121 = .ok (.bipush 8, 2) := by decide +kernel
theorem dX12_level_123 : decode cX12_level 123 = .ok (.iconst 1, 1) := by decide +kernel
theorem dX12_level_124 : decode cX12_level 124 = .ok (.invokevirtual 587, 3) := by decide +kernel
theorem dX12_level_127 : decode cX12_level 127 = .ok (.istore 6, 2) := by decide +kernel
theorem dX12_level_129 : decode cX12_level 129 = .ok (.aload_n 0, 1) := by decide +kernel
theorem dX12_level_130 : decode cX12_level 130 = .ok (.aload_n 0, 1) := by decide +kernel
theorem dX12_level_131 : decode cX12_level 131 = .ok (.bipush 7, 2) := by decide +kernel
theorem dX12_level_133 : decode cX12_level 133 = .ok (.iload 6, 2) := by decide +kernel
theorem dX12_level_135 : decode cX12_level 135 = .ok (.iload 5, 2) := by decide +kernel
theorem dX12_level_137 : decode cX12_level 137 = .ok (.iconst 0, 1) := by decide +kernel
theorem dX12_level_138 : decode cX12_level 138 = .ok (.iload_n 3, 1) := by decide +kernel
theorem dX12_level_139 : decode cX12_level 139 = .ok (.invokevirtual 500, 3) := by decide +kernel
theorem dX12_level_142 : decode cX12_level 142 = .ok (.iconst 1, 1) := by decide +kernel
theorem dX12_level_143 : decode cX12_level 143 = .ok (.invokevirtual 578, 3) := by decide +kernel
theorem dX12_level_146 : decode cX12_level 146 = .ok (.istore 4, 2) := by decide +kernel
theorem dX12_level_148 : decode cX12_level 148 = .ok (.goto 13, 3) := by decide +kernel
theorem dX12_level_151 : decode cX12_level 151 = .ok (.aload_n 0, 1) := by decide +kernel
theorem dX12_level_152 : decode cX12_level 152 = .ok (.iload_n 1, 1) := by decide +kernel
theorem dX12_level_153 : decode cX12_level 153 = .ok (.iconst 1, 1) := by decide +kernel
theorem dX12_level_154 : decode cX12_level 154 = .ok (.iadd, 1) := by decide +kernel
theorem dX12_level_155 : decode cX12_level 155 = .ok (.iload_n 2, 1) := by decide +kernel
theorem dX12_level_156 : decode cX12_level 156 = .ok (.invokevirtual 587, 3) := by decide +kernel
theorem dX12_level_159 : decode cX12_level 159 = .ok (.istore 4, 2) := by decide +kernel
theorem dX12_level_161 : decode cX12_level 161 = .ok (.aload_n 0, 1) := by decide +kernel
theorem dX12_level_162 : decode cX12_level 162 = .ok (.getfield 214, 3) := by decide +kernel
theorem dX12_level_165 : decode cX12_level 165 = .ok (.iload 4, 2) := by decide +kernel
theorem dX12_level_167 : decode cX12_level 167 = .ok (.iaload, 1) := by decide +kernel
theorem dX12_level_168 : decode cX12_level 168 = .ok (.iconst 1, 1) := by decide +kernel
theorem dX12_level_169 : decode cX12_level 169 = .ok (.iand, 1) := by decide +kernel
theorem dX12_level_170 : decode cX12_level 170 = .ok (.ifCond .ne 6, 3) := by decide +kernel
theorem dX12_level_173 : decode cX12_level 173 = .ok (.iload 4, 2) := by decide +kernel
theorem dX12_level_175 : decode cX12_level 175 = .ok (.ireturn, 1) := by decide +kernel
theorem dX12_level_176 : decode cX12_level 176 = .ok (.aload_n 0, 1) := by decide +kernel
theorem dX12_level_177 : decode cX12_level 177 = .ok (.invokevirtual 452, 3) := by decide +kernel
theorem dX12_level_180 : decode cX12_level 180 = .ok (.invokestatic 593, 3) := by decide +kernel
theorem dX12_level_183 : decode cX12_level 183 = .ok (.iload_n 1, 1) := by decide +kernel
theorem dX12_level_184 : decode cX12_level 184 = .ok (.if_icmp .ne 56, 3) := by decide +kernel
theorem dX12_level_187 : decode cX12_level 187 = .ok (.aload_n 0, 1) := by decide +kernel
theorem dX12_level_188 : decode cX12_level 188 = .ok (.getfield 13, 3) := by decide +kernel
theorem dX12_level_191 : decode cX12_level 191 = .ok (.aload_n 0, 1) := by decide +kernel
theorem dX12_level_192 : decode cX12_level 192 = .ok (.invokevirtual 459, 3) := by decide +kernel
theorem dX12_level_195 : decode cX12_level 195 = .ok (.iaload, 1) := by decide +kernel
theorem dX12_level_196 : decode cX12_level 196 = .ok (.istore 5, 2) := by decide +kernel
theorem dX12_level_198 : decode cX12_level 198 = .ok (.aload_n 0, 1) := by decide +kernel
theorem dX12_level_199 : decode cX12_level 199 = .ok (.iload_n 1, 1) := by decide +kernel
theorem dX12_level_200 : decode cX12_level 200 = .ok (.iconst 1, 1) := by decide +kernel
theorem dX12_level_201 : decode cX12_level 201 = .ok (.iadd, 1) := by decide +kernel
theorem dX12_level_202 : decode cX12_level 202 = .ok (.iconst 1, 1) := by decide +kernel
theorem dX12_level_203 : decode cX12_level 203 = .ok (.invokevirtual 587, 3) := by decide +kernel
theorem dX12_level_206 : decode cX12_level 206 = .ok (.istore 6, 2) := by decide +kernel
theorem dX12_level_208 : decode cX12_level 208 = .ok (.aload_n 0, 1) := by decide +kernel
theorem dX12_level_209 : decode cX12_level 209 = .ok (.aload_n 0, 1) := by decide +kernel
theorem dX12_level_210 : decode cX12_level 210 = .ok (.bipush 6, 2) := by decide +kernel
theorem dX12_level_212 : decode cX12_level 212 = .ok (.iload 4, 2) := by decide +kernel
theorem dX12_level_214 : decode cX12_level 214 = .ok (.iload 5, 2) := by decide +kernel
theorem dX12_level_216 : decode cX12_level 216 = .ok (.iload 6, 2) := by decide +kernel
theorem dX12_level_218 : decode cX12_level 218 = .ok (.iload_n 3, 1) := by decide +kernel
theorem dX12_level_219 : decode cX12_level 219 = .ok (.invokevirtual 500, 3) := by decide +kernel
theorem dX12_level_222 : decode cX12_level 222 = .ok (.iconst 1, 1) := by decide +kernel
theorem dX12_level_223 : decode cX12_level 223 = .ok (.invokevirtual 578, 3) := by decide +kernel
theorem dX12_level_226 : decode cX12_level 226 = .ok (.istore 4, 2) := by decide +kernel
theorem dX12_level_228 : decode cX12_level 228 = .ok (.iload_n 1, 1) := by decide +kernel
theorem dX12_level_229 : decode cX12_level 229 = .ok (.bipush 6, 2) := by decide +kernel
theorem dX12_level_231 : decode cX12_level 231 = .ok (.if_icmp .ne 6, 3) := by decide +kernel
theorem dX12_level_234 : decode cX12_level 234 = .ok (.goto 6, 3) := by decide +kernel
theorem dX12_level_237 : decode cX12_level 237 = .ok (.goto (-61), 3) := by decide +kernel
theorem dX12_level_240 : decode cX12_level 240 = .ok (.iload 4, 2) := by decide +kernel
theorem dX12_level_242 : decode cX12_level 242 = .ok (.ireturn, 1) := by decide +kernel
def fX12_level_176 (rc : TX12_variable) (k_176 : Int32 → Int32 → Int32 → Wd → Option (Option Int32 × Wd)) (a1 : Int32) (a3 : Int32) (a4 : Int32) (w : Wd) : Option (Option Int32 × Wd) :=
  bn2 (fX12_kind w) fun x1 w2 => lt (fX12_levelOf x1 w2) fun x3 => if x3 = a1 then (be (fX12_taken w2) fun x5 w6 => if inb x5 8194 = true then lt ((gi w6 2 (Int32.toNatClampNeg x5))) fun x9 => be (rc 7 (a1 + 1) 1 0 w6) fun x10 w11 => bn2 (fX12_node 6 a4 x9 x10 a3 w11) fun x13 w14 => bn2 (fX12_may x13 1 w14) fun x15 w16 => if a1 = 6 then (some (some x15, w16)) else (k_176 a1 a3 x15 w16) else none) else (some (some a4, w2))
theorem pX12_level_176 {q : Gq} {l : Launch} {N : Option Value → Wd → Prop} {X : String → Wd → Prop} {rc : TX12_variable} {dd : Nat} (hS : HSX12_variable q l rc dd) (hK : 3 ≤ dd) {w : Wd} {R : Option Int32 × Wd} (hN : ∀ r : Int32, R.1 = some r → N (some (.int r)) R.2) (hX : R.1 = none → X RAE R.2) {k_176 : Int32 → Int32 → Int32 → Wd → Option (Option Int32 × Wd)} (hk_176 : ∀ (a1 : Int32) (a3 : Int32) (a4 : Int32) (w : Wd), k_176 a1 a3 a4 w = some R → RT (GM q) l (dd + 1) yX12_level cX12_level 7 ((some .int)) N X 176 [] [(0, .ref 0), (1, .int a1), (3, .int a3), (4, .int a4)] w) {a1 : Int32} {a3 : Int32} {a4 : Int32} (h : fX12_level_176 rc k_176 a1 a3 a4 w = some R) : RT (GM q) l (dd + 1) yX12_level cX12_level 7 ((some .int)) N X 176 [] [(0, .ref 0), (1, .int a1), (3, .int a3), (4, .int a4)] w := by
  unfold fX12_level_176 at h
  refine r_aload_n (pc := 176) dX12_level_176 rfl 0 rfl ?_
  replace h := bn2_e h; obtain ⟨x1, w2, ew2, h⟩ := h
  refine r_cVi (pc := 177) wyX12_kind oM0 rfl mlRX12_452 iyX12_kind syX12_kind ⟨Nat.succ_le_succ (Nat.le_trans (Nat.le_of_ble_eq_true rfl) hK), (Nat.le_of_ble_eq_true rfl)⟩ rfl rfl (Nat.le_of_ble_eq_true rfl) dX12_level_177 (mX12_kind ew2 (pI.mk ?_))
  replace h := lt_e h; obtain ⟨x3, ex3, h⟩ := h
  refine r_cSi (pc := 180) wyX12_levelOf mlRX12_593 tyX12_levelOf ⟨Nat.succ_le_succ (Nat.le_trans (Nat.le_of_ble_eq_true rfl) hK), (Nat.le_of_ble_eq_true rfl)⟩ rfl rfl (Nat.le_of_ble_eq_true rfl) dX12_level_180 (mX12_levelOf ex3 (pI.mk ?_))
  refine r_iload_n (pc := 183) dX12_level_183 rfl 1 rfl ?_
  refine r_icmp_ne (pc := 184) dX12_level_184 rfl (fun hc4 => ?_) (fun hc4 => ?_)
  · replace h := if_f hc4 h
    refine r_iload (pc := 240) dX12_level_240 3 rfl ?_
    exact rE_i (pc := 242) rfl dX12_level_242 h hN
  replace h := if_t hc4 h
  refine r_aload_n (pc := 187) dX12_level_187 rfl 0 rfl ?_
  refine r_get (pc := 188) (j := 3) (v := .ref 2) oM0 cf12 flRX12_13 rfl dX12_level_188 rfl ?_
  refine r_aload_n (pc := 191) dX12_level_191 rfl 0 rfl ?_
  replace h := be_e h; obtain ⟨o7, w6, ew6, h1, h2⟩ := h
  refine r_cVi (pc := 192) wyX12_taken oM0 rfl mlRX12_459 iyX12_taken syX12_taken ⟨Nat.succ_le_succ (Nat.le_trans (Nat.le_of_ble_eq_true rfl) hK), (Nat.le_of_ble_eq_true rfl)⟩ rfl rfl (Nat.le_of_ble_eq_true rfl) dX12_level_192 (mX12_taken ew6 (fun x5 ex5 => pI.mk ?_) (fun ez => be_x h2 ez hX))
  replace h := h1 _ ex5
  replace h := if_n h; obtain ⟨hb8, h⟩ := h
  refine r_iald (pc := 195) aM2 (inb_in hb8) dX12_level_195 ?_
  replace h := lt_e h; obtain ⟨x9, ex9, h⟩ := h
  refine r_topi ex9 ?_
  refine r_istore (pc := 196) (loc' := [(5, .int x9), (0, .ref 0), (1, .int a1), (3, .int a3), (4, .int a4)]) dX12_level_196 (Nat.le_of_ble_eq_true rfl) rfl ?_
  refine r_aload_n (pc := 198) dX12_level_198 rfl 1 rfl ?_
  refine r_iload_n (pc := 199) dX12_level_199 rfl 2 rfl ?_
  refine r_iconst (pc := 200) dX12_level_200 ki_1 ?_
  refine r_iadd (pc := 201) dX12_level_201 ?_
  refine r_iconst (pc := 202) dX12_level_202 ki_1 ?_
  replace h := be_e h; obtain ⟨o12, w11, ew11, h1, h2⟩ := h
  refine r_cVi (pc := 203) wyX12_level oM0 rfl mlRX12_587 iyX12_level syX12_level ⟨Nat.le_refl _, (Nat.le_of_ble_eq_true rfl)⟩ rfl rfl (Nat.le_of_ble_eq_true rfl) dX12_level_203 ((hS.2.2.2.2.2.2.2.1 _ _ _ _ _ _ _) ew11 (fun x10 ex10 => pI.mk ?_) (fun ez => be_x h2 ez hX))
  replace h := h1 _ ex10
  refine r_istore (pc := 206) (loc' := [(6, .int x10), (5, .int x9), (0, .ref 0), (1, .int a1), (3, .int a3), (4, .int a4)]) dX12_level_206 (Nat.le_of_ble_eq_true rfl) rfl ?_
  refine r_aload_n (pc := 208) dX12_level_208 rfl 2 rfl ?_
  refine r_aload_n (pc := 209) dX12_level_209 rfl 2 rfl ?_
  refine r_bipush (pc := 210) dX12_level_210 kb_6 ?_
  refine r_iload (pc := 212) dX12_level_212 5 rfl ?_
  refine r_iload (pc := 214) dX12_level_214 1 rfl ?_
  refine r_iload (pc := 216) dX12_level_216 0 rfl ?_
  refine r_iload_n (pc := 218) dX12_level_218 rfl 4 rfl ?_
  replace h := bn2_e h; obtain ⟨x13, w14, ew14, h⟩ := h
  refine r_cVi (pc := 219) wyX12_node oM0 rfl mlRX12_500 iyX12_node syX12_node ⟨Nat.succ_le_succ (Nat.le_trans (Nat.le_of_ble_eq_true rfl) hK), (Nat.le_of_ble_eq_true rfl)⟩ rfl rfl (Nat.le_of_ble_eq_true rfl) dX12_level_219 (mX12_node ew14 (pI.mk ?_))
  refine r_iconst (pc := 222) dX12_level_222 ki_1 ?_
  replace h := bn2_e h; obtain ⟨x15, w16, ew16, h⟩ := h
  refine r_cVi (pc := 223) wyX12_may oM0 rfl mlRX12_578 iyX12_may syX12_may ⟨Nat.succ_le_succ (Nat.le_trans (Nat.le_of_ble_eq_true rfl) hK), (Nat.le_of_ble_eq_true rfl)⟩ rfl rfl (Nat.le_of_ble_eq_true rfl) dX12_level_223 (mX12_may ew16 (pI.mk ?_))
  refine r_istore (pc := 226) (loc' := [(4, .int x15), (6, .int x10), (5, .int x9), (0, .ref 0), (1, .int a1), (3, .int a3)]) dX12_level_226 (Nat.le_of_ble_eq_true rfl) rfl ?_
  refine r_iload_n (pc := 228) dX12_level_228 rfl 4 rfl ?_
  refine r_bipush (pc := 229) dX12_level_229 kb_6 ?_
  refine r_icmp_ne (pc := 231) dX12_level_231 rfl (fun hc17 => ?_) (fun hc17 => ?_)
  · replace h := if_f hc17 h
    refine r_goto (pc := 237) dX12_level_237 rfl ?_
    refine r_drop (loc' := [(0, .ref 0), (1, .int a1), (3, .int a3), (4, .int x15)]) [3, 4, 5, 0] rfl ?_
    exact hk_176 a1 a3 x15 w16 h
  replace h := if_t hc17 h
  refine r_goto (pc := 234) dX12_level_234 rfl ?_
  refine r_iload (pc := 240) dX12_level_240 0 rfl ?_
  exact rE_i (pc := 242) rfl dX12_level_242 h hN
def oX12_level_176 (rc : TX12_variable) : Nat → Int32 → Int32 → Int32 → Wd → Option (Option Int32 × Wd)
  | 0 => fun _ _ _ _ => none
  | n + 1 => fX12_level_176 rc (oX12_level_176 rc n)
theorem qX12_level_176 {q : Gq} {l : Launch} {N : Option Value → Wd → Prop} {X : String → Wd → Prop} {rc : TX12_variable} {dd : Nat} (hS : HSX12_variable q l rc dd) (hK : 3 ≤ dd) {R : Option Int32 × Wd} (hN : ∀ r : Int32, R.1 = some r → N (some (.int r)) R.2) (hX : R.1 = none → X RAE R.2) : ∀ (n : Nat) (a1 : Int32) (a3 : Int32) (a4 : Int32) (w : Wd), oX12_level_176 rc n a1 a3 a4 w = some R → RT (GM q) l (dd + 1) yX12_level cX12_level 7 ((some .int)) N X 176 [] [(0, .ref 0), (1, .int a1), (3, .int a3), (4, .int a4)] w := by
  intro n
  induction n with
  | zero =>
    intro a1 a3 a4 w h
    exact absurd h (fun q => nomatch q)
  | succ n ih =>
    intro a1 a3 a4 w h
    exact pX12_level_176 hS hK hN hX ih h
def fX12_level_151 (rc : TX12_variable) (a1 : Int32) (a2 : Int32) (a3 : Int32) (w : Wd) : Option (Option Int32 × Wd) :=
  be (rc 7 (a1 + 1) a2 0 w) fun x1 w2 => if inb x1 24000 = true then if ((gi w2 45 (Int32.toNatClampNeg x1)) &&& 1) = 0 then (some (some x1, w2)) else (oX12_level_176 rc FU a1 a3 x1 w2) else none
theorem pX12_level_151 {q : Gq} {l : Launch} {N : Option Value → Wd → Prop} {X : String → Wd → Prop} {rc : TX12_variable} {dd : Nat} (hS : HSX12_variable q l rc dd) (hK : 3 ≤ dd) {w : Wd} {R : Option Int32 × Wd} (hN : ∀ r : Int32, R.1 = some r → N (some (.int r)) R.2) (hX : R.1 = none → X RAE R.2) {a1 : Int32} {a2 : Int32} {a3 : Int32} (h : fX12_level_151 rc a1 a2 a3 w = some R) : RT (GM q) l (dd + 1) yX12_level cX12_level 7 ((some .int)) N X 151 [] [(0, .ref 0), (1, .int a1), (2, .int a2), (3, .int a3)] w := by
  unfold fX12_level_151 at h
  refine r_aload_n (pc := 151) dX12_level_151 rfl 0 rfl ?_
  refine r_iload_n (pc := 152) dX12_level_152 rfl 1 rfl ?_
  refine r_iconst (pc := 153) dX12_level_153 ki_1 ?_
  refine r_iadd (pc := 154) dX12_level_154 ?_
  refine r_iload_n (pc := 155) dX12_level_155 rfl 2 rfl ?_
  replace h := be_e h; obtain ⟨o3, w2, ew2, h1, h2⟩ := h
  refine r_cVi (pc := 156) wyX12_level oM0 rfl mlRX12_587 iyX12_level syX12_level ⟨Nat.le_refl _, (Nat.le_of_ble_eq_true rfl)⟩ rfl rfl (Nat.le_of_ble_eq_true rfl) dX12_level_156 ((hS.2.2.2.2.2.2.2.1 _ _ _ _ _ _ _) ew2 (fun x1 ex1 => pI.mk ?_) (fun ez => be_x h2 ez hX))
  replace h := h1 _ ex1
  refine r_istore (pc := 159) (loc' := [(4, .int x1), (0, .ref 0), (1, .int a1), (2, .int a2), (3, .int a3)]) dX12_level_159 (Nat.le_of_ble_eq_true rfl) rfl ?_
  refine r_aload_n (pc := 161) dX12_level_161 rfl 1 rfl ?_
  refine r_get (pc := 162) (j := 62) (v := .ref 45) oM0 cf12 flRX12_214 rfl dX12_level_162 rfl ?_
  refine r_iload (pc := 165) dX12_level_165 0 rfl ?_
  replace h := if_n h; obtain ⟨hb4, h⟩ := h
  refine r_iald (pc := 167) aM45 (inb_in hb4) dX12_level_167 ?_
  refine r_iconst (pc := 168) dX12_level_168 ki_1 ?_
  refine r_iand (pc := 169) dX12_level_169 ?_
  refine r_if_ne (pc := 170) dX12_level_170 rfl (fun hc5 => ?_) (fun hc5 => ?_)
  · replace h := if_f hc5 h
    refine r_drop (loc' := [(0, .ref 0), (1, .int a1), (3, .int a3), (4, .int x1)]) [1, 2, 4, 0] rfl ?_
    exact qX12_level_176 hS hK hN hX FU a1 a3 x1 w2 h
  replace h := if_t hc5 h
  refine r_iload (pc := 173) dX12_level_173 0 rfl ?_
  exact rE_i (pc := 175) rfl dX12_level_175 h hN
def fX12_level_109 (rc : TX12_variable) (a1 : Int32) (a3 : Int32) (w : Wd) : Option (Option Int32 × Wd) :=
  be (fX12_taken w) fun x1 w2 => if inb x1 8194 = true then lt ((gi w2 2 (Int32.toNatClampNeg x1))) fun x5 => be (rc 7 8 1 0 w2) fun x6 w7 => bn2 (fX12_node 7 x6 x5 0 a3 w7) fun x9 w10 => bn2 (fX12_may x9 1 w10) fun x11 w12 => if inb x11 24000 = true then if ((gi w12 45 (Int32.toNatClampNeg x11)) &&& 1) = 0 then (some (some x11, w12)) else (oX12_level_176 rc FU a1 a3 x11 w12) else none else none
theorem pX12_level_109 {q : Gq} {l : Launch} {N : Option Value → Wd → Prop} {X : String → Wd → Prop} {rc : TX12_variable} {dd : Nat} (hS : HSX12_variable q l rc dd) (hK : 3 ≤ dd) {w : Wd} {R : Option Int32 × Wd} (hN : ∀ r : Int32, R.1 = some r → N (some (.int r)) R.2) (hX : R.1 = none → X RAE R.2) {a1 : Int32} {a3 : Int32} (h : fX12_level_109 rc a1 a3 w = some R) : RT (GM q) l (dd + 1) yX12_level cX12_level 7 ((some .int)) N X 109 [] [(0, .ref 0), (1, .int a1), (3, .int a3)] w := by
  unfold fX12_level_109 at h
  refine r_aload_n (pc := 109) dX12_level_109 rfl 0 rfl ?_
  refine r_get (pc := 110) (j := 3) (v := .ref 2) oM0 cf12 flRX12_13 rfl dX12_level_110 rfl ?_
  refine r_aload_n (pc := 113) dX12_level_113 rfl 0 rfl ?_
  replace h := be_e h; obtain ⟨o3, w2, ew2, h1, h2⟩ := h
  refine r_cVi (pc := 114) wyX12_taken oM0 rfl mlRX12_459 iyX12_taken syX12_taken ⟨Nat.succ_le_succ (Nat.le_trans (Nat.le_of_ble_eq_true rfl) hK), (Nat.le_of_ble_eq_true rfl)⟩ rfl rfl (Nat.le_of_ble_eq_true rfl) dX12_level_114 (mX12_taken ew2 (fun x1 ex1 => pI.mk ?_) (fun ez => be_x h2 ez hX))
  replace h := h1 _ ex1
  replace h := if_n h; obtain ⟨hb4, h⟩ := h
  refine r_iald (pc := 117) aM2 (inb_in hb4) dX12_level_117 ?_
  replace h := lt_e h; obtain ⟨x5, ex5, h⟩ := h
  refine r_topi ex5 ?_
  refine r_istore (pc := 118) (loc' := [(5, .int x5), (0, .ref 0), (1, .int a1), (3, .int a3)]) dX12_level_118 (Nat.le_of_ble_eq_true rfl) rfl ?_
  refine r_aload_n (pc := 120) dX12_level_120 rfl 1 rfl ?_
  refine r_bipush (pc := 121) dX12_level_121 kb_8 ?_
  refine r_iconst (pc := 123) dX12_level_123 ki_1 ?_
  replace h := be_e h; obtain ⟨o8, w7, ew7, h1, h2⟩ := h
  refine r_cVi (pc := 124) wyX12_level oM0 rfl mlRX12_587 iyX12_level syX12_level ⟨Nat.le_refl _, (Nat.le_of_ble_eq_true rfl)⟩ rfl rfl (Nat.le_of_ble_eq_true rfl) dX12_level_124 ((hS.2.2.2.2.2.2.2.1 _ _ _ _ _ _ _) ew7 (fun x6 ex6 => pI.mk ?_) (fun ez => be_x h2 ez hX))
  replace h := h1 _ ex6
  refine r_istore (pc := 127) (loc' := [(6, .int x6), (5, .int x5), (0, .ref 0), (1, .int a1), (3, .int a3)]) dX12_level_127 (Nat.le_of_ble_eq_true rfl) rfl ?_
  refine r_aload_n (pc := 129) dX12_level_129 rfl 2 rfl ?_
  refine r_aload_n (pc := 130) dX12_level_130 rfl 2 rfl ?_
  refine r_bipush (pc := 131) dX12_level_131 kb_7 ?_
  refine r_iload (pc := 133) dX12_level_133 0 rfl ?_
  refine r_iload (pc := 135) dX12_level_135 1 rfl ?_
  refine r_iconst (pc := 137) dX12_level_137 ki_0 ?_
  refine r_iload_n (pc := 138) dX12_level_138 rfl 4 rfl ?_
  replace h := bn2_e h; obtain ⟨x9, w10, ew10, h⟩ := h
  refine r_cVi (pc := 139) wyX12_node oM0 rfl mlRX12_500 iyX12_node syX12_node ⟨Nat.succ_le_succ (Nat.le_trans (Nat.le_of_ble_eq_true rfl) hK), (Nat.le_of_ble_eq_true rfl)⟩ rfl rfl (Nat.le_of_ble_eq_true rfl) dX12_level_139 (mX12_node ew10 (pI.mk ?_))
  refine r_iconst (pc := 142) dX12_level_142 ki_1 ?_
  replace h := bn2_e h; obtain ⟨x11, w12, ew12, h⟩ := h
  refine r_cVi (pc := 143) wyX12_may oM0 rfl mlRX12_578 iyX12_may syX12_may ⟨Nat.succ_le_succ (Nat.le_trans (Nat.le_of_ble_eq_true rfl) hK), (Nat.le_of_ble_eq_true rfl)⟩ rfl rfl (Nat.le_of_ble_eq_true rfl) dX12_level_143 (mX12_may ew12 (pI.mk ?_))
  refine r_istore (pc := 146) (loc' := [(4, .int x11), (6, .int x6), (5, .int x5), (0, .ref 0), (1, .int a1), (3, .int a3)]) dX12_level_146 (Nat.le_of_ble_eq_true rfl) rfl ?_
  refine r_goto (pc := 148) dX12_level_148 rfl ?_
  refine r_aload_n (pc := 161) dX12_level_161 rfl 3 rfl ?_
  refine r_get (pc := 162) (j := 62) (v := .ref 45) oM0 cf12 flRX12_214 rfl dX12_level_162 rfl ?_
  refine r_iload (pc := 165) dX12_level_165 0 rfl ?_
  replace h := if_n h; obtain ⟨hb13, h⟩ := h
  refine r_iald (pc := 167) aM45 (inb_in hb13) dX12_level_167 ?_
  refine r_iconst (pc := 168) dX12_level_168 ki_1 ?_
  refine r_iand (pc := 169) dX12_level_169 ?_
  refine r_if_ne (pc := 170) dX12_level_170 rfl (fun hc14 => ?_) (fun hc14 => ?_)
  · replace h := if_f hc14 h
    refine r_drop (loc' := [(0, .ref 0), (1, .int a1), (3, .int a3), (4, .int x11)]) [3, 4, 5, 0] rfl ?_
    exact qX12_level_176 hS hK hN hX FU a1 a3 x11 w12 h
  replace h := if_t hc14 h
  refine r_iload (pc := 173) dX12_level_173 0 rfl ?_
  exact rE_i (pc := 175) rfl dX12_level_175 h hN
def fX12_level_85 (rc : TX12_variable) (a1 : Int32) (a2 : Int32) (a3 : Int32) (w : Wd) : Option (Option Int32 × Wd) :=
  if a1 = 7 then (bn2 (fX12_kind w) fun x2 w3 => if x2 = 43 then (fX12_level_109 rc a1 a3 w3) else (bn2 (fX12_kind w3) fun x5 w6 => if x5 = 45 then (fX12_level_109 rc a1 a3 w6) else (fX12_level_151 rc a1 a2 a3 w6))) else (fX12_level_151 rc a1 a2 a3 w)
theorem pX12_level_85 {q : Gq} {l : Launch} {N : Option Value → Wd → Prop} {X : String → Wd → Prop} {rc : TX12_variable} {dd : Nat} (hS : HSX12_variable q l rc dd) (hK : 3 ≤ dd) {w : Wd} {R : Option Int32 × Wd} (hN : ∀ r : Int32, R.1 = some r → N (some (.int r)) R.2) (hX : R.1 = none → X RAE R.2) {a1 : Int32} {a2 : Int32} {a3 : Int32} (h : fX12_level_85 rc a1 a2 a3 w = some R) : RT (GM q) l (dd + 1) yX12_level cX12_level 7 ((some .int)) N X 85 [] [(0, .ref 0), (1, .int a1), (2, .int a2), (3, .int a3)] w := by
  unfold fX12_level_85 at h
  refine r_iload_n (pc := 85) dX12_level_85 rfl 1 rfl ?_
  refine r_bipush (pc := 86) dX12_level_86 kb_7 ?_
  refine r_icmp_ne (pc := 88) dX12_level_88 rfl (fun hc1 => ?_) (fun hc1 => ?_)
  · replace h := if_f hc1 h
    exact pX12_level_151 hS hK hN hX h
  replace h := if_t hc1 h
  refine r_aload_n (pc := 91) dX12_level_91 rfl 0 rfl ?_
  replace h := bn2_e h; obtain ⟨x2, w3, ew3, h⟩ := h
  refine r_cVi (pc := 92) wyX12_kind oM0 rfl mlRX12_452 iyX12_kind syX12_kind ⟨Nat.succ_le_succ (Nat.le_trans (Nat.le_of_ble_eq_true rfl) hK), (Nat.le_of_ble_eq_true rfl)⟩ rfl rfl (Nat.le_of_ble_eq_true rfl) dX12_level_92 (mX12_kind ew3 (pI.mk ?_))
  refine r_bipush (pc := 95) dX12_level_95 kb_43 ?_
  refine r_icmp_eq (pc := 97) dX12_level_97 rfl (fun hc4 => ?_) (fun hc4 => ?_)
  · replace h := if_t hc4 h
    refine r_drop (loc' := [(0, .ref 0), (1, .int a1), (3, .int a3)]) [0, 1, 3] rfl ?_
    exact pX12_level_109 hS hK hN hX h
  replace h := if_f hc4 h
  refine r_aload_n (pc := 100) dX12_level_100 rfl 0 rfl ?_
  replace h := bn2_e h; obtain ⟨x5, w6, ew6, h⟩ := h
  refine r_cVi (pc := 101) wyX12_kind oM0 rfl mlRX12_452 iyX12_kind syX12_kind ⟨Nat.succ_le_succ (Nat.le_trans (Nat.le_of_ble_eq_true rfl) hK), (Nat.le_of_ble_eq_true rfl)⟩ rfl rfl (Nat.le_of_ble_eq_true rfl) dX12_level_101 (mX12_kind ew6 (pI.mk ?_))
  refine r_bipush (pc := 104) dX12_level_104 kb_45 ?_
  refine r_icmp_ne (pc := 106) dX12_level_106 rfl (fun hc7 => ?_) (fun hc7 => ?_)
  · replace h := if_f hc7 h
    exact pX12_level_151 hS hK hN hX h
  replace h := if_t hc7 h
  refine r_drop (loc' := [(0, .ref 0), (1, .int a1), (3, .int a3)]) [0, 1, 3] rfl ?_
  exact pX12_level_109 hS hK hN hX h
def fX12_level (rc : TX12_variable) (a1 : Int32) (a2 : Int32) (w : Wd) : Option (Option Int32 × Wd) :=
  if a1 = 10 then (be (rc 8 a2 0 0 w) fun x2 w3 => some (some x2, w3)) else (lt ((gi w 0 7)) fun x5 => if a1 = 5 then (bn2 (fX12_kind w) fun x7 w8 => if x7 = 281 then (be (fX12_taken w8) fun x10 w11 => lt (si w11 0 8 ((gi w11 0 8) + 1)) fun w13 => be (rc 7 5 1 0 w13) fun x14 w15 => lt (si w15 0 8 ((gi w15 0 8) - 1)) fun w17 => bn2 (fX12_node 7 x14 281 0 x5 w17) fun x18 w19 => bn2 (fX12_may x18 1 w19) fun x20 w21 => some (some x20, w21)) else (fX12_level_85 rc a1 a2 x5 w8)) else (fX12_level_85 rc a1 a2 x5 w))
theorem pX12_level {q : Gq} {l : Launch} {N : Option Value → Wd → Prop} {X : String → Wd → Prop} {rc : TX12_variable} {dd : Nat} (hS : HSX12_variable q l rc dd) (hK : 3 ≤ dd) {w : Wd} {R : Option Int32 × Wd} (hN : ∀ r : Int32, R.1 = some r → N (some (.int r)) R.2) (hX : R.1 = none → X RAE R.2) {a1 : Int32} {a2 : Int32} (h : fX12_level rc a1 a2 w = some R) : RT (GM q) l (dd + 1) yX12_level cX12_level 7 ((some .int)) N X 0 [] [(0, .ref 0), (1, .int a1), (2, .int a2)] w := by
  unfold fX12_level at h
  refine r_iload_n (pc := 0) dX12_level_0 rfl 1 rfl ?_
  refine r_bipush (pc := 1) dX12_level_1 kb_10 ?_
  refine r_icmp_ne (pc := 3) dX12_level_3 rfl (fun hc1 => ?_) (fun hc1 => ?_)
  · replace h := if_f hc1 h
    refine r_aload_n (pc := 12) dX12_level_12 rfl 0 rfl ?_
    refine r_get (pc := 13) (j := 7) (v := .int (gi w 0 7)) oM0 cf12 flRX12_443 rfl dX12_level_13 rfl ?_
    replace h := lt_e h; obtain ⟨x5, ex5, h⟩ := h
    refine r_topi ex5 ?_
    refine r_istore_n (pc := 16) (loc' := [(3, .int x5), (0, .ref 0), (1, .int a1), (2, .int a2)]) dX12_level_16 rfl (Nat.le_of_ble_eq_true rfl) rfl ?_
    refine r_iload_n (pc := 17) dX12_level_17 rfl 2 rfl ?_
    refine r_iconst (pc := 18) dX12_level_18 ki_5 ?_
    refine r_icmp_ne (pc := 19) dX12_level_19 rfl (fun hc6 => ?_) (fun hc6 => ?_)
    · replace h := if_f hc6 h
      refine r_drop (loc' := [(0, .ref 0), (1, .int a1), (2, .int a2), (3, .int x5)]) [1, 2, 3, 0] rfl ?_
      exact pX12_level_85 hS hK hN hX h
    replace h := if_t hc6 h
    refine r_aload_n (pc := 22) dX12_level_22 rfl 1 rfl ?_
    replace h := bn2_e h; obtain ⟨x7, w8, ew8, h⟩ := h
    refine r_cVi (pc := 23) wyX12_kind oM0 rfl mlRX12_452 iyX12_kind syX12_kind ⟨Nat.succ_le_succ (Nat.le_trans (Nat.le_of_ble_eq_true rfl) hK), (Nat.le_of_ble_eq_true rfl)⟩ rfl rfl (Nat.le_of_ble_eq_true rfl) dX12_level_23 (mX12_kind ew8 (pI.mk ?_))
    refine r_sipush (pc := 26) dX12_level_26 ks_281 ?_
    refine r_icmp_ne (pc := 29) dX12_level_29 rfl (fun hc9 => ?_) (fun hc9 => ?_)
    · replace h := if_f hc9 h
      refine r_drop (loc' := [(0, .ref 0), (1, .int a1), (2, .int a2), (3, .int x5)]) [1, 2, 3, 0] rfl ?_
      exact pX12_level_85 hS hK hN hX h
    replace h := if_t hc9 h
    refine r_aload_n (pc := 32) dX12_level_32 rfl 1 rfl ?_
    replace h := be_e h; obtain ⟨o12, w11, ew11, h1, h2⟩ := h
    refine r_cVi (pc := 33) wyX12_taken oM0 rfl mlRX12_459 iyX12_taken syX12_taken ⟨Nat.succ_le_succ (Nat.le_trans (Nat.le_of_ble_eq_true rfl) hK), (Nat.le_of_ble_eq_true rfl)⟩ rfl rfl (Nat.le_of_ble_eq_true rfl) dX12_level_33 (mX12_taken ew11 (fun x10 ex10 => pI.mk ?_) (fun ez => be_x h2 ez hX))
    replace h := h1 _ ex10
    refine r_istore (pc := 36) (loc' := [(4, .int x10), (3, .int x5), (0, .ref 0), (1, .int a1), (2, .int a2)]) dX12_level_36 (Nat.le_of_ble_eq_true rfl) rfl ?_
    refine r_aload_n (pc := 38) dX12_level_38 rfl 2 rfl ?_
    refine r_dup (pc := 39) dX12_level_39 rfl ?_
    refine r_get (pc := 40) (j := 8) (v := .int (gi w11 0 8)) oM0 cf12 flRX12_449 rfl dX12_level_40 rfl ?_
    refine r_iconst (pc := 43) dX12_level_43 ki_1 ?_
    refine r_iadd (pc := 44) dX12_level_44 ?_
    replace h := lt_e h; obtain ⟨w13, ew13, h⟩ := h
    refine r_putI (pc := 45) (j := 8) oM0 cf12 flRX12_449 rfl rfl rfl rfl dX12_level_45 ?_
    refine r_w ew13 ?_
    refine r_aload_n (pc := 48) dX12_level_48 rfl 2 rfl ?_
    refine r_iconst (pc := 49) dX12_level_49 ki_5 ?_
    refine r_iconst (pc := 50) dX12_level_50 ki_1 ?_
    replace h := be_e h; obtain ⟨o16, w15, ew15, h1, h2⟩ := h
    refine r_cVi (pc := 51) wyX12_level oM0 rfl mlRX12_587 iyX12_level syX12_level ⟨Nat.le_refl _, (Nat.le_of_ble_eq_true rfl)⟩ rfl rfl (Nat.le_of_ble_eq_true rfl) dX12_level_51 ((hS.2.2.2.2.2.2.2.1 _ _ _ _ _ _ _) ew15 (fun x14 ex14 => pI.mk ?_) (fun ez => be_x h2 ez hX))
    replace h := h1 _ ex14
    refine r_istore (pc := 54) (loc' := [(5, .int x14), (4, .int x10), (3, .int x5), (0, .ref 0), (1, .int a1), (2, .int a2)]) dX12_level_54 (Nat.le_of_ble_eq_true rfl) rfl ?_
    refine r_aload_n (pc := 56) dX12_level_56 rfl 3 rfl ?_
    refine r_dup (pc := 57) dX12_level_57 rfl ?_
    refine r_get (pc := 58) (j := 8) (v := .int (gi w15 0 8)) oM0 cf12 flRX12_449 rfl dX12_level_58 rfl ?_
    refine r_iconst (pc := 61) dX12_level_61 ki_1 ?_
    refine r_isub (pc := 62) dX12_level_62 ?_
    replace h := lt_e h; obtain ⟨w17, ew17, h⟩ := h
    refine r_putI (pc := 63) (j := 8) oM0 cf12 flRX12_449 rfl rfl rfl rfl dX12_level_63 ?_
    refine r_w ew17 ?_
    refine r_aload_n (pc := 66) dX12_level_66 rfl 3 rfl ?_
    refine r_aload_n (pc := 67) dX12_level_67 rfl 3 rfl ?_
    refine r_bipush (pc := 68) dX12_level_68 kb_7 ?_
    refine r_iload (pc := 70) dX12_level_70 0 rfl ?_
    refine r_sipush (pc := 72) dX12_level_72 ks_281 ?_
    refine r_iconst (pc := 75) dX12_level_75 ki_0 ?_
    refine r_iload_n (pc := 76) dX12_level_76 rfl 2 rfl ?_
    replace h := bn2_e h; obtain ⟨x18, w19, ew19, h⟩ := h
    refine r_cVi (pc := 77) wyX12_node oM0 rfl mlRX12_500 iyX12_node syX12_node ⟨Nat.succ_le_succ (Nat.le_trans (Nat.le_of_ble_eq_true rfl) hK), (Nat.le_of_ble_eq_true rfl)⟩ rfl rfl (Nat.le_of_ble_eq_true rfl) dX12_level_77 (mX12_node ew19 (pI.mk ?_))
    refine r_iconst (pc := 80) dX12_level_80 ki_1 ?_
    replace h := bn2_e h; obtain ⟨x20, w21, ew21, h⟩ := h
    refine r_cVi (pc := 81) wyX12_may oM0 rfl mlRX12_578 iyX12_may syX12_may ⟨Nat.succ_le_succ (Nat.le_trans (Nat.le_of_ble_eq_true rfl) hK), (Nat.le_of_ble_eq_true rfl)⟩ rfl rfl (Nat.le_of_ble_eq_true rfl) dX12_level_81 (mX12_may ew21 (pI.mk ?_))
    exact rE_i (pc := 84) rfl dX12_level_84 h hN
  replace h := if_t hc1 h
  refine r_aload_n (pc := 6) dX12_level_6 rfl 0 rfl ?_
  refine r_iload_n (pc := 7) dX12_level_7 rfl 2 rfl ?_
  replace h := be_e h; obtain ⟨o4, w3, ew3, h1, h2⟩ := h
  refine r_cVi (pc := 8) wyX12_primary oM0 rfl mlRX12_590 iyX12_primary syX12_primary ⟨Nat.le_refl _, (Nat.le_of_ble_eq_true rfl)⟩ rfl rfl (Nat.le_of_ble_eq_true rfl) dX12_level_8 ((hS.2.2.2.2.2.2.2.2 _ _ _ _ _ _) ew3 (fun x2 ex2 => pI.mk ?_) (fun ez => be_x h2 ez hX))
  replace h := h1 _ ex2
  exact rE_i (pc := 11) rfl dX12_level_11 h hN
/-! AlgolMillModel.simple (I)I: E, 903 -/
theorem dX12_simple_0 : decode cX12_simple 0 = .ok (.aload_n 0, 1) := by decide +kernel
theorem dX12_simple_1 : decode cX12_simple 1 = .ok (.iconst 1, 1) := by decide +kernel
theorem dX12_simple_2 : decode cX12_simple 2 = .ok (.iload_n 1, 1) := by decide +kernel
theorem dX12_simple_3 : decode cX12_simple 3 = .ok (.invokevirtual 587, 3) := by decide +kernel
theorem dX12_simple_6 : decode cX12_simple 6 = .ok (.ireturn, 1) := by decide +kernel
def fX12_simple (rc : TX12_variable) (a1 : Int32) (w : Wd) : Option (Option Int32 × Wd) :=
  be (rc 7 1 a1 0 w) fun x1 w2 => some (some x1, w2)
theorem pX12_simple {q : Gq} {l : Launch} {N : Option Value → Wd → Prop} {X : String → Wd → Prop} {rc : TX12_variable} {dd : Nat} (hS : HSX12_variable q l rc dd) (hK : 3 ≤ dd) {w : Wd} {R : Option Int32 × Wd} (hN : ∀ r : Int32, R.1 = some r → N (some (.int r)) R.2) (hX : R.1 = none → X RAE R.2) {a1 : Int32} (h : fX12_simple rc a1 w = some R) : RT (GM q) l (dd + 1) yX12_simple cX12_simple 2 ((some .int)) N X 0 [] [(0, .ref 0), (1, .int a1)] w := by
  unfold fX12_simple at h
  refine r_aload_n (pc := 0) dX12_simple_0 rfl 0 rfl ?_
  refine r_iconst (pc := 1) dX12_simple_1 ki_1 ?_
  refine r_iload_n (pc := 2) dX12_simple_2 rfl 1 rfl ?_
  replace h := be_e h; obtain ⟨o3, w2, ew2, h1, h2⟩ := h
  refine r_cVi (pc := 3) wyX12_level oM0 rfl mlRX12_587 iyX12_level syX12_level ⟨Nat.le_refl _, (Nat.le_of_ble_eq_true rfl)⟩ rfl rfl (Nat.le_of_ble_eq_true rfl) dX12_simple_3 ((hS.2.2.2.2.2.2.2.1 _ _ _ _ _ _ _) ew2 (fun x1 ex1 => pI.mk ?_) (fun ez => be_x h2 ez hX))
  replace h := h1 _ ex1
  exact rE_i (pc := 6) rfl dX12_simple_6 h hN
/-! AlgolMillModel.whole (I)I: E, 903 -/
theorem dX12_whole_0 : decode cX12_whole 0 = .ok (.iload_n 1, 1) := by decide +kernel
theorem dX12_whole_1 : decode cX12_whole 1 = .ok (.iconst 2, 1) := by decide +kernel
theorem dX12_whole_2 : decode cX12_whole 2 = .ok (.if_icmp .ne 8, 3) := by decide +kernel
theorem dX12_whole_5 : decode cX12_whole 5 = .ok (.aload_n 0, 1) := by decide +kernel
theorem dX12_whole_6 : decode cX12_whole 6 = .ok (.invokevirtual 541, 3) := by decide +kernel
theorem dX12_whole_9 : decode cX12_whole 9 = .ok (.ireturn, 1) := by decide +kernel
theorem dX12_whole_10 : decode cX12_whole 10 = .ok (.aload_n 0, 1) := by decide +kernel
theorem dX12_whole_11 : decode cX12_whole 11 = .ok (.getfield 443, 3) := by decide +kernel
theorem dX12_whole_14 : decode cX12_whole 14 = .ok (.istore_n 2, 1) := by decide +kernel
theorem dX12_whole_15 : decode cX12_whole 15 = .ok (.aload_n 0, 1) := by decide +kernel
theorem dX12_whole_16 : decode cX12_whole 16 = .ok (.invokevirtual 452, 3) := by decide +kernel
theorem dX12_whole_19 : decode cX12_whole 19 = .ok (.sipush 267, 3) := by decide +kernel
theorem dX12_whole_22 : decode cX12_whole 22 = .ok (.if_icmp .eq 9, 3) := by decide +kernel
theorem dX12_whole_25 : decode cX12_whole 25 = .ok (.aload_n 0, 1) := by decide +kernel
theorem dX12_whole_26 : decode cX12_whole 26 = .ok (.iload_n 1, 1) := by decide +kernel
theorem dX12_whole_27 : decode cX12_whole 27 = .ok (.invokevirtual 584, 3) := by decide +kernel
theorem dX12_whole_30 : decode cX12_whole 30 = .ok (.ireturn, 1) := by decide +kernel
theorem dX12_whole_31 : decode cX12_whole 31 = .ok (.aload_n 0, 1) := by decide +kernel
theorem dX12_whole_32 : decode cX12_whole 32 = .ok (.invokevirtual 459, 3) := by decide +kernel
theorem dX12_whole_35 : decode cX12_whole 35 = .ok (.istore_n 3, 1) := by decide +kernel
theorem dX12_whole_36 : decode cX12_whole 36 = .ok (.aload_n 0, 1) := by decide +kernel
theorem dX12_whole_37 : decode cX12_whole 37 = .ok (.dup, 1) := by decide +kernel
theorem dX12_whole_38 : decode cX12_whole 38 = .ok (.getfield 449, 3) := by decide +kernel
theorem dX12_whole_41 : decode cX12_whole 41 = .ok (.iconst 1, 1) := by decide +kernel
theorem dX12_whole_42 : decode cX12_whole 42 = .ok (.iadd, 1) := by decide +kernel
theorem dX12_whole_43 : decode cX12_whole 43 = .ok (.putfield 449, 3) := by decide +kernel
theorem dX12_whole_46 : decode cX12_whole 46 = .ok (.aload_n 0, 1) := by decide +kernel
theorem dX12_whole_47 : decode cX12_whole 47 = .ok (.invokevirtual 538, 3) := by decide +kernel
theorem dX12_whole_50 : decode cX12_whole 50 = .ok (.istore 4, 2) := by decide +kernel
theorem dX12_whole_52 : decode cX12_whole 52 = .ok (.aload_n 0, 1) := by decide +kernel
theorem dX12_whole_53 : decode cX12_whole 53 = .ok (.sipush 268, 3) := by decide +kernel
theorem dX12_whole_56 : decode cX12_whole 56 = .ok (.invokevirtual 491, 3) := by decide +kernel
theorem dX12_whole_59 : decode cX12_whole 59 = .ok (.istore_n 3, 1) := by decide +kernel
theorem dX12_whole_60 : decode cX12_whole 60 = .ok (.iload_n 1, 1) := by decide +kernel
theorem dX12_whole_61 : decode cX12_whole 61 = .ok (.iconst 2, 1) := by decide +kernel
theorem dX12_whole_62 : decode cX12_whole 62 = .ok (.iand, 1) := by decide +kernel
theorem dX12_whole_63 : decode cX12_whole 63 = .ok (.ifCond .eq 20, 3) := by decide +kernel
theorem dX12_whole_66 : decode cX12_whole 66 = .ok (.aload_n 0, 1) := by decide +kernel
theorem dX12_whole_67 : decode cX12_whole 67 = .ok (.invokevirtual 452, 3) := by decide +kernel
theorem dX12_whole_70 : decode cX12_whole 70 = .ok (.sipush 267, 3) := by decide +kernel
theorem dX12_whole_73 : decode cX12_whole 73 = .ok (.if_icmp .ne 10, 3) := by decide +kernel
theorem dX12_whole_76 : decode cX12_whole 76 = .ok (.aload_n 0, 1) := by decide +kernel
theorem dX12_whole_77 : decode cX12_whole 77 = .ok (.invokevirtual 541, 3) := by decide +kernel
theorem dX12_whole_80 : decode cX12_whole 80 = .ok (.goto 8, 3) := by decide +kernel
theorem dX12_whole_83 : decode cX12_whole 83 = .ok (.aload_n 0, 1) := by decide +kernel
theorem dX12_whole_84 : decode cX12_whole 84 = .ok (.iload_n 1, 1) := by decide +kernel
theorem dX12_whole_85 : decode cX12_whole 85 = .ok (.invokevirtual 584, 3) := by decide +kernel
theorem dX12_whole_88 : decode cX12_whole 88 = .ok (.istore 5, 2) := by decide +kernel
theorem dX12_whole_90 : decode cX12_whole 90 = .ok (.aload_n 0, 1) := by decide +kernel
theorem dX12_whole_91 : decode cX12_whole 91 = .ok (.sipush 269, 3) := by decide +kernel
theorem dX12_whole_94 : decode cX12_whole 94 = .ok (.invokevirtual 491, 3) := by decide +kernel
theorem dX12_whole_97 : decode cX12_whole 97 = .ok (.istore_n 3, 1) := by decide +kernel
theorem dX12_whole_98 : decode cX12_whole 98 = .ok (.aload_n 0, 1) := by decide +kernel
theorem dX12_whole_99 : decode cX12_whole 99 = .ok (.aload_n 0, 1) := by decide +kernel
theorem dX12_whole_100 : decode cX12_whole 100 = .ok (.getfield 214, 3) := by decide +kernel
theorem dX12_whole_103 : decode cX12_whole 103 = .ok (.iload 5, 2) := by decide +kernel
theorem dX12_whole_105 : decode cX12_whole 105 = .ok (.iaload, 1) := by decide +kernel
theorem dX12_whole_106 : decode cX12_whole 106 = .ok (.iload_n 1, 1) := by decide +kernel
theorem dX12_whole_107 : decode cX12_whole 107 = .ok (.iand, 1) := by decide +kernel
theorem dX12_whole_108 : decode cX12_whole 108 = .ok (.invokevirtual 581, 3) := by decide +kernel
theorem dX12_whole_111 : decode cX12_whole 111 = .ok (.istore 6, 2) := by decide +kernel
theorem dX12_whole_113 : decode cX12_whole 113 = .ok (.aload_n 0, 1) := by decide +kernel
theorem dX12_whole_114 : decode cX12_whole 114 = .ok (.dup, 1) := by decide +kernel
theorem dX12_whole_115 : decode cX12_whole 115 = .ok (.getfield 449, 3) := by decide +kernel
theorem dX12_whole_118 : decode cX12_whole 118 = .ok (.iconst 1, 1) := by decide +kernel
theorem dX12_whole_119 : decode cX12_whole 119 = .ok (.isub, 1) := by decide +kernel
theorem dX12_whole_120 : decode cX12_whole 120 = .ok (.putfield 449, 3) := by decide +kernel
theorem dX12_whole_123 : decode cX12_whole 123 = .ok (.aload_n 0, 1) := by decide +kernel
theorem dX12_whole_124 : decode cX12_whole 124 = .ok (.aload_n 0, 1) := by decide +kernel
theorem dX12_whole_125 : decode cX12_whole 125 = .ok (.bipush 8, 2) := by decide +kernel
theorem dX12_whole_127 : decode cX12_whole 127 = .ok (.iload 4, 2) := by decide +kernel
theorem dX12_whole_129 : decode cX12_whole 129 = .ok (.iload 5, 2) := by decide +kernel
theorem dX12_whole_131 : decode cX12_whole 131 = .ok (.iload 6, 2) := by decide +kernel
theorem dX12_whole_133 : decode cX12_whole 133 = .ok (.iload_n 2, 1) := by decide +kernel
theorem dX12_whole_134 : decode cX12_whole 134 = .ok (.invokevirtual 500, 3) := by decide +kernel
theorem dX12_whole_137 : decode cX12_whole 137 = .ok (.aload_n 0, 1) := by decide +kernel
theorem dX12_whole_138 : decode cX12_whole 138 = .ok (.getfield 214, 3) := by decide +kernel
theorem dX12_whole_141 : decode cX12_whole 141 = .ok (.iload 5, 2) := by decide +kernel
theorem dX12_whole_143 : decode cX12_whole 143 = .ok (.iaload, 1) := by decide +kernel
theorem dX12_whole_144 : decode cX12_whole 144 = .ok (.aload_n 0, 1) := by decide +kernel
theorem dX12_whole_145 : decode cX12_whole 145 = .ok (.getfield 214, 3) := by decide +kernel
theorem dX12_whole_148 : decode cX12_whole 148 = .ok (.iload 6, 2) := by decide +kernel
theorem dX12_whole_150 : decode cX12_whole 150 = .ok (.iaload, 1) := by decide +kernel
theorem dX12_whole_151 : decode cX12_whole 151 = .ok (.iand, 1) := by decide +kernel
theorem dX12_whole_152 : decode cX12_whole 152 = .ok (.invokevirtual 578, 3) := by decide +kernel
theorem dX12_whole_155 : decode cX12_whole 155 = .ok (.ireturn, 1) := by decide +kernel
def fX12_whole_88 (rc : TX12_variable) (s0 : Int32) (a1 : Int32) (a2 : Int32) (a4 : Int32) (w : Wd) : Option (Option Int32 × Wd) :=
  be (fX12_expect 269 w) fun x1 w2 => if inb s0 24000 = true then be (rc 5 ((gi w2 45 (Int32.toNatClampNeg s0)) &&& a1) 0 0 w2) fun x5 w6 => lt (si w6 0 8 ((gi w6 0 8) - 1)) fun w8 => bn2 (fX12_node 8 a4 s0 x5 a2 w8) fun x9 w10 => if inb s0 24000 = true then if inb x5 24000 = true then bn2 (fX12_may x9 ((gi w10 45 (Int32.toNatClampNeg s0)) &&& (gi w10 45 (Int32.toNatClampNeg x5))) w10) fun x13 w14 => some (some x13, w14) else none else none else none
theorem pX12_whole_88 {q : Gq} {l : Launch} {N : Option Value → Wd → Prop} {X : String → Wd → Prop} {rc : TX12_variable} {dd : Nat} (hS : HSX12_variable q l rc dd) (hK : 3 ≤ dd) {w : Wd} {R : Option Int32 × Wd} (hN : ∀ r : Int32, R.1 = some r → N (some (.int r)) R.2) (hX : R.1 = none → X RAE R.2) {s0 : Int32} {a1 : Int32} {a2 : Int32} {a4 : Int32} (h : fX12_whole_88 rc s0 a1 a2 a4 w = some R) : RT (GM q) l (dd + 1) yX12_whole cX12_whole 7 ((some .int)) N X 88 [.int s0] [(0, .ref 0), (1, .int a1), (2, .int a2), (4, .int a4)] w := by
  unfold fX12_whole_88 at h
  refine r_istore (pc := 88) (loc' := [(5, .int s0), (0, .ref 0), (1, .int a1), (2, .int a2), (4, .int a4)]) dX12_whole_88 (Nat.le_of_ble_eq_true rfl) rfl ?_
  refine r_aload_n (pc := 90) dX12_whole_90 rfl 1 rfl ?_
  refine r_sipush (pc := 91) dX12_whole_91 ks_269 ?_
  replace h := be_e h; obtain ⟨o3, w2, ew2, h1, h2⟩ := h
  refine r_cVi (pc := 94) wyX12_expect oM0 rfl mlRX12_491 iyX12_expect syX12_expect ⟨Nat.succ_le_succ (Nat.le_trans (Nat.le_of_ble_eq_true rfl) hK), (Nat.le_of_ble_eq_true rfl)⟩ rfl rfl (Nat.le_of_ble_eq_true rfl) dX12_whole_94 (mX12_expect ew2 (fun x1 ex1 => pI.mk ?_) (fun ez => be_x h2 ez hX))
  replace h := h1 _ ex1
  refine r_istore_n (pc := 97) (loc' := [(3, .int x1), (5, .int s0), (0, .ref 0), (1, .int a1), (2, .int a2), (4, .int a4)]) dX12_whole_97 rfl (Nat.le_of_ble_eq_true rfl) rfl ?_
  refine r_aload_n (pc := 98) dX12_whole_98 rfl 2 rfl ?_
  refine r_aload_n (pc := 99) dX12_whole_99 rfl 2 rfl ?_
  refine r_get (pc := 100) (j := 62) (v := .ref 45) oM0 cf12 flRX12_214 rfl dX12_whole_100 rfl ?_
  refine r_iload (pc := 103) dX12_whole_103 1 rfl ?_
  replace h := if_n h; obtain ⟨hb4, h⟩ := h
  refine r_iald (pc := 105) aM45 (inb_in hb4) dX12_whole_105 ?_
  refine r_iload_n (pc := 106) dX12_whole_106 rfl 3 rfl ?_
  refine r_iand (pc := 107) dX12_whole_107 ?_
  replace h := be_e h; obtain ⟨o7, w6, ew6, h1, h2⟩ := h
  refine r_cVi (pc := 108) wyX12_whole oM0 rfl mlRX12_581 iyX12_whole syX12_whole ⟨Nat.le_refl _, (Nat.le_of_ble_eq_true rfl)⟩ rfl rfl (Nat.le_of_ble_eq_true rfl) dX12_whole_108 ((hS.2.2.2.2.2.1 _ _ _ _ _ _) ew6 (fun x5 ex5 => pI.mk ?_) (fun ez => be_x h2 ez hX))
  replace h := h1 _ ex5
  refine r_istore (pc := 111) (loc' := [(6, .int x5), (3, .int x1), (5, .int s0), (0, .ref 0), (1, .int a1), (2, .int a2), (4, .int a4)]) dX12_whole_111 (Nat.le_of_ble_eq_true rfl) rfl ?_
  refine r_aload_n (pc := 113) dX12_whole_113 rfl 3 rfl ?_
  refine r_dup (pc := 114) dX12_whole_114 rfl ?_
  refine r_get (pc := 115) (j := 8) (v := .int (gi w6 0 8)) oM0 cf12 flRX12_449 rfl dX12_whole_115 rfl ?_
  refine r_iconst (pc := 118) dX12_whole_118 ki_1 ?_
  refine r_isub (pc := 119) dX12_whole_119 ?_
  replace h := lt_e h; obtain ⟨w8, ew8, h⟩ := h
  refine r_putI (pc := 120) (j := 8) oM0 cf12 flRX12_449 rfl rfl rfl rfl dX12_whole_120 ?_
  refine r_w ew8 ?_
  refine r_aload_n (pc := 123) dX12_whole_123 rfl 3 rfl ?_
  refine r_aload_n (pc := 124) dX12_whole_124 rfl 3 rfl ?_
  refine r_bipush (pc := 125) dX12_whole_125 kb_8 ?_
  refine r_iload (pc := 127) dX12_whole_127 6 rfl ?_
  refine r_iload (pc := 129) dX12_whole_129 2 rfl ?_
  refine r_iload (pc := 131) dX12_whole_131 0 rfl ?_
  refine r_iload_n (pc := 133) dX12_whole_133 rfl 5 rfl ?_
  replace h := bn2_e h; obtain ⟨x9, w10, ew10, h⟩ := h
  refine r_cVi (pc := 134) wyX12_node oM0 rfl mlRX12_500 iyX12_node syX12_node ⟨Nat.succ_le_succ (Nat.le_trans (Nat.le_of_ble_eq_true rfl) hK), (Nat.le_of_ble_eq_true rfl)⟩ rfl rfl (Nat.le_of_ble_eq_true rfl) dX12_whole_134 (mX12_node ew10 (pI.mk ?_))
  refine r_aload_n (pc := 137) dX12_whole_137 rfl 3 rfl ?_
  refine r_get (pc := 138) (j := 62) (v := .ref 45) oM0 cf12 flRX12_214 rfl dX12_whole_138 rfl ?_
  refine r_iload (pc := 141) dX12_whole_141 2 rfl ?_
  replace h := if_n h; obtain ⟨hb11, h⟩ := h
  refine r_iald (pc := 143) aM45 (inb_in hb11) dX12_whole_143 ?_
  refine r_aload_n (pc := 144) dX12_whole_144 rfl 3 rfl ?_
  refine r_get (pc := 145) (j := 62) (v := .ref 45) oM0 cf12 flRX12_214 rfl dX12_whole_145 rfl ?_
  refine r_iload (pc := 148) dX12_whole_148 0 rfl ?_
  replace h := if_n h; obtain ⟨hb12, h⟩ := h
  refine r_iald (pc := 150) aM45 (inb_in hb12) dX12_whole_150 ?_
  refine r_iand (pc := 151) dX12_whole_151 ?_
  replace h := bn2_e h; obtain ⟨x13, w14, ew14, h⟩ := h
  refine r_cVi (pc := 152) wyX12_may oM0 rfl mlRX12_578 iyX12_may syX12_may ⟨Nat.succ_le_succ (Nat.le_trans (Nat.le_of_ble_eq_true rfl) hK), (Nat.le_of_ble_eq_true rfl)⟩ rfl rfl (Nat.le_of_ble_eq_true rfl) dX12_whole_152 (mX12_may ew14 (pI.mk ?_))
  exact rE_i (pc := 155) rfl dX12_whole_155 h hN
def fX12_whole (rc : TX12_variable) (a1 : Int32) (w : Wd) : Option (Option Int32 × Wd) :=
  if a1 = 2 then (be (rc 3 0 0 0 w) fun x2 w3 => some (some x2, w3)) else (lt ((gi w 0 7)) fun x5 => bn2 (fX12_kind w) fun x6 w7 => if x6 = 267 then (be (fX12_taken w7) fun x9 w10 => lt (si w10 0 8 ((gi w10 0 8) + 1)) fun w12 => be (rc 4 0 0 0 w12) fun x13 w14 => be (fX12_expect 268 w14) fun x16 w17 => if (a1 &&& 2) = 0 then (be (rc 6 a1 0 0 w17) fun x20 w21 => fX12_whole_88 rc x20 a1 x5 x13 w21) else (bn2 (fX12_kind w17) fun x23 w24 => if x23 = 267 then (be (rc 3 0 0 0 w24) fun x26 w27 => fX12_whole_88 rc x26 a1 x5 x13 w27) else (be (rc 6 a1 0 0 w24) fun x29 w30 => fX12_whole_88 rc x29 a1 x5 x13 w30))) else (be (rc 6 a1 0 0 w7) fun x32 w33 => some (some x32, w33)))
theorem pX12_whole {q : Gq} {l : Launch} {N : Option Value → Wd → Prop} {X : String → Wd → Prop} {rc : TX12_variable} {dd : Nat} (hS : HSX12_variable q l rc dd) (hK : 3 ≤ dd) {w : Wd} {R : Option Int32 × Wd} (hN : ∀ r : Int32, R.1 = some r → N (some (.int r)) R.2) (hX : R.1 = none → X RAE R.2) {a1 : Int32} (h : fX12_whole rc a1 w = some R) : RT (GM q) l (dd + 1) yX12_whole cX12_whole 7 ((some .int)) N X 0 [] [(0, .ref 0), (1, .int a1)] w := by
  unfold fX12_whole at h
  refine r_iload_n (pc := 0) dX12_whole_0 rfl 1 rfl ?_
  refine r_iconst (pc := 1) dX12_whole_1 ki_2 ?_
  refine r_icmp_ne (pc := 2) dX12_whole_2 rfl (fun hc1 => ?_) (fun hc1 => ?_)
  · replace h := if_f hc1 h
    refine r_aload_n (pc := 10) dX12_whole_10 rfl 0 rfl ?_
    refine r_get (pc := 11) (j := 7) (v := .int (gi w 0 7)) oM0 cf12 flRX12_443 rfl dX12_whole_11 rfl ?_
    replace h := lt_e h; obtain ⟨x5, ex5, h⟩ := h
    refine r_topi ex5 ?_
    refine r_istore_n (pc := 14) (loc' := [(2, .int x5), (0, .ref 0), (1, .int a1)]) dX12_whole_14 rfl (Nat.le_of_ble_eq_true rfl) rfl ?_
    refine r_aload_n (pc := 15) dX12_whole_15 rfl 1 rfl ?_
    replace h := bn2_e h; obtain ⟨x6, w7, ew7, h⟩ := h
    refine r_cVi (pc := 16) wyX12_kind oM0 rfl mlRX12_452 iyX12_kind syX12_kind ⟨Nat.succ_le_succ (Nat.le_trans (Nat.le_of_ble_eq_true rfl) hK), (Nat.le_of_ble_eq_true rfl)⟩ rfl rfl (Nat.le_of_ble_eq_true rfl) dX12_whole_16 (mX12_kind ew7 (pI.mk ?_))
    refine r_sipush (pc := 19) dX12_whole_19 ks_267 ?_
    refine r_icmp_eq (pc := 22) dX12_whole_22 rfl (fun hc8 => ?_) (fun hc8 => ?_)
    · replace h := if_t hc8 h
      refine r_aload_n (pc := 31) dX12_whole_31 rfl 1 rfl ?_
      replace h := be_e h; obtain ⟨o11, w10, ew10, h1, h2⟩ := h
      refine r_cVi (pc := 32) wyX12_taken oM0 rfl mlRX12_459 iyX12_taken syX12_taken ⟨Nat.succ_le_succ (Nat.le_trans (Nat.le_of_ble_eq_true rfl) hK), (Nat.le_of_ble_eq_true rfl)⟩ rfl rfl (Nat.le_of_ble_eq_true rfl) dX12_whole_32 (mX12_taken ew10 (fun x9 ex9 => pI.mk ?_) (fun ez => be_x h2 ez hX))
      replace h := h1 _ ex9
      refine r_istore_n (pc := 35) (loc' := [(3, .int x9), (2, .int x5), (0, .ref 0), (1, .int a1)]) dX12_whole_35 rfl (Nat.le_of_ble_eq_true rfl) rfl ?_
      refine r_aload_n (pc := 36) dX12_whole_36 rfl 2 rfl ?_
      refine r_dup (pc := 37) dX12_whole_37 rfl ?_
      refine r_get (pc := 38) (j := 8) (v := .int (gi w10 0 8)) oM0 cf12 flRX12_449 rfl dX12_whole_38 rfl ?_
      refine r_iconst (pc := 41) dX12_whole_41 ki_1 ?_
      refine r_iadd (pc := 42) dX12_whole_42 ?_
      replace h := lt_e h; obtain ⟨w12, ew12, h⟩ := h
      refine r_putI (pc := 43) (j := 8) oM0 cf12 flRX12_449 rfl rfl rfl rfl dX12_whole_43 ?_
      refine r_w ew12 ?_
      refine r_aload_n (pc := 46) dX12_whole_46 rfl 2 rfl ?_
      replace h := be_e h; obtain ⟨o15, w14, ew14, h1, h2⟩ := h
      refine r_cVi (pc := 47) wyX12_expr oM0 rfl mlRX12_538 iyX12_expr syX12_expr ⟨Nat.le_refl _, (Nat.le_of_ble_eq_true rfl)⟩ rfl rfl (Nat.le_of_ble_eq_true rfl) dX12_whole_47 ((hS.2.2.2.2.1 _ _ _ _ _) ew14 (fun x13 ex13 => pI.mk ?_) (fun ez => be_x h2 ez hX))
      replace h := h1 _ ex13
      refine r_istore (pc := 50) (loc' := [(4, .int x13), (3, .int x9), (2, .int x5), (0, .ref 0), (1, .int a1)]) dX12_whole_50 (Nat.le_of_ble_eq_true rfl) rfl ?_
      refine r_aload_n (pc := 52) dX12_whole_52 rfl 3 rfl ?_
      refine r_sipush (pc := 53) dX12_whole_53 ks_268 ?_
      replace h := be_e h; obtain ⟨o18, w17, ew17, h1, h2⟩ := h
      refine r_cVi (pc := 56) wyX12_expect oM0 rfl mlRX12_491 iyX12_expect syX12_expect ⟨Nat.succ_le_succ (Nat.le_trans (Nat.le_of_ble_eq_true rfl) hK), (Nat.le_of_ble_eq_true rfl)⟩ rfl rfl (Nat.le_of_ble_eq_true rfl) dX12_whole_56 (mX12_expect ew17 (fun x16 ex16 => pI.mk ?_) (fun ez => be_x h2 ez hX))
      replace h := h1 _ ex16
      refine r_istore_n (pc := 59) (loc' := [(3, .int x16), (4, .int x13), (2, .int x5), (0, .ref 0), (1, .int a1)]) dX12_whole_59 rfl (Nat.le_of_ble_eq_true rfl) rfl ?_
      refine r_iload_n (pc := 60) dX12_whole_60 rfl 4 rfl ?_
      refine r_iconst (pc := 61) dX12_whole_61 ki_2 ?_
      refine r_iand (pc := 62) dX12_whole_62 ?_
      refine r_if_eq (pc := 63) dX12_whole_63 rfl (fun hc19 => ?_) (fun hc19 => ?_)
      · replace h := if_t hc19 h
        refine r_aload_n (pc := 83) dX12_whole_83 rfl 3 rfl ?_
        refine r_iload_n (pc := 84) dX12_whole_84 rfl 4 rfl ?_
        replace h := be_e h; obtain ⟨o22, w21, ew21, h1, h2⟩ := h
        refine r_cVi (pc := 85) wyX12_simple oM0 rfl mlRX12_584 iyX12_simple syX12_simple ⟨Nat.le_refl _, (Nat.le_of_ble_eq_true rfl)⟩ rfl rfl (Nat.le_of_ble_eq_true rfl) dX12_whole_85 ((hS.2.2.2.2.2.2.1 _ _ _ _ _ _) ew21 (fun x20 ex20 => pI.mk ?_) (fun ez => be_x h2 ez hX))
        replace h := h1 _ ex20
        refine r_drop (loc' := [(0, .ref 0), (1, .int a1), (2, .int x5), (4, .int x13)]) [3, 4, 2, 1] rfl ?_
        exact pX12_whole_88 hS hK hN hX h
      replace h := if_f hc19 h
      refine r_aload_n (pc := 66) dX12_whole_66 rfl 3 rfl ?_
      replace h := bn2_e h; obtain ⟨x23, w24, ew24, h⟩ := h
      refine r_cVi (pc := 67) wyX12_kind oM0 rfl mlRX12_452 iyX12_kind syX12_kind ⟨Nat.succ_le_succ (Nat.le_trans (Nat.le_of_ble_eq_true rfl) hK), (Nat.le_of_ble_eq_true rfl)⟩ rfl rfl (Nat.le_of_ble_eq_true rfl) dX12_whole_67 (mX12_kind ew24 (pI.mk ?_))
      refine r_sipush (pc := 70) dX12_whole_70 ks_267 ?_
      refine r_icmp_ne (pc := 73) dX12_whole_73 rfl (fun hc25 => ?_) (fun hc25 => ?_)
      · replace h := if_f hc25 h
        refine r_aload_n (pc := 83) dX12_whole_83 rfl 3 rfl ?_
        refine r_iload_n (pc := 84) dX12_whole_84 rfl 4 rfl ?_
        replace h := be_e h; obtain ⟨o31, w30, ew30, h1, h2⟩ := h
        refine r_cVi (pc := 85) wyX12_simple oM0 rfl mlRX12_584 iyX12_simple syX12_simple ⟨Nat.le_refl _, (Nat.le_of_ble_eq_true rfl)⟩ rfl rfl (Nat.le_of_ble_eq_true rfl) dX12_whole_85 ((hS.2.2.2.2.2.2.1 _ _ _ _ _ _) ew30 (fun x29 ex29 => pI.mk ?_) (fun ez => be_x h2 ez hX))
        replace h := h1 _ ex29
        refine r_drop (loc' := [(0, .ref 0), (1, .int a1), (2, .int x5), (4, .int x13)]) [3, 4, 2, 1] rfl ?_
        exact pX12_whole_88 hS hK hN hX h
      replace h := if_t hc25 h
      refine r_aload_n (pc := 76) dX12_whole_76 rfl 3 rfl ?_
      replace h := be_e h; obtain ⟨o28, w27, ew27, h1, h2⟩ := h
      refine r_cVi (pc := 77) wyX12_aim oM0 rfl mlRX12_541 iyX12_aim syX12_aim ⟨Nat.le_refl _, (Nat.le_of_ble_eq_true rfl)⟩ rfl rfl (Nat.le_of_ble_eq_true rfl) dX12_whole_77 ((hS.2.2.2.1 _ _ _ _ _) ew27 (fun x26 ex26 => pI.mk ?_) (fun ez => be_x h2 ez hX))
      replace h := h1 _ ex26
      refine r_goto (pc := 80) dX12_whole_80 rfl ?_
      refine r_drop (loc' := [(0, .ref 0), (1, .int a1), (2, .int x5), (4, .int x13)]) [3, 4, 2, 1] rfl ?_
      exact pX12_whole_88 hS hK hN hX h
    replace h := if_f hc8 h
    refine r_aload_n (pc := 25) dX12_whole_25 rfl 1 rfl ?_
    refine r_iload_n (pc := 26) dX12_whole_26 rfl 2 rfl ?_
    replace h := be_e h; obtain ⟨o34, w33, ew33, h1, h2⟩ := h
    refine r_cVi (pc := 27) wyX12_simple oM0 rfl mlRX12_584 iyX12_simple syX12_simple ⟨Nat.le_refl _, (Nat.le_of_ble_eq_true rfl)⟩ rfl rfl (Nat.le_of_ble_eq_true rfl) dX12_whole_27 ((hS.2.2.2.2.2.2.1 _ _ _ _ _ _) ew33 (fun x32 ex32 => pI.mk ?_) (fun ez => be_x h2 ez hX))
    replace h := h1 _ ex32
    exact rE_i (pc := 30) rfl dX12_whole_30 h hN
  replace h := if_t hc1 h
  refine r_aload_n (pc := 5) dX12_whole_5 rfl 0 rfl ?_
  replace h := be_e h; obtain ⟨o4, w3, ew3, h1, h2⟩ := h
  refine r_cVi (pc := 6) wyX12_aim oM0 rfl mlRX12_541 iyX12_aim syX12_aim ⟨Nat.le_refl _, (Nat.le_of_ble_eq_true rfl)⟩ rfl rfl (Nat.le_of_ble_eq_true rfl) dX12_whole_6 ((hS.2.2.2.1 _ _ _ _ _) ew3 (fun x2 ex2 => pI.mk ?_) (fun ez => be_x h2 ez hX))
  replace h := h1 _ ex2
  exact rE_i (pc := 9) rfl dX12_whole_9 h hN
/-! AlgolMillModel.expr ()I: E, 903 -/
theorem dX12_expr_0 : decode cX12_expr 0 = .ok (.aload_n 0, 1) := by decide +kernel
theorem dX12_expr_1 : decode cX12_expr 1 = .ok (.iconst 1, 1) := by decide +kernel
theorem dX12_expr_2 : decode cX12_expr 2 = .ok (.invokevirtual 581, 3) := by decide +kernel
theorem dX12_expr_5 : decode cX12_expr 5 = .ok (.ireturn, 1) := by decide +kernel
def fX12_expr (rc : TX12_variable) (w : Wd) : Option (Option Int32 × Wd) :=
  be (rc 5 1 0 0 w) fun x1 w2 => some (some x1, w2)
theorem pX12_expr {q : Gq} {l : Launch} {N : Option Value → Wd → Prop} {X : String → Wd → Prop} {rc : TX12_variable} {dd : Nat} (hS : HSX12_variable q l rc dd) (hK : 3 ≤ dd) {w : Wd} {R : Option Int32 × Wd} (hN : ∀ r : Int32, R.1 = some r → N (some (.int r)) R.2) (hX : R.1 = none → X RAE R.2) (h : fX12_expr rc w = some R) : RT (GM q) l (dd + 1) yX12_expr cX12_expr 1 ((some .int)) N X 0 [] [(0, .ref 0)] w := by
  unfold fX12_expr at h
  refine r_aload_n (pc := 0) dX12_expr_0 rfl 0 rfl ?_
  refine r_iconst (pc := 1) dX12_expr_1 ki_1 ?_
  replace h := be_e h; obtain ⟨o3, w2, ew2, h1, h2⟩ := h
  refine r_cVi (pc := 2) wyX12_whole oM0 rfl mlRX12_581 iyX12_whole syX12_whole ⟨Nat.le_refl _, (Nat.le_of_ble_eq_true rfl)⟩ rfl rfl (Nat.le_of_ble_eq_true rfl) dX12_expr_2 ((hS.2.2.2.2.2.1 _ _ _ _ _ _) ew2 (fun x1 ex1 => pI.mk ?_) (fun ez => be_x h2 ez hX))
  replace h := h1 _ ex1
  exact rE_i (pc := 5) rfl dX12_expr_5 h hN
/-! AlgolMillModel.indices (I)I: E, 903 -/
theorem dX12_indices_0 : decode cX12_indices 0 = .ok (.aload_n 0, 1) := by decide +kernel
theorem dX12_indices_1 : decode cX12_indices 1 = .ok (.invokevirtual 459, 3) := by decide +kernel
theorem dX12_indices_4 : decode cX12_indices 4 = .ok (.istore_n 2, 1) := by decide +kernel
theorem dX12_indices_5 : decode cX12_indices 5 = .ok (.aload_n 0, 1) := by decide +kernel
theorem dX12_indices_6 : decode cX12_indices 6 = .ok (.dup, 1) := by decide +kernel
theorem dX12_indices_7 : decode cX12_indices 7 = .ok (.getfield 449, 3) := by decide +kernel
theorem dX12_indices_10 : decode cX12_indices 10 = .ok (.iconst 1, 1) := by decide +kernel
theorem dX12_indices_11 : decode cX12_indices 11 = .ok (.iadd, 1) := by decide +kernel
theorem dX12_indices_12 : decode cX12_indices 12 = .ok (.putfield 449, 3) := by decide +kernel
theorem dX12_indices_15 : decode cX12_indices 15 = .ok (.iconst (-1), 1) := by decide +kernel
theorem dX12_indices_16 : decode cX12_indices 16 = .ok (.istore_n 3, 1) := by decide +kernel
theorem dX12_indices_17 : decode cX12_indices 17 = .ok (.iconst (-1), 1) := by decide +kernel
theorem dX12_indices_18 : decode cX12_indices 18 = .ok (.istore 4, 2) := by decide +kernel
theorem dX12_indices_20 : decode cX12_indices 20 = .ok (.iconst 0, 1) := by decide +kernel
theorem dX12_indices_21 : decode cX12_indices 21 = .ok (.istore 5, 2) := by decide +kernel
theorem dX12_indices_23 : decode cX12_indices 23 = .ok (.aload_n 0, 1) := by decide +kernel
theorem dX12_indices_24 : decode cX12_indices 24 = .ok (.invokevirtual 538, 3) := by decide +kernel
theorem dX12_indices_27 : decode cX12_indices 27 = .ok (.istore 6, 2) := by decide +kernel
theorem dX12_indices_29 : decode cX12_indices 29 = .ok (.iload_n 3, 1) := by decide +kernel
theorem dX12_indices_30 : decode cX12_indices 30 = .ok (.ifCond .ge 9, 3) := by decide +kernel
theorem dX12_indices_33 : decode cX12_indices 33 = .ok (.iload 6, 2) := by decide +kernel
theorem dX12_indices_35 : decode cX12_indices 35 = .ok (.istore_n 3, 1) := by decide +kernel
theorem dX12_indices_36 : decode cX12_indices 36 = .ok (.goto 12, 3) := by decide +kernel
theorem dX12_indices_39 : decode cX12_indices 39 = .ok (.aload_n 0, 1) := by decide +kernel
theorem dX12_indices_40 : decode cX12_indices 40 = .ok (.getfield 111, 3) := by decide +kernel
theorem dX12_indices_43 : decode cX12_indices 43 = .ok (.iload 4, 2) := by decide +kernel
theorem dX12_indices_45 : decode cX12_indices 45 = .ok (.iload 6, 2) := by decide +kernel
theorem dX12_indices_47 : decode cX12_indices 47 = .ok (.iastore, 1) := by decide +kernel
theorem dX12_indices_48 : decode cX12_indices 48 = .ok (.iload 6, 2) := by decide +kernel
theorem dX12_indices_50 : decode cX12_indices 50 = .ok (.istore 4, 2) := by decide +kernel
theorem dX12_indices_52 : decode cX12_indices 52 = .ok (.iinc 5 1, 3) := by decide +kernel
theorem dX12_indices_55 : decode cX12_indices 55 = .ok (.aload_n 0, 1) := by decide +kernel
theorem dX12_indices_56 : decode cX12_indices 56 = .ok (.bipush 44, 2) := by decide +kernel
theorem dX12_indices_58 : decode cX12_indices 58 = .ok (.invokevirtual 517, 3) := by decide +kernel
theorem dX12_indices_61 : decode cX12_indices 61 = .ok (.ifCond .ne (-38), 3) := by decide +kernel
theorem dX12_indices_64 : decode cX12_indices 64 = .ok (.aload_n 0, 1) := by decide +kernel
theorem dX12_indices_65 : decode cX12_indices 65 = .ok (.dup, 1) := by decide +kernel
theorem dX12_indices_66 : decode cX12_indices 66 = .ok (.getfield 449, 3) := by decide +kernel
theorem dX12_indices_69 : decode cX12_indices 69 = .ok (.iconst 1, 1) := by decide +kernel
theorem dX12_indices_70 : decode cX12_indices 70 = .ok (.isub, 1) := by decide +kernel
theorem dX12_indices_71 : decode cX12_indices 71 = .ok (.putfield 449, 3) := by decide +kernel
theorem dX12_indices_74 : decode cX12_indices 74 = .ok (.aload_n 0, 1) := by decide +kernel
theorem dX12_indices_75 : decode cX12_indices 75 = .ok (.bipush 93, 2) := by decide +kernel
theorem dX12_indices_77 : decode cX12_indices 77 = .ok (.invokevirtual 491, 3) := by decide +kernel
theorem dX12_indices_80 : decode cX12_indices 80 = .ok (.istore_n 2, 1) := by decide +kernel
theorem dX12_indices_81 : decode cX12_indices 81 = .ok (.aload_n 0, 1) := by decide +kernel
theorem dX12_indices_82 : decode cX12_indices 82 = .ok (.iconst 4, 1) := by decide +kernel
theorem dX12_indices_83 : decode cX12_indices 83 = .ok (.iload_n 3, 1) := by decide +kernel
theorem dX12_indices_84 : decode cX12_indices 84 = .ok (.iload 5, 2) := by decide +kernel
theorem dX12_indices_86 : decode cX12_indices 86 = .ok (.iconst 0, 1) := by decide +kernel
theorem dX12_indices_87 : decode cX12_indices 87 = .ok (.iload_n 1, 1) := by decide +kernel
theorem dX12_indices_88 : decode cX12_indices 88 = .ok (.invokevirtual 500, 3) := by decide +kernel
theorem dX12_indices_91 : decode cX12_indices 91 = .ok (.ireturn, 1) := by decide +kernel
def fX12_indices_48 (rc : TX12_variable) (k_23 : Int32 → Int32 → Int32 → Int32 → Wd → Option (Option Int32 × Wd)) (a1 : Int32) (a3 : Int32) (a5 : Int32) (a6 : Int32) (w : Wd) : Option (Option Int32 × Wd) :=
  lt (a5 + 1) fun x1 => be (fX12_skip 44 w) fun x2 w3 => if x2 = true then (k_23 a1 a3 a6 x1 w3) else (lt (si w3 0 8 ((gi w3 0 8) - 1)) fun w6 => be (fX12_expect 93 w6) fun x7 w8 => bn2 (fX12_node 4 a3 x1 0 a1 w8) fun x10 w11 => some (some x10, w11))
theorem pX12_indices_48 {q : Gq} {l : Launch} {N : Option Value → Wd → Prop} {X : String → Wd → Prop} {rc : TX12_variable} {dd : Nat} (hS : HSX12_variable q l rc dd) (hK : 3 ≤ dd) {w : Wd} {R : Option Int32 × Wd} (hN : ∀ r : Int32, R.1 = some r → N (some (.int r)) R.2) (hX : R.1 = none → X RAE R.2) {k_23 : Int32 → Int32 → Int32 → Int32 → Wd → Option (Option Int32 × Wd)} (hk_23 : ∀ (a1 : Int32) (a3 : Int32) (a4 : Int32) (a5 : Int32) (w : Wd), k_23 a1 a3 a4 a5 w = some R → RT (GM q) l (dd + 1) yX12_indices cX12_indices 7 ((some .int)) N X 23 [] [(0, .ref 0), (1, .int a1), (3, .int a3), (4, .int a4), (5, .int a5)] w) {a1 : Int32} {a3 : Int32} {a5 : Int32} {a6 : Int32} (h : fX12_indices_48 rc k_23 a1 a3 a5 a6 w = some R) : RT (GM q) l (dd + 1) yX12_indices cX12_indices 7 ((some .int)) N X 48 [] [(0, .ref 0), (1, .int a1), (3, .int a3), (5, .int a5), (6, .int a6)] w := by
  unfold fX12_indices_48 at h
  refine r_iload (pc := 48) dX12_indices_48 4 rfl ?_
  refine r_istore (pc := 50) (loc' := [(4, .int a6), (0, .ref 0), (1, .int a1), (3, .int a3), (5, .int a5), (6, .int a6)]) dX12_indices_50 (Nat.le_of_ble_eq_true rfl) rfl ?_
  replace h := lt_e h; obtain ⟨x1, ex1, h⟩ := h
  refine r_inc (pc := 52) (loc' := [(5, .int x1), (4, .int a6), (0, .ref 0), (1, .int a1), (3, .int a3), (6, .int a6)]) dX12_indices_52 ki_1 ex1 4 rfl (Nat.le_of_ble_eq_true rfl) rfl ?_
  refine r_aload_n (pc := 55) dX12_indices_55 rfl 2 rfl ?_
  refine r_bipush (pc := 56) dX12_indices_56 kb_44 ?_
  replace h := be_e h; obtain ⟨o4, w3, ew3, h1, h2⟩ := h
  refine r_cVi (pc := 58) wyX12_skip oM0 rfl mlRX12_517 iyX12_skip syX12_skip ⟨Nat.succ_le_succ (Nat.le_trans (Nat.le_of_ble_eq_true rfl) hK), (Nat.le_of_ble_eq_true rfl)⟩ rfl rfl (Nat.le_of_ble_eq_true rfl) dX12_indices_58 (mX12_skip ew3 (fun x2 ex2 => pI.mk ?_) (fun ez => be_x h2 ez hX))
  replace h := h1 _ ex2
  refine r_z_ne (pc := 61) dX12_indices_61 rfl (fun hc5 => ?_) (fun hc5 => ?_)
  · replace h := if_t hc5 h
    refine r_drop (loc' := [(0, .ref 0), (1, .int a1), (3, .int a3), (4, .int a6), (5, .int x1)]) [2, 3, 4, 1, 0] rfl ?_
    exact hk_23 a1 a3 a6 x1 w3 h
  replace h := if_f hc5 h
  refine r_aload_n (pc := 64) dX12_indices_64 rfl 2 rfl ?_
  refine r_dup (pc := 65) dX12_indices_65 rfl ?_
  refine r_get (pc := 66) (j := 8) (v := .int (gi w3 0 8)) oM0 cf12 flRX12_449 rfl dX12_indices_66 rfl ?_
  refine r_iconst (pc := 69) dX12_indices_69 ki_1 ?_
  refine r_isub (pc := 70) dX12_indices_70 ?_
  replace h := lt_e h; obtain ⟨w6, ew6, h⟩ := h
  refine r_putI (pc := 71) (j := 8) oM0 cf12 flRX12_449 rfl rfl rfl rfl dX12_indices_71 ?_
  refine r_w ew6 ?_
  refine r_aload_n (pc := 74) dX12_indices_74 rfl 2 rfl ?_
  refine r_bipush (pc := 75) dX12_indices_75 kb_93 ?_
  replace h := be_e h; obtain ⟨o9, w8, ew8, h1, h2⟩ := h
  refine r_cVi (pc := 77) wyX12_expect oM0 rfl mlRX12_491 iyX12_expect syX12_expect ⟨Nat.succ_le_succ (Nat.le_trans (Nat.le_of_ble_eq_true rfl) hK), (Nat.le_of_ble_eq_true rfl)⟩ rfl rfl (Nat.le_of_ble_eq_true rfl) dX12_indices_77 (mX12_expect ew8 (fun x7 ex7 => pI.mk ?_) (fun ez => be_x h2 ez hX))
  replace h := h1 _ ex7
  refine r_istore_n (pc := 80) (loc' := [(2, .int x7), (5, .int x1), (4, .int a6), (0, .ref 0), (1, .int a1), (3, .int a3), (6, .int a6)]) dX12_indices_80 rfl (Nat.le_of_ble_eq_true rfl) rfl ?_
  refine r_aload_n (pc := 81) dX12_indices_81 rfl 3 rfl ?_
  refine r_iconst (pc := 82) dX12_indices_82 ki_4 ?_
  refine r_iload_n (pc := 83) dX12_indices_83 rfl 5 rfl ?_
  refine r_iload (pc := 84) dX12_indices_84 1 rfl ?_
  refine r_iconst (pc := 86) dX12_indices_86 ki_0 ?_
  refine r_iload_n (pc := 87) dX12_indices_87 rfl 4 rfl ?_
  replace h := bn2_e h; obtain ⟨x10, w11, ew11, h⟩ := h
  refine r_cVi (pc := 88) wyX12_node oM0 rfl mlRX12_500 iyX12_node syX12_node ⟨Nat.succ_le_succ (Nat.le_trans (Nat.le_of_ble_eq_true rfl) hK), (Nat.le_of_ble_eq_true rfl)⟩ rfl rfl (Nat.le_of_ble_eq_true rfl) dX12_indices_88 (mX12_node ew11 (pI.mk ?_))
  exact rE_i (pc := 91) rfl dX12_indices_91 h hN
def fX12_indices_23 (rc : TX12_variable) (k_23 : Int32 → Int32 → Int32 → Int32 → Wd → Option (Option Int32 × Wd)) (a1 : Int32) (a3 : Int32) (a4 : Int32) (a5 : Int32) (w : Wd) : Option (Option Int32 × Wd) :=
  be (rc 4 0 0 0 w) fun x1 w2 => if 0 ≤ a3 then (if inb a4 24000 = true then lt (si w2 11 (Int32.toNatClampNeg a4) x1) fun w6 => fX12_indices_48 rc k_23 a1 a3 a5 x1 w6 else none) else (fX12_indices_48 rc k_23 a1 x1 a5 x1 w2)
theorem pX12_indices_23 {q : Gq} {l : Launch} {N : Option Value → Wd → Prop} {X : String → Wd → Prop} {rc : TX12_variable} {dd : Nat} (hS : HSX12_variable q l rc dd) (hK : 3 ≤ dd) {w : Wd} {R : Option Int32 × Wd} (hN : ∀ r : Int32, R.1 = some r → N (some (.int r)) R.2) (hX : R.1 = none → X RAE R.2) {k_23 : Int32 → Int32 → Int32 → Int32 → Wd → Option (Option Int32 × Wd)} (hk_23 : ∀ (a1 : Int32) (a3 : Int32) (a4 : Int32) (a5 : Int32) (w : Wd), k_23 a1 a3 a4 a5 w = some R → RT (GM q) l (dd + 1) yX12_indices cX12_indices 7 ((some .int)) N X 23 [] [(0, .ref 0), (1, .int a1), (3, .int a3), (4, .int a4), (5, .int a5)] w) {a1 : Int32} {a3 : Int32} {a4 : Int32} {a5 : Int32} (h : fX12_indices_23 rc k_23 a1 a3 a4 a5 w = some R) : RT (GM q) l (dd + 1) yX12_indices cX12_indices 7 ((some .int)) N X 23 [] [(0, .ref 0), (1, .int a1), (3, .int a3), (4, .int a4), (5, .int a5)] w := by
  unfold fX12_indices_23 at h
  refine r_aload_n (pc := 23) dX12_indices_23 rfl 0 rfl ?_
  replace h := be_e h; obtain ⟨o3, w2, ew2, h1, h2⟩ := h
  refine r_cVi (pc := 24) wyX12_expr oM0 rfl mlRX12_538 iyX12_expr syX12_expr ⟨Nat.le_refl _, (Nat.le_of_ble_eq_true rfl)⟩ rfl rfl (Nat.le_of_ble_eq_true rfl) dX12_indices_24 ((hS.2.2.2.2.1 _ _ _ _ _) ew2 (fun x1 ex1 => pI.mk ?_) (fun ez => be_x h2 ez hX))
  replace h := h1 _ ex1
  refine r_istore (pc := 27) (loc' := [(6, .int x1), (0, .ref 0), (1, .int a1), (3, .int a3), (4, .int a4), (5, .int a5)]) dX12_indices_27 (Nat.le_of_ble_eq_true rfl) rfl ?_
  refine r_iload_n (pc := 29) dX12_indices_29 rfl 3 rfl ?_
  refine r_if_ge (pc := 30) dX12_indices_30 rfl (fun hc4 => ?_) (fun hc4 => ?_)
  · replace h := if_t hc4 h
    refine r_aload_n (pc := 39) dX12_indices_39 rfl 1 rfl ?_
    refine r_get (pc := 40) (j := 20) (v := .ref 11) oM0 cf12 flRX12_111 rfl dX12_indices_40 rfl ?_
    refine r_iload (pc := 43) dX12_indices_43 4 rfl ?_
    refine r_iload (pc := 45) dX12_indices_45 0 rfl ?_
    replace h := if_n h; obtain ⟨hb5, h⟩ := h
    replace h := lt_e h; obtain ⟨w6, ew6, h⟩ := h
    refine r_iast (pc := 47) aM11 (inb_in hb5) dX12_indices_47 ?_
    refine r_w ew6 ?_
    refine r_drop (loc' := [(0, .ref 0), (1, .int a1), (3, .int a3), (5, .int a5), (6, .int x1)]) [1, 2, 3, 5, 0] rfl ?_
    exact pX12_indices_48 hS hK hN hX hk_23 h
  replace h := if_f hc4 h
  refine r_iload (pc := 33) dX12_indices_33 0 rfl ?_
  refine r_istore_n (pc := 35) (loc' := [(3, .int x1), (6, .int x1), (0, .ref 0), (1, .int a1), (4, .int a4), (5, .int a5)]) dX12_indices_35 rfl (Nat.le_of_ble_eq_true rfl) rfl ?_
  refine r_goto (pc := 36) dX12_indices_36 rfl ?_
  refine r_drop (loc' := [(0, .ref 0), (1, .int a1), (3, .int x1), (5, .int a5), (6, .int x1)]) [2, 3, 0, 5, 1] rfl ?_
  exact pX12_indices_48 hS hK hN hX hk_23 h
def oX12_indices_23 (rc : TX12_variable) : Nat → Int32 → Int32 → Int32 → Int32 → Wd → Option (Option Int32 × Wd)
  | 0 => fun _ _ _ _ _ => none
  | n + 1 => fX12_indices_23 rc (oX12_indices_23 rc n)
theorem qX12_indices_23 {q : Gq} {l : Launch} {N : Option Value → Wd → Prop} {X : String → Wd → Prop} {rc : TX12_variable} {dd : Nat} (hS : HSX12_variable q l rc dd) (hK : 3 ≤ dd) {R : Option Int32 × Wd} (hN : ∀ r : Int32, R.1 = some r → N (some (.int r)) R.2) (hX : R.1 = none → X RAE R.2) : ∀ (n : Nat) (a1 : Int32) (a3 : Int32) (a4 : Int32) (a5 : Int32) (w : Wd), oX12_indices_23 rc n a1 a3 a4 a5 w = some R → RT (GM q) l (dd + 1) yX12_indices cX12_indices 7 ((some .int)) N X 23 [] [(0, .ref 0), (1, .int a1), (3, .int a3), (4, .int a4), (5, .int a5)] w := by
  intro n
  induction n with
  | zero =>
    intro a1 a3 a4 a5 w h
    exact absurd h (fun q => nomatch q)
  | succ n ih =>
    intro a1 a3 a4 a5 w h
    exact pX12_indices_23 hS hK hN hX ih h
def fX12_indices (rc : TX12_variable) (a1 : Int32) (w : Wd) : Option (Option Int32 × Wd) :=
  be (fX12_taken w) fun x1 w2 => lt (si w2 0 8 ((gi w2 0 8) + 1)) fun w4 => oX12_indices_23 rc FU a1 (-1) (-1) 0 w4
theorem pX12_indices {q : Gq} {l : Launch} {N : Option Value → Wd → Prop} {X : String → Wd → Prop} {rc : TX12_variable} {dd : Nat} (hS : HSX12_variable q l rc dd) (hK : 3 ≤ dd) {w : Wd} {R : Option Int32 × Wd} (hN : ∀ r : Int32, R.1 = some r → N (some (.int r)) R.2) (hX : R.1 = none → X RAE R.2) {a1 : Int32} (h : fX12_indices rc a1 w = some R) : RT (GM q) l (dd + 1) yX12_indices cX12_indices 7 ((some .int)) N X 0 [] [(0, .ref 0), (1, .int a1)] w := by
  unfold fX12_indices at h
  refine r_aload_n (pc := 0) dX12_indices_0 rfl 0 rfl ?_
  replace h := be_e h; obtain ⟨o3, w2, ew2, h1, h2⟩ := h
  refine r_cVi (pc := 1) wyX12_taken oM0 rfl mlRX12_459 iyX12_taken syX12_taken ⟨Nat.succ_le_succ (Nat.le_trans (Nat.le_of_ble_eq_true rfl) hK), (Nat.le_of_ble_eq_true rfl)⟩ rfl rfl (Nat.le_of_ble_eq_true rfl) dX12_indices_1 (mX12_taken ew2 (fun x1 ex1 => pI.mk ?_) (fun ez => be_x h2 ez hX))
  replace h := h1 _ ex1
  refine r_istore_n (pc := 4) (loc' := [(2, .int x1), (0, .ref 0), (1, .int a1)]) dX12_indices_4 rfl (Nat.le_of_ble_eq_true rfl) rfl ?_
  refine r_aload_n (pc := 5) dX12_indices_5 rfl 1 rfl ?_
  refine r_dup (pc := 6) dX12_indices_6 rfl ?_
  refine r_get (pc := 7) (j := 8) (v := .int (gi w2 0 8)) oM0 cf12 flRX12_449 rfl dX12_indices_7 rfl ?_
  refine r_iconst (pc := 10) dX12_indices_10 ki_1 ?_
  refine r_iadd (pc := 11) dX12_indices_11 ?_
  replace h := lt_e h; obtain ⟨w4, ew4, h⟩ := h
  refine r_putI (pc := 12) (j := 8) oM0 cf12 flRX12_449 rfl rfl rfl rfl dX12_indices_12 ?_
  refine r_w ew4 ?_
  refine r_iconst (pc := 15) dX12_indices_15 ki_m1 ?_
  refine r_istore_n (pc := 16) (loc' := [(3, .int (-1)), (2, .int x1), (0, .ref 0), (1, .int a1)]) dX12_indices_16 rfl (Nat.le_of_ble_eq_true rfl) rfl ?_
  refine r_iconst (pc := 17) dX12_indices_17 ki_m1 ?_
  refine r_istore (pc := 18) (loc' := [(4, .int (-1)), (3, .int (-1)), (2, .int x1), (0, .ref 0), (1, .int a1)]) dX12_indices_18 (Nat.le_of_ble_eq_true rfl) rfl ?_
  refine r_iconst (pc := 20) dX12_indices_20 ki_0 ?_
  refine r_istore (pc := 21) (loc' := [(5, .int 0), (4, .int (-1)), (3, .int (-1)), (2, .int x1), (0, .ref 0), (1, .int a1)]) dX12_indices_21 (Nat.le_of_ble_eq_true rfl) rfl ?_
  refine r_drop (loc' := [(0, .ref 0), (1, .int a1), (3, .int (-1)), (4, .int (-1)), (5, .int 0)]) [4, 5, 2, 1, 0] rfl ?_
  exact qX12_indices_23 hS hK hN hX FU a1 (-1) (-1) 0 w4 h
/-! AlgolMillModel.variable ()I: E, 903 -/
theorem dX12_variable_0 : decode cX12_variable 0 = .ok (.aload_n 0, 1) := by decide +kernel
theorem dX12_variable_1 : decode cX12_variable 1 = .ok (.sipush 285, 3) := by decide +kernel
theorem dX12_variable_4 : decode cX12_variable 4 = .ok (.invokevirtual 491, 3) := by decide +kernel
theorem dX12_variable_7 : decode cX12_variable 7 = .ok (.istore_n 1, 1) := by decide +kernel
theorem dX12_variable_8 : decode cX12_variable 8 = .ok (.aload_n 0, 1) := by decide +kernel
theorem dX12_variable_9 : decode cX12_variable 9 = .ok (.invokevirtual 452, 3) := by decide +kernel
theorem dX12_variable_12 : decode cX12_variable 12 = .ok (.bipush 91, 2) := by decide +kernel
theorem dX12_variable_14 : decode cX12_variable 14 = .ok (.if_icmp .eq 13, 3) := by decide +kernel
theorem dX12_variable_17 : decode cX12_variable 17 = .ok (.aload_n 0, 1) := by decide +kernel
theorem dX12_variable_18 : decode cX12_variable 18 = .ok (.iconst 3, 1) := by decide +kernel
theorem dX12_variable_19 : decode cX12_variable 19 = .ok (.iconst 0, 1) := by decide +kernel
theorem dX12_variable_20 : decode cX12_variable 20 = .ok (.iconst 0, 1) := by decide +kernel
theorem dX12_variable_21 : decode cX12_variable 21 = .ok (.iconst 0, 1) := by decide +kernel
theorem dX12_variable_22 : decode cX12_variable 22 = .ok (.iload_n 1, 1) := by decide +kernel
theorem dX12_variable_23 : decode cX12_variable 23 = .ok (.invokevirtual 500, 3) := by decide +kernel
theorem dX12_variable_26 : decode cX12_variable 26 = .ok (.ireturn, 1) := by decide +kernel
theorem dX12_variable_27 : decode cX12_variable 27 = .ok (.aload_n 0, 1) := by decide +kernel
theorem dX12_variable_28 : decode cX12_variable 28 = .ok (.iload_n 1, 1) := by decide +kernel
theorem dX12_variable_29 : decode cX12_variable 29 = .ok (.invokevirtual 572, 3) := by decide +kernel
theorem dX12_variable_32 : decode cX12_variable 32 = .ok (.ireturn, 1) := by decide +kernel
def fX12_variable (rc : TX12_variable) (w : Wd) : Option (Option Int32 × Wd) :=
  be (fX12_expect 285 w) fun x1 w2 => bn2 (fX12_kind w2) fun x4 w5 => if x4 = 91 then (be (rc 1 x1 0 0 w5) fun x7 w8 => some (some x7, w8)) else (bn2 (fX12_node 3 0 0 0 x1 w5) fun x10 w11 => some (some x10, w11))
theorem pX12_variable {q : Gq} {l : Launch} {N : Option Value → Wd → Prop} {X : String → Wd → Prop} {rc : TX12_variable} {dd : Nat} (hS : HSX12_variable q l rc dd) (hK : 3 ≤ dd) {w : Wd} {R : Option Int32 × Wd} (hN : ∀ r : Int32, R.1 = some r → N (some (.int r)) R.2) (hX : R.1 = none → X RAE R.2) (h : fX12_variable rc w = some R) : RT (GM q) l (dd + 1) yX12_variable cX12_variable 2 ((some .int)) N X 0 [] [(0, .ref 0)] w := by
  unfold fX12_variable at h
  refine r_aload_n (pc := 0) dX12_variable_0 rfl 0 rfl ?_
  refine r_sipush (pc := 1) dX12_variable_1 ks_285 ?_
  replace h := be_e h; obtain ⟨o3, w2, ew2, h1, h2⟩ := h
  refine r_cVi (pc := 4) wyX12_expect oM0 rfl mlRX12_491 iyX12_expect syX12_expect ⟨Nat.succ_le_succ (Nat.le_trans (Nat.le_of_ble_eq_true rfl) hK), (Nat.le_of_ble_eq_true rfl)⟩ rfl rfl (Nat.le_of_ble_eq_true rfl) dX12_variable_4 (mX12_expect ew2 (fun x1 ex1 => pI.mk ?_) (fun ez => be_x h2 ez hX))
  replace h := h1 _ ex1
  refine r_istore_n (pc := 7) (loc' := [(1, .int x1), (0, .ref 0)]) dX12_variable_7 rfl (Nat.le_of_ble_eq_true rfl) rfl ?_
  refine r_aload_n (pc := 8) dX12_variable_8 rfl 1 rfl ?_
  replace h := bn2_e h; obtain ⟨x4, w5, ew5, h⟩ := h
  refine r_cVi (pc := 9) wyX12_kind oM0 rfl mlRX12_452 iyX12_kind syX12_kind ⟨Nat.succ_le_succ (Nat.le_trans (Nat.le_of_ble_eq_true rfl) hK), (Nat.le_of_ble_eq_true rfl)⟩ rfl rfl (Nat.le_of_ble_eq_true rfl) dX12_variable_9 (mX12_kind ew5 (pI.mk ?_))
  refine r_bipush (pc := 12) dX12_variable_12 kb_91 ?_
  refine r_icmp_eq (pc := 14) dX12_variable_14 rfl (fun hc6 => ?_) (fun hc6 => ?_)
  · replace h := if_t hc6 h
    refine r_aload_n (pc := 27) dX12_variable_27 rfl 1 rfl ?_
    refine r_iload_n (pc := 28) dX12_variable_28 rfl 0 rfl ?_
    replace h := be_e h; obtain ⟨o9, w8, ew8, h1, h2⟩ := h
    refine r_cVi (pc := 29) wyX12_indices oM0 rfl mlRX12_572 iyX12_indices syX12_indices ⟨Nat.le_refl _, (Nat.le_of_ble_eq_true rfl)⟩ rfl rfl (Nat.le_of_ble_eq_true rfl) dX12_variable_29 ((hS.2.1 _ _ _ _ _ _) ew8 (fun x7 ex7 => pI.mk ?_) (fun ez => be_x h2 ez hX))
    replace h := h1 _ ex7
    exact rE_i (pc := 32) rfl dX12_variable_32 h hN
  replace h := if_f hc6 h
  refine r_aload_n (pc := 17) dX12_variable_17 rfl 1 rfl ?_
  refine r_iconst (pc := 18) dX12_variable_18 ki_3 ?_
  refine r_iconst (pc := 19) dX12_variable_19 ki_0 ?_
  refine r_iconst (pc := 20) dX12_variable_20 ki_0 ?_
  refine r_iconst (pc := 21) dX12_variable_21 ki_0 ?_
  refine r_iload_n (pc := 22) dX12_variable_22 rfl 0 rfl ?_
  replace h := bn2_e h; obtain ⟨x10, w11, ew11, h⟩ := h
  refine r_cVi (pc := 23) wyX12_node oM0 rfl mlRX12_500 iyX12_node syX12_node ⟨Nat.succ_le_succ (Nat.le_trans (Nat.le_of_ble_eq_true rfl) hK), (Nat.le_of_ble_eq_true rfl)⟩ rfl rfl (Nat.le_of_ble_eq_true rfl) dX12_variable_23 (mX12_node ew11 (pI.mk ?_))
  exact rE_i (pc := 26) rfl dX12_variable_26 h hN
def BX12_variable (rc : TX12_variable) : TX12_variable := fun i a b c w => match i with
  | 0 => fX12_variable rc  w
  | 1 => fX12_indices rc a w
  | 2 => fX12_call rc  w
  | 3 => fX12_aim rc  w
  | 4 => fX12_expr rc  w
  | 5 => fX12_whole rc a w
  | 6 => fX12_simple rc a w
  | 7 => fX12_level rc a b w
  | 8 => fX12_primary rc a w
  | _ => none
def RX12_variable : Nat → TX12_variable
  | 0 => fun _ _ _ _ _ => none
  | n + 1 => BX12_variable (RX12_variable n)
theorem hzX12_variable {q : Gq} {l : Launch} (dd : Nat) : HSX12_variable q l (RX12_variable 0) dd :=
  ⟨fun _ _ _ _ _ h => absurd h (fun q => nomatch q),
    fun _ _ _ _ _ _ h => absurd h (fun q => nomatch q),
    fun _ _ _ _ _ h => absurd h (fun q => nomatch q),
    fun _ _ _ _ _ h => absurd h (fun q => nomatch q),
    fun _ _ _ _ _ h => absurd h (fun q => nomatch q),
    fun _ _ _ _ _ _ h => absurd h (fun q => nomatch q),
    fun _ _ _ _ _ _ h => absurd h (fun q => nomatch q),
    fun _ _ _ _ _ _ _ h => absurd h (fun q => nomatch q),
    fun _ _ _ _ _ _ h => absurd h (fun q => nomatch q)⟩
theorem hnX12_variable {q : Gq} {l : Launch} {rc : TX12_variable} {dd : Nat} (ih : HSX12_variable q l rc dd) (hK : 3 ≤ dd) : HSX12_variable q l (BX12_variable rc) (dd + 1) :=
  ⟨fun _ _ _ _ _ h hN hX => Ct.of (by decide) (Nat.le_of_ble_eq_true rfl) (pX12_variable ih hK hN hX h),
    fun _ _ _ _ _ _ h hN hX => Ct.of (by decide) (Nat.le_of_ble_eq_true rfl) (pX12_indices ih hK hN hX h),
    fun _ _ _ _ _ h hN hX => Ct.of (by decide) (Nat.le_of_ble_eq_true rfl) (pX12_call ih hK hN hX h),
    fun _ _ _ _ _ h hN hX => Ct.of (by decide) (Nat.le_of_ble_eq_true rfl) (pX12_aim ih hK hN hX h),
    fun _ _ _ _ _ h hN hX => Ct.of (by decide) (Nat.le_of_ble_eq_true rfl) (pX12_expr ih hK hN hX h),
    fun _ _ _ _ _ _ h hN hX => Ct.of (by decide) (Nat.le_of_ble_eq_true rfl) (pX12_whole ih hK hN hX h),
    fun _ _ _ _ _ _ h hN hX => Ct.of (by decide) (Nat.le_of_ble_eq_true rfl) (pX12_simple ih hK hN hX h),
    fun _ _ _ _ _ _ _ h hN hX => Ct.of (by decide) (Nat.le_of_ble_eq_true rfl) (pX12_level ih hK hN hX h),
    fun _ _ _ _ _ _ h hN hX => Ct.of (by decide) (Nat.le_of_ble_eq_true rfl) (pX12_primary ih hK hN hX h)⟩
theorem hsX12_variable {q : Gq} {l : Launch} (b9 : Nat) (hb : 3 ≤ b9) : ∀ n : Nat, HSX12_variable q l (RX12_variable n) (b9 + n) := by
  intro n
  induction n with
  | zero => exact hzX12_variable (b9 + 0)
  | succ n ih => exact hnX12_variable (rc := RX12_variable n) (dd := b9 + n) ih (Nat.le_trans hb (Nat.le_add_right _ _))
theorem mX12_variable {q : Gq} {l : Launch} {N : Option Value → Wd → Prop} {X : String → Wd → Prop} {w : Wd} {o : Option Int32} {u : Wd} (h : RX12_variable 900 0 0 0 0 w = some (o, u)) (hN : ∀ r : Int32, o = some r → N (some (.int r)) u) (hX : o = none → X RAE u) : Ct (GM q) l 903 yX12_variable cX12_variable 2 ((some .int)) [.ref 0] w N X := (hsX12_variable 3 (Nat.le_refl _) 900).1 _ _ _ _ _ h hN hX
theorem mX12_indices {q : Gq} {l : Launch} {N : Option Value → Wd → Prop} {X : String → Wd → Prop} {a1 : Int32} {w : Wd} {o : Option Int32} {u : Wd} (h : RX12_variable 900 1 a1 0 0 w = some (o, u)) (hN : ∀ r : Int32, o = some r → N (some (.int r)) u) (hX : o = none → X RAE u) : Ct (GM q) l 903 yX12_indices cX12_indices 7 ((some .int)) [.ref 0, .int a1] w N X := (hsX12_variable 3 (Nat.le_refl _) 900).2.1 _ _ _ _ _ _ h hN hX
theorem mX12_call {q : Gq} {l : Launch} {N : Option Value → Wd → Prop} {X : String → Wd → Prop} {w : Wd} {o : Option Int32} {u : Wd} (h : RX12_variable 900 2 0 0 0 w = some (o, u)) (hN : ∀ r : Int32, o = some r → N (some (.int r)) u) (hX : o = none → X RAE u) : Ct (GM q) l 903 yX12_call cX12_call 7 ((some .int)) [.ref 0] w N X := (hsX12_variable 3 (Nat.le_refl _) 900).2.2.1 _ _ _ _ _ h hN hX
theorem mX12_aim {q : Gq} {l : Launch} {N : Option Value → Wd → Prop} {X : String → Wd → Prop} {w : Wd} {o : Option Int32} {u : Wd} (h : RX12_variable 900 3 0 0 0 w = some (o, u)) (hN : ∀ r : Int32, o = some r → N (some (.int r)) u) (hX : o = none → X RAE u) : Ct (GM q) l 903 yX12_aim cX12_aim 6 ((some .int)) [.ref 0] w N X := (hsX12_variable 3 (Nat.le_refl _) 900).2.2.2.1 _ _ _ _ _ h hN hX
theorem mX12_expr {q : Gq} {l : Launch} {N : Option Value → Wd → Prop} {X : String → Wd → Prop} {w : Wd} {o : Option Int32} {u : Wd} (h : RX12_variable 900 4 0 0 0 w = some (o, u)) (hN : ∀ r : Int32, o = some r → N (some (.int r)) u) (hX : o = none → X RAE u) : Ct (GM q) l 903 yX12_expr cX12_expr 1 ((some .int)) [.ref 0] w N X := (hsX12_variable 3 (Nat.le_refl _) 900).2.2.2.2.1 _ _ _ _ _ h hN hX
theorem mX12_whole {q : Gq} {l : Launch} {N : Option Value → Wd → Prop} {X : String → Wd → Prop} {a1 : Int32} {w : Wd} {o : Option Int32} {u : Wd} (h : RX12_variable 900 5 a1 0 0 w = some (o, u)) (hN : ∀ r : Int32, o = some r → N (some (.int r)) u) (hX : o = none → X RAE u) : Ct (GM q) l 903 yX12_whole cX12_whole 7 ((some .int)) [.ref 0, .int a1] w N X := (hsX12_variable 3 (Nat.le_refl _) 900).2.2.2.2.2.1 _ _ _ _ _ _ h hN hX
theorem mX12_simple {q : Gq} {l : Launch} {N : Option Value → Wd → Prop} {X : String → Wd → Prop} {a1 : Int32} {w : Wd} {o : Option Int32} {u : Wd} (h : RX12_variable 900 6 a1 0 0 w = some (o, u)) (hN : ∀ r : Int32, o = some r → N (some (.int r)) u) (hX : o = none → X RAE u) : Ct (GM q) l 903 yX12_simple cX12_simple 2 ((some .int)) [.ref 0, .int a1] w N X := (hsX12_variable 3 (Nat.le_refl _) 900).2.2.2.2.2.2.1 _ _ _ _ _ _ h hN hX
theorem mX12_level {q : Gq} {l : Launch} {N : Option Value → Wd → Prop} {X : String → Wd → Prop} {a1 : Int32} {a2 : Int32} {w : Wd} {o : Option Int32} {u : Wd} (h : RX12_variable 900 7 a1 a2 0 w = some (o, u)) (hN : ∀ r : Int32, o = some r → N (some (.int r)) u) (hX : o = none → X RAE u) : Ct (GM q) l 903 yX12_level cX12_level 7 ((some .int)) [.ref 0, .int a1, .int a2] w N X := (hsX12_variable 3 (Nat.le_refl _) 900).2.2.2.2.2.2.2.1 _ _ _ _ _ _ _ h hN hX
theorem mX12_primary {q : Gq} {l : Launch} {N : Option Value → Wd → Prop} {X : String → Wd → Prop} {a1 : Int32} {w : Wd} {o : Option Int32} {u : Wd} (h : RX12_variable 900 8 a1 0 0 w = some (o, u)) (hN : ∀ r : Int32, o = some r → N (some (.int r)) u) (hX : o = none → X RAE u) : Ct (GM q) l 903 yX12_primary cX12_primary 5 ((some .int)) [.ref 0, .int a1] w N X := (hsX12_variable 3 (Nat.le_refl _) 900).2.2.2.2.2.2.2.2 _ _ _ _ _ _ h hN hX
