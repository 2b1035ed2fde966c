/-! the reference: methods that call each other -/
theorem ks_257 : (Int16.ofInt 257).toInt32 = 257 := by decide
theorem ks_258 : (Int16.ofInt 258).toInt32 = 258 := by decide
theorem ks_263 : (Int16.ofInt 263).toInt32 = 263 := by decide
theorem ks_271 : (Int16.ofInt 271).toInt32 = 271 := by decide
theorem ks_272 : (Int16.ofInt 272).toInt32 = 272 := by decide
theorem ks_273 : (Int16.ofInt 273).toInt32 = 273 := by decide
theorem ks_274 : (Int16.ofInt 274).toInt32 = 274 := by decide
/-! X12_block: methods that call each other: 0 X12_block, 1 X12_declaration, 2 X12_procedure, 3 X12_inner, 4 X12_statement, 5 X12_plain, 6 X12_loop -/
abbrev TX12_block : Type := Nat → Int32 → Int32 → Int32 → Wd → Option (Option Int32 × Wd)
def HX12_block (q : Gq) (l : Launch) (rc : TX12_block) (dd : Nat) : Prop := ∀ (w : Wd) (o : Option Int32) (u : Wd) (N : Option Value → Wd → Prop) (X : String → Wd → Prop), rc 0 0 0 0 w = some (o, u) → (∀ r : Int32, o = some r → N (some (.int r)) u) → (o = none → X RAE u) → Ct (GM q) l dd yX12_block cX12_block 9 ((some .int)) [.ref 0] w N X
def HX12_declaration (q : Gq) (l : Launch) (rc : TX12_block) (dd : Nat) : Prop := ∀ (a1 : Int32) (w : Wd) (o : Option Int32) (u : Wd) (N : Option Value → Wd → Prop) (X : String → Wd → Prop), rc 1 a1 0 0 w = some (o, u) → (∀ r : Int32, o = some r → N (some (.int r)) u) → (o = none → X RAE u) → Ct (GM q) l dd yX12_declaration cX12_declaration 5 ((some .int)) [.ref 0, .int a1] w N X
def HX12_procedure (q : Gq) (l : Launch) (rc : TX12_block) (dd : Nat) : Prop := ∀ (a1 : Int32) (w : Wd) (o : Option Int32) (u : Wd) (N : Option Value → Wd → Prop) (X : String → Wd → Prop), rc 2 a1 0 0 w = some (o, u) → (∀ r : Int32, o = some r → N none u) → (o = none → X RAE u) → Ct (GM q) l dd yX12_procedure cX12_procedure 11 (none) [.ref 0, .int a1] w N X
def HX12_inner (q : Gq) (l : Launch) (rc : TX12_block) (dd : Nat) : Prop := ∀ (w : Wd) (o : Option Int32) (u : Wd) (N : Option Value → Wd → Prop) (X : String → Wd → Prop), rc 3 0 0 0 w = some (o, u) → (∀ r : Int32, o = some r → N (some (.int r)) u) → (o = none → X RAE u) → Ct (GM q) l dd yX12_inner cX12_inner 3 ((some .int)) [.ref 0] w N X
def HX12_statement (q : Gq) (l : Launch) (rc : TX12_block) (dd : Nat) : Prop := ∀ (w : Wd) (o : Option Int32) (u : Wd) (N : Option Value → Wd → Prop) (X : String → Wd → Prop), rc 4 0 0 0 w = some (o, u) → (∀ r : Int32, o = some r → N (some (.int r)) u) → (o = none → X RAE u) → Ct (GM q) l dd yX12_statement cX12_statement 4 ((some .int)) [.ref 0] w N X
def HX12_plain (q : Gq) (l : Launch) (rc : TX12_block) (dd : Nat) : Prop := ∀ (w : Wd) (o : Option Int32) (u : Wd) (N : Option Value → Wd → Prop) (X : String → Wd → Prop), rc 5 0 0 0 w = some (o, u) → (∀ r : Int32, o = some r → N (some (.int r)) u) → (o = none → X RAE u) → Ct (GM q) l dd yX12_plain cX12_plain 6 ((some .int)) [.ref 0] w N X
def HX12_loop (q : Gq) (l : Launch) (rc : TX12_block) (dd : Nat) : Prop := ∀ (w : Wd) (o : Option Int32) (u : Wd) (N : Option Value → Wd → Prop) (X : String → Wd → Prop), rc 6 0 0 0 w = some (o, u) → (∀ r : Int32, o = some r → N (some (.int r)) u) → (o = none → X RAE u) → Ct (GM q) l dd yX12_loop cX12_loop 10 ((some .int)) [.ref 0] w N X
def HSX12_block (q : Gq) (l : Launch) (rc : TX12_block) (dd : Nat) : Prop := HX12_block q l rc dd ∧ HX12_declaration q l rc dd ∧ HX12_procedure q l rc dd ∧ HX12_inner q l rc dd ∧ HX12_statement q l rc dd ∧ HX12_plain q l rc dd ∧ HX12_loop q l rc dd
/-! AlgolMillModel.inner ()I: E, 1805 -/
theorem dX12_inner_0 : decode cX12_inner 0 = .ok (.aload_n 0, 1) := by decide +kernel
theorem dX12_inner_1 : decode cX12_inner 1 = .ok (.getfield 471, 3) := by decide +kernel
theorem dX12_inner_4 : decode cX12_inner 4 = .ok (.istore_n 1, 1) := by decide +kernel
theorem dX12_inner_5 : decode cX12_inner 5 = .ok (.aload_n 0, 1) := by decide +kernel
theorem dX12_inner_6 : decode cX12_inner 6 = .ok (.aload_n 0, 1) := by decide +kernel
theorem dX12_inner_7 : decode cX12_inner 7 = .ok (.aload_n 0, 1) := by decide +kernel
theorem dX12_inner_8 : decode cX12_inner 8 = .ok (.getfield 471, 3) := by decide +kernel
theorem dX12_inner_11 : decode cX12_inner 11 = .ok (.iconst (-1), 1) := by decide +kernel
theorem dX12_inner_12 : decode cX12_inner 12 = .ok (.invokevirtual 497, 3) := by decide +kernel
theorem dX12_inner_15 : decode cX12_inner 15 = .ok (.putfield 471, 3) := by decide +kernel
theorem dX12_inner_18 : decode cX12_inner 18 = .ok (.aload_n 0, 1) := by decide +kernel
theorem dX12_inner_19 : decode cX12_inner 19 = .ok (.invokevirtual 514, 3) := by decide +kernel
theorem dX12_inner_22 : decode cX12_inner 22 = .ok (.istore_n 2, 1) := by decide +kernel
theorem dX12_inner_23 : decode cX12_inner 23 = .ok (.aload_n 0, 1) := by decide +kernel
theorem dX12_inner_24 : decode cX12_inner 24 = .ok (.iload_n 1, 1) := by decide +kernel
theorem dX12_inner_25 : decode cX12_inner 25 = .ok (.putfield 471, 3) := by decide +kernel
theorem dX12_inner_28 : decode cX12_inner 28 = .ok (.iload_n 2, 1) := by decide +kernel
theorem dX12_inner_29 : decode cX12_inner 29 = .ok (.ireturn, 1) := by decide +kernel
def fX12_inner (rc : TX12_block) (w : Wd) : Option (Option Int32 × Wd) :=
  lt ((gi w 0 29)) fun x1 => bn2 (fX12_newScope (gi w 0 29) (-1) w) fun x2 w3 => lt (si w3 0 29 x2) fun w4 => be (rc 4 0 0 0 w4) fun x5 w6 => lt (si w6 0 29 x1) fun w8 => some (some x5, w8)
theorem pX12_inner {q : Gq} {l : Launch} {N : Option Value → Wd → Prop} {X : String → Wd → Prop} {rc : TX12_block} {dd : Nat} (hS : HSX12_block q l rc dd) (hK : 905 ≤ dd) {w : Wd} {R : Option Int32 × Wd} (hN : ∀ r : Int32, R.1 = some r → N (some (.int r)) R.2) (hX : R.1 = none → X RAE R.2) (h : fX12_inner rc w = some R) : RT (GM q) l (dd + 1) yX12_inner cX12_inner 3 ((some .int)) N X 0 [] [(0, .ref 0)] w := by
  unfold fX12_inner at h
  refine r_aload_n (pc := 0) dX12_inner_0 rfl 0 rfl ?_
  refine r_get (pc := 1) (j := 29) (v := .int (gi w 0 29)) oM0 cf12 flRX12_471 rfl dX12_inner_1 rfl ?_
  replace h := lt_e h; obtain ⟨x1, ex1, h⟩ := h
  refine r_topi ex1 ?_
  refine r_istore_n (pc := 4) (loc' := [(1, .int x1), (0, .ref 0)]) dX12_inner_4 rfl (Nat.le_of_ble_eq_true rfl) rfl ?_
  refine r_aload_n (pc := 5) dX12_inner_5 rfl 1 rfl ?_
  refine r_aload_n (pc := 6) dX12_inner_6 rfl 1 rfl ?_
  refine r_aload_n (pc := 7) dX12_inner_7 rfl 1 rfl ?_
  refine r_get (pc := 8) (j := 29) (v := .int (gi w 0 29)) oM0 cf12 flRX12_471 rfl dX12_inner_8 rfl ?_
  refine r_iconst (pc := 11) dX12_inner_11 ki_m1 ?_
  replace h := bn2_e h; obtain ⟨x2, w3, ew3, h⟩ := h
  refine r_cVi (pc := 12) wyX12_newScope oM0 rfl mlRX12_497 iyX12_newScope syX12_newScope ⟨Nat.succ_le_succ (Nat.le_trans (Nat.le_of_ble_eq_true rfl) hK), (Nat.le_of_ble_eq_true rfl)⟩ rfl rfl (Nat.le_of_ble_eq_true rfl) dX12_inner_12 (mX12_newScope ew3 (pI.mk ?_))
  replace h := lt_e h; obtain ⟨w4, ew4, h⟩ := h
  refine r_putI (pc := 15) (j := 29) oM0 cf12 flRX12_471 rfl rfl rfl rfl dX12_inner_15 ?_
  refine r_w ew4 ?_
  refine r_aload_n (pc := 18) dX12_inner_18 rfl 1 rfl ?_
  replace h := be_e h; obtain ⟨o7, w6, ew6, h1, h2⟩ := h
  refine r_cVi (pc := 19) wyX12_statement oM0 rfl mlRX12_514 iyX12_statement syX12_statement ⟨Nat.le_refl _, (Nat.le_of_ble_eq_true rfl)⟩ rfl rfl (Nat.le_of_ble_eq_true rfl) dX12_inner_19 ((hS.2.2.2.2.1 _ _ _ _ _) ew6 (fun x5 ex5 => pI.mk ?_) (fun ez => be_x h2 ez hX))
  replace h := h1 _ ex5
  refine r_istore_n (pc := 22) (loc' := [(2, .int x5), (1, .int x1), (0, .ref 0)]) dX12_inner_22 rfl (Nat.le_of_ble_eq_true rfl) rfl ?_
  refine r_aload_n (pc := 23) dX12_inner_23 rfl 2 rfl ?_
  refine r_iload_n (pc := 24) dX12_inner_24 rfl 1 rfl ?_
  replace h := lt_e h; obtain ⟨w8, ew8, h⟩ := h
  refine r_putI (pc := 25) (j := 29) oM0 cf12 flRX12_471 rfl rfl rfl rfl dX12_inner_25 ?_
  refine r_w ew8 ?_
  refine r_iload_n (pc := 28) dX12_inner_28 rfl 0 rfl ?_
  exact rE_i (pc := 29) rfl dX12_inner_29 h hN
/-! AlgolMillModel.loop ()I: E, 1805 -/
theorem dX12_loop_0 : decode cX12_loop 0 = .ok (.aload_n 0, 1) := by decide +kernel
theorem dX12_loop_1 : decode cX12_loop 1 = .ok (.invokevirtual 459, 3) := by decide +kernel
theorem dX12_loop_4 : decode cX12_loop 4 = .ok (.istore_n 1, 1) := by decide +kernel
theorem dX12_loop_5 : decode cX12_loop 5 = .ok (.aload_n 0, 1) := by decide +kernel
theorem dX12_loop_6 : decode cX12_loop 6 = .ok (.dup, 1) := by decide +kernel
theorem dX12_loop_7 : decode cX12_loop 7 = .ok (.getfield 449, 3) := by decide +kernel
theorem dX12_loop_10 : decode cX12_loop 10 = .ok (.iconst 1, 1) := by decide +kernel
theorem dX12_loop_11 : decode cX12_loop 11 = .ok (.iadd, 1) := by decide +kernel
theorem dX12_loop_12 : decode cX12_loop 12 = .ok (.putfield 449, 3) := by decide +kernel
theorem dX12_loop_15 : decode cX12_loop 15 = .ok (.aload_n 0, 1) := by decide +kernel
theorem dX12_loop_16 : decode cX12_loop 16 = .ok (.invokevirtual 569, 3) := by decide +kernel
theorem dX12_loop_19 : decode cX12_loop 19 = .ok (.istore_n 2, 1) := by decide +kernel
theorem dX12_loop_20 : decode cX12_loop 20 = .ok (.aload_n 0, 1) := by decide +kernel
theorem dX12_loop_21 : decode cX12_loop 21 = .ok (.sipush 290, 3) := by decide +kernel
theorem dX12_loop_24 : decode cX12_loop 24 = .ok (.invokevirtual 491, 3) := by decide +kernel
theorem dX12_loop_27 : decode cX12_loop 27 = .ok (.istore_n 3, 1) := by decide +kernel
theorem dX12_loop_28 : decode cX12_loop 28 = .ok (.iconst (-1), 1) := by decide +kernel
theorem dX12_loop_29 : decode cX12_loop 29 = .ok (.istore 4, 2) := by decide +kernel
theorem dX12_loop_31 : decode cX12_loop 31 = .ok (.iconst (-1), 1) := by decide +kernel
theorem dX12_loop_32 : decode cX12_loop 32 = .ok (.istore 5, 2) := by decide +kernel
theorem dX12_loop_34 : decode cX12_loop 34 = .ok (.aload_n 0, 1) := by decide +kernel
theorem dX12_loop_35 : decode cX12_loop 35 = .ok (.invokevirtual 538, 3) := by decide +kernel
theorem dX12_loop_38 : decode cX12_loop 38 = .ok (.istore 6, 2) := by decide +kernel
theorem dX12_loop_40 : decode cX12_loop 40 = .ok (.aload_n 0, 1) := by decide +kernel
theorem dX12_loop_41 : decode cX12_loop 41 = .ok (.sipush 272, 3) := by decide +kernel
theorem dX12_loop_44 : decode cX12_loop 44 = .ok (.invokevirtual 517, 3) := by decide +kernel
theorem dX12_loop_47 : decode cX12_loop 47 = .ok (.ifCond .eq 41, 3) := by decide +kernel
theorem dX12_loop_50 : decode cX12_loop 50 = .ok (.aload_n 0, 1) := by decide +kernel
theorem dX12_loop_51 : decode cX12_loop 51 = .ok (.invokevirtual 538, 3) := by decide +kernel
theorem dX12_loop_54 : decode cX12_loop 54 = .ok (.istore 8, 2) := by decide +kernel
theorem dX12_loop_56 : decode cX12_loop 56 = .ok (.aload_n 0, 1) := by decide +kernel
theorem dX12_loop_57 : decode cX12_loop 57 = .ok (.sipush 273, 3) := by decide +kernel
theorem dX12_loop_60 : decode cX12_loop 60 = .ok (.invokevirtual 491, 3) := by decide +kernel
theorem dX12_loop_63 : decode cX12_loop 63 = .ok (.istore_n 3, 1) := by decide +kernel
theorem dX12_loop_64 : decode cX12_loop 64 = .ok (.aload_n 0, 1) := by decide +kernel
theorem dX12_loop_65 : decode cX12_loop 65 = .ok (.invokevirtual 538, 3) := by decide +kernel
theorem dX12_loop_68 : decode cX12_loop 68 = .ok (.istore 9, 2) := by decide +kernel
theorem dX12_loop_70 : decode cX12_loop 70 = .ok (.aload_n 0, 1) := by decide +kernel
theorem dX12_loop_71 : decode cX12_loop 71 = .ok (.bipush 31, 2) := by decide +kernel
theorem dX12_loop_73 : decode cX12_loop 73 = .ok (.iload 6, 2) := by decide +kernel
theorem dX12_loop_75 : decode cX12_loop 75 = .ok (.iload 8, 2) := by decide +kernel
theorem dX12_loop_77 : decode cX12_loop 77 = .ok (.iload 9, 2) := by decide +kernel
theorem dX12_loop_79 : decode cX12_loop 79 = .ok (.iload_n 1, 1) := by decide +kernel
theorem dX12_loop_80 : decode cX12_loop 80 = .ok (.invokevirtual 500, 3) := by decide +kernel
theorem dX12_loop_83 : decode cX12_loop 83 = .ok (.istore 7, 2) := by decide +kernel
theorem dX12_loop_85 : decode cX12_loop 85 = .ok (.goto 49, 3) := by decide +kernel
theorem dX12_loop_88 : decode cX12_loop 88 = .ok (.aload_n 0, 1) := by decide +kernel
theorem dX12_loop_89 : decode cX12_loop 89 = .ok (.sipush 274, 3) := by decide +kernel
theorem dX12_loop_92 : decode cX12_loop 92 = .ok (.invokevirtual 517, 3) := by decide +kernel
theorem dX12_loop_95 : decode cX12_loop 95 = .ok (.ifCond .eq 26, 3) := by decide +kernel
theorem dX12_loop_98 : decode cX12_loop 98 = .ok (.aload_n 0, 1) := by decide +kernel
theorem dX12_loop_99 : decode cX12_loop 99 = .ok (.invokevirtual 538, 3) := by decide +kernel
theorem dX12_loop_102 : decode cX12_loop 102 = .ok (.istore 8, 2) := by decide +kernel
theorem dX12_loop_104 : decode cX12_loop 104 = .ok (.aload_n 0, 1) := by decide +kernel
theorem dX12_loop_105 : decode cX12_loop 105 = .ok (.bipush 32, 2) := by decide +kernel
theorem dX12_loop_107 : decode cX12_loop 107 = .ok (.iload 6, 2) := by decide +kernel
theorem dX12_loop_109 : decode cX12_loop 109 = .ok (.iload 8, 2) := by decide +kernel
theorem dX12_loop_111 : decode cX12_loop 111 = .ok (.iconst 0, 1) := by decide +kernel
theorem dX12_loop_112 : decode cX12_loop 112 = .ok (.iload_n 1, 1) := by decide +kernel
theorem dX12_loop_113 : decode cX12_loop 113 = .ok (.invokevirtual 500, 3) := by decide +kernel
theorem dX12_loop_116 : decode cX12_loop 116 = .ok (.istore 7, 2) := by decide +kernel
theorem dX12_loop_118 : decode cX12_loop 118 = .ok (.goto 16, 3) := by decide +kernel
theorem dX12_loop_121 : decode cX12_loop 121 = .ok (.aload_n 0, 1) := by decide +kernel
theorem dX12_loop_122 : decode cX12_loop 122 = .ok (.bipush 30, 2) := by decide +kernel
theorem dX12_loop_124 : decode cX12_loop 124 = .ok (.iload 6, 2) := by decide +kernel
theorem dX12_loop_126 : decode cX12_loop 126 = .ok (.iconst 0, 1) := by decide +kernel
theorem dX12_loop_127 : decode cX12_loop 127 = .ok (.iconst 0, 1) := by decide +kernel
theorem dX12_loop_128 : decode cX12_loop 128 = .ok (.iload_n 1, 1) := by decide +kernel
theorem dX12_loop_129 : decode cX12_loop 129 = .ok (.invokevirtual 500, 3) := by decide +kernel
theorem dX12_loop_132 : decode cX12_loop 132 = .ok (.istore 7, 2) := by decide +kernel
theorem dX12_loop_134 : decode cX12_loop 134 = .ok (.iload 4, 2) := by decide +kernel
theorem dX12_loop_136 : decode cX12_loop 136 = .ok (.ifCond .ge 10, 3) := by decide +kernel
theorem dX12_loop_139 : decode cX12_loop 139 = .ok (.iload 7, 2) := by decide +kernel
theorem dX12_loop_141 : decode cX12_loop 141 = .ok (.istore 4, 2) := by decide +kernel
theorem dX12_loop_143 : decode cX12_loop 143 = .ok (.goto 12, 3) := by decide +kernel
theorem dX12_loop_146 : decode cX12_loop 146 = .ok (.aload_n 0, 1) := by decide +kernel
theorem dX12_loop_147 : decode cX12_loop 147 = .ok (.getfield 111, 3) := by decide +kernel
theorem dX12_loop_150 : decode cX12_loop 150 = .ok (.iload 5, 2) := by decide +kernel
theorem dX12_loop_152 : decode cX12_loop 152 = .ok (.iload 7, 2) := by decide +kernel
theorem dX12_loop_154 : decode cX12_loop 154 = .ok (.iastore, 1) := by decide +kernel
theorem dX12_loop_155 : decode cX12_loop 155 = .ok (.iload 7, 2) := by decide +kernel
theorem dX12_loop_157 : decode cX12_loop 157 = .ok (.istore 5, 2) := by decide +kernel
theorem dX12_loop_159 : decode cX12_loop 159 = .ok (.aload_n 0, 1) := by decide +kernel
theorem dX12_loop_160 : decode cX12_loop 160 = .ok (.bipush 44, 2) := by decide +kernel
theorem dX12_loop_162 : decode cX12_loop 162 = .ok (.invokevirtual 517, 3) := by decide +kernel
theorem dX12_loop_165 : decode cX12_loop 165 = .ok (.ifCond .ne (-131), 3) := by decide +kernel
theorem dX12_loop_168 : decode cX12_loop 168 = .ok (.aload_n 0, 1) := by decide +kernel
theorem dX12_loop_169 : decode cX12_loop 169 = .ok (.sipush 271, 3) := by decide +kernel
theorem dX12_loop_172 : decode cX12_loop 172 = .ok (.invokevirtual 491, 3) := by decide +kernel
theorem dX12_loop_175 : decode cX12_loop 175 = .ok (.istore_n 3, 1) := by decide +kernel
theorem dX12_loop_176 : decode cX12_loop 176 = .ok (.aload_n 0, 1) := by decide +kernel
theorem dX12_loop_177 : decode cX12_loop 177 = .ok (.invokevirtual 560, 3) := by decide +kernel
theorem dX12_loop_180 : decode cX12_loop 180 = .ok (.istore 6, 2) := by decide +kernel
theorem dX12_loop_182 : decode cX12_loop 182 = .ok (.aload_n 0, 1) := by decide +kernel
theorem dX12_loop_183 : decode cX12_loop 183 = .ok (.dup, 1) := by decide +kernel
theorem dX12_loop_184 : decode cX12_loop 184 = .ok (.getfield 449, 3) := by decide +kernel
theorem dX12_loop_187 : decode cX12_loop 187 = .ok (.iconst 1, 1) := by decide +kernel
theorem dX12_loop_188 : decode cX12_loop 188 = .ok (.isub, 1) := by decide +kernel
theorem dX12_loop_189 : decode cX12_loop 189 = .ok (.putfield 449, 3) := by decide +kernel
theorem dX12_loop_192 : decode cX12_loop 192 = .ok (.aload_n 0, 1) := by decide +kernel
theorem dX12_loop_193 : decode cX12_loop 193 = .ok (.bipush 26, 2) := by decide +kernel
theorem dX12_loop_195 : decode cX12_loop 195 = .ok (.iload_n 2, 1) := by decide +kernel
theorem dX12_loop_196 : decode cX12_loop 196 = .ok (.iload 4, 2) := by decide +kernel
theorem dX12_loop_198 : decode cX12_loop 198 = .ok (.iload 6, 2) := by decide +kernel
theorem dX12_loop_200 : decode cX12_loop 200 = .ok (.iload_n 1, 1) := by decide +kernel
theorem dX12_loop_201 : decode cX12_loop 201 = .ok (.invokevirtual 500, 3) := by decide +kernel
theorem dX12_loop_204 : decode cX12_loop 204 = .ok (.ireturn, 1) := by decide +kernel
def fX12_loop_155 (rc : TX12_block) (k_34 : Int32 → Int32 → Int32 → Int32 → Wd → Option (Option Int32 × Wd)) (a1 : Int32) (a2 : Int32) (a4 : Int32) (a7 : Int32) (w : Wd) : Option (Option Int32 × Wd) :=
  be (fX12_skip 44 w) fun x1 w2 => if x1 = true then (k_34 a1 a2 a4 a7 w2) else (be (fX12_expect 271 w2) fun x5 w6 => be (rc 3 0 0 0 w6) fun x8 w9 => lt (si w9 0 8 ((gi w9 0 8) - 1)) fun w11 => bn2 (fX12_node 26 a2 a4 x8 a1 w11) fun x12 w13 => some (some x12, w13))
theorem pX12_loop_155 {q : Gq} {l : Launch} {N : Option Value → Wd → Prop} {X : String → Wd → Prop} {rc : TX12_block} {dd : Nat} (hS : HSX12_block q l rc dd) (hK : 905 ≤ dd) {w : Wd} {R : Option Int32 × Wd} (hN : ∀ r : Int32, R.1 = some r → N (some (.int r)) R.2) (hX : R.1 = none → X RAE R.2) {k_34 : Int32 → Int32 → Int32 → Int32 → Wd → Option (Option Int32 × Wd)} (hk_34 : ∀ (a1 : Int32) (a2 : Int32) (a4 : Int32) (a5 : Int32) (w : Wd), k_34 a1 a2 a4 a5 w = some R → RT (GM q) l (dd + 1) yX12_loop cX12_loop 10 ((some .int)) N X 34 [] [(0, .ref 0), (1, .int a1), (2, .int a2), (4, .int a4), (5, .int a5)] w) {a1 : Int32} {a2 : Int32} {a4 : Int32} {a7 : Int32} (h : fX12_loop_155 rc k_34 a1 a2 a4 a7 w = some R) : RT (GM q) l (dd + 1) yX12_loop cX12_loop 10 ((some .int)) N X 155 [] [(0, .ref 0), (1, .int a1), (2, .int a2), (4, .int a4), (7, .int a7)] w := by
  unfold fX12_loop_155 at h
  refine r_iload (pc := 155) dX12_loop_155 4 rfl ?_
  refine r_istore (pc := 157) (loc' := [(5, .int a7), (0, .ref 0), (1, .int a1), (2, .int a2), (4, .int a4), (7, .int a7)]) dX12_loop_157 (Nat.le_of_ble_eq_true rfl) rfl ?_
  refine r_aload_n (pc := 159) dX12_loop_159 rfl 1 rfl ?_
  refine r_bipush (pc := 160) dX12_loop_160 kb_44 ?_
  replace h := be_e h; obtain ⟨o3, w2, ew2, h1, h2⟩ := h
  refine r_cVi (pc := 162) wyX12_skip oM0 rfl mlRX12_517 iyX12_skip syX12_skip ⟨Nat.succ_le_succ (Nat.le_trans (Nat.le_of_ble_eq_true rfl) hK), (Nat.le_of_ble_eq_true rfl)⟩ rfl rfl (Nat.le_of_ble_eq_true rfl) dX12_loop_162 (mX12_skip ew2 (fun x1 ex1 => pI.mk ?_) (fun ez => be_x h2 ez hX))
  replace h := h1 _ ex1
  refine r_z_ne (pc := 165) dX12_loop_165 rfl (fun hc4 => ?_) (fun hc4 => ?_)
  · replace h := if_t hc4 h
    refine r_drop (loc' := [(0, .ref 0), (1, .int a1), (2, .int a2), (4, .int a4), (5, .int a7)]) [1, 2, 3, 4, 0] rfl ?_
    exact hk_34 a1 a2 a4 a7 w2 h
  replace h := if_f hc4 h
  refine r_aload_n (pc := 168) dX12_loop_168 rfl 1 rfl ?_
  refine r_sipush (pc := 169) dX12_loop_169 ks_271 ?_
  replace h := be_e h; obtain ⟨o7, w6, ew6, h1, h2⟩ := h
  refine r_cVi (pc := 172) wyX12_expect oM0 rfl mlRX12_491 iyX12_expect syX12_expect ⟨Nat.succ_le_succ (Nat.le_trans (Nat.le_of_ble_eq_true rfl) hK), (Nat.le_of_ble_eq_true rfl)⟩ rfl rfl (Nat.le_of_ble_eq_true rfl) dX12_loop_172 (mX12_expect ew6 (fun x5 ex5 => pI.mk ?_) (fun ez => be_x h2 ez hX))
  replace h := h1 _ ex5
  refine r_istore_n (pc := 175) (loc' := [(3, .int x5), (5, .int a7), (0, .ref 0), (1, .int a1), (2, .int a2), (4, .int a4), (7, .int a7)]) dX12_loop_175 rfl (Nat.le_of_ble_eq_true rfl) rfl ?_
  refine r_aload_n (pc := 176) dX12_loop_176 rfl 2 rfl ?_
  replace h := be_e h; obtain ⟨o10, w9, ew9, h1, h2⟩ := h
  refine r_cVi (pc := 177) wyX12_inner oM0 rfl mlRX12_560 iyX12_inner syX12_inner ⟨Nat.le_refl _, (Nat.le_of_ble_eq_true rfl)⟩ rfl rfl (Nat.le_of_ble_eq_true rfl) dX12_loop_177 ((hS.2.2.2.1 _ _ _ _ _) ew9 (fun x8 ex8 => pI.mk ?_) (fun ez => be_x h2 ez hX))
  replace h := h1 _ ex8
  refine r_istore (pc := 180) (loc' := [(6, .int x8), (3, .int x5), (5, .int a7), (0, .ref 0), (1, .int a1), (2, .int a2), (4, .int a4), (7, .int a7)]) dX12_loop_180 (Nat.le_of_ble_eq_true rfl) rfl ?_
  refine r_aload_n (pc := 182) dX12_loop_182 rfl 3 rfl ?_
  refine r_dup (pc := 183) dX12_loop_183 rfl ?_
  refine r_get (pc := 184) (j := 8) (v := .int (gi w9 0 8)) oM0 cf12 flRX12_449 rfl dX12_loop_184 rfl ?_
  refine r_iconst (pc := 187) dX12_loop_187 ki_1 ?_
  refine r_isub (pc := 188) dX12_loop_188 ?_
  replace h := lt_e h; obtain ⟨w11, ew11, h⟩ := h
  refine r_putI (pc := 189) (j := 8) oM0 cf12 flRX12_449 rfl rfl rfl rfl dX12_loop_189 ?_
  refine r_w ew11 ?_
  refine r_aload_n (pc := 192) dX12_loop_192 rfl 3 rfl ?_
  refine r_bipush (pc := 193) dX12_loop_193 kb_26 ?_
  refine r_iload_n (pc := 195) dX12_loop_195 rfl 5 rfl ?_
  refine r_iload (pc := 196) dX12_loop_196 6 rfl ?_
  refine r_iload (pc := 198) dX12_loop_198 0 rfl ?_
  refine r_iload_n (pc := 200) dX12_loop_200 rfl 4 rfl ?_
  replace h := bn2_e h; obtain ⟨x12, w13, ew13, h⟩ := h
  refine r_cVi (pc := 201) wyX12_node oM0 rfl mlRX12_500 iyX12_node syX12_node ⟨Nat.succ_le_succ (Nat.le_trans (Nat.le_of_ble_eq_true rfl) hK), (Nat.le_of_ble_eq_true rfl)⟩ rfl rfl (Nat.le_of_ble_eq_true rfl) dX12_loop_201 (mX12_node ew13 (pI.mk ?_))
  exact rE_i (pc := 204) rfl dX12_loop_204 h hN
def fX12_loop_134 (rc : TX12_block) (k_34 : Int32 → Int32 → Int32 → Int32 → Wd → Option (Option Int32 × Wd)) (a1 : Int32) (a2 : Int32) (a4 : Int32) (a5 : Int32) (a7 : Int32) (w : Wd) : Option (Option Int32 × Wd) :=
  if 0 ≤ a4 then (if inb a5 24000 = true then lt (si w 11 (Int32.toNatClampNeg a5) a7) fun w3 => fX12_loop_155 rc k_34 a1 a2 a4 a7 w3 else none) else (fX12_loop_155 rc k_34 a1 a2 a7 a7 w)
theorem pX12_loop_134 {q : Gq} {l : Launch} {N : Option Value → Wd → Prop} {X : String → Wd → Prop} {rc : TX12_block} {dd : Nat} (hS : HSX12_block q l rc dd) (hK : 905 ≤ dd) {w : Wd} {R : Option Int32 × Wd} (hN : ∀ r : Int32, R.1 = some r → N (some (.int r)) R.2) (hX : R.1 = none → X RAE R.2) {k_34 : Int32 → Int32 → Int32 → Int32 → Wd → Option (Option Int32 × Wd)} (hk_34 : ∀ (a1 : Int32) (a2 : Int32) (a4 : Int32) (a5 : Int32) (w : Wd), k_34 a1 a2 a4 a5 w = some R → RT (GM q) l (dd + 1) yX12_loop cX12_loop 10 ((some .int)) N X 34 [] [(0, .ref 0), (1, .int a1), (2, .int a2), (4, .int a4), (5, .int a5)] w) {a1 : Int32} {a2 : Int32} {a4 : Int32} {a5 : Int32} {a7 : Int32} (h : fX12_loop_134 rc k_34 a1 a2 a4 a5 a7 w = some R) : RT (GM q) l (dd + 1) yX12_loop cX12_loop 10 ((some .int)) N X 134 [] [(0, .ref 0), (1, .int a1), (2, .int a2), (4, .int a4), (5, .int a5), (7, .int a7)] w := by
  unfold fX12_loop_134 at h
  refine r_iload (pc := 134) dX12_loop_134 3 rfl ?_
  refine r_if_ge (pc := 136) dX12_loop_136 rfl (fun hc1 => ?_) (fun hc1 => ?_)
  · replace h := if_t hc1 h
    refine r_aload_n (pc := 146) dX12_loop_146 rfl 0 rfl ?_
    refine r_get (pc := 147) (j := 20) (v := .ref 11) oM0 cf12 flRX12_111 rfl dX12_loop_147 rfl ?_
    refine r_iload (pc := 150) dX12_loop_150 4 rfl ?_
    refine r_iload (pc := 152) dX12_loop_152 5 rfl ?_
    replace h := if_n h; obtain ⟨hb2, h⟩ := h
    replace h := lt_e h; obtain ⟨w3, ew3, h⟩ := h
    refine r_iast (pc := 154) aM11 (inb_in hb2) dX12_loop_154 ?_
    refine r_w ew3 ?_
    refine r_drop (loc' := [(0, .ref 0), (1, .int a1), (2, .int a2), (4, .int a4), (7, .int a7)]) [0, 1, 2, 3, 5] rfl ?_
    exact pX12_loop_155 hS hK hN hX hk_34 h
  replace h := if_f hc1 h
  refine r_iload (pc := 139) dX12_loop_139 5 rfl ?_
  refine r_istore (pc := 141) (loc' := [(4, .int a7), (0, .ref 0), (1, .int a1), (2, .int a2), (5, .int a5), (7, .int a7)]) dX12_loop_141 (Nat.le_of_ble_eq_true rfl) rfl ?_
  refine r_goto (pc := 143) dX12_loop_143 rfl ?_
  refine r_drop (loc' := [(0, .ref 0), (1, .int a1), (2, .int a2), (4, .int a7), (7, .int a7)]) [1, 2, 3, 0, 5] rfl ?_
  exact pX12_loop_155 hS hK hN hX hk_34 h
def fX12_loop_34 (rc : TX12_block) (k_34 : Int32 → Int32 → Int32 → Int32 → Wd → Option (Option Int32 × Wd)) (a1 : Int32) (a2 : Int32) (a4 : Int32) (a5 : Int32) (w : Wd) : Option (Option Int32 × Wd) :=
  be (RX12_variable 900 4 0 0 0 w) fun x1 w2 => be (fX12_skip 272 w2) fun x4 w5 => if x4 = true then (be (RX12_variable 900 4 0 0 0 w5) fun x8 w9 => be (fX12_expect 273 w9) fun x11 w12 => be (RX12_variable 900 4 0 0 0 w12) fun x14 w15 => bn2 (fX12_node 31 x1 x8 x14 a1 w15) fun x17 w18 => fX12_loop_134 rc k_34 a1 a2 a4 a5 x17 w18) else (be (fX12_skip 274 w5) fun x19 w20 => if x19 = true then (be (RX12_variable 900 4 0 0 0 w20) fun x23 w24 => bn2 (fX12_node 32 x1 x23 0 a1 w24) fun x26 w27 => fX12_loop_134 rc k_34 a1 a2 a4 a5 x26 w27) else (bn2 (fX12_node 30 x1 0 0 a1 w20) fun x28 w29 => fX12_loop_134 rc k_34 a1 a2 a4 a5 x28 w29))
theorem pX12_loop_34 {q : Gq} {l : Launch} {N : Option Value → Wd → Prop} {X : String → Wd → Prop} {rc : TX12_block} {dd : Nat} (hS : HSX12_block q l rc dd) (hK : 905 ≤ dd) {w : Wd} {R : Option Int32 × Wd} (hN : ∀ r : Int32, R.1 = some r → N (some (.int r)) R.2) (hX : R.1 = none → X RAE R.2) {k_34 : Int32 → Int32 → Int32 → Int32 → Wd → Option (Option Int32 × Wd)} (hk_34 : ∀ (a1 : Int32) (a2 : Int32) (a4 : Int32) (a5 : Int32) (w : Wd), k_34 a1 a2 a4 a5 w = some R → RT (GM q) l (dd + 1) yX12_loop cX12_loop 10 ((some .int)) N X 34 [] [(0, .ref 0), (1, .int a1), (2, .int a2), (4, .int a4), (5, .int a5)] w) {a1 : Int32} {a2 : Int32} {a4 : Int32} {a5 : Int32} (h : fX12_loop_34 rc k_34 a1 a2 a4 a5 w = some R) : RT (GM q) l (dd + 1) yX12_loop cX12_loop 10 ((some .int)) N X 34 [] [(0, .ref 0), (1, .int a1), (2, .int a2), (4, .int a4), (5, .int a5)] w := by
  unfold fX12_loop_34 at h
  refine r_aload_n (pc := 34) dX12_loop_34 rfl 0 rfl ?_
  replace h := be_e h; obtain ⟨o3, w2, ew2, h1, h2⟩ := h
  refine r_cVi (pc := 35) wyX12_expr oM0 rfl mlRX12_538 iyX12_expr syX12_expr ⟨Nat.succ_le_succ (Nat.le_trans (Nat.le_of_ble_eq_true rfl) hK), (Nat.le_of_ble_eq_true rfl)⟩ rfl rfl (Nat.le_of_ble_eq_true rfl) dX12_loop_35 (mX12_expr ew2 (fun x1 ex1 => pI.mk ?_) (fun ez => be_x h2 ez hX))
  replace h := h1 _ ex1
  refine r_istore (pc := 38) (loc' := [(6, .int x1), (0, .ref 0), (1, .int a1), (2, .int a2), (4, .int a4), (5, .int a5)]) dX12_loop_38 (Nat.le_of_ble_eq_true rfl) rfl ?_
  refine r_aload_n (pc := 40) dX12_loop_40 rfl 1 rfl ?_
  refine r_sipush (pc := 41) dX12_loop_41 ks_272 ?_
  replace h := be_e h; obtain ⟨o6, w5, ew5, h1, h2⟩ := h
  refine r_cVi (pc := 44) wyX12_skip oM0 rfl mlRX12_517 iyX12_skip syX12_skip ⟨Nat.succ_le_succ (Nat.le_trans (Nat.le_of_ble_eq_true rfl) hK), (Nat.le_of_ble_eq_true rfl)⟩ rfl rfl (Nat.le_of_ble_eq_true rfl) dX12_loop_44 (mX12_skip ew5 (fun x4 ex4 => pI.mk ?_) (fun ez => be_x h2 ez hX))
  replace h := h1 _ ex4
  refine r_z_eq (pc := 47) dX12_loop_47 rfl (fun hc7 => ?_) (fun hc7 => ?_)
  · replace h := if_f hc7 h
    refine r_aload_n (pc := 88) dX12_loop_88 rfl 1 rfl ?_
    refine r_sipush (pc := 89) dX12_loop_89 ks_274 ?_
    replace h := be_e h; obtain ⟨o21, w20, ew20, h1, h2⟩ := h
    refine r_cVi (pc := 92) wyX12_skip oM0 rfl mlRX12_517 iyX12_skip syX12_skip ⟨Nat.succ_le_succ (Nat.le_trans (Nat.le_of_ble_eq_true rfl) hK), (Nat.le_of_ble_eq_true rfl)⟩ rfl rfl (Nat.le_of_ble_eq_true rfl) dX12_loop_92 (mX12_skip ew20 (fun x19 ex19 => pI.mk ?_) (fun ez => be_x h2 ez hX))
    replace h := h1 _ ex19
    refine r_z_eq (pc := 95) dX12_loop_95 rfl (fun hc22 => ?_) (fun hc22 => ?_)
    · replace h := if_f hc22 h
      refine r_aload_n (pc := 121) dX12_loop_121 rfl 1 rfl ?_
      refine r_bipush (pc := 122) dX12_loop_122 kb_30 ?_
      refine r_iload (pc := 124) dX12_loop_124 0 rfl ?_
      refine r_iconst (pc := 126) dX12_loop_126 ki_0 ?_
      refine r_iconst (pc := 127) dX12_loop_127 ki_0 ?_
      refine r_iload_n (pc := 128) dX12_loop_128 rfl 2 rfl ?_
      replace h := bn2_e h; obtain ⟨x28, w29, ew29, h⟩ := h
      refine r_cVi (pc := 129) wyX12_node oM0 rfl mlRX12_500 iyX12_node syX12_node ⟨Nat.succ_le_succ (Nat.le_trans (Nat.le_of_ble_eq_true rfl) hK), (Nat.le_of_ble_eq_true rfl)⟩ rfl rfl (Nat.le_of_ble_eq_true rfl) dX12_loop_129 (mX12_node ew29 (pI.mk ?_))
      refine r_istore (pc := 132) (loc' := [(7, .int x28), (6, .int x1), (0, .ref 0), (1, .int a1), (2, .int a2), (4, .int a4), (5, .int a5)]) dX12_loop_132 (Nat.le_of_ble_eq_true rfl) rfl ?_
      refine r_drop (loc' := [(0, .ref 0), (1, .int a1), (2, .int a2), (4, .int a4), (5, .int a5), (7, .int x28)]) [2, 3, 4, 5, 6, 0] rfl ?_
      exact pX12_loop_134 hS hK hN hX hk_34 h
    replace h := if_t hc22 h
    refine r_aload_n (pc := 98) dX12_loop_98 rfl 1 rfl ?_
    replace h := be_e h; obtain ⟨o25, w24, ew24, h1, h2⟩ := h
    refine r_cVi (pc := 99) wyX12_expr oM0 rfl mlRX12_538 iyX12_expr syX12_expr ⟨Nat.succ_le_succ (Nat.le_trans (Nat.le_of_ble_eq_true rfl) hK), (Nat.le_of_ble_eq_true rfl)⟩ rfl rfl (Nat.le_of_ble_eq_true rfl) dX12_loop_99 (mX12_expr ew24 (fun x23 ex23 => pI.mk ?_) (fun ez => be_x h2 ez hX))
    replace h := h1 _ ex23
    refine r_istore (pc := 102) (loc' := [(8, .int x23), (6, .int x1), (0, .ref 0), (1, .int a1), (2, .int a2), (4, .int a4), (5, .int a5)]) dX12_loop_102 (Nat.le_of_ble_eq_true rfl) rfl ?_
    refine r_aload_n (pc := 104) dX12_loop_104 rfl 2 rfl ?_
    refine r_bipush (pc := 105) dX12_loop_105 kb_32 ?_
    refine r_iload (pc := 107) dX12_loop_107 1 rfl ?_
    refine r_iload (pc := 109) dX12_loop_109 0 rfl ?_
    refine r_iconst (pc := 111) dX12_loop_111 ki_0 ?_
    refine r_iload_n (pc := 112) dX12_loop_112 rfl 3 rfl ?_
    replace h := bn2_e h; obtain ⟨x26, w27, ew27, h⟩ := h
    refine r_cVi (pc := 113) wyX12_node oM0 rfl mlRX12_500 iyX12_node syX12_node ⟨Nat.succ_le_succ (Nat.le_trans (Nat.le_of_ble_eq_true rfl) hK), (Nat.le_of_ble_eq_true rfl)⟩ rfl rfl (Nat.le_of_ble_eq_true rfl) dX12_loop_113 (mX12_node ew27 (pI.mk ?_))
    refine r_istore (pc := 116) (loc' := [(7, .int x26), (8, .int x23), (6, .int x1), (0, .ref 0), (1, .int a1), (2, .int a2), (4, .int a4), (5, .int a5)]) dX12_loop_116 (Nat.le_of_ble_eq_true rfl) rfl ?_
    refine r_goto (pc := 118) dX12_loop_118 rfl ?_
    refine r_drop (loc' := [(0, .ref 0), (1, .int a1), (2, .int a2), (4, .int a4), (5, .int a5), (7, .int x26)]) [3, 4, 5, 6, 7, 0] rfl ?_
    exact pX12_loop_134 hS hK hN hX hk_34 h
  replace h := if_t hc7 h
  refine r_aload_n (pc := 50) dX12_loop_50 rfl 1 rfl ?_
  replace h := be_e h; obtain ⟨o10, w9, ew9, h1, h2⟩ := h
  refine r_cVi (pc := 51) wyX12_expr oM0 rfl mlRX12_538 iyX12_expr syX12_expr ⟨Nat.succ_le_succ (Nat.le_trans (Nat.le_of_ble_eq_true rfl) hK), (Nat.le_of_ble_eq_true rfl)⟩ rfl rfl (Nat.le_of_ble_eq_true rfl) dX12_loop_51 (mX12_expr ew9 (fun x8 ex8 => pI.mk ?_) (fun ez => be_x h2 ez hX))
  replace h := h1 _ ex8
  refine r_istore (pc := 54) (loc' := [(8, .int x8), (6, .int x1), (0, .ref 0), (1, .int a1), (2, .int a2), (4, .int a4), (5, .int a5)]) dX12_loop_54 (Nat.le_of_ble_eq_true rfl) rfl ?_
  refine r_aload_n (pc := 56) dX12_loop_56 rfl 2 rfl ?_
  refine r_sipush (pc := 57) dX12_loop_57 ks_273 ?_
  replace h := be_e h; obtain ⟨o13, w12, ew12, h1, h2⟩ := h
  refine r_cVi (pc := 60) wyX12_expect oM0 rfl mlRX12_491 iyX12_expect syX12_expect ⟨Nat.succ_le_succ (Nat.le_trans (Nat.le_of_ble_eq_true rfl) hK), (Nat.le_of_ble_eq_true rfl)⟩ rfl rfl (Nat.le_of_ble_eq_true rfl) dX12_loop_60 (mX12_expect ew12 (fun x11 ex11 => pI.mk ?_) (fun ez => be_x h2 ez hX))
  replace h := h1 _ ex11
  refine r_istore_n (pc := 63) (loc' := [(3, .int x11), (8, .int x8), (6, .int x1), (0, .ref 0), (1, .int a1), (2, .int a2), (4, .int a4), (5, .int a5)]) dX12_loop_63 rfl (Nat.le_of_ble_eq_true rfl) rfl ?_
  refine r_aload_n (pc := 64) dX12_loop_64 rfl 3 rfl ?_
  replace h := be_e h; obtain ⟨o16, w15, ew15, h1, h2⟩ := h
  refine r_cVi (pc := 65) wyX12_expr oM0 rfl mlRX12_538 iyX12_expr syX12_expr ⟨Nat.succ_le_succ (Nat.le_trans (Nat.le_of_ble_eq_true rfl) hK), (Nat.le_of_ble_eq_true rfl)⟩ rfl rfl (Nat.le_of_ble_eq_true rfl) dX12_loop_65 (mX12_expr ew15 (fun x14 ex14 => pI.mk ?_) (fun ez => be_x h2 ez hX))
  replace h := h1 _ ex14
  refine r_istore (pc := 68) (loc' := [(9, .int x14), (3, .int x11), (8, .int x8), (6, .int x1), (0, .ref 0), (1, .int a1), (2, .int a2), (4, .int a4), (5, .int a5)]) dX12_loop_68 (Nat.le_of_ble_eq_true rfl) rfl ?_
  refine r_aload_n (pc := 70) dX12_loop_70 rfl 4 rfl ?_
  refine r_bipush (pc := 71) dX12_loop_71 kb_31 ?_
  refine r_iload (pc := 73) dX12_loop_73 3 rfl ?_
  refine r_iload (pc := 75) dX12_loop_75 2 rfl ?_
  refine r_iload (pc := 77) dX12_loop_77 0 rfl ?_
  refine r_iload_n (pc := 79) dX12_loop_79 rfl 5 rfl ?_
  replace h := bn2_e h; obtain ⟨x17, w18, ew18, h⟩ := h
  refine r_cVi (pc := 80) wyX12_node oM0 rfl mlRX12_500 iyX12_node syX12_node ⟨Nat.succ_le_succ (Nat.le_trans (Nat.le_of_ble_eq_true rfl) hK), (Nat.le_of_ble_eq_true rfl)⟩ rfl rfl (Nat.le_of_ble_eq_true rfl) dX12_loop_80 (mX12_node ew18 (pI.mk ?_))
  refine r_istore (pc := 83) (loc' := [(7, .int x17), (9, .int x14), (3, .int x11), (8, .int x8), (6, .int x1), (0, .ref 0), (1, .int a1), (2, .int a2), (4, .int a4), (5, .int a5)]) dX12_loop_83 (Nat.le_of_ble_eq_true rfl) rfl ?_
  refine r_goto (pc := 85) dX12_loop_85 rfl ?_
  refine r_drop (loc' := [(0, .ref 0), (1, .int a1), (2, .int a2), (4, .int a4), (5, .int a5), (7, .int x17)]) [5, 6, 7, 8, 9, 0] rfl ?_
  exact pX12_loop_134 hS hK hN hX hk_34 h
def oX12_loop_34 (rc : TX12_block) : Nat → Int32 → Int32 → Int32 → Int32 → Wd → Option (Option Int32 × Wd)
  | 0 => fun _ _ _ _ _ => none
  | n + 1 => fX12_loop_34 rc (oX12_loop_34 rc n)
theorem qX12_loop_34 {q : Gq} {l : Launch} {N : Option Value → Wd → Prop} {X : String → Wd → Prop} {rc : TX12_block} {dd : Nat} (hS : HSX12_block q l rc dd) (hK : 905 ≤ dd) {R : Option Int32 × Wd} (hN : ∀ r : Int32, R.1 = some r → N (some (.int r)) R.2) (hX : R.1 = none → X RAE R.2) : ∀ (n : Nat) (a1 : Int32) (a2 : Int32) (a4 : Int32) (a5 : Int32) (w : Wd), oX12_loop_34 rc n a1 a2 a4 a5 w = some R → RT (GM q) l (dd + 1) yX12_loop cX12_loop 10 ((some .int)) N X 34 [] [(0, .ref 0), (1, .int a1), (2, .int a2), (4, .int a4), (5, .int a5)] w := by
  intro n
  induction n with
  | zero =>
    intro a1 a2 a4 a5 w h
    exact absurd h (fun q => nomatch q)
  | succ n ih =>
    intro a1 a2 a4 a5 w h
    exact pX12_loop_34 hS hK hN hX ih h
def fX12_loop (rc : TX12_block) (w : Wd) : Option (Option Int32 × Wd) :=
  be (fX12_taken w) fun x1 w2 => lt (si w2 0 8 ((gi w2 0 8) + 1)) fun w4 => be (RX12_variable 900 0 0 0 0 w4) fun x5 w6 => be (fX12_expect 290 w6) fun x8 w9 => oX12_loop_34 rc FU x1 x5 (-1) (-1) w9
theorem pX12_loop {q : Gq} {l : Launch} {N : Option Value → Wd → Prop} {X : String → Wd → Prop} {rc : TX12_block} {dd : Nat} (hS : HSX12_block q l rc dd) (hK : 905 ≤ dd) {w : Wd} {R : Option Int32 × Wd} (hN : ∀ r : Int32, R.1 = some r → N (some (.int r)) R.2) (hX : R.1 = none → X RAE R.2) (h : fX12_loop rc w = some R) : RT (GM q) l (dd + 1) yX12_loop cX12_loop 10 ((some .int)) N X 0 [] [(0, .ref 0)] w := by
  unfold fX12_loop at h
  refine r_aload_n (pc := 0) dX12_loop_0 rfl 0 rfl ?_
  replace h := be_e h; obtain ⟨o3, w2, ew2, h1, h2⟩ := h
  refine r_cVi (pc := 1) wyX12_taken oM0 rfl mlRX12_459 iyX12_taken syX12_taken ⟨Nat.succ_le_succ (Nat.le_trans (Nat.le_of_ble_eq_true rfl) hK), (Nat.le_of_ble_eq_true rfl)⟩ rfl rfl (Nat.le_of_ble_eq_true rfl) dX12_loop_1 (mX12_taken ew2 (fun x1 ex1 => pI.mk ?_) (fun ez => be_x h2 ez hX))
  replace h := h1 _ ex1
  refine r_istore_n (pc := 4) (loc' := [(1, .int x1), (0, .ref 0)]) dX12_loop_4 rfl (Nat.le_of_ble_eq_true rfl) rfl ?_
  refine r_aload_n (pc := 5) dX12_loop_5 rfl 1 rfl ?_
  refine r_dup (pc := 6) dX12_loop_6 rfl ?_
  refine r_get (pc := 7) (j := 8) (v := .int (gi w2 0 8)) oM0 cf12 flRX12_449 rfl dX12_loop_7 rfl ?_
  refine r_iconst (pc := 10) dX12_loop_10 ki_1 ?_
  refine r_iadd (pc := 11) dX12_loop_11 ?_
  replace h := lt_e h; obtain ⟨w4, ew4, h⟩ := h
  refine r_putI (pc := 12) (j := 8) oM0 cf12 flRX12_449 rfl rfl rfl rfl dX12_loop_12 ?_
  refine r_w ew4 ?_
  refine r_aload_n (pc := 15) dX12_loop_15 rfl 1 rfl ?_
  replace h := be_e h; obtain ⟨o7, w6, ew6, h1, h2⟩ := h
  refine r_cVi (pc := 16) wyX12_variable oM0 rfl mlRX12_569 iyX12_variable syX12_variable ⟨Nat.succ_le_succ (Nat.le_trans (Nat.le_of_ble_eq_true rfl) hK), (Nat.le_of_ble_eq_true rfl)⟩ rfl rfl (Nat.le_of_ble_eq_true rfl) dX12_loop_16 (mX12_variable ew6 (fun x5 ex5 => pI.mk ?_) (fun ez => be_x h2 ez hX))
  replace h := h1 _ ex5
  refine r_istore_n (pc := 19) (loc' := [(2, .int x5), (1, .int x1), (0, .ref 0)]) dX12_loop_19 rfl (Nat.le_of_ble_eq_true rfl) rfl ?_
  refine r_aload_n (pc := 20) dX12_loop_20 rfl 2 rfl ?_
  refine r_sipush (pc := 21) dX12_loop_21 ks_290 ?_
  replace h := be_e h; obtain ⟨o10, w9, ew9, h1, h2⟩ := h
  refine r_cVi (pc := 24) wyX12_expect oM0 rfl mlRX12_491 iyX12_expect syX12_expect ⟨Nat.succ_le_succ (Nat.le_trans (Nat.le_of_ble_eq_true rfl) hK), (Nat.le_of_ble_eq_true rfl)⟩ rfl rfl (Nat.le_of_ble_eq_true rfl) dX12_loop_24 (mX12_expect ew9 (fun x8 ex8 => pI.mk ?_) (fun ez => be_x h2 ez hX))
  replace h := h1 _ ex8
  refine r_istore_n (pc := 27) (loc' := [(3, .int x8), (2, .int x5), (1, .int x1), (0, .ref 0)]) dX12_loop_27 rfl (Nat.le_of_ble_eq_true rfl) rfl ?_
  refine r_iconst (pc := 28) dX12_loop_28 ki_m1 ?_
  refine r_istore (pc := 29) (loc' := [(4, .int (-1)), (3, .int x8), (2, .int x5), (1, .int x1), (0, .ref 0)]) dX12_loop_29 (Nat.le_of_ble_eq_true rfl) rfl ?_
  refine r_iconst (pc := 31) dX12_loop_31 ki_m1 ?_
  refine r_istore (pc := 32) (loc' := [(5, .int (-1)), (4, .int (-1)), (3, .int x8), (2, .int x5), (1, .int x1), (0, .ref 0)]) dX12_loop_32 (Nat.le_of_ble_eq_true rfl) rfl ?_
  refine r_drop (loc' := [(0, .ref 0), (1, .int x1), (2, .int x5), (4, .int (-1)), (5, .int (-1))]) [5, 4, 3, 1, 0] rfl ?_
  exact qX12_loop_34 hS hK hN hX FU x1 x5 (-1) (-1) w9 h
/-! AlgolMillModel.plain ()I: E, 1805 -/
theorem dX12_plain_0 : decode cX12_plain 0 = .ok (.aload_n 0, 1) := by decide +kernel
theorem dX12_plain_1 : decode cX12_plain 1 = .ok (.getfield 443, 3) := by decide +kernel
theorem dX12_plain_4 : decode cX12_plain 4 = .ok (.istore_n 1, 1) := by decide +kernel
theorem dX12_plain_5 : decode cX12_plain 5 = .ok (.aload_n 0, 1) := by decide +kernel
theorem dX12_plain_6 : decode cX12_plain 6 = .ok (.invokevirtual 452, 3) := by decide +kernel
theorem dX12_plain_9 : decode cX12_plain 9 = .ok (.lookupswitch 227 #[(256, 222), (266, 119), (267, 140), (270, 217), (284, 64), (285, 59)], 59) := by decide +kernel
theorem dX12_plain_68 : decode cX12_plain 68 = .ok (.aload_n 0, 1) := by decide +kernel
theorem dX12_plain_69 : decode cX12_plain 69 = .ok (.invokevirtual 557, 3) := by decide +kernel
theorem dX12_plain_72 : decode cX12_plain 72 = .ok (.ireturn, 1) := by decide +kernel
theorem dX12_plain_73 : decode cX12_plain 73 = .ok (.aload_n 0, 1) := by decide +kernel
theorem dX12_plain_74 : decode cX12_plain 74 = .ok (.invokevirtual 459, 3) := by decide +kernel
theorem dX12_plain_77 : decode cX12_plain 77 = .ok (.istore_n 2, 1) := by decide +kernel
theorem dX12_plain_78 : decode cX12_plain 78 = .ok (.aload_n 0, 1) := by decide +kernel
theorem dX12_plain_79 : decode cX12_plain 79 = .ok (.bipush 40, 2) := by decide +kernel
theorem dX12_plain_81 : decode cX12_plain 81 = .ok (.invokevirtual 491, 3) := by decide +kernel
theorem dX12_plain_84 : decode cX12_plain 84 = .ok (.istore_n 2, 1) := by decide +kernel
theorem dX12_plain_85 : decode cX12_plain 85 = .ok (.aload_n 0, 1) := by decide +kernel
theorem dX12_plain_86 : decode cX12_plain 86 = .ok (.dup, 1) := by decide +kernel
theorem dX12_plain_87 : decode cX12_plain 87 = .ok (.getfield 449, 3) := by decide +kernel
theorem dX12_plain_90 : decode cX12_plain 90 = .ok (.iconst 1, 1) := by decide +kernel
theorem dX12_plain_91 : decode cX12_plain 91 = .ok (.iadd, 1) := by decide +kernel
theorem dX12_plain_92 : decode cX12_plain 92 = .ok (.putfield 449, 3) := by decide +kernel
theorem dX12_plain_95 : decode cX12_plain 95 = .ok (.aload_n 0, 1) := by decide +kernel
theorem dX12_plain_96 : decode cX12_plain 96 = .ok (.invokevirtual 538, 3) := by decide +kernel
theorem dX12_plain_99 : decode cX12_plain 99 = .ok (.istore_n 3, 1) := by decide +kernel
theorem dX12_plain_100 : decode cX12_plain 100 = .ok (.aload_n 0, 1) := by decide +kernel
theorem dX12_plain_101 : decode cX12_plain 101 = .ok (.dup, 1) := by decide +kernel
theorem dX12_plain_102 : decode cX12_plain 102 = .ok (.getfield 449, 3) := by decide +kernel
theorem dX12_plain_105 : decode cX12_plain 105 = .ok (.iconst 1, 1) := by decide +kernel
theorem dX12_plain_106 : decode cX12_plain 106 = .ok (.isub, 1) := by decide +kernel
theorem dX12_plain_107 : decode cX12_plain 107 = .ok (.putfield 449, 3) := by decide +kernel
theorem dX12_plain_110 : decode cX12_plain 110 = .ok (.aload_n 0, 1) := by decide +kernel
theorem dX12_plain_111 : decode cX12_plain 111 = .ok (.bipush 41, 2) := by decide +kernel
theorem dX12_plain_113 : decode cX12_plain 113 = .ok (.invokevirtual 491, 3) := by decide +kernel
theorem dX12_plain_116 : decode cX12_plain 116 = .ok (.istore_n 2, 1) := by decide +kernel
theorem dX12_plain_117 : decode cX12_plain 117 = .ok (.aload_n 0, 1) := by decide +kernel
theorem dX12_plain_118 : decode cX12_plain 118 = .ok (.bipush 23, 2) := by decide +kernel
theorem dX12_plain_120 : decode cX12_plain 120 = .ok (.iload_n 3, 1) := by decide +kernel
theorem dX12_plain_121 : decode cX12_plain 121 = .ok (.iconst 0, 1) := by decide +kernel
theorem dX12_plain_122 : decode cX12_plain 122 = .ok (.iconst 0, 1) := by decide +kernel
theorem dX12_plain_123 : decode cX12_plain 123 = .ok (.iload_n 1, 1) := by decide +kernel
theorem dX12_plain_124 : decode cX12_plain 124 = .ok (.invokevirtual 500, 3) := by decide +kernel
theorem dX12_plain_127 : decode cX12_plain 127 = .ok (.ireturn, 1) := by decide +kernel
theorem dX12_plain_128 : decode cX12_plain 128 = .ok (.aload_n 0, 1) := by decide +kernel
theorem dX12_plain_129 : decode cX12_plain 129 = .ok (.invokevirtual 459, 3) := by decide +kernel
theorem dX12_plain_132 : decode cX12_plain 132 = .ok (.istore_n 2, 1) := by decide +kernel
theorem dX12_plain_133 : decode cX12_plain 133 = .ok (.aload_n 0, 1) := by decide +kernel
theorem dX12_plain_134 : decode cX12_plain 134 = .ok (.invokevirtual 541, 3) := by decide +kernel
theorem dX12_plain_137 : decode cX12_plain 137 = .ok (.istore_n 3, 1) := by decide +kernel
theorem dX12_plain_138 : decode cX12_plain 138 = .ok (.aload_n 0, 1) := by decide +kernel
theorem dX12_plain_139 : decode cX12_plain 139 = .ok (.bipush 24, 2) := by decide +kernel
theorem dX12_plain_141 : decode cX12_plain 141 = .ok (.iload_n 3, 1) := by decide +kernel
theorem dX12_plain_142 : decode cX12_plain 142 = .ok (.iconst 0, 1) := by decide +kernel
theorem dX12_plain_143 : decode cX12_plain 143 = .ok (.iconst 0, 1) := by decide +kernel
theorem dX12_plain_144 : decode cX12_plain 144 = .ok (.iload_n 1, 1) := by decide +kernel
theorem dX12_plain_145 : decode cX12_plain 145 = .ok (.invokevirtual 500, 3) := by decide +kernel
theorem dX12_plain_148 : decode cX12_plain 148 = .ok (.ireturn, 1) := by decide +kernel
theorem dX12_plain_149 : decode cX12_plain 149 = .ok (.aload_n 0, 1) := by decide +kernel
theorem dX12_plain_150 : decode cX12_plain 150 = .ok (.invokevirtual 459, 3) := by decide +kernel
theorem dX12_plain_153 : decode cX12_plain 153 = .ok (.istore_n 2, 1) := by decide +kernel
theorem dX12_plain_154 : decode cX12_plain 154 = .ok (.aload_n 0, 1) := by decide +kernel
theorem dX12_plain_155 : decode cX12_plain 155 = .ok (.dup, 1) := by decide +kernel
theorem dX12_plain_156 : decode cX12_plain 156 = .ok (.getfield 449, 3) := by decide +kernel
theorem dX12_plain_159 : decode cX12_plain 159 = .ok (.iconst 1, 1) := by decide +kernel
theorem dX12_plain_160 : decode cX12_plain 160 = .ok (.iadd, 1) := by decide +kernel
theorem dX12_plain_161 : decode cX12_plain 161 = .ok (.putfield 449, 3) := by decide +kernel
theorem dX12_plain_164 : decode cX12_plain 164 = .ok (.aload_n 0, 1) := by decide +kernel
theorem dX12_plain_165 : decode cX12_plain 165 = .ok (.invokevirtual 538, 3) := by decide +kernel
theorem dX12_plain_168 : decode cX12_plain 168 = .ok (.istore_n 3, 1) := by decide +kernel
theorem dX12_plain_169 : decode cX12_plain 169 = .ok (.aload_n 0, 1) := by decide +kernel
theorem dX12_plain_170 : decode cX12_plain 170 = .ok (.sipush 268, 3) := by decide +kernel
theorem dX12_plain_173 : decode cX12_plain 173 = .ok (.invokevirtual 491, 3) := by decide +kernel
theorem dX12_plain_176 : decode cX12_plain 176 = .ok (.istore_n 2, 1) := by decide +kernel
theorem dX12_plain_177 : decode cX12_plain 177 = .ok (.aload_n 0, 1) := by decide +kernel
theorem dX12_plain_178 : decode cX12_plain 178 = .ok (.invokevirtual 560, 3) := by decide +kernel
theorem dX12_plain_181 : decode cX12_plain 181 = .ok (.istore 4, 2) := by decide +kernel
theorem dX12_plain_183 : decode cX12_plain 183 = .ok (.aload_n 0, 1) := by decide +kernel
theorem dX12_plain_184 : decode cX12_plain 184 = .ok (.sipush 269, 3) := by decide +kernel
theorem dX12_plain_187 : decode cX12_plain 187 = .ok (.invokevirtual 517, 3) := by decide +kernel
theorem dX12_plain_190 : decode cX12_plain 190 = .ok (.ifCond .eq 10, 3) := by decide +kernel
theorem dX12_plain_193 : decode cX12_plain 193 = .ok (.aload_n 0, 1) := by decide +kernel
theorem dX12_plain_194 : decode cX12_plain 194 = .ok (.invokevirtual 560, 3) := by decide +kernel
theorem dX12_plain_197 : decode cX12_plain 197 = .ok (.goto 4, 3) := by decide +kernel
theorem dX12_plain_200 : decode cX12_plain 200 = .ok (.iconst (-1), 1) := by decide +kernel
theorem dX12_plain_201 : decode cX12_plain 201 = .ok (.istore 5, 2) := by decide +kernel
theorem dX12_plain_203 : decode cX12_plain 203 = .ok (.aload_n 0, 1) := by decide +kernel
theorem dX12_plain_204 : decode cX12_plain 204 = .ok (.dup, 1) := by decide +kernel
theorem dX12_plain_205 : decode cX12_plain 205 = .ok (.getfield 449, 3) := by decide +kernel
theorem dX12_plain_208 : decode cX12_plain 208 = .ok (.iconst 1, 1) := by decide +kernel
theorem dX12_plain_209 : decode cX12_plain 209 = .ok (.isub, 1) := by decide +kernel
theorem dX12_plain_210 : decode cX12_plain 210 = .ok (.putfield 449, 3) := by decide +kernel
theorem dX12_plain_213 : decode cX12_plain 213 = .ok (.aload_n 0, 1) := by decide +kernel
theorem dX12_plain_214 : decode cX12_plain 214 = .ok (.bipush 25, 2) := by decide +kernel
theorem dX12_plain_216 : decode cX12_plain 216 = .ok (.iload_n 3, 1) := by decide +kernel
theorem dX12_plain_217 : decode cX12_plain 217 = .ok (.iload 4, 2) := by decide +kernel
theorem dX12_plain_219 : decode cX12_plain 219 = .ok (.iload 5, 2) := by decide +kernel
theorem dX12_plain_221 : decode cX12_plain 221 = .ok (.iload_n 1, 1) := by decide +kernel
theorem dX12_plain_222 : decode cX12_plain 222 = .ok (.invokevirtual 500, 3) := by decide +kernel
theorem dX12_plain_225 : decode cX12_plain 225 = .ok (.ireturn, 1) := by decide +kernel
theorem dX12_plain_226 : decode cX12_plain 226 = .ok (.aload_n 0, 1) := by decide +kernel
theorem dX12_plain_227 : decode cX12_plain 227 = .ok (.invokevirtual 563, 3) := by decide +kernel
theorem dX12_plain_230 : decode cX12_plain 230 = .ok (.ireturn, 1) := by decide +kernel
theorem dX12_plain_231 : decode cX12_plain 231 = .ok (.aload_n 0, 1) := by decide +kernel
theorem dX12_plain_232 : decode cX12_plain 232 = .ok (.invokevirtual 566, 3) := by decide +kernel
theorem dX12_plain_235 : decode cX12_plain 235 = .ok (.ireturn, 1) := by decide +kernel
theorem dX12_plain_236 : decode cX12_plain 236 = .ok (.aload_n 0, 1) := by decide +kernel
theorem dX12_plain_237 : decode cX12_plain 237 = .ok (.bipush 20, 2) := by decide +kernel
theorem dX12_plain_239 : decode cX12_plain 239 = .ok (.iconst 0, 1) := by decide +kernel
theorem dX12_plain_240 : decode cX12_plain 240 = .ok (.iconst 0, 1) := by decide +kernel
theorem dX12_plain_241 : decode cX12_plain 241 = .ok (.iconst 0, 1) := by decide +kernel
theorem dX12_plain_242 : decode cX12_plain 242 = .ok (.iload_n 1, 1) := by decide +kernel
theorem dX12_plain_243 : decode cX12_plain 243 = .ok (.invokevirtual 500, 3) := by decide +kernel
theorem dX12_plain_246 : decode cX12_plain 246 = .ok (.ireturn, 1) := by decide +kernel
def fX12_plain_201 (rc : TX12_block) (s0 : Int32) (a1 : Int32) (a3 : Int32) (a4 : Int32) (w : Wd) : Option (Option Int32 × Wd) :=
  lt (si w 0 8 ((gi w 0 8) - 1)) fun w1 => bn2 (fX12_node 25 a3 a4 s0 a1 w1) fun x2 w3 => some (some x2, w3)
theorem pX12_plain_201 {q : Gq} {l : Launch} {N : Option Value → Wd → Prop} {X : String → Wd → Prop} {rc : TX12_block} {dd : Nat} (hS : HSX12_block q l rc dd) (hK : 905 ≤ dd) {w : Wd} {R : Option Int32 × Wd} (hN : ∀ r : Int32, R.1 = some r → N (some (.int r)) R.2) (hX : R.1 = none → X RAE R.2) {s0 : Int32} {a1 : Int32} {a3 : Int32} {a4 : Int32} (h : fX12_plain_201 rc s0 a1 a3 a4 w = some R) : RT (GM q) l (dd + 1) yX12_plain cX12_plain 6 ((some .int)) N X 201 [.int s0] [(0, .ref 0), (1, .int a1), (3, .int a3), (4, .int a4)] w := by
  unfold fX12_plain_201 at h
  refine r_istore (pc := 201) (loc' := [(5, .int s0), (0, .ref 0), (1, .int a1), (3, .int a3), (4, .int a4)]) dX12_plain_201 (Nat.le_of_ble_eq_true rfl) rfl ?_
  refine r_aload_n (pc := 203) dX12_plain_203 rfl 1 rfl ?_
  refine r_dup (pc := 204) dX12_plain_204 rfl ?_
  refine r_get (pc := 205) (j := 8) (v := .int (gi w 0 8)) oM0 cf12 flRX12_449 rfl dX12_plain_205 rfl ?_
  refine r_iconst (pc := 208) dX12_plain_208 ki_1 ?_
  refine r_isub (pc := 209) dX12_plain_209 ?_
  replace h := lt_e h; obtain ⟨w1, ew1, h⟩ := h
  refine r_putI (pc := 210) (j := 8) oM0 cf12 flRX12_449 rfl rfl rfl rfl dX12_plain_210 ?_
  refine r_w ew1 ?_
  refine r_aload_n (pc := 213) dX12_plain_213 rfl 1 rfl ?_
  refine r_bipush (pc := 214) dX12_plain_214 kb_25 ?_
  refine r_iload_n (pc := 216) dX12_plain_216 rfl 3 rfl ?_
  refine r_iload (pc := 217) dX12_plain_217 4 rfl ?_
  refine r_iload (pc := 219) dX12_plain_219 0 rfl ?_
  refine r_iload_n (pc := 221) dX12_plain_221 rfl 2 rfl ?_
  replace h := bn2_e h; obtain ⟨x2, w3, ew3, h⟩ := h
  refine r_cVi (pc := 222) wyX12_node oM0 rfl mlRX12_500 iyX12_node syX12_node ⟨Nat.succ_le_succ (Nat.le_trans (Nat.le_of_ble_eq_true rfl) hK), (Nat.le_of_ble_eq_true rfl)⟩ rfl rfl (Nat.le_of_ble_eq_true rfl) dX12_plain_222 (mX12_node ew3 (pI.mk ?_))
  exact rE_i (pc := 225) rfl dX12_plain_225 h hN
def fX12_plain (rc : TX12_block) (w : Wd) : Option (Option Int32 × Wd) :=
  lt ((gi w 0 7)) fun x1 => bn2 (fX12_kind w) fun x2 w3 => if x2 = 256 then (be (rc 0 0 0 0 w3) fun x5 w6 => some (some x5, w6)) else if x2 = 266 then (be (fX12_taken w3) fun x9 w10 => be (RX12_variable 900 3 0 0 0 w10) fun x12 w13 => bn2 (fX12_node 24 x12 0 0 x1 w13) fun x15 w16 => some (some x15, w16)) else if x2 = 267 then (be (fX12_taken w3) fun x18 w19 => lt (si w19 0 8 ((gi w19 0 8) + 1)) fun w21 => be (RX12_variable 900 4 0 0 0 w21) fun x22 w23 => be (fX12_expect 268 w23) fun x25 w26 => be (rc 3 0 0 0 w26) fun x28 w29 => be (fX12_skip 269 w29) fun x31 w32 => if x31 = true then (be (rc 3 0 0 0 w32) fun x35 w36 => fX12_plain_201 rc x35 x1 x22 x28 w36) else (fX12_plain_201 rc (-1) x1 x22 x28 w32)) else if x2 = 270 then (be (rc 6 0 0 0 w3) fun x39 w40 => some (some x39, w40)) else if x2 = 284 then (be (fX12_taken w3) fun x43 w44 => be (fX12_expect 40 w44) fun x46 w47 => lt (si w47 0 8 ((gi w47 0 8) + 1)) fun w49 => be (RX12_variable 900 4 0 0 0 w49) fun x50 w51 => lt (si w51 0 8 ((gi w51 0 8) - 1)) fun w53 => be (fX12_expect 41 w53) fun x54 w55 => bn2 (fX12_node 23 x50 0 0 x1 w55) fun x57 w58 => some (some x57, w58)) else if x2 = 285 then (be (fX12_setOrCall w3) fun x60 w61 => some (some x60, w61)) else (bn2 (fX12_node 20 0 0 0 x1 w3) fun x63 w64 => some (some x63, w64))
set_option maxHeartbeats 16000000 in
theorem pX12_plain {q : Gq} {l : Launch} {N : Option Value → Wd → Prop} {X : String → Wd → Prop} {rc : TX12_block} {dd : Nat} (hS : HSX12_block q l rc dd) (hK : 905 ≤ dd) {w : Wd} {R : Option Int32 × Wd} (hN : ∀ r : Int32, R.1 = some r → N (some (.int r)) R.2) (hX : R.1 = none → X RAE R.2) (h : fX12_plain rc w = some R) : RT (GM q) l (dd + 1) yX12_plain cX12_plain 6 ((some .int)) N X 0 [] [(0, .ref 0)] w := by
  unfold fX12_plain at h
  refine r_aload_n (pc := 0) dX12_plain_0 rfl 0 rfl ?_
  refine r_get (pc := 1) (j := 7) (v := .int (gi w 0 7)) oM0 cf12 flRX12_443 rfl dX12_plain_1 rfl ?_
  replace h := lt_e h; obtain ⟨x1, ex1, h⟩ := h
  refine r_topi ex1 ?_
  refine r_istore_n (pc := 4) (loc' := [(1, .int x1), (0, .ref 0)]) dX12_plain_4 rfl (Nat.le_of_ble_eq_true rfl) rfl ?_
  refine r_aload_n (pc := 5) dX12_plain_5 rfl 1 rfl ?_
  replace h := bn2_e h; obtain ⟨x2, w3, ew3, h⟩ := h
  refine r_cVi (pc := 6) wyX12_kind oM0 rfl mlRX12_452 iyX12_kind syX12_kind ⟨Nat.succ_le_succ (Nat.le_trans (Nat.le_of_ble_eq_true rfl) hK), (Nat.le_of_ble_eq_true rfl)⟩ rfl rfl (Nat.le_of_ble_eq_true rfl) dX12_plain_6 (mX12_kind ew3 (pI.mk ?_))
  by_cases hc4 : x2 = 256
  · refine r_lkC (pc := 9) (off := 222) (tgt := 231) (L := [256]) dX12_plain_9 (by decide) hc4 (by decide) rfl ?_
    replace h := if_t hc4 h
    refine r_aload_n (pc := 231) dX12_plain_231 rfl 1 rfl ?_
    replace h := be_e h; obtain ⟨o7, w6, ew6, h1, h2⟩ := h
    refine r_cVi (pc := 232) wyX12_block oM0 rfl mlRX12_566 iyX12_block syX12_block ⟨Nat.le_refl _, (Nat.le_of_ble_eq_true rfl)⟩ rfl rfl (Nat.le_of_ble_eq_true rfl) dX12_plain_232 ((hS.1 _ _ _ _ _) ew6 (fun x5 ex5 => pI.mk ?_) (fun ez => be_x h2 ez hX))
    replace h := h1 _ ex5
    exact rE_i (pc := 235) rfl dX12_plain_235 h hN
  replace h := if_f hc4 h
  by_cases hc8 : x2 = 266
  · refine r_lkC (pc := 9) (off := 119) (tgt := 128) (L := [266]) dX12_plain_9 (by decide) hc8 (by decide) rfl ?_
    replace h := if_t hc8 h
    refine r_aload_n (pc := 128) dX12_plain_128 rfl 1 rfl ?_
    replace h := be_e h; obtain ⟨o11, w10, ew10, h1, h2⟩ := h
    refine r_cVi (pc := 129) wyX12_taken oM0 rfl mlRX12_459 iyX12_taken syX12_taken ⟨Nat.succ_le_succ (Nat.le_trans (Nat.le_of_ble_eq_true rfl) hK), (Nat.le_of_ble_eq_true rfl)⟩ rfl rfl (Nat.le_of_ble_eq_true rfl) dX12_plain_129 (mX12_taken ew10 (fun x9 ex9 => pI.mk ?_) (fun ez => be_x h2 ez hX))
    replace h := h1 _ ex9
    refine r_istore_n (pc := 132) (loc' := [(2, .int x9), (1, .int x1), (0, .ref 0)]) dX12_plain_132 rfl (Nat.le_of_ble_eq_true rfl) rfl ?_
    refine r_aload_n (pc := 133) dX12_plain_133 rfl 2 rfl ?_
    replace h := be_e h; obtain ⟨o14, w13, ew13, h1, h2⟩ := h
    refine r_cVi (pc := 134) wyX12_aim oM0 rfl mlRX12_541 iyX12_aim syX12_aim ⟨Nat.succ_le_succ (Nat.le_trans (Nat.le_of_ble_eq_true rfl) hK), (Nat.le_of_ble_eq_true rfl)⟩ rfl rfl (Nat.le_of_ble_eq_true rfl) dX12_plain_134 (mX12_aim ew13 (fun x12 ex12 => pI.mk ?_) (fun ez => be_x h2 ez hX))
    replace h := h1 _ ex12
    refine r_istore_n (pc := 137) (loc' := [(3, .int x12), (2, .int x9), (1, .int x1), (0, .ref 0)]) dX12_plain_137 rfl (Nat.le_of_ble_eq_true rfl) rfl ?_
    refine r_aload_n (pc := 138) dX12_plain_138 rfl 3 rfl ?_
    refine r_bipush (pc := 139) dX12_plain_139 kb_24 ?_
    refine r_iload_n (pc := 141) dX12_plain_141 rfl 0 rfl ?_
    refine r_iconst (pc := 142) dX12_plain_142 ki_0 ?_
    refine r_iconst (pc := 143) dX12_plain_143 ki_0 ?_
    refine r_iload_n (pc := 144) dX12_plain_144 rfl 2 rfl ?_
    replace h := bn2_e h; obtain ⟨x15, w16, ew16, h⟩ := h
    refine r_cVi (pc := 145) wyX12_node oM0 rfl mlRX12_500 iyX12_node syX12_node ⟨Nat.succ_le_succ (Nat.le_trans (Nat.le_of_ble_eq_true rfl) hK), (Nat.le_of_ble_eq_true rfl)⟩ rfl rfl (Nat.le_of_ble_eq_true rfl) dX12_plain_145 (mX12_node ew16 (pI.mk ?_))
    exact rE_i (pc := 148) rfl dX12_plain_148 h hN
  replace h := if_f hc8 h
  by_cases hc17 : x2 = 267
  · refine r_lkC (pc := 9) (off := 140) (tgt := 149) (L := [267]) dX12_plain_9 (by decide) hc17 (by decide) rfl ?_
    replace h := if_t hc17 h
    refine r_aload_n (pc := 149) dX12_plain_149 rfl 1 rfl ?_
    replace h := be_e h; obtain ⟨o20, w19, ew19, h1, h2⟩ := h
    refine r_cVi (pc := 150) wyX12_taken oM0 rfl mlRX12_459 iyX12_taken syX12_taken ⟨Nat.succ_le_succ (Nat.le_trans (Nat.le_of_ble_eq_true rfl) hK), (Nat.le_of_ble_eq_true rfl)⟩ rfl rfl (Nat.le_of_ble_eq_true rfl) dX12_plain_150 (mX12_taken ew19 (fun x18 ex18 => pI.mk ?_) (fun ez => be_x h2 ez hX))
    replace h := h1 _ ex18
    refine r_istore_n (pc := 153) (loc' := [(2, .int x18), (1, .int x1), (0, .ref 0)]) dX12_plain_153 rfl (Nat.le_of_ble_eq_true rfl) rfl ?_
    refine r_aload_n (pc := 154) dX12_plain_154 rfl 2 rfl ?_
    refine r_dup (pc := 155) dX12_plain_155 rfl ?_
    refine r_get (pc := 156) (j := 8) (v := .int (gi w19 0 8)) oM0 cf12 flRX12_449 rfl dX12_plain_156 rfl ?_
    refine r_iconst (pc := 159) dX12_plain_159 ki_1 ?_
    refine r_iadd (pc := 160) dX12_plain_160 ?_
    replace h := lt_e h; obtain ⟨w21, ew21, h⟩ := h
    refine r_putI (pc := 161) (j := 8) oM0 cf12 flRX12_449 rfl rfl rfl rfl dX12_plain_161 ?_
    refine r_w ew21 ?_
    refine r_aload_n (pc := 164) dX12_plain_164 rfl 2 rfl ?_
    replace h := be_e h; obtain ⟨o24, w23, ew23, h1, h2⟩ := h
    refine r_cVi (pc := 165) wyX12_expr oM0 rfl mlRX12_538 iyX12_expr syX12_expr ⟨Nat.succ_le_succ (Nat.le_trans (Nat.le_of_ble_eq_true rfl) hK), (Nat.le_of_ble_eq_true rfl)⟩ rfl rfl (Nat.le_of_ble_eq_true rfl) dX12_plain_165 (mX12_expr ew23 (fun x22 ex22 => pI.mk ?_) (fun ez => be_x h2 ez hX))
    replace h := h1 _ ex22
    refine r_istore_n (pc := 168) (loc' := [(3, .int x22), (2, .int x18), (1, .int x1), (0, .ref 0)]) dX12_plain_168 rfl (Nat.le_of_ble_eq_true rfl) rfl ?_
    refine r_aload_n (pc := 169) dX12_plain_169 rfl 3 rfl ?_
    refine r_sipush (pc := 170) dX12_plain_170 ks_268 ?_
    replace h := be_e h; obtain ⟨o27, w26, ew26, h1, h2⟩ := h
    refine r_cVi (pc := 173) wyX12_expect oM0 rfl mlRX12_491 iyX12_expect syX12_expect ⟨Nat.succ_le_succ (Nat.le_trans (Nat.le_of_ble_eq_true rfl) hK), (Nat.le_of_ble_eq_true rfl)⟩ rfl rfl (Nat.le_of_ble_eq_true rfl) dX12_plain_173 (mX12_expect ew26 (fun x25 ex25 => pI.mk ?_) (fun ez => be_x h2 ez hX))
    replace h := h1 _ ex25
    refine r_istore_n (pc := 176) (loc' := [(2, .int x25), (3, .int x22), (1, .int x1), (0, .ref 0)]) dX12_plain_176 rfl (Nat.le_of_ble_eq_true rfl) rfl ?_
    refine r_aload_n (pc := 177) dX12_plain_177 rfl 3 rfl ?_
    replace h := be_e h; obtain ⟨o30, w29, ew29, h1, h2⟩ := h
    refine r_cVi (pc := 178) wyX12_inner oM0 rfl mlRX12_560 iyX12_inner syX12_inner ⟨Nat.le_refl _, (Nat.le_of_ble_eq_true rfl)⟩ rfl rfl (Nat.le_of_ble_eq_true rfl) dX12_plain_178 ((hS.2.2.2.1 _ _ _ _ _) ew29 (fun x28 ex28 => pI.mk ?_) (fun ez => be_x h2 ez hX))
    replace h := h1 _ ex28
    refine r_istore (pc := 181) (loc' := [(4, .int x28), (2, .int x25), (3, .int x22), (1, .int x1), (0, .ref 0)]) dX12_plain_181 (Nat.le_of_ble_eq_true rfl) rfl ?_
    refine r_aload_n (pc := 183) dX12_plain_183 rfl 4 rfl ?_
    refine r_sipush (pc := 184) dX12_plain_184 ks_269 ?_
    replace h := be_e h; obtain ⟨o33, w32, ew32, h1, h2⟩ := h
    refine r_cVi (pc := 187) wyX12_skip oM0 rfl mlRX12_517 iyX12_skip syX12_skip ⟨Nat.succ_le_succ (Nat.le_trans (Nat.le_of_ble_eq_true rfl) hK), (Nat.le_of_ble_eq_true rfl)⟩ rfl rfl (Nat.le_of_ble_eq_true rfl) dX12_plain_187 (mX12_skip ew32 (fun x31 ex31 => pI.mk ?_) (fun ez => be_x h2 ez hX))
    replace h := h1 _ ex31
    refine r_z_eq (pc := 190) dX12_plain_190 rfl (fun hc34 => ?_) (fun hc34 => ?_)
    · replace h := if_f hc34 h
      refine r_iconst (pc := 200) dX12_plain_200 ki_m1 ?_
      refine r_drop (loc' := [(0, .ref 0), (1, .int x1), (3, .int x22), (4, .int x28)]) [4, 3, 2, 0] rfl ?_
      exact pX12_plain_201 hS hK hN hX h
    replace h := if_t hc34 h
    refine r_aload_n (pc := 193) dX12_plain_193 rfl 4 rfl ?_
    replace h := be_e h; obtain ⟨o37, w36, ew36, h1, h2⟩ := h
    refine r_cVi (pc := 194) wyX12_inner oM0 rfl mlRX12_560 iyX12_inner syX12_inner ⟨Nat.le_refl _, (Nat.le_of_ble_eq_true rfl)⟩ rfl rfl (Nat.le_of_ble_eq_true rfl) dX12_plain_194 ((hS.2.2.2.1 _ _ _ _ _) ew36 (fun x35 ex35 => pI.mk ?_) (fun ez => be_x h2 ez hX))
    replace h := h1 _ ex35
    refine r_goto (pc := 197) dX12_plain_197 rfl ?_
    refine r_drop (loc' := [(0, .ref 0), (1, .int x1), (3, .int x22), (4, .int x28)]) [4, 3, 2, 0] rfl ?_
    exact pX12_plain_201 hS hK hN hX h
  replace h := if_f hc17 h
  by_cases hc38 : x2 = 270
  · refine r_lkC (pc := 9) (off := 217) (tgt := 226) (L := [270]) dX12_plain_9 (by decide) hc38 (by decide) rfl ?_
    replace h := if_t hc38 h
    refine r_aload_n (pc := 226) dX12_plain_226 rfl 1 rfl ?_
    replace h := be_e h; obtain ⟨o41, w40, ew40, h1, h2⟩ := h
    refine r_cVi (pc := 227) wyX12_loop oM0 rfl mlRX12_563 iyX12_loop syX12_loop ⟨Nat.le_refl _, (Nat.le_of_ble_eq_true rfl)⟩ rfl rfl (Nat.le_of_ble_eq_true rfl) dX12_plain_227 ((hS.2.2.2.2.2.2 _ _ _ _ _) ew40 (fun x39 ex39 => pI.mk ?_) (fun ez => be_x h2 ez hX))
    replace h := h1 _ ex39
    exact rE_i (pc := 230) rfl dX12_plain_230 h hN
  replace h := if_f hc38 h
  by_cases hc42 : x2 = 284
  · refine r_lkC (pc := 9) (off := 64) (tgt := 73) (L := [284]) dX12_plain_9 (by decide) hc42 (by decide) rfl ?_
    replace h := if_t hc42 h
    refine r_aload_n (pc := 73) dX12_plain_73 rfl 1 rfl ?_
    replace h := be_e h; obtain ⟨o45, w44, ew44, h1, h2⟩ := h
    refine r_cVi (pc := 74) wyX12_taken oM0 rfl mlRX12_459 iyX12_taken syX12_taken ⟨Nat.succ_le_succ (Nat.le_trans (Nat.le_of_ble_eq_true rfl) hK), (Nat.le_of_ble_eq_true rfl)⟩ rfl rfl (Nat.le_of_ble_eq_true rfl) dX12_plain_74 (mX12_taken ew44 (fun x43 ex43 => pI.mk ?_) (fun ez => be_x h2 ez hX))
    replace h := h1 _ ex43
    refine r_istore_n (pc := 77) (loc' := [(2, .int x43), (1, .int x1), (0, .ref 0)]) dX12_plain_77 rfl (Nat.le_of_ble_eq_true rfl) rfl ?_
    refine r_aload_n (pc := 78) dX12_plain_78 rfl 2 rfl ?_
    refine r_bipush (pc := 79) dX12_plain_79 kb_40 ?_
    replace h := be_e h; obtain ⟨o48, w47, ew47, h1, h2⟩ := h
    refine r_cVi (pc := 81) wyX12_expect oM0 rfl mlRX12_491 iyX12_expect syX12_expect ⟨Nat.succ_le_succ (Nat.le_trans (Nat.le_of_ble_eq_true rfl) hK), (Nat.le_of_ble_eq_true rfl)⟩ rfl rfl (Nat.le_of_ble_eq_true rfl) dX12_plain_81 (mX12_expect ew47 (fun x46 ex46 => pI.mk ?_) (fun ez => be_x h2 ez hX))
    replace h := h1 _ ex46
    refine r_istore_n (pc := 84) (loc' := [(2, .int x46), (1, .int x1), (0, .ref 0)]) dX12_plain_84 rfl (Nat.le_of_ble_eq_true rfl) rfl ?_
    refine r_aload_n (pc := 85) dX12_plain_85 rfl 2 rfl ?_
    refine r_dup (pc := 86) dX12_plain_86 rfl ?_
    refine r_get (pc := 87) (j := 8) (v := .int (gi w47 0 8)) oM0 cf12 flRX12_449 rfl dX12_plain_87 rfl ?_
    refine r_iconst (pc := 90) dX12_plain_90 ki_1 ?_
    refine r_iadd (pc := 91) dX12_plain_91 ?_
    replace h := lt_e h; obtain ⟨w49, ew49, h⟩ := h
    refine r_putI (pc := 92) (j := 8) oM0 cf12 flRX12_449 rfl rfl rfl rfl dX12_plain_92 ?_
    refine r_w ew49 ?_
    refine r_aload_n (pc := 95) dX12_plain_95 rfl 2 rfl ?_
    replace h := be_e h; obtain ⟨o52, w51, ew51, h1, h2⟩ := h
    refine r_cVi (pc := 96) wyX12_expr oM0 rfl mlRX12_538 iyX12_expr syX12_expr ⟨Nat.succ_le_succ (Nat.le_trans (Nat.le_of_ble_eq_true rfl) hK), (Nat.le_of_ble_eq_true rfl)⟩ rfl rfl (Nat.le_of_ble_eq_true rfl) dX12_plain_96 (mX12_expr ew51 (fun x50 ex50 => pI.mk ?_) (fun ez => be_x h2 ez hX))
    replace h := h1 _ ex50
    refine r_istore_n (pc := 99) (loc' := [(3, .int x50), (2, .int x46), (1, .int x1), (0, .ref 0)]) dX12_plain_99 rfl (Nat.le_of_ble_eq_true rfl) rfl ?_
    refine r_aload_n (pc := 100) dX12_plain_100 rfl 3 rfl ?_
    refine r_dup (pc := 101) dX12_plain_101 rfl ?_
    refine r_get (pc := 102) (j := 8) (v := .int (gi w51 0 8)) oM0 cf12 flRX12_449 rfl dX12_plain_102 rfl ?_
    refine r_iconst (pc := 105) dX12_plain_105 ki_1 ?_
    refine r_isub (pc := 106) dX12_plain_106 ?_
    replace h := lt_e h; obtain ⟨w53, ew53, h⟩ := h
    refine r_putI (pc := 107) (j := 8) oM0 cf12 flRX12_449 rfl rfl rfl rfl dX12_plain_107 ?_
    refine r_w ew53 ?_
    refine r_aload_n (pc := 110) dX12_plain_110 rfl 3 rfl ?_
    refine r_bipush (pc := 111) dX12_plain_111 kb_41 ?_
    replace h := be_e h; obtain ⟨o56, w55, ew55, h1, h2⟩ := h
    refine r_cVi (pc := 113) wyX12_expect oM0 rfl mlRX12_491 iyX12_expect syX12_expect ⟨Nat.succ_le_succ (Nat.le_trans (Nat.le_of_ble_eq_true rfl) hK), (Nat.le_of_ble_eq_true rfl)⟩ rfl rfl (Nat.le_of_ble_eq_true rfl) dX12_plain_113 (mX12_expect ew55 (fun x54 ex54 => pI.mk ?_) (fun ez => be_x h2 ez hX))
    replace h := h1 _ ex54
    refine r_istore_n (pc := 116) (loc' := [(2, .int x54), (3, .int x50), (1, .int x1), (0, .ref 0)]) dX12_plain_116 rfl (Nat.le_of_ble_eq_true rfl) rfl ?_
    refine r_aload_n (pc := 117) dX12_plain_117 rfl 3 rfl ?_
    refine r_bipush (pc := 118) dX12_plain_118 kb_23 ?_
    refine r_iload_n (pc := 120) dX12_plain_120 rfl 1 rfl ?_
    refine r_iconst (pc := 121) dX12_plain_121 ki_0 ?_
    refine r_iconst (pc := 122) dX12_plain_122 ki_0 ?_
    refine r_iload_n (pc := 123) dX12_plain_123 rfl 2 rfl ?_
    replace h := bn2_e h; obtain ⟨x57, w58, ew58, h⟩ := h
    refine r_cVi (pc := 124) wyX12_node oM0 rfl mlRX12_500 iyX12_node syX12_node ⟨Nat.succ_le_succ (Nat.le_trans (Nat.le_of_ble_eq_true rfl) hK), (Nat.le_of_ble_eq_true rfl)⟩ rfl rfl (Nat.le_of_ble_eq_true rfl) dX12_plain_124 (mX12_node ew58 (pI.mk ?_))
    exact rE_i (pc := 127) rfl dX12_plain_127 h hN
  replace h := if_f hc42 h
  by_cases hc59 : x2 = 285
  · refine r_lkC (pc := 9) (off := 59) (tgt := 68) (L := [285]) dX12_plain_9 (by decide) hc59 (by decide) rfl ?_
    replace h := if_t hc59 h
    refine r_aload_n (pc := 68) dX12_plain_68 rfl 1 rfl ?_
    replace h := be_e h; obtain ⟨o62, w61, ew61, h1, h2⟩ := h
    refine r_cVi (pc := 69) wyX12_setOrCall oM0 rfl mlRX12_557 iyX12_setOrCall syX12_setOrCall ⟨Nat.succ_le_succ (Nat.le_trans (Nat.le_of_ble_eq_true rfl) hK), (Nat.le_of_ble_eq_true rfl)⟩ rfl rfl (Nat.le_of_ble_eq_true rfl) dX12_plain_69 (mX12_setOrCall ew61 (fun x60 ex60 => pI.mk ?_) (fun ez => be_x h2 ez hX))
    replace h := h1 _ ex60
    exact rE_i (pc := 72) rfl dX12_plain_72 h hN
  replace h := if_f hc59 h
  refine r_lkD (pc := 9) (tgt := 236) (K := [[256], [266], [267], [270], [284], [285]]) dX12_plain_9 (by decide) ⟨hc4, hc8, hc17, hc38, hc42, hc59, trivial⟩ (by decide) rfl ?_
  refine r_aload_n (pc := 236) dX12_plain_236 rfl 1 rfl ?_
  refine r_bipush (pc := 237) dX12_plain_237 kb_20 ?_
  refine r_iconst (pc := 239) dX12_plain_239 ki_0 ?_
  refine r_iconst (pc := 240) dX12_plain_240 ki_0 ?_
  refine r_iconst (pc := 241) dX12_plain_241 ki_0 ?_
  refine r_iload_n (pc := 242) dX12_plain_242 rfl 0 rfl ?_
  replace h := bn2_e h; obtain ⟨x63, w64, ew64, h⟩ := h
  refine r_cVi (pc := 243) wyX12_node oM0 rfl mlRX12_500 iyX12_node syX12_node ⟨Nat.succ_le_succ (Nat.le_trans (Nat.le_of_ble_eq_true rfl) hK), (Nat.le_of_ble_eq_true rfl)⟩ rfl rfl (Nat.le_of_ble_eq_true rfl) dX12_plain_243 (mX12_node ew64 (pI.mk ?_))
  exact rE_i (pc := 246) rfl dX12_plain_246 h hN
/-! AlgolMillModel.statement ()I: E, 1805 -/
theorem dX12_statement_0 : decode cX12_statement 0 = .ok (.iconst (-1), 1) := by decide +kernel
theorem dX12_statement_1 : decode cX12_statement 1 = .ok (.istore_n 1, 1) := by decide +kernel
theorem dX12_statement_2 : decode cX12_statement 2 = .ok (.aload_n 0, 1) := by decide +kernel
theorem dX12_statement_3 : decode cX12_statement 3 = .ok (.invokevirtual 452, 3) := by decide +kernel
theorem dX12_statement_6 : decode cX12_statement 6 = .ok (.sipush 285, 3) := by decide +kernel
theorem dX12_statement_9 : decode cX12_statement 9 = .ok (.if_icmp .ne 51, 3) := by decide +kernel
theorem dX12_statement_12 : decode cX12_statement 12 = .ok (.aload_n 0, 1) := by decide +kernel
theorem dX12_statement_13 : decode cX12_statement 13 = .ok (.getfield 13, 3) := by decide +kernel
theorem dX12_statement_16 : decode cX12_statement 16 = .ok (.aload_n 0, 1) := by decide +kernel
theorem dX12_statement_17 : decode cX12_statement 17 = .ok (.getfield 443, 3) := by decide +kernel
theorem dX12_statement_20 : decode cX12_statement 20 = .ok (.iconst 1, 1) := by decide +kernel
theorem dX12_statement_21 : decode cX12_statement 21 = .ok (.iadd, 1) := by decide +kernel
theorem dX12_statement_22 : decode cX12_statement 22 = .ok (.iaload, 1) := by decide +kernel
theorem dX12_statement_23 : decode cX12_statement 23 = .ok (.bipush 58, 2) := by decide +kernel
theorem dX12_statement_25 : decode cX12_statement 25 = .ok (.if_icmp .ne 35, 3) := by decide +kernel
theorem dX12_statement_28 : decode cX12_statement 28 = .ok (.aload_n 0, 1) := by decide +kernel
theorem dX12_statement_29 : decode cX12_statement 29 = .ok (.aload_n 0, 1) := by decide +kernel
theorem dX12_statement_30 : decode cX12_statement 30 = .ok (.getfield 471, 3) := by decide +kernel
theorem dX12_statement_33 : decode cX12_statement 33 = .ok (.aload_n 0, 1) := by decide +kernel
theorem dX12_statement_34 : decode cX12_statement 34 = .ok (.invokevirtual 459, 3) := by decide +kernel
theorem dX12_statement_37 : decode cX12_statement 37 = .ok (.iconst 4, 1) := by decide +kernel
theorem dX12_statement_38 : decode cX12_statement 38 = .ok (.iconst 0, 1) := by decide +kernel
theorem dX12_statement_39 : decode cX12_statement 39 = .ok (.invokevirtual 531, 3) := by decide +kernel
theorem dX12_statement_42 : decode cX12_statement 42 = .ok (.istore_n 2, 1) := by decide +kernel
theorem dX12_statement_43 : decode cX12_statement 43 = .ok (.aload_n 0, 1) := by decide +kernel
theorem dX12_statement_44 : decode cX12_statement 44 = .ok (.invokevirtual 459, 3) := by decide +kernel
theorem dX12_statement_47 : decode cX12_statement 47 = .ok (.istore_n 3, 1) := by decide +kernel
theorem dX12_statement_48 : decode cX12_statement 48 = .ok (.aload_n 0, 1) := by decide +kernel
theorem dX12_statement_49 : decode cX12_statement 49 = .ok (.getfield 208, 3) := by decide +kernel
theorem dX12_statement_52 : decode cX12_statement 52 = .ok (.iload_n 2, 1) := by decide +kernel
theorem dX12_statement_53 : decode cX12_statement 53 = .ok (.iload_n 1, 1) := by decide +kernel
theorem dX12_statement_54 : decode cX12_statement 54 = .ok (.iastore, 1) := by decide +kernel
theorem dX12_statement_55 : decode cX12_statement 55 = .ok (.iload_n 2, 1) := by decide +kernel
theorem dX12_statement_56 : decode cX12_statement 56 = .ok (.istore_n 1, 1) := by decide +kernel
theorem dX12_statement_57 : decode cX12_statement 57 = .ok (.goto (-55), 3) := by decide +kernel
theorem dX12_statement_60 : decode cX12_statement 60 = .ok (.aload_n 0, 1) := by decide +kernel
theorem dX12_statement_61 : decode cX12_statement 61 = .ok (.invokevirtual 554, 3) := by decide +kernel
theorem dX12_statement_64 : decode cX12_statement 64 = .ok (.istore_n 2, 1) := by decide +kernel
theorem dX12_statement_65 : decode cX12_statement 65 = .ok (.aload_n 0, 1) := by decide +kernel
theorem dX12_statement_66 : decode cX12_statement 66 = .ok (.getfield 211, 3) := by decide +kernel
theorem dX12_statement_69 : decode cX12_statement 69 = .ok (.iload_n 2, 1) := by decide +kernel
theorem dX12_statement_70 : decode cX12_statement 70 = .ok (.iload_n 1, 1) := by decide +kernel
theorem dX12_statement_71 : decode cX12_statement 71 = .ok (.iastore, 1) := by decide +kernel
theorem dX12_statement_72 : decode cX12_statement 72 = .ok (.iload_n 2, 1) := by decide +kernel
theorem dX12_statement_73 : decode cX12_statement 73 = .ok (.ireturn, 1) := by decide +kernel
def fX12_statement_60 (rc : TX12_block) (a1 : Int32) (w : Wd) : Option (Option Int32 × Wd) :=
  be (rc 5 0 0 0 w) fun x1 w2 => if inb x1 24000 = true then lt (si w2 44 (Int32.toNatClampNeg x1) a1) fun w5 => some (some x1, w5) else none
theorem pX12_statement_60 {q : Gq} {l : Launch} {N : Option Value → Wd → Prop} {X : String → Wd → Prop} {rc : TX12_block} {dd : Nat} (hS : HSX12_block q l rc dd) (hK : 905 ≤ dd) {w : Wd} {R : Option Int32 × Wd} (hN : ∀ r : Int32, R.1 = some r → N (some (.int r)) R.2) (hX : R.1 = none → X RAE R.2) {a1 : Int32} (h : fX12_statement_60 rc a1 w = some R) : RT (GM q) l (dd + 1) yX12_statement cX12_statement 4 ((some .int)) N X 60 [] [(0, .ref 0), (1, .int a1)] w := by
  unfold fX12_statement_60 at h
  refine r_aload_n (pc := 60) dX12_statement_60 rfl 0 rfl ?_
  replace h := be_e h; obtain ⟨o3, w2, ew2, h1, h2⟩ := h
  refine r_cVi (pc := 61) wyX12_plain oM0 rfl mlRX12_554 iyX12_plain syX12_plain ⟨Nat.le_refl _, (Nat.le_of_ble_eq_true rfl)⟩ rfl rfl (Nat.le_of_ble_eq_true rfl) dX12_statement_61 ((hS.2.2.2.2.2.1 _ _ _ _ _) ew2 (fun x1 ex1 => pI.mk ?_) (fun ez => be_x h2 ez hX))
  replace h := h1 _ ex1
  refine r_istore_n (pc := 64) (loc' := [(2, .int x1), (0, .ref 0), (1, .int a1)]) dX12_statement_64 rfl (Nat.le_of_ble_eq_true rfl) rfl ?_
  refine r_aload_n (pc := 65) dX12_statement_65 rfl 1 rfl ?_
  refine r_get (pc := 66) (j := 61) (v := .ref 44) oM0 cf12 flRX12_211 rfl dX12_statement_66 rfl ?_
  refine r_iload_n (pc := 69) dX12_statement_69 rfl 0 rfl ?_
  refine r_iload_n (pc := 70) dX12_statement_70 rfl 2 rfl ?_
  replace h := if_n h; obtain ⟨hb4, h⟩ := h
  replace h := lt_e h; obtain ⟨w5, ew5, h⟩ := h
  refine r_iast (pc := 71) aM44 (inb_in hb4) dX12_statement_71 ?_
  refine r_w ew5 ?_
  refine r_iload_n (pc := 72) dX12_statement_72 rfl 0 rfl ?_
  exact rE_i (pc := 73) rfl dX12_statement_73 h hN
def fX12_statement_2 (rc : TX12_block) (k_2 : Int32 → Wd → Option (Option Int32 × Wd)) (a1 : Int32) (w : Wd) : Option (Option Int32 × Wd) :=
  bn2 (fX12_kind w) fun x1 w2 => if x1 = 285 then (if inb ((gi w2 0 7) + 1) 8194 = true then if (gi w2 2 (Int32.toNatClampNeg ((gi w2 0 7) + 1))) = 58 then (be (fX12_taken w2) fun x6 w7 => bn2 (fX12_declare (gi w2 0 29) x6 4 0 w7) fun x9 w10 => be (fX12_taken w10) fun x11 w12 => if inb x9 5000 = true then lt (si w12 43 (Int32.toNatClampNeg x9) a1) fun w15 => k_2 x9 w15 else none) else (fX12_statement_60 rc a1 w2) else none) else (fX12_statement_60 rc a1 w2)
theorem pX12_statement_2 {q : Gq} {l : Launch} {N : Option Value → Wd → Prop} {X : String → Wd → Prop} {rc : TX12_block} {dd : Nat} (hS : HSX12_block q l rc dd) (hK : 905 ≤ dd) {w : Wd} {R : Option Int32 × Wd} (hN : ∀ r : Int32, R.1 = some r → N (some (.int r)) R.2) (hX : R.1 = none → X RAE R.2) {k_2 : Int32 → Wd → Option (Option Int32 × Wd)} (hk_2 : ∀ (a1 : Int32) (w : Wd), k_2 a1 w = some R → RT (GM q) l (dd + 1) yX12_statement cX12_statement 4 ((some .int)) N X 2 [] [(0, .ref 0), (1, .int a1)] w) {a1 : Int32} (h : fX12_statement_2 rc k_2 a1 w = some R) : RT (GM q) l (dd + 1) yX12_statement cX12_statement 4 ((some .int)) N X 2 [] [(0, .ref 0), (1, .int a1)] w := by
  unfold fX12_statement_2 at h
  refine r_aload_n (pc := 2) dX12_statement_2 rfl 0 rfl ?_
  replace h := bn2_e h; obtain ⟨x1, w2, ew2, h⟩ := h
  refine r_cVi (pc := 3) wyX12_kind oM0 rfl mlRX12_452 iyX12_kind syX12_kind ⟨Nat.succ_le_succ (Nat.le_trans (Nat.le_of_ble_eq_true rfl) hK), (Nat.le_of_ble_eq_true rfl)⟩ rfl rfl (Nat.le_of_ble_eq_true rfl) dX12_statement_3 (mX12_kind ew2 (pI.mk ?_))
  refine r_sipush (pc := 6) dX12_statement_6 ks_285 ?_
  refine r_icmp_ne (pc := 9) dX12_statement_9 rfl (fun hc3 => ?_) (fun hc3 => ?_)
  · replace h := if_f hc3 h
    exact pX12_statement_60 hS hK hN hX h
  replace h := if_t hc3 h
  refine r_aload_n (pc := 12) dX12_statement_12 rfl 0 rfl ?_
  refine r_get (pc := 13) (j := 3) (v := .ref 2) oM0 cf12 flRX12_13 rfl dX12_statement_13 rfl ?_
  refine r_aload_n (pc := 16) dX12_statement_16 rfl 0 rfl ?_
  refine r_get (pc := 17) (j := 7) (v := .int (gi w2 0 7)) oM0 cf12 flRX12_443 rfl dX12_statement_17 rfl ?_
  refine r_iconst (pc := 20) dX12_statement_20 ki_1 ?_
  refine r_iadd (pc := 21) dX12_statement_21 ?_
  replace h := if_n h; obtain ⟨hb4, h⟩ := h
  refine r_iald (pc := 22) aM2 (inb_in hb4) dX12_statement_22 ?_
  refine r_bipush (pc := 23) dX12_statement_23 kb_58 ?_
  refine r_icmp_ne (pc := 25) dX12_statement_25 rfl (fun hc5 => ?_) (fun hc5 => ?_)
  · replace h := if_f hc5 h
    exact pX12_statement_60 hS hK hN hX h
  replace h := if_t hc5 h
  refine r_aload_n (pc := 28) dX12_statement_28 rfl 0 rfl ?_
  refine r_aload_n (pc := 29) dX12_statement_29 rfl 0 rfl ?_
  refine r_get (pc := 30) (j := 29) (v := .int (gi w2 0 29)) oM0 cf12 flRX12_471 rfl dX12_statement_30 rfl ?_
  refine r_aload_n (pc := 33) dX12_statement_33 rfl 0 rfl ?_
  replace h := be_e h; obtain ⟨o8, w7, ew7, h1, h2⟩ := h
  refine r_cVi (pc := 34) wyX12_taken oM0 rfl mlRX12_459 iyX12_taken syX12_taken ⟨Nat.succ_le_succ (Nat.le_trans (Nat.le_of_ble_eq_true rfl) hK), (Nat.le_of_ble_eq_true rfl)⟩ rfl rfl (Nat.le_of_ble_eq_true rfl) dX12_statement_34 (mX12_taken ew7 (fun x6 ex6 => pI.mk ?_) (fun ez => be_x h2 ez hX))
  replace h := h1 _ ex6
  refine r_iconst (pc := 37) dX12_statement_37 ki_4 ?_
  refine r_iconst (pc := 38) dX12_statement_38 ki_0 ?_
  replace h := bn2_e h; obtain ⟨x9, w10, ew10, h⟩ := h
  refine r_cVi (pc := 39) wyX12_declare oM0 rfl mlRX12_531 iyX12_declare syX12_declare ⟨Nat.succ_le_succ (Nat.le_trans (Nat.le_of_ble_eq_true rfl) hK), (Nat.le_of_ble_eq_true rfl)⟩ rfl rfl (Nat.le_of_ble_eq_true rfl) dX12_statement_39 (mX12_declare ew10 (pI.mk ?_))
  refine r_istore_n (pc := 42) (loc' := [(2, .int x9), (0, .ref 0), (1, .int a1)]) dX12_statement_42 rfl (Nat.le_of_ble_eq_true rfl) rfl ?_
  refine r_aload_n (pc := 43) dX12_statement_43 rfl 1 rfl ?_
  replace h := be_e h; obtain ⟨o13, w12, ew12, h1, h2⟩ := h
  refine r_cVi (pc := 44) wyX12_taken oM0 rfl mlRX12_459 iyX12_taken syX12_taken ⟨Nat.succ_le_succ (Nat.le_trans (Nat.le_of_ble_eq_true rfl) hK), (Nat.le_of_ble_eq_true rfl)⟩ rfl rfl (Nat.le_of_ble_eq_true rfl) dX12_statement_44 (mX12_taken ew12 (fun x11 ex11 => pI.mk ?_) (fun ez => be_x h2 ez hX))
  replace h := h1 _ ex11
  refine r_istore_n (pc := 47) (loc' := [(3, .int x11), (2, .int x9), (0, .ref 0), (1, .int a1)]) dX12_statement_47 rfl (Nat.le_of_ble_eq_true rfl) rfl ?_
  refine r_aload_n (pc := 48) dX12_statement_48 rfl 2 rfl ?_
  refine r_get (pc := 49) (j := 60) (v := .ref 43) oM0 cf12 flRX12_208 rfl dX12_statement_49 rfl ?_
  refine r_iload_n (pc := 52) dX12_statement_52 rfl 1 rfl ?_
  refine r_iload_n (pc := 53) dX12_statement_53 rfl 3 rfl ?_
  replace h := if_n h; obtain ⟨hb14, h⟩ := h
  replace h := lt_e h; obtain ⟨w15, ew15, h⟩ := h
  refine r_iast (pc := 54) aM43 (inb_in hb14) dX12_statement_54 ?_
  refine r_w ew15 ?_
  refine r_iload_n (pc := 55) dX12_statement_55 rfl 1 rfl ?_
  refine r_istore_n (pc := 56) (loc' := [(1, .int x9), (3, .int x11), (2, .int x9), (0, .ref 0)]) dX12_statement_56 rfl (Nat.le_of_ble_eq_true rfl) rfl ?_
  refine r_goto (pc := 57) dX12_statement_57 rfl ?_
  refine r_drop (loc' := [(0, .ref 0), (1, .int x9)]) [3, 0] rfl ?_
  exact hk_2 x9 w15 h
def oX12_statement_2 (rc : TX12_block) : Nat → Int32 → Wd → Option (Option Int32 × Wd)
  | 0 => fun _ _ => none
  | n + 1 => fX12_statement_2 rc (oX12_statement_2 rc n)
theorem qX12_statement_2 {q : Gq} {l : Launch} {N : Option Value → Wd → Prop} {X : String → Wd → Prop} {rc : TX12_block} {dd : Nat} (hS : HSX12_block q l rc dd) (hK : 905 ≤ dd) {R : Option Int32 × Wd} (hN : ∀ r : Int32, R.1 = some r → N (some (.int r)) R.2) (hX : R.1 = none → X RAE R.2) : ∀ (n : Nat) (a1 : Int32) (w : Wd), oX12_statement_2 rc n a1 w = some R → RT (GM q) l (dd + 1) yX12_statement cX12_statement 4 ((some .int)) N X 2 [] [(0, .ref 0), (1, .int a1)] w := by
  intro n
  induction n with
  | zero =>
    intro a1 w h
    exact absurd h (fun q => nomatch q)
  | succ n ih =>
    intro a1 w h
    exact pX12_statement_2 hS hK hN hX ih h
def fX12_statement (rc : TX12_block) (w : Wd) : Option (Option Int32 × Wd) :=
  oX12_statement_2 rc FU (-1) w
theorem pX12_statement {q : Gq} {l : Launch} {N : Option Value → Wd → Prop} {X : String → Wd → Prop} {rc : TX12_block} {dd : Nat} (hS : HSX12_block q l rc dd) (hK : 905 ≤ dd) {w : Wd} {R : Option Int32 × Wd} (hN : ∀ r : Int32, R.1 = some r → N (some (.int r)) R.2) (hX : R.1 = none → X RAE R.2) (h : fX12_statement rc w = some R) : RT (GM q) l (dd + 1) yX12_statement cX12_statement 4 ((some .int)) N X 0 [] [(0, .ref 0)] w := by
  unfold fX12_statement at h
  refine r_iconst (pc := 0) dX12_statement_0 ki_m1 ?_
  refine r_istore_n (pc := 1) (loc' := [(1, .int (-1)), (0, .ref 0)]) dX12_statement_1 rfl (Nat.le_of_ble_eq_true rfl) rfl ?_
  refine r_drop (loc' := [(0, .ref 0), (1, .int (-1))]) [1, 0] rfl ?_
  exact qX12_statement_2 hS hK hN hX FU (-1) w h
/-! AlgolMillModel.procedure (I)V: E, 1805 -/
theorem dX12_procedure_0 : decode cX12_procedure 0 = .ok (.aload_n 0, 1) := by decide +kernel
theorem dX12_procedure_1 : decode cX12_procedure 1 = .ok (.invokevirtual 459, 3) := by decide +kernel
theorem dX12_procedure_4 : decode cX12_procedure 4 = .ok (.istore_n 2, 1) := by decide +kernel
theorem dX12_procedure_5 : decode cX12_procedure 5 = .ok (.aload_n 0, 1) := by decide +kernel
theorem dX12_procedure_6 : decode cX12_procedure 6 = .ok (.dup, 1) := by decide +kernel
theorem dX12_procedure_7 : decode cX12_procedure 7 = .ok (.getfield 449, 3) := by decide +kernel
theorem dX12_procedure_10 : decode cX12_procedure 10 = .ok (.iconst 1, 1) := by decide +kernel
theorem dX12_procedure_11 : decode cX12_procedure 11 = .ok (.iadd, 1) := by decide +kernel
theorem dX12_procedure_12 : decode cX12_procedure 12 = .ok (.putfield 449, 3) := by decide +kernel
theorem dX12_procedure_15 : decode cX12_procedure 15 = .ok (.aload_n 0, 1) := by decide +kernel
theorem dX12_procedure_16 : decode cX12_procedure 16 = .ok (.aload_n 0, 1) := by decide +kernel
theorem dX12_procedure_17 : decode cX12_procedure 17 = .ok (.getfield 471, 3) := by decide +kernel
theorem dX12_procedure_20 : decode cX12_procedure 20 = .ok (.aload_n 0, 1) := by decide +kernel
theorem dX12_procedure_21 : decode cX12_procedure 21 = .ok (.sipush 285, 3) := by decide +kernel
theorem dX12_procedure_24 : decode cX12_procedure 24 = .ok (.invokevirtual 491, 3) := by decide +kernel
theorem dX12_procedure_27 : decode cX12_procedure 27 = .ok (.iconst 3, 1) := by decide +kernel
theorem dX12_procedure_28 : decode cX12_procedure 28 = .ok (.iload_n 1, 1) := by decide +kernel
theorem dX12_procedure_29 : decode cX12_procedure 29 = .ok (.invokevirtual 531, 3) := by decide +kernel
theorem dX12_procedure_32 : decode cX12_procedure 32 = .ok (.istore_n 3, 1) := by decide +kernel
theorem dX12_procedure_33 : decode cX12_procedure 33 = .ok (.aload_n 0, 1) := by decide +kernel
theorem dX12_procedure_34 : decode cX12_procedure 34 = .ok (.getfield 477, 3) := by decide +kernel
theorem dX12_procedure_37 : decode cX12_procedure 37 = .ok (.istore 4, 2) := by decide +kernel
theorem dX12_procedure_39 : decode cX12_procedure 39 = .ok (.aload_n 0, 1) := by decide +kernel
theorem dX12_procedure_40 : decode cX12_procedure 40 = .ok (.getfield 471, 3) := by decide +kernel
theorem dX12_procedure_43 : decode cX12_procedure 43 = .ok (.istore 5, 2) := by decide +kernel
theorem dX12_procedure_45 : decode cX12_procedure 45 = .ok (.aload_n 0, 1) := by decide +kernel
theorem dX12_procedure_46 : decode cX12_procedure 46 = .ok (.aload_n 0, 1) := by decide +kernel
theorem dX12_procedure_47 : decode cX12_procedure 47 = .ok (.getfield 544, 3) := by decide +kernel
theorem dX12_procedure_50 : decode cX12_procedure 50 = .ok (.putfield 477, 3) := by decide +kernel
theorem dX12_procedure_53 : decode cX12_procedure 53 = .ok (.aload_n 0, 1) := by decide +kernel
theorem dX12_procedure_54 : decode cX12_procedure 54 = .ok (.dup, 1) := by decide +kernel
theorem dX12_procedure_55 : decode cX12_procedure 55 = .ok (.getfield 544, 3) := by decide +kernel
theorem dX12_procedure_58 : decode cX12_procedure 58 = .ok (.iconst 1, 1) := by decide +kernel
theorem dX12_procedure_59 : decode cX12_procedure 59 = .ok (.iadd, 1) := by decide +kernel
theorem dX12_procedure_60 : decode cX12_procedure 60 = .ok (.putfield 544, 3) := by decide +kernel
theorem dX12_procedure_63 : decode cX12_procedure 63 = .ok (.aload_n 0, 1) := by decide +kernel
theorem dX12_procedure_64 : decode cX12_procedure 64 = .ok (.getfield 150, 3) := by decide +kernel
theorem dX12_procedure_67 : decode cX12_procedure 67 = .ok (.iload_n 3, 1) := by decide +kernel
theorem dX12_procedure_68 : decode cX12_procedure 68 = .ok (.aload_n 0, 1) := by decide +kernel
theorem dX12_procedure_69 : decode cX12_procedure 69 = .ok (.getfield 477, 3) := by decide +kernel
theorem dX12_procedure_72 : decode cX12_procedure 72 = .ok (.iastore, 1) := by decide +kernel
theorem dX12_procedure_73 : decode cX12_procedure 73 = .ok (.aload_n 0, 1) := by decide +kernel
theorem dX12_procedure_74 : decode cX12_procedure 74 = .ok (.getfield 166, 3) := by decide +kernel
theorem dX12_procedure_77 : decode cX12_procedure 77 = .ok (.aload_n 0, 1) := by decide +kernel
theorem dX12_procedure_78 : decode cX12_procedure 78 = .ok (.getfield 477, 3) := by decide +kernel
theorem dX12_procedure_81 : decode cX12_procedure 81 = .ok (.iload_n 3, 1) := by decide +kernel
theorem dX12_procedure_82 : decode cX12_procedure 82 = .ok (.iastore, 1) := by decide +kernel
theorem dX12_procedure_83 : decode cX12_procedure 83 = .ok (.aload_n 0, 1) := by decide +kernel
theorem dX12_procedure_84 : decode cX12_procedure 84 = .ok (.getfield 190, 3) := by decide +kernel
theorem dX12_procedure_87 : decode cX12_procedure 87 = .ok (.aload_n 0, 1) := by decide +kernel
theorem dX12_procedure_88 : decode cX12_procedure 88 = .ok (.getfield 477, 3) := by decide +kernel
theorem dX12_procedure_91 : decode cX12_procedure 91 = .ok (.iload 4, 2) := by decide +kernel
theorem dX12_procedure_93 : decode cX12_procedure 93 = .ok (.iastore, 1) := by decide +kernel
theorem dX12_procedure_94 : decode cX12_procedure 94 = .ok (.aload_n 0, 1) := by decide +kernel
theorem dX12_procedure_95 : decode cX12_procedure 95 = .ok (.getfield 169, 3) := by decide +kernel
theorem dX12_procedure_98 : decode cX12_procedure 98 = .ok (.aload_n 0, 1) := by decide +kernel
theorem dX12_procedure_99 : decode cX12_procedure 99 = .ok (.getfield 477, 3) := by decide +kernel
theorem dX12_procedure_102 : decode cX12_procedure 102 = .ok (.aload_n 0, 1) := by decide +kernel
theorem dX12_procedure_103 : decode cX12_procedure 103 = .ok (.getfield 169, 3) := by decide +kernel
theorem dX12_procedure_106 : decode cX12_procedure 106 = .ok (.iload 4, 2) := by decide +kernel
theorem dX12_procedure_108 : decode cX12_procedure 108 = .ok (.iaload, 1) := by decide +kernel
theorem dX12_procedure_109 : decode cX12_procedure 109 = .ok (.iconst 1, 1) := by decide +kernel
theorem dX12_procedure_110 : decode cX12_procedure 110 = .ok (.iadd, 1) := by decide +kernel
theorem dX12_procedure_111 : decode cX12_procedure 111 = .ok (.iastore, 1) := by decide +kernel
theorem dX12_procedure_112 : decode cX12_procedure 112 = .ok (.aload_n 0, 1) := by decide +kernel
theorem dX12_procedure_113 : decode cX12_procedure 113 = .ok (.getfield 181, 3) := by decide +kernel
theorem dX12_procedure_116 : decode cX12_procedure 116 = .ok (.aload_n 0, 1) := by decide +kernel
theorem dX12_procedure_117 : decode cX12_procedure 117 = .ok (.getfield 477, 3) := by decide +kernel
theorem dX12_procedure_120 : decode cX12_procedure 120 = .ok (.iconst 0, 1) := by decide +kernel
theorem dX12_procedure_121 : decode cX12_procedure 121 = .ok (.iastore, 1) := by decide +kernel
theorem dX12_procedure_122 : decode cX12_procedure 122 = .ok (.aload_n 0, 1) := by decide +kernel
theorem dX12_procedure_123 : decode cX12_procedure 123 = .ok (.getfield 184, 3) := by decide +kernel
theorem dX12_procedure_126 : decode cX12_procedure 126 = .ok (.aload_n 0, 1) := by decide +kernel
theorem dX12_procedure_127 : decode cX12_procedure 127 = .ok (.getfield 477, 3) := by decide +kernel
theorem dX12_procedure_130 : decode cX12_procedure 130 = .ok (.iconst 1, 1) := by decide +kernel
theorem dX12_procedure_131 : decode cX12_procedure 131 = .ok (.iastore, 1) := by decide +kernel
theorem dX12_procedure_132 : decode cX12_procedure 132 = .ok (.aload_n 0, 1) := by decide +kernel
theorem dX12_procedure_133 : decode cX12_procedure 133 = .ok (.getfield 172, 3) := by decide +kernel
theorem dX12_procedure_136 : decode cX12_procedure 136 = .ok (.aload_n 0, 1) := by decide +kernel
theorem dX12_procedure_137 : decode cX12_procedure 137 = .ok (.getfield 477, 3) := by decide +kernel
theorem dX12_procedure_140 : decode cX12_procedure 140 = .ok (.iconst 0, 1) := by decide +kernel
theorem dX12_procedure_141 : decode cX12_procedure 141 = .ok (.iastore, 1) := by decide +kernel
theorem dX12_procedure_142 : decode cX12_procedure 142 = .ok (.aload_n 0, 1) := by decide +kernel
theorem dX12_procedure_143 : decode cX12_procedure 143 = .ok (.getfield 175, 3) := by decide +kernel
theorem dX12_procedure_146 : decode cX12_procedure 146 = .ok (.aload_n 0, 1) := by decide +kernel
theorem dX12_procedure_147 : decode cX12_procedure 147 = .ok (.getfield 477, 3) := by decide +kernel
theorem dX12_procedure_150 : decode cX12_procedure 150 = .ok (.aload_n 0, 1) := by decide +kernel
theorem dX12_procedure_151 : decode cX12_procedure 151 = .ok (.getfield 488, 3) := by decide +kernel
theorem dX12_procedure_154 : decode cX12_procedure 154 = .ok (.iastore, 1) := by decide +kernel
theorem dX12_procedure_155 : decode cX12_procedure 155 = .ok (.aload_n 0, 1) := by decide +kernel
theorem dX12_procedure_156 : decode cX12_procedure 156 = .ok (.aload_n 0, 1) := by decide +kernel
theorem dX12_procedure_157 : decode cX12_procedure 157 = .ok (.aload_n 0, 1) := by decide +kernel
theorem dX12_procedure_158 : decode cX12_procedure 158 = .ok (.getfield 471, 3) := by decide +kernel
theorem dX12_procedure_161 : decode cX12_procedure 161 = .ok (.iconst (-1), 1) := by decide +kernel
theorem dX12_procedure_162 : decode cX12_procedure 162 = .ok (.invokevirtual 497, 3) := by decide +kernel
theorem dX12_procedure_165 : decode cX12_procedure 165 = .ok (.putfield 471, 3) := by decide +kernel
theorem dX12_procedure_168 : decode cX12_procedure 168 = .ok (.aload_n 0, 1) := by decide +kernel
theorem dX12_procedure_169 : decode cX12_procedure 169 = .ok (.bipush 40, 2) := by decide +kernel
theorem dX12_procedure_171 : decode cX12_procedure 171 = .ok (.invokevirtual 517, 3) := by decide +kernel
theorem dX12_procedure_174 : decode cX12_procedure 174 = .ok (.ifCond .eq 109, 3) := by decide +kernel
theorem dX12_procedure_177 : decode cX12_procedure 177 = .ok (.aload_n 0, 1) := by decide +kernel
theorem dX12_procedure_178 : decode cX12_procedure 178 = .ok (.dup, 1) := by decide +kernel
theorem dX12_procedure_179 : decode cX12_procedure 179 = .ok (.getfield 449, 3) := by decide +kernel
theorem dX12_procedure_182 : decode cX12_procedure 182 = .ok (.iconst 1, 1) := by decide +kernel
theorem dX12_procedure_183 : decode cX12_procedure 183 = .ok (.iadd, 1) := by decide +kernel
theorem dX12_procedure_184 : decode cX12_procedure 184 = .ok (.putfield 449, 3) := by decide +kernel
theorem dX12_procedure_187 : decode cX12_procedure 187 = .ok (.aload_n 0, 1) := by decide +kernel
theorem dX12_procedure_188 : decode cX12_procedure 188 = .ok (.sipush 285, 3) := by decide +kernel
theorem dX12_procedure_191 : decode cX12_procedure 191 = .ok (.invokevirtual 491, 3) := by decide +kernel
theorem dX12_procedure_194 : decode cX12_procedure 194 = .ok (.istore 6, 2) := by decide +kernel
theorem dX12_procedure_196 : decode cX12_procedure 196 = .ok (.aload_n 0, 1) := by decide +kernel
theorem dX12_procedure_197 : decode cX12_procedure 197 = .ok (.aload_n 0, 1) := by decide +kernel
theorem dX12_procedure_198 : decode cX12_procedure 198 = .ok (.getfield 471, 3) := by decide +kernel
theorem dX12_procedure_201 : decode cX12_procedure 201 = .ok (.iload 6, 2) := by decide +kernel
theorem dX12_procedure_203 : decode cX12_procedure 203 = .ok (.bipush 6, 2) := by decide +kernel
theorem dX12_procedure_205 : decode cX12_procedure 205 = .ok (.iconst 0, 1) := by decide +kernel
theorem dX12_procedure_206 : decode cX12_procedure 206 = .ok (.invokevirtual 531, 3) := by decide +kernel
theorem dX12_procedure_209 : decode cX12_procedure 209 = .ok (.istore 7, 2) := by decide +kernel
theorem dX12_procedure_211 : decode cX12_procedure 211 = .ok (.aload_n 0, 1) := by decide +kernel
theorem dX12_procedure_212 : decode cX12_procedure 212 = .ok (.getfield 156, 3) := by decide +kernel
theorem dX12_procedure_215 : decode cX12_procedure 215 = .ok (.iload 7, 2) := by decide +kernel
theorem dX12_procedure_217 : decode cX12_procedure 217 = .ok (.aload_n 0, 1) := by decide +kernel
theorem dX12_procedure_218 : decode cX12_procedure 218 = .ok (.iconst 2, 1) := by decide +kernel
theorem dX12_procedure_219 : decode cX12_procedure 219 = .ok (.invokevirtual 504, 3) := by decide +kernel
theorem dX12_procedure_222 : decode cX12_procedure 222 = .ok (.iastore, 1) := by decide +kernel
theorem dX12_procedure_223 : decode cX12_procedure 223 = .ok (.aload_n 0, 1) := by decide +kernel
theorem dX12_procedure_224 : decode cX12_procedure 224 = .ok (.getfield 172, 3) := by decide +kernel
theorem dX12_procedure_227 : decode cX12_procedure 227 = .ok (.aload_n 0, 1) := by decide +kernel
theorem dX12_procedure_228 : decode cX12_procedure 228 = .ok (.getfield 477, 3) := by decide +kernel
theorem dX12_procedure_231 : decode cX12_procedure 231 = .ok (.dup2, 1) := by decide +kernel
theorem dX12_procedure_232 : decode cX12_procedure 232 = .ok (.iaload, 1) := by decide +kernel
theorem dX12_procedure_233 : decode cX12_procedure 233 = .ok (.iconst 1, 1) := by decide +kernel
theorem dX12_procedure_234 : decode cX12_procedure 234 = .ok (.iadd, 1) := by decide +kernel
theorem dX12_procedure_235 : decode cX12_procedure 235 = .ok (.iastore, 1) := by decide +kernel
theorem dX12_procedure_236 : decode cX12_procedure 236 = .ok (.aload_n 0, 1) := by decide +kernel
theorem dX12_procedure_237 : decode cX12_procedure 237 = .ok (.getfield 172, 3) := by decide +kernel
theorem dX12_procedure_240 : decode cX12_procedure 240 = .ok (.aload_n 0, 1) := by decide +kernel
theorem dX12_procedure_241 : decode cX12_procedure 241 = .ok (.getfield 477, 3) := by decide +kernel
theorem dX12_procedure_244 : decode cX12_procedure 244 = .ok (.iaload, 1) := by decide +kernel
theorem dX12_procedure_245 : decode cX12_procedure 245 = .ok (.bipush 9, 2) := by decide +kernel
theorem dX12_procedure_247 : decode cX12_procedure 247 = .ok (.if_icmp .ne 10, 3) := by decide +kernel
theorem dX12_procedure_250 : decode cX12_procedure 250 = .ok (.aload_n 0, 1) := by decide +kernel
theorem dX12_procedure_251 : decode cX12_procedure 251 = .ok (.iconst 5, 1) := by decide +kernel
theorem dX12_procedure_252 : decode cX12_procedure 252 = .ok (.iload 6, 2) := by decide +kernel
theorem dX12_procedure_254 : decode cX12_procedure 254 = .ok (.invokevirtual 484, 3) := by decide +kernel
theorem dX12_procedure_257 : decode cX12_procedure 257 = .ok (.aload_n 0, 1) := by decide +kernel
theorem dX12_procedure_258 : decode cX12_procedure 258 = .ok (.bipush 44, 2) := by decide +kernel
theorem dX12_procedure_260 : decode cX12_procedure 260 = .ok (.invokevirtual 517, 3) := by decide +kernel
theorem dX12_procedure_263 : decode cX12_procedure 263 = .ok (.ifCond .ne (-76), 3) := by decide +kernel
theorem dX12_procedure_266 : decode cX12_procedure 266 = .ok (.aload_n 0, 1) := by decide +kernel
theorem dX12_procedure_267 : decode cX12_procedure 267 = .ok (.dup, 1) := by decide +kernel
theorem dX12_procedure_268 : decode cX12_procedure 268 = .ok (.getfield 449, 3) := by decide +kernel
theorem dX12_procedure_271 : decode cX12_procedure 271 = .ok (.iconst 1, 1) := by decide +kernel
theorem dX12_procedure_272 : decode cX12_procedure 272 = .ok (.isub, 1) := by decide +kernel
theorem dX12_procedure_273 : decode cX12_procedure 273 = .ok (.putfield 449, 3) := by decide +kernel
theorem dX12_procedure_276 : decode cX12_procedure 276 = .ok (.aload_n 0, 1) := by decide +kernel
theorem dX12_procedure_277 : decode cX12_procedure 277 = .ok (.bipush 41, 2) := by decide +kernel
theorem dX12_procedure_279 : decode cX12_procedure 279 = .ok (.invokevirtual 491, 3) := by decide +kernel
theorem dX12_procedure_282 : decode cX12_procedure 282 = .ok (.istore_n 2, 1) := by decide +kernel
theorem dX12_procedure_283 : decode cX12_procedure 283 = .ok (.aload_n 0, 1) := by decide +kernel
theorem dX12_procedure_284 : decode cX12_procedure 284 = .ok (.getfield 488, 3) := by decide +kernel
theorem dX12_procedure_287 : decode cX12_procedure 287 = .ok (.istore 6, 2) := by decide +kernel
theorem dX12_procedure_289 : decode cX12_procedure 289 = .ok (.aload_n 0, 1) := by decide +kernel
theorem dX12_procedure_290 : decode cX12_procedure 290 = .ok (.bipush 59, 2) := by decide +kernel
theorem dX12_procedure_292 : decode cX12_procedure 292 = .ok (.invokevirtual 491, 3) := by decide +kernel
theorem dX12_procedure_295 : decode cX12_procedure 295 = .ok (.istore_n 2, 1) := by decide +kernel
theorem dX12_procedure_296 : decode cX12_procedure 296 = .ok (.aload_n 0, 1) := by decide +kernel
theorem dX12_procedure_297 : decode cX12_procedure 297 = .ok (.getfield 443, 3) := by decide +kernel
theorem dX12_procedure_300 : decode cX12_procedure 300 = .ok (.istore 7, 2) := by decide +kernel
theorem dX12_procedure_302 : decode cX12_procedure 302 = .ok (.aload_n 0, 1) := by decide +kernel
theorem dX12_procedure_303 : decode cX12_procedure 303 = .ok (.getfield 443, 3) := by decide +kernel
theorem dX12_procedure_306 : decode cX12_procedure 306 = .ok (.istore 8, 2) := by decide +kernel
theorem dX12_procedure_308 : decode cX12_procedure 308 = .ok (.aload_n 0, 1) := by decide +kernel
theorem dX12_procedure_309 : decode cX12_procedure 309 = .ok (.sipush 263, 3) := by decide +kernel
theorem dX12_procedure_312 : decode cX12_procedure 312 = .ok (.invokevirtual 517, 3) := by decide +kernel
theorem dX12_procedure_315 : decode cX12_procedure 315 = .ok (.ifCond .eq 39, 3) := by decide +kernel
theorem dX12_procedure_318 : decode cX12_procedure 318 = .ok (.aload_n 0, 1) := by decide +kernel
theorem dX12_procedure_319 : decode cX12_procedure 319 = .ok (.getfield 443, 3) := by decide +kernel
theorem dX12_procedure_322 : decode cX12_procedure 322 = .ok (.istore 7, 2) := by decide +kernel
theorem dX12_procedure_324 : decode cX12_procedure 324 = .ok (.aload_n 0, 1) := by decide +kernel
theorem dX12_procedure_325 : decode cX12_procedure 325 = .ok (.sipush 285, 3) := by decide +kernel
theorem dX12_procedure_328 : decode cX12_procedure 328 = .ok (.invokevirtual 491, 3) := by decide +kernel
theorem dX12_procedure_331 : decode cX12_procedure 331 = .ok (.istore_n 2, 1) := by decide +kernel
theorem dX12_procedure_332 : decode cX12_procedure 332 = .ok (.aload_n 0, 1) := by decide +kernel
theorem dX12_procedure_333 : decode cX12_procedure 333 = .ok (.bipush 44, 2) := by decide +kernel
theorem dX12_procedure_335 : decode cX12_procedure 335 = .ok (.invokevirtual 517, 3) := by decide +kernel
theorem dX12_procedure_338 : decode cX12_procedure 338 = .ok (.ifCond .ne (-14), 3) := by decide +kernel
theorem dX12_procedure_341 : decode cX12_procedure 341 = .ok (.aload_n 0, 1) := by decide +kernel
theorem dX12_procedure_342 : decode cX12_procedure 342 = .ok (.getfield 443, 3) := by decide +kernel
theorem dX12_procedure_345 : decode cX12_procedure 345 = .ok (.istore 8, 2) := by decide +kernel
theorem dX12_procedure_347 : decode cX12_procedure 347 = .ok (.aload_n 0, 1) := by decide +kernel
theorem dX12_procedure_348 : decode cX12_procedure 348 = .ok (.bipush 59, 2) := by decide +kernel
theorem dX12_procedure_350 : decode cX12_procedure 350 = .ok (.invokevirtual 491, 3) := by decide +kernel
theorem dX12_procedure_353 : decode cX12_procedure 353 = .ok (.istore_n 2, 1) := by decide +kernel
theorem dX12_procedure_354 : decode cX12_procedure 354 = .ok (.aload_n 0, 1) := by decide +kernel
theorem dX12_procedure_355 : decode cX12_procedure 355 = .ok (.invokevirtual 507, 3) := by decide +kernel
theorem dX12_procedure_358 : decode cX12_procedure 358 = .ok (.ifCond .ne 43, 3) := by decide +kernel
theorem dX12_procedure_361 : decode cX12_procedure 361 = .ok (.aload_n 0, 1) := by decide +kernel
theorem dX12_procedure_362 : decode cX12_procedure 362 = .ok (.invokevirtual 452, 3) := by decide +kernel
theorem dX12_procedure_365 : decode cX12_procedure 365 = .ok (.sipush 261, 3) := by decide +kernel
theorem dX12_procedure_368 : decode cX12_procedure 368 = .ok (.if_icmp .eq 33, 3) := by decide +kernel
theorem dX12_procedure_371 : decode cX12_procedure 371 = .ok (.aload_n 0, 1) := by decide +kernel
theorem dX12_procedure_372 : decode cX12_procedure 372 = .ok (.invokevirtual 452, 3) := by decide +kernel
theorem dX12_procedure_375 : decode cX12_procedure 375 = .ok (.sipush 262, 3) := by decide +kernel
theorem dX12_procedure_378 : decode cX12_procedure 378 = .ok (.if_icmp .eq 23, 3) := by decide +kernel
theorem dX12_procedure_381 : decode cX12_procedure 381 = .ok (.aload_n 0, 1) := by decide +kernel
theorem dX12_procedure_382 : decode cX12_procedure 382 = .ok (.invokevirtual 452, 3) := by decide +kernel
theorem dX12_procedure_385 : decode cX12_procedure 385 = .ok (.sipush 264, 3) := by decide +kernel
theorem dX12_procedure_388 : decode cX12_procedure 388 = .ok (.if_icmp .eq 13, 3) := by decide +kernel
theorem dX12_procedure_391 : decode cX12_procedure 391 = .ok (.aload_n 0, 1) := by decide +kernel
theorem dX12_procedure_392 : decode cX12_procedure 392 = .ok (.invokevirtual 452, 3) := by decide +kernel
theorem dX12_procedure_395 : decode cX12_procedure 395 = .ok (.sipush 265, 3) := by decide +kernel
theorem dX12_procedure_398 : decode cX12_procedure 398 = .ok (.if_icmp .ne 12, 3) := by decide +kernel
theorem dX12_procedure_401 : decode cX12_procedure 401 = .ok (.aload_n 0, 1) := by decide +kernel
theorem dX12_procedure_402 : decode cX12_procedure 402 = .ok (.iload 6, 2) := by decide +kernel
theorem dX12_procedure_404 : decode cX12_procedure 404 = .ok (.invokevirtual 547, 3) := by decide +kernel
theorem dX12_procedure_407 : decode cX12_procedure 407 = .ok (.goto (-53), 3) := by decide +kernel
theorem dX12_procedure_410 : decode cX12_procedure 410 = .ok (.iload 7, 2) := by decide +kernel
theorem dX12_procedure_412 : decode cX12_procedure 412 = .ok (.istore 9, 2) := by decide +kernel
theorem dX12_procedure_414 : decode cX12_procedure 414 = .ok (.iload 9, 2) := by decide +kernel
theorem dX12_procedure_416 : decode cX12_procedure 416 = .ok (.iload 8, 2) := by decide +kernel
theorem dX12_procedure_418 : decode cX12_procedure 418 = .ok (.if_icmp .ge 58, 3) := by decide +kernel
theorem dX12_procedure_421 : decode cX12_procedure 421 = .ok (.aload_n 0, 1) := by decide +kernel
theorem dX12_procedure_422 : decode cX12_procedure 422 = .ok (.aload_n 0, 1) := by decide +kernel
theorem dX12_procedure_423 : decode cX12_procedure 423 = .ok (.getfield 20, 3) := by decide +kernel
theorem dX12_procedure_426 : decode cX12_procedure 426 = .ok (.iload 9, 2) := by decide +kernel
theorem dX12_procedure_428 : decode cX12_procedure 428 = .ok (.laload, 1) := by decide +kernel
theorem dX12_procedure_429 : decode cX12_procedure 429 = .ok (.iload 6, 2) := by decide +kernel
theorem dX12_procedure_431 : decode cX12_procedure 431 = .ok (.invokevirtual 550, 3) := by decide +kernel
theorem dX12_procedure_434 : decode cX12_procedure 434 = .ok (.istore 10, 2) := by decide +kernel
theorem dX12_procedure_436 : decode cX12_procedure 436 = .ok (.iload 10, 2) := by decide +kernel
theorem dX12_procedure_438 : decode cX12_procedure 438 = .ok (.ifCond .lt 14, 3) := by decide +kernel
theorem dX12_procedure_441 : decode cX12_procedure 441 = .ok (.aload_n 0, 1) := by decide +kernel
theorem dX12_procedure_442 : decode cX12_procedure 442 = .ok (.getfield 150, 3) := by decide +kernel
theorem dX12_procedure_445 : decode cX12_procedure 445 = .ok (.iload 10, 2) := by decide +kernel
theorem dX12_procedure_447 : decode cX12_procedure 447 = .ok (.iaload, 1) := by decide +kernel
theorem dX12_procedure_448 : decode cX12_procedure 448 = .ok (.iconst 1, 1) := by decide +kernel
theorem dX12_procedure_449 : decode cX12_procedure 449 = .ok (.if_icmp .eq 13, 3) := by decide +kernel
theorem dX12_procedure_452 : decode cX12_procedure 452 = .ok (.aload_n 0, 1) := by decide +kernel
theorem dX12_procedure_453 : decode cX12_procedure 453 = .ok (.iconst 3, 1) := by decide +kernel
theorem dX12_procedure_454 : decode cX12_procedure 454 = .ok (.iload 9, 2) := by decide +kernel
theorem dX12_procedure_456 : decode cX12_procedure 456 = .ok (.invokevirtual 484, 3) := by decide +kernel
theorem dX12_procedure_459 : decode cX12_procedure 459 = .ok (.goto 11, 3) := by decide +kernel
theorem dX12_procedure_462 : decode cX12_procedure 462 = .ok (.aload_n 0, 1) := by decide +kernel
theorem dX12_procedure_463 : decode cX12_procedure 463 = .ok (.getfield 163, 3) := by decide +kernel
theorem dX12_procedure_466 : decode cX12_procedure 466 = .ok (.iload 10, 2) := by decide +kernel
theorem dX12_procedure_468 : decode cX12_procedure 468 = .ok (.iconst 1, 1) := by decide +kernel
theorem dX12_procedure_469 : decode cX12_procedure 469 = .ok (.bastore, 1) := by decide +kernel
theorem dX12_procedure_470 : decode cX12_procedure 470 = .ok (.iinc 9 2, 3) := by decide +kernel
theorem dX12_procedure_473 : decode cX12_procedure 473 = .ok (.goto (-59), 3) := by decide +kernel
theorem dX12_procedure_476 : decode cX12_procedure 476 = .ok (.aload_n 0, 1) := by decide +kernel
theorem dX12_procedure_477 : decode cX12_procedure 477 = .ok (.getfield 175, 3) := by decide +kernel
theorem dX12_procedure_480 : decode cX12_procedure 480 = .ok (.aload_n 0, 1) := by decide +kernel
theorem dX12_procedure_481 : decode cX12_procedure 481 = .ok (.getfield 477, 3) := by decide +kernel
theorem dX12_procedure_484 : decode cX12_procedure 484 = .ok (.iaload, 1) := by decide +kernel
theorem dX12_procedure_485 : decode cX12_procedure 485 = .ok (.istore 9, 2) := by decide +kernel
theorem dX12_procedure_487 : decode cX12_procedure 487 = .ok (.iload 9, 2) := by decide +kernel
theorem dX12_procedure_489 : decode cX12_procedure 489 = .ok (.iload 6, 2) := by decide +kernel
theorem dX12_procedure_491 : decode cX12_procedure 491 = .ok (.if_icmp .ge 42, 3) := by decide +kernel
theorem dX12_procedure_494 : decode cX12_procedure 494 = .ok (.aload_n 0, 1) := by decide +kernel
theorem dX12_procedure_495 : decode cX12_procedure 495 = .ok (.getfield 150, 3) := by decide +kernel
theorem dX12_procedure_498 : decode cX12_procedure 498 = .ok (.iload 9, 2) := by decide +kernel
theorem dX12_procedure_500 : decode cX12_procedure 500 = .ok (.iaload, 1) := by decide +kernel
theorem dX12_procedure_501 : decode cX12_procedure 501 = .ok (.ifCond .eq 14, 3) := by decide +kernel
theorem dX12_procedure_504 : decode cX12_procedure 504 = .ok (.aload_n 0, 1) := by decide +kernel
theorem dX12_procedure_505 : decode cX12_procedure 505 = .ok (.getfield 153, 3) := by decide +kernel
theorem dX12_procedure_508 : decode cX12_procedure 508 = .ok (.iload 9, 2) := by decide +kernel
theorem dX12_procedure_510 : decode cX12_procedure 510 = .ok (.iaload, 1) := by decide +kernel
theorem dX12_procedure_511 : decode cX12_procedure 511 = .ok (.iconst 1, 1) := by decide +kernel
theorem dX12_procedure_512 : decode cX12_procedure 512 = .ok (.if_icmp .le 15, 3) := by decide +kernel
theorem dX12_procedure_515 : decode cX12_procedure 515 = .ok (.aload_n 0, 1) := by decide +kernel
theorem dX12_procedure_516 : decode cX12_procedure 516 = .ok (.iconst 3, 1) := by decide +kernel
theorem dX12_procedure_517 : decode cX12_procedure 517 = .ok (.aload_n 0, 1) := by decide +kernel
theorem dX12_procedure_518 : decode cX12_procedure 518 = .ok (.getfield 144, 3) := by decide +kernel
theorem dX12_procedure_521 : decode cX12_procedure 521 = .ok (.iload 9, 2) := by decide +kernel
theorem dX12_procedure_523 : decode cX12_procedure 523 = .ok (.iaload, 1) := by decide +kernel
theorem dX12_procedure_524 : decode cX12_procedure 524 = .ok (.invokevirtual 484, 3) := by decide +kernel
theorem dX12_procedure_527 : decode cX12_procedure 527 = .ok (.iinc 9 1, 3) := by decide +kernel
theorem dX12_procedure_530 : decode cX12_procedure 530 = .ok (.goto (-43), 3) := by decide +kernel
theorem dX12_procedure_533 : decode cX12_procedure 533 = .ok (.aload_n 0, 1) := by decide +kernel
theorem dX12_procedure_534 : decode cX12_procedure 534 = .ok (.aload_n 0, 1) := by decide +kernel
theorem dX12_procedure_535 : decode cX12_procedure 535 = .ok (.aload_n 0, 1) := by decide +kernel
theorem dX12_procedure_536 : decode cX12_procedure 536 = .ok (.getfield 471, 3) := by decide +kernel
theorem dX12_procedure_539 : decode cX12_procedure 539 = .ok (.iconst (-1), 1) := by decide +kernel
theorem dX12_procedure_540 : decode cX12_procedure 540 = .ok (.invokevirtual 497, 3) := by decide +kernel
theorem dX12_procedure_543 : decode cX12_procedure 543 = .ok (.putfield 471, 3) := by decide +kernel
theorem dX12_procedure_546 : decode cX12_procedure 546 = .ok (.aload_n 0, 1) := by decide +kernel
theorem dX12_procedure_547 : decode cX12_procedure 547 = .ok (.getfield 193, 3) := by decide +kernel
theorem dX12_procedure_550 : decode cX12_procedure 550 = .ok (.aload_n 0, 1) := by decide +kernel
theorem dX12_procedure_551 : decode cX12_procedure 551 = .ok (.getfield 477, 3) := by decide +kernel
theorem dX12_procedure_554 : decode cX12_procedure 554 = .ok (.aload_n 0, 1) := by decide +kernel
theorem dX12_procedure_555 : decode cX12_procedure 555 = .ok (.getfield 471, 3) := by decide +kernel
theorem dX12_procedure_558 : decode cX12_procedure 558 = .ok (.iastore, 1) := by decide +kernel
theorem dX12_procedure_559 : decode cX12_procedure 559 = .ok (.aload_n 0, 1) := by decide +kernel
theorem dX12_procedure_560 : decode cX12_procedure 560 = .ok (.getfield 178, 3) := by decide +kernel
theorem dX12_procedure_563 : decode cX12_procedure 563 = .ok (.aload_n 0, 1) := by decide +kernel
theorem dX12_procedure_564 : decode cX12_procedure 564 = .ok (.getfield 477, 3) := by decide +kernel
theorem dX12_procedure_567 : decode cX12_procedure 567 = .ok (.aload_n 0, 1) := by decide +kernel
theorem dX12_procedure_568 : decode cX12_procedure 568 = .ok (.invokevirtual 514, 3) := by decide +kernel
theorem dX12_procedure_571 : decode cX12_procedure 571 = .ok (.iastore, 1) := by decide +kernel
theorem dX12_procedure_572 : decode cX12_procedure 572 = .ok (.aload_n 0, 1) := by decide +kernel
theorem dX12_procedure_573 : decode cX12_procedure 573 = .ok (.iload 5, 2) := by decide +kernel
theorem dX12_procedure_575 : decode cX12_procedure 575 = .ok (.putfield 471, 3) := by decide +kernel
theorem dX12_procedure_578 : decode cX12_procedure 578 = .ok (.aload_n 0, 1) := by decide +kernel
theorem dX12_procedure_579 : decode cX12_procedure 579 = .ok (.iload 4, 2) := by decide +kernel
theorem dX12_procedure_581 : decode cX12_procedure 581 = .ok (.putfield 477, 3) := by decide +kernel
theorem dX12_procedure_584 : decode cX12_procedure 584 = .ok (.aload_n 0, 1) := by decide +kernel
theorem dX12_procedure_585 : decode cX12_procedure 585 = .ok (.dup, 1) := by decide +kernel
theorem dX12_procedure_586 : decode cX12_procedure 586 = .ok (.getfield 449, 3) := by decide +kernel
theorem dX12_procedure_589 : decode cX12_procedure 589 = .ok (.iconst 1, 1) := by decide +kernel
theorem dX12_procedure_590 : decode cX12_procedure 590 = .ok (.isub, 1) := by decide +kernel
theorem dX12_procedure_591 : decode cX12_procedure 591 = .ok (.putfield 449, 3) := by decide +kernel
theorem dX12_procedure_594 : decode cX12_procedure 594 = .ok (.return_, 1) := by decide +kernel
def fX12_procedure_515 (rc : TX12_block) (k_487 : Int32 → Int32 → Int32 → Int32 → Wd → Option (Option Int32 × Wd)) (a4 : Int32) (a5 : Int32) (a6 : Int32) (a9 : Int32) (w : Wd) : Option (Option Int32 × Wd) :=
  if inb a9 5000 = true then bn (fX12_found 3 (gi w 22 (Int32.toNatClampNeg a9)) w) fun w2 => lt (a9 + 1) fun x3 => k_487 a4 a5 a6 x3 w2 else none
theorem pX12_procedure_515 {q : Gq} {l : Launch} {N : Option Value → Wd → Prop} {X : String → Wd → Prop} {rc : TX12_block} {dd : Nat} (hS : HSX12_block q l rc dd) (hK : 905 ≤ dd) {w : Wd} {R : Option Int32 × Wd} (hN : ∀ r : Int32, R.1 = some r → N none R.2) (hX : R.1 = none → X RAE R.2) {k_487 : Int32 → Int32 → Int32 → Int32 → Wd → Option (Option Int32 × Wd)} (hk_487 : ∀ (a4 : Int32) (a5 : Int32) (a6 : Int32) (a9 : Int32) (w : Wd), k_487 a4 a5 a6 a9 w = some R → RT (GM q) l (dd + 1) yX12_procedure cX12_procedure 11 (none) N X 487 [] [(0, .ref 0), (4, .int a4), (5, .int a5), (6, .int a6), (9, .int a9)] w) {a4 : Int32} {a5 : Int32} {a6 : Int32} {a9 : Int32} (h : fX12_procedure_515 rc k_487 a4 a5 a6 a9 w = some R) : RT (GM q) l (dd + 1) yX12_procedure cX12_procedure 11 (none) N X 515 [] [(0, .ref 0), (4, .int a4), (5, .int a5), (6, .int a6), (9, .int a9)] w := by
  unfold fX12_procedure_515 at h
  refine r_aload_n (pc := 515) dX12_procedure_515 rfl 0 rfl ?_
  refine r_iconst (pc := 516) dX12_procedure_516 ki_3 ?_
  refine r_aload_n (pc := 517) dX12_procedure_517 rfl 0 rfl ?_
  refine r_get (pc := 518) (j := 35) (v := .ref 22) oM0 cf12 flRX12_144 rfl dX12_procedure_518 rfl ?_
  refine r_iload (pc := 521) dX12_procedure_521 4 rfl ?_
  replace h := if_n h; obtain ⟨hb1, h⟩ := h
  refine r_iald (pc := 523) aM22 (inb_in hb1) dX12_procedure_523 ?_
  replace h := bn_e h; obtain ⟨w2, ew2, h⟩ := h
  refine r_cVv (pc := 524) wyX12_found oM0 rfl mlRX12_484 iyX12_found syX12_found ⟨Nat.succ_le_succ (Nat.le_trans (Nat.le_of_ble_eq_true rfl) hK), (Nat.le_of_ble_eq_true rfl)⟩ rfl rfl (Nat.le_of_ble_eq_true rfl) dX12_procedure_524 (mX12_found ew2 (pV.mk ?_))
  replace h := lt_e h; obtain ⟨x3, ex3, h⟩ := h
  refine r_inc (pc := 527) (loc' := [(9, .int x3), (0, .ref 0), (4, .int a4), (5, .int a5), (6, .int a6)]) dX12_procedure_527 ki_1 ex3 4 rfl (Nat.le_of_ble_eq_true rfl) rfl ?_
  refine r_goto (pc := 530) dX12_procedure_530 rfl ?_
  refine r_drop (loc' := [(0, .ref 0), (4, .int a4), (5, .int a5), (6, .int a6), (9, .int x3)]) [1, 2, 3, 4, 0] rfl ?_
  exact hk_487 a4 a5 a6 x3 w2 h
def fX12_procedure_487 (rc : TX12_block) (k_487 : Int32 → Int32 → Int32 → Int32 → Wd → Option (Option Int32 × Wd)) (a4 : Int32) (a5 : Int32) (a6 : Int32) (a9 : Int32) (w : Wd) : Option (Option Int32 × Wd) :=
  if a6 ≤ a9 then (bn2 (fX12_newScope (gi w 0 29) (-1) w) fun x2 w3 => lt (si w3 0 29 x2) fun w4 => if inb (gi w4 0 30) 1200 = true then lt (si w4 38 (Int32.toNatClampNeg (gi w4 0 30)) (gi w4 0 29)) fun w6 => be (rc 4 0 0 0 w6) fun x7 w8 => if inb (gi w6 0 30) 1200 = true then lt (si w8 33 (Int32.toNatClampNeg (gi w6 0 30)) x7) fun w11 => lt (si w11 0 29 a5) fun w12 => lt (si w12 0 30 a4) fun w13 => lt (si w13 0 8 ((gi w13 0 8) - 1)) fun w14 => some (some 0, w14) else none else none) else (if inb a9 5000 = true then if (gi w 24 (Int32.toNatClampNeg a9)) = 0 then (fX12_procedure_515 rc k_487 a4 a5 a6 a9 w) else (if inb a9 5000 = true then if (gi w 25 (Int32.toNatClampNeg a9)) ≤ 1 then (lt (a9 + 1) fun x19 => k_487 a4 a5 a6 x19 w) else (fX12_procedure_515 rc k_487 a4 a5 a6 a9 w) else none) else none)
theorem pX12_procedure_487 {q : Gq} {l : Launch} {N : Option Value → Wd → Prop} {X : String → Wd → Prop} {rc : TX12_block} {dd : Nat} (hS : HSX12_block q l rc dd) (hK : 905 ≤ dd) {w : Wd} {R : Option Int32 × Wd} (hN : ∀ r : Int32, R.1 = some r → N none R.2) (hX : R.1 = none → X RAE R.2) {k_487 : Int32 → Int32 → Int32 → Int32 → Wd → Option (Option Int32 × Wd)} (hk_487 : ∀ (a4 : Int32) (a5 : Int32) (a6 : Int32) (a9 : Int32) (w : Wd), k_487 a4 a5 a6 a9 w = some R → RT (GM q) l (dd + 1) yX12_procedure cX12_procedure 11 (none) N X 487 [] [(0, .ref 0), (4, .int a4), (5, .int a5), (6, .int a6), (9, .int a9)] w) {a4 : Int32} {a5 : Int32} {a6 : Int32} {a9 : Int32} (h : fX12_procedure_487 rc k_487 a4 a5 a6 a9 w = some R) : RT (GM q) l (dd + 1) yX12_procedure cX12_procedure 11 (none) N X 487 [] [(0, .ref 0), (4, .int a4), (5, .int a5), (6, .int a6), (9, .int a9)] w := by
  unfold fX12_procedure_487 at h
  refine r_iload (pc := 487) dX12_procedure_487 4 rfl ?_
  refine r_iload (pc := 489) dX12_procedure_489 3 rfl ?_
  refine r_icmp_ge (pc := 491) dX12_procedure_491 rfl (fun hc1 => ?_) (fun hc1 => ?_)
  · replace h := if_t hc1 h
    refine r_aload_n (pc := 533) dX12_procedure_533 rfl 0 rfl ?_
    refine r_aload_n (pc := 534) dX12_procedure_534 rfl 0 rfl ?_
    refine r_aload_n (pc := 535) dX12_procedure_535 rfl 0 rfl ?_
    refine r_get (pc := 536) (j := 29) (v := .int (gi w 0 29)) oM0 cf12 flRX12_471 rfl dX12_procedure_536 rfl ?_
    refine r_iconst (pc := 539) dX12_procedure_539 ki_m1 ?_
    replace h := bn2_e h; obtain ⟨x2, w3, ew3, h⟩ := h
    refine r_cVi (pc := 540) wyX12_newScope oM0 rfl mlRX12_497 iyX12_newScope syX12_newScope ⟨Nat.succ_le_succ (Nat.le_trans (Nat.le_of_ble_eq_true rfl) hK), (Nat.le_of_ble_eq_true rfl)⟩ rfl rfl (Nat.le_of_ble_eq_true rfl) dX12_procedure_540 (mX12_newScope ew3 (pI.mk ?_))
    replace h := lt_e h; obtain ⟨w4, ew4, h⟩ := h
    refine r_putI (pc := 543) (j := 29) oM0 cf12 flRX12_471 rfl rfl rfl rfl dX12_procedure_543 ?_
    refine r_w ew4 ?_
    refine r_aload_n (pc := 546) dX12_procedure_546 rfl 0 rfl ?_
    refine r_get (pc := 547) (j := 52) (v := .ref 38) oM0 cf12 flRX12_193 rfl dX12_procedure_547 rfl ?_
    refine r_aload_n (pc := 550) dX12_procedure_550 rfl 0 rfl ?_
    refine r_get (pc := 551) (j := 30) (v := .int (gi w4 0 30)) oM0 cf12 flRX12_477 rfl dX12_procedure_551 rfl ?_
    refine r_aload_n (pc := 554) dX12_procedure_554 rfl 0 rfl ?_
    refine r_get (pc := 555) (j := 29) (v := .int (gi w4 0 29)) oM0 cf12 flRX12_471 rfl dX12_procedure_555 rfl ?_
    replace h := if_n h; obtain ⟨hb5, h⟩ := h
    replace h := lt_e h; obtain ⟨w6, ew6, h⟩ := h
    refine r_iast (pc := 558) aM38 (inb_in hb5) dX12_procedure_558 ?_
    refine r_w ew6 ?_
    refine r_aload_n (pc := 559) dX12_procedure_559 rfl 0 rfl ?_
    refine r_get (pc := 560) (j := 47) (v := .ref 33) oM0 cf12 flRX12_178 rfl dX12_procedure_560 rfl ?_
    refine r_aload_n (pc := 563) dX12_procedure_563 rfl 0 rfl ?_
    refine r_get (pc := 564) (j := 30) (v := .int (gi w6 0 30)) oM0 cf12 flRX12_477 rfl dX12_procedure_564 rfl ?_
    refine r_aload_n (pc := 567) dX12_procedure_567 rfl 0 rfl ?_
    replace h := be_e h; obtain ⟨o9, w8, ew8, h1, h2⟩ := h
    refine r_cVi (pc := 568) wyX12_statement oM0 rfl mlRX12_514 iyX12_statement syX12_statement ⟨Nat.le_refl _, (Nat.le_of_ble_eq_true rfl)⟩ rfl rfl (Nat.le_of_ble_eq_true rfl) dX12_procedure_568 ((hS.2.2.2.2.1 _ _ _ _ _) ew8 (fun x7 ex7 => pI.mk ?_) (fun ez => be_x h2 ez hX))
    replace h := h1 _ ex7
    replace h := if_n h; obtain ⟨hb10, h⟩ := h
    replace h := lt_e h; obtain ⟨w11, ew11, h⟩ := h
    refine r_iast (pc := 571) aM33 (inb_in hb10) dX12_procedure_571 ?_
    refine r_w ew11 ?_
    refine r_aload_n (pc := 572) dX12_procedure_572 rfl 0 rfl ?_
    refine r_iload (pc := 573) dX12_procedure_573 2 rfl ?_
    replace h := lt_e h; obtain ⟨w12, ew12, h⟩ := h
    refine r_putI (pc := 575) (j := 29) oM0 cf12 flRX12_471 rfl rfl rfl rfl dX12_procedure_575 ?_
    refine r_w ew12 ?_
    refine r_aload_n (pc := 578) dX12_procedure_578 rfl 0 rfl ?_
    refine r_iload (pc := 579) dX12_procedure_579 1 rfl ?_
    replace h := lt_e h; obtain ⟨w13, ew13, h⟩ := h
    refine r_putI (pc := 581) (j := 30) oM0 cf12 flRX12_477 rfl rfl rfl rfl dX12_procedure_581 ?_
    refine r_w ew13 ?_
    refine r_aload_n (pc := 584) dX12_procedure_584 rfl 0 rfl ?_
    refine r_dup (pc := 585) dX12_procedure_585 rfl ?_
    refine r_get (pc := 586) (j := 8) (v := .int (gi w13 0 8)) oM0 cf12 flRX12_449 rfl dX12_procedure_586 rfl ?_
    refine r_iconst (pc := 589) dX12_procedure_589 ki_1 ?_
    refine r_isub (pc := 590) dX12_procedure_590 ?_
    replace h := lt_e h; obtain ⟨w14, ew14, h⟩ := h
    refine r_putI (pc := 591) (j := 8) oM0 cf12 flRX12_449 rfl rfl rfl rfl dX12_procedure_591 ?_
    refine r_w ew14 ?_
    exact rER_v (pc := 594) rfl dX12_procedure_594 h hN
  replace h := if_f hc1 h
  refine r_aload_n (pc := 494) dX12_procedure_494 rfl 0 rfl ?_
  refine r_get (pc := 495) (j := 37) (v := .ref 24) oM0 cf12 flRX12_150 rfl dX12_procedure_495 rfl ?_
  refine r_iload (pc := 498) dX12_procedure_498 4 rfl ?_
  replace h := if_n h; obtain ⟨hb15, h⟩ := h
  refine r_iald (pc := 500) aM24 (inb_in hb15) dX12_procedure_500 ?_
  refine r_if_eq (pc := 501) dX12_procedure_501 rfl (fun hc16 => ?_) (fun hc16 => ?_)
  · replace h := if_t hc16 h
    exact pX12_procedure_515 hS hK hN hX hk_487 h
  replace h := if_f hc16 h
  refine r_aload_n (pc := 504) dX12_procedure_504 rfl 0 rfl ?_
  refine r_get (pc := 505) (j := 38) (v := .ref 25) oM0 cf12 flRX12_153 rfl dX12_procedure_505 rfl ?_
  refine r_iload (pc := 508) dX12_procedure_508 4 rfl ?_
  replace h := if_n h; obtain ⟨hb17, h⟩ := h
  refine r_iald (pc := 510) aM25 (inb_in hb17) dX12_procedure_510 ?_
  refine r_iconst (pc := 511) dX12_procedure_511 ki_1 ?_
  refine r_icmp_le (pc := 512) dX12_procedure_512 rfl (fun hc18 => ?_) (fun hc18 => ?_)
  · replace h := if_t hc18 h
    replace h := lt_e h; obtain ⟨x19, ex19, h⟩ := h
    refine r_inc (pc := 527) (loc' := [(9, .int x19), (0, .ref 0), (4, .int a4), (5, .int a5), (6, .int a6)]) dX12_procedure_527 ki_1 ex19 4 rfl (Nat.le_of_ble_eq_true rfl) rfl ?_
    refine r_goto (pc := 530) dX12_procedure_530 rfl ?_
    refine r_drop (loc' := [(0, .ref 0), (4, .int a4), (5, .int a5), (6, .int a6), (9, .int x19)]) [1, 2, 3, 4, 0] rfl ?_
    exact hk_487 a4 a5 a6 x19 w h
  replace h := if_f hc18 h
  exact pX12_procedure_515 hS hK hN hX hk_487 h
def oX12_procedure_487 (rc : TX12_block) : Nat → Int32 → Int32 → Int32 → Int32 → Wd → Option (Option Int32 × Wd)
  | 0 => fun _ _ _ _ _ => none
  | n + 1 => fX12_procedure_487 rc (oX12_procedure_487 rc n)
theorem qX12_procedure_487 {q : Gq} {l : Launch} {N : Option Value → Wd → Prop} {X : String → Wd → Prop} {rc : TX12_block} {dd : Nat} (hS : HSX12_block q l rc dd) (hK : 905 ≤ dd) {R : Option Int32 × Wd} (hN : ∀ r : Int32, R.1 = some r → N none R.2) (hX : R.1 = none → X RAE R.2) : ∀ (n : Nat) (a4 : Int32) (a5 : Int32) (a6 : Int32) (a9 : Int32) (w : Wd), oX12_procedure_487 rc n a4 a5 a6 a9 w = some R → RT (GM q) l (dd + 1) yX12_procedure cX12_procedure 11 (none) N X 487 [] [(0, .ref 0), (4, .int a4), (5, .int a5), (6, .int a6), (9, .int a9)] w := by
  intro n
  induction n with
  | zero =>
    intro a4 a5 a6 a9 w h
    exact absurd h (fun q => nomatch q)
  | succ n ih =>
    intro a4 a5 a6 a9 w h
    exact pX12_procedure_487 hS hK hN hX ih h
def fX12_procedure_414 (rc : TX12_block) (k_414 : Int32 → Int32 → Int32 → Int32 → Int32 → Wd → Option (Option Int32 × Wd)) (a4 : Int32) (a5 : Int32) (a6 : Int32) (a8 : Int32) (a9 : Int32) (w : Wd) : Option (Option Int32 × Wd) :=
  if a8 ≤ a9 then (if inb (gi w 0 30) 1200 = true then lt ((gi w 32 (Int32.toNatClampNeg (gi w 0 30)))) fun x3 => oX12_procedure_487 rc FU a4 a5 a6 x3 w else none) else (if inb a9 8194 = true then bn2 (fX12_formalOf (gl w 4 (Int32.toNatClampNeg a9)) a6 w) fun x5 w6 => if x5 < 0 then (bn (fX12_found 3 a9 w6) fun w8 => lt (a9 + 2) fun x9 => k_414 a4 a5 a6 a8 x9 w8) else (if inb x5 5000 = true then if (gi w6 24 (Int32.toNatClampNeg x5)) = 1 then (if inb x5 5000 = true then lt (si w6 28 (Int32.toNatClampNeg x5) (vp_nar .boolean 1)) fun w13 => lt (a9 + 2) fun x14 => k_414 a4 a5 a6 a8 x14 w13 else none) else (bn (fX12_found 3 a9 w6) fun w15 => lt (a9 + 2) fun x16 => k_414 a4 a5 a6 a8 x16 w15) else none) else none)
theorem pX12_procedure_414 {q : Gq} {l : Launch} {N : Option Value → Wd → Prop} {X : String → Wd → Prop} {rc : TX12_block} {dd : Nat} (hS : HSX12_block q l rc dd) (hK : 905 ≤ dd) {w : Wd} {R : Option Int32 × Wd} (hN : ∀ r : Int32, R.1 = some r → N none R.2) (hX : R.1 = none → X RAE R.2) {k_414 : Int32 → Int32 → Int32 → Int32 → Int32 → Wd → Option (Option Int32 × Wd)} (hk_414 : ∀ (a4 : Int32) (a5 : Int32) (a6 : Int32) (a8 : Int32) (a9 : Int32) (w : Wd), k_414 a4 a5 a6 a8 a9 w = some R → RT (GM q) l (dd + 1) yX12_procedure cX12_procedure 11 (none) N X 414 [] [(0, .ref 0), (4, .int a4), (5, .int a5), (6, .int a6), (8, .int a8), (9, .int a9)] w) {a4 : Int32} {a5 : Int32} {a6 : Int32} {a8 : Int32} {a9 : Int32} (h : fX12_procedure_414 rc k_414 a4 a5 a6 a8 a9 w = some R) : RT (GM q) l (dd + 1) yX12_procedure cX12_procedure 11 (none) N X 414 [] [(0, .ref 0), (4, .int a4), (5, .int a5), (6, .int a6), (8, .int a8), (9, .int a9)] w := by
  unfold fX12_procedure_414 at h
  refine r_iload (pc := 414) dX12_procedure_414 5 rfl ?_
  refine r_iload (pc := 416) dX12_procedure_416 4 rfl ?_
  refine r_icmp_ge (pc := 418) dX12_procedure_418 rfl (fun hc1 => ?_) (fun hc1 => ?_)
  · replace h := if_t hc1 h
    refine r_aload_n (pc := 476) dX12_procedure_476 rfl 0 rfl ?_
    refine r_get (pc := 477) (j := 46) (v := .ref 32) oM0 cf12 flRX12_175 rfl dX12_procedure_477 rfl ?_
    refine r_aload_n (pc := 480) dX12_procedure_480 rfl 0 rfl ?_
    refine r_get (pc := 481) (j := 30) (v := .int (gi w 0 30)) oM0 cf12 flRX12_477 rfl dX12_procedure_481 rfl ?_
    replace h := if_n h; obtain ⟨hb2, h⟩ := h
    refine r_iald (pc := 484) aM32 (inb_in hb2) dX12_procedure_484 ?_
    replace h := lt_e h; obtain ⟨x3, ex3, h⟩ := h
    refine r_topi ex3 ?_
    refine r_istore (pc := 485) (loc' := [(9, .int x3), (0, .ref 0), (4, .int a4), (5, .int a5), (6, .int a6), (8, .int a8)]) dX12_procedure_485 (Nat.le_of_ble_eq_true rfl) rfl ?_
    refine r_drop (loc' := [(0, .ref 0), (4, .int a4), (5, .int a5), (6, .int a6), (9, .int x3)]) [1, 2, 3, 4, 0] rfl ?_
    exact qX12_procedure_487 hS hK hN hX FU a4 a5 a6 x3 w h
  replace h := if_f hc1 h
  refine r_aload_n (pc := 421) dX12_procedure_421 rfl 0 rfl ?_
  refine r_aload_n (pc := 422) dX12_procedure_422 rfl 0 rfl ?_
  refine r_get (pc := 423) (j := 5) (v := .ref 4) oM0 cf12 flRX12_20 rfl dX12_procedure_423 rfl ?_
  refine r_iload (pc := 426) dX12_procedure_426 5 rfl ?_
  replace h := if_n h; obtain ⟨hb4, h⟩ := h
  refine r_lald (pc := 428) aM4 (inb_in hb4) dX12_procedure_428 ?_
  refine r_iload (pc := 429) dX12_procedure_429 3 rfl ?_
  replace h := bn2_e h; obtain ⟨x5, w6, ew6, h⟩ := h
  refine r_cVi (pc := 431) wyX12_formalOf oM0 rfl mlRX12_550 iyX12_formalOf syX12_formalOf ⟨Nat.succ_le_succ (Nat.le_trans (Nat.le_of_ble_eq_true rfl) hK), (Nat.le_of_ble_eq_true rfl)⟩ rfl rfl (Nat.le_of_ble_eq_true rfl) dX12_procedure_431 (mX12_formalOf ew6 (pI.mk ?_))
  refine r_istore (pc := 434) (loc' := [(10, .int x5), (0, .ref 0), (4, .int a4), (5, .int a5), (6, .int a6), (8, .int a8), (9, .int a9)]) dX12_procedure_434 (Nat.le_of_ble_eq_true rfl) rfl ?_
  refine r_iload (pc := 436) dX12_procedure_436 0 rfl ?_
  refine r_if_lt (pc := 438) dX12_procedure_438 rfl (fun hc7 => ?_) (fun hc7 => ?_)
  · replace h := if_t hc7 h
    refine r_aload_n (pc := 452) dX12_procedure_452 rfl 1 rfl ?_
    refine r_iconst (pc := 453) dX12_procedure_453 ki_3 ?_
    refine r_iload (pc := 454) dX12_procedure_454 6 rfl ?_
    replace h := bn_e h; obtain ⟨w8, ew8, h⟩ := h
    refine r_cVv (pc := 456) wyX12_found oM0 rfl mlRX12_484 iyX12_found syX12_found ⟨Nat.succ_le_succ (Nat.le_trans (Nat.le_of_ble_eq_true rfl) hK), (Nat.le_of_ble_eq_true rfl)⟩ rfl rfl (Nat.le_of_ble_eq_true rfl) dX12_procedure_456 (mX12_found ew8 (pV.mk ?_))
    refine r_goto (pc := 459) dX12_procedure_459 rfl ?_
    replace h := lt_e h; obtain ⟨x9, ex9, h⟩ := h
    refine r_inc (pc := 470) (loc' := [(9, .int x9), (10, .int x5), (0, .ref 0), (4, .int a4), (5, .int a5), (6, .int a6), (8, .int a8)]) dX12_procedure_470 ki_2 ex9 6 rfl (Nat.le_of_ble_eq_true rfl) rfl ?_
    refine r_goto (pc := 473) dX12_procedure_473 rfl ?_
    refine r_drop (loc' := [(0, .ref 0), (4, .int a4), (5, .int a5), (6, .int a6), (8, .int a8), (9, .int x9)]) [2, 3, 4, 5, 6, 0] rfl ?_
    exact hk_414 a4 a5 a6 a8 x9 w8 h
  replace h := if_f hc7 h
  refine r_aload_n (pc := 441) dX12_procedure_441 rfl 1 rfl ?_
  refine r_get (pc := 442) (j := 37) (v := .ref 24) oM0 cf12 flRX12_150 rfl dX12_procedure_442 rfl ?_
  refine r_iload (pc := 445) dX12_procedure_445 0 rfl ?_
  replace h := if_n h; obtain ⟨hb10, h⟩ := h
  refine r_iald (pc := 447) aM24 (inb_in hb10) dX12_procedure_447 ?_
  refine r_iconst (pc := 448) dX12_procedure_448 ki_1 ?_
  refine r_icmp_eq (pc := 449) dX12_procedure_449 rfl (fun hc11 => ?_) (fun hc11 => ?_)
  · replace h := if_t hc11 h
    refine r_aload_n (pc := 462) dX12_procedure_462 rfl 1 rfl ?_
    refine r_get (pc := 463) (j := 41) (v := .ref 28) oM0 cf12 flRX12_163 rfl dX12_procedure_463 rfl ?_
    refine r_iload (pc := 466) dX12_procedure_466 0 rfl ?_
    refine r_iconst (pc := 468) dX12_procedure_468 ki_1 ?_
    replace h := if_n h; obtain ⟨hb12, h⟩ := h
    replace h := lt_e h; obtain ⟨w13, ew13, h⟩ := h
    refine r_zast (pc := 469) aM28 (inb_in hb12) dX12_procedure_469 ?_
    refine r_w ew13 ?_
    replace h := lt_e h; obtain ⟨x14, ex14, h⟩ := h
    refine r_inc (pc := 470) (loc' := [(9, .int x14), (10, .int x5), (0, .ref 0), (4, .int a4), (5, .int a5), (6, .int a6), (8, .int a8)]) dX12_procedure_470 ki_2 ex14 6 rfl (Nat.le_of_ble_eq_true rfl) rfl ?_
    refine r_goto (pc := 473) dX12_procedure_473 rfl ?_
    refine r_drop (loc' := [(0, .ref 0), (4, .int a4), (5, .int a5), (6, .int a6), (8, .int a8), (9, .int x14)]) [2, 3, 4, 5, 6, 0] rfl ?_
    exact hk_414 a4 a5 a6 a8 x14 w13 h
  replace h := if_f hc11 h
  refine r_aload_n (pc := 452) dX12_procedure_452 rfl 1 rfl ?_
  refine r_iconst (pc := 453) dX12_procedure_453 ki_3 ?_
  refine r_iload (pc := 454) dX12_procedure_454 6 rfl ?_
  replace h := bn_e h; obtain ⟨w15, ew15, h⟩ := h
  refine r_cVv (pc := 456) wyX12_found oM0 rfl mlRX12_484 iyX12_found syX12_found ⟨Nat.succ_le_succ (Nat.le_trans (Nat.le_of_ble_eq_true rfl) hK), (Nat.le_of_ble_eq_true rfl)⟩ rfl rfl (Nat.le_of_ble_eq_true rfl) dX12_procedure_456 (mX12_found ew15 (pV.mk ?_))
  refine r_goto (pc := 459) dX12_procedure_459 rfl ?_
  replace h := lt_e h; obtain ⟨x16, ex16, h⟩ := h
  refine r_inc (pc := 470) (loc' := [(9, .int x16), (10, .int x5), (0, .ref 0), (4, .int a4), (5, .int a5), (6, .int a6), (8, .int a8)]) dX12_procedure_470 ki_2 ex16 6 rfl (Nat.le_of_ble_eq_true rfl) rfl ?_
  refine r_goto (pc := 473) dX12_procedure_473 rfl ?_
  refine r_drop (loc' := [(0, .ref 0), (4, .int a4), (5, .int a5), (6, .int a6), (8, .int a8), (9, .int x16)]) [2, 3, 4, 5, 6, 0] rfl ?_
  exact hk_414 a4 a5 a6 a8 x16 w15 h
def oX12_procedure_414 (rc : TX12_block) : Nat → Int32 → Int32 → Int32 → Int32 → Int32 → Wd → Option (Option Int32 × Wd)
  | 0 => fun _ _ _ _ _ _ => none
  | n + 1 => fX12_procedure_414 rc (oX12_procedure_414 rc n)
theorem qX12_procedure_414 {q : Gq} {l : Launch} {N : Option Value → Wd → Prop} {X : String → Wd → Prop} {rc : TX12_block} {dd : Nat} (hS : HSX12_block q l rc dd) (hK : 905 ≤ dd) {R : Option Int32 × Wd} (hN : ∀ r : Int32, R.1 = some r → N none R.2) (hX : R.1 = none → X RAE R.2) : ∀ (n : Nat) (a4 : Int32) (a5 : Int32) (a6 : Int32) (a8 : Int32) (a9 : Int32) (w : Wd), oX12_procedure_414 rc n a4 a5 a6 a8 a9 w = some R → RT (GM q) l (dd + 1) yX12_procedure cX12_procedure 11 (none) N X 414 [] [(0, .ref 0), (4, .int a4), (5, .int a5), (6, .int a6), (8, .int a8), (9, .int a9)] w := by
  intro n
  induction n with
  | zero =>
    intro a4 a5 a6 a8 a9 w h
    exact absurd h (fun q => nomatch q)
  | succ n ih =>
    intro a4 a5 a6 a8 a9 w h
    exact pX12_procedure_414 hS hK hN hX ih h
def fX12_procedure_354 (rc : TX12_block) (k_354 : Int32 → Int32 → Int32 → Int32 → Int32 → Wd → Option (Option Int32 × Wd)) (a4 : Int32) (a5 : Int32) (a6 : Int32) (a7 : Int32) (a8 : Int32) (w : Wd) : Option (Option Int32 × Wd) :=
  bn2 (fX12_isType w) fun x1 w2 => if x1 = true then (be (fX12_spec a6 w2) fun _ w5 => k_354 a4 a5 a6 a7 a8 w5) else (bn2 (fX12_kind w2) fun x7 w8 => if x7 = 261 then (be (fX12_spec a6 w8) fun _ w11 => k_354 a4 a5 a6 a7 a8 w11) else (bn2 (fX12_kind w8) fun x13 w14 => if x13 = 262 then (be (fX12_spec a6 w14) fun _ w17 => k_354 a4 a5 a6 a7 a8 w17) else (bn2 (fX12_kind w14) fun x19 w20 => if x19 = 264 then (be (fX12_spec a6 w20) fun _ w23 => k_354 a4 a5 a6 a7 a8 w23) else (bn2 (fX12_kind w20) fun x25 w26 => if x25 = 265 then (be (fX12_spec a6 w26) fun _ w29 => k_354 a4 a5 a6 a7 a8 w29) else (oX12_procedure_414 rc FU a4 a5 a6 a8 a7 w26)))))
theorem pX12_procedure_354 {q : Gq} {l : Launch} {N : Option Value → Wd → Prop} {X : String → Wd → Prop} {rc : TX12_block} {dd : Nat} (hS : HSX12_block q l rc dd) (hK : 905 ≤ dd) {w : Wd} {R : Option Int32 × Wd} (hN : ∀ r : Int32, R.1 = some r → N none R.2) (hX : R.1 = none → X RAE R.2) {k_354 : Int32 → Int32 → Int32 → Int32 → Int32 → Wd → Option (Option Int32 × Wd)} (hk_354 : ∀ (a4 : Int32) (a5 : Int32) (a6 : Int32) (a7 : Int32) (a8 : Int32) (w : Wd), k_354 a4 a5 a6 a7 a8 w = some R → RT (GM q) l (dd + 1) yX12_procedure cX12_procedure 11 (none) N X 354 [] [(0, .ref 0), (4, .int a4), (5, .int a5), (6, .int a6), (7, .int a7), (8, .int a8)] w) {a4 : Int32} {a5 : Int32} {a6 : Int32} {a7 : Int32} {a8 : Int32} (h : fX12_procedure_354 rc k_354 a4 a5 a6 a7 a8 w = some R) : RT (GM q) l (dd + 1) yX12_procedure cX12_procedure 11 (none) N X 354 [] [(0, .ref 0), (4, .int a4), (5, .int a5), (6, .int a6), (7, .int a7), (8, .int a8)] w := by
  unfold fX12_procedure_354 at h
  refine r_aload_n (pc := 354) dX12_procedure_354 rfl 0 rfl ?_
  replace h := bn2_e h; obtain ⟨x1, w2, ew2, h⟩ := h
  refine r_cVi (pc := 355) wyX12_isType oM0 rfl mlRX12_507 iyX12_isType syX12_isType ⟨Nat.succ_le_succ (Nat.le_trans (Nat.le_of_ble_eq_true rfl) hK), (Nat.le_of_ble_eq_true rfl)⟩ rfl rfl (Nat.le_of_ble_eq_true rfl) dX12_procedure_355 (mX12_isType ew2 (pI.mk ?_))
  refine r_z_ne (pc := 358) dX12_procedure_358 rfl (fun hc3 => ?_) (fun hc3 => ?_)
  · replace h := if_t hc3 h
    refine r_aload_n (pc := 401) dX12_procedure_401 rfl 0 rfl ?_
    refine r_iload (pc := 402) dX12_procedure_402 3 rfl ?_
    replace h := be_e h; obtain ⟨o6, w5, ew5, h1, h2⟩ := h
    refine r_cVv (pc := 404) wyX12_spec oM0 rfl mlRX12_547 iyX12_spec syX12_spec ⟨Nat.succ_le_succ (Nat.le_trans (Nat.le_of_ble_eq_true rfl) hK), (Nat.le_of_ble_eq_true rfl)⟩ rfl rfl (Nat.le_of_ble_eq_true rfl) dX12_procedure_404 (mX12_spec ew5 (fun x4 ex4 => pV.mk ?_) (fun ez => be_x h2 ez hX))
    replace h := h1 _ ex4
    refine r_goto (pc := 407) dX12_procedure_407 rfl ?_
    exact hk_354 a4 a5 a6 a7 a8 w5 h
  replace h := if_f hc3 h
  refine r_aload_n (pc := 361) dX12_procedure_361 rfl 0 rfl ?_
  replace h := bn2_e h; obtain ⟨x7, w8, ew8, h⟩ := h
  refine r_cVi (pc := 362) wyX12_kind oM0 rfl mlRX12_452 iyX12_kind syX12_kind ⟨Nat.succ_le_succ (Nat.le_trans (Nat.le_of_ble_eq_true rfl) hK), (Nat.le_of_ble_eq_true rfl)⟩ rfl rfl (Nat.le_of_ble_eq_true rfl) dX12_procedure_362 (mX12_kind ew8 (pI.mk ?_))
  refine r_sipush (pc := 365) dX12_procedure_365 ks_261 ?_
  refine r_icmp_eq (pc := 368) dX12_procedure_368 rfl (fun hc9 => ?_) (fun hc9 => ?_)
  · replace h := if_t hc9 h
    refine r_aload_n (pc := 401) dX12_procedure_401 rfl 0 rfl ?_
    refine r_iload (pc := 402) dX12_procedure_402 3 rfl ?_
    replace h := be_e h; obtain ⟨o12, w11, ew11, h1, h2⟩ := h
    refine r_cVv (pc := 404) wyX12_spec oM0 rfl mlRX12_547 iyX12_spec syX12_spec ⟨Nat.succ_le_succ (Nat.le_trans (Nat.le_of_ble_eq_true rfl) hK), (Nat.le_of_ble_eq_true rfl)⟩ rfl rfl (Nat.le_of_ble_eq_true rfl) dX12_procedure_404 (mX12_spec ew11 (fun x10 ex10 => pV.mk ?_) (fun ez => be_x h2 ez hX))
    replace h := h1 _ ex10
    refine r_goto (pc := 407) dX12_procedure_407 rfl ?_
    exact hk_354 a4 a5 a6 a7 a8 w11 h
  replace h := if_f hc9 h
  refine r_aload_n (pc := 371) dX12_procedure_371 rfl 0 rfl ?_
  replace h := bn2_e h; obtain ⟨x13, w14, ew14, h⟩ := h
  refine r_cVi (pc := 372) wyX12_kind oM0 rfl mlRX12_452 iyX12_kind syX12_kind ⟨Nat.succ_le_succ (Nat.le_trans (Nat.le_of_ble_eq_true rfl) hK), (Nat.le_of_ble_eq_true rfl)⟩ rfl rfl (Nat.le_of_ble_eq_true rfl) dX12_procedure_372 (mX12_kind ew14 (pI.mk ?_))
  refine r_sipush (pc := 375) dX12_procedure_375 ks_262 ?_
  refine r_icmp_eq (pc := 378) dX12_procedure_378 rfl (fun hc15 => ?_) (fun hc15 => ?_)
  · replace h := if_t hc15 h
    refine r_aload_n (pc := 401) dX12_procedure_401 rfl 0 rfl ?_
    refine r_iload (pc := 402) dX12_procedure_402 3 rfl ?_
    replace h := be_e h; obtain ⟨o18, w17, ew17, h1, h2⟩ := h
    refine r_cVv (pc := 404) wyX12_spec oM0 rfl mlRX12_547 iyX12_spec syX12_spec ⟨Nat.succ_le_succ (Nat.le_trans (Nat.le_of_ble_eq_true rfl) hK), (Nat.le_of_ble_eq_true rfl)⟩ rfl rfl (Nat.le_of_ble_eq_true rfl) dX12_procedure_404 (mX12_spec ew17 (fun x16 ex16 => pV.mk ?_) (fun ez => be_x h2 ez hX))
    replace h := h1 _ ex16
    refine r_goto (pc := 407) dX12_procedure_407 rfl ?_
    exact hk_354 a4 a5 a6 a7 a8 w17 h
  replace h := if_f hc15 h
  refine r_aload_n (pc := 381) dX12_procedure_381 rfl 0 rfl ?_
  replace h := bn2_e h; obtain ⟨x19, w20, ew20, h⟩ := h
  refine r_cVi (pc := 382) wyX12_kind oM0 rfl mlRX12_452 iyX12_kind syX12_kind ⟨Nat.succ_le_succ (Nat.le_trans (Nat.le_of_ble_eq_true rfl) hK), (Nat.le_of_ble_eq_true rfl)⟩ rfl rfl (Nat.le_of_ble_eq_true rfl) dX12_procedure_382 (mX12_kind ew20 (pI.mk ?_))
  refine r_sipush (pc := 385) dX12_procedure_385 ks_264 ?_
  refine r_icmp_eq (pc := 388) dX12_procedure_388 rfl (fun hc21 => ?_) (fun hc21 => ?_)
  · replace h := if_t hc21 h
    refine r_aload_n (pc := 401) dX12_procedure_401 rfl 0 rfl ?_
    refine r_iload (pc := 402) dX12_procedure_402 3 rfl ?_
    replace h := be_e h; obtain ⟨o24, w23, ew23, h1, h2⟩ := h
    refine r_cVv (pc := 404) wyX12_spec oM0 rfl mlRX12_547 iyX12_spec syX12_spec ⟨Nat.succ_le_succ (Nat.le_trans (Nat.le_of_ble_eq_true rfl) hK), (Nat.le_of_ble_eq_true rfl)⟩ rfl rfl (Nat.le_of_ble_eq_true rfl) dX12_procedure_404 (mX12_spec ew23 (fun x22 ex22 => pV.mk ?_) (fun ez => be_x h2 ez hX))
    replace h := h1 _ ex22
    refine r_goto (pc := 407) dX12_procedure_407 rfl ?_
    exact hk_354 a4 a5 a6 a7 a8 w23 h
  replace h := if_f hc21 h
  refine r_aload_n (pc := 391) dX12_procedure_391 rfl 0 rfl ?_
  replace h := bn2_e h; obtain ⟨x25, w26, ew26, h⟩ := h
  refine r_cVi (pc := 392) wyX12_kind oM0 rfl mlRX12_452 iyX12_kind syX12_kind ⟨Nat.succ_le_succ (Nat.le_trans (Nat.le_of_ble_eq_true rfl) hK), (Nat.le_of_ble_eq_true rfl)⟩ rfl rfl (Nat.le_of_ble_eq_true rfl) dX12_procedure_392 (mX12_kind ew26 (pI.mk ?_))
  refine r_sipush (pc := 395) dX12_procedure_395 ks_265 ?_
  refine r_icmp_ne (pc := 398) dX12_procedure_398 rfl (fun hc27 => ?_) (fun hc27 => ?_)
  · replace h := if_f hc27 h
    refine r_iload (pc := 410) dX12_procedure_410 4 rfl ?_
    refine r_istore (pc := 412) (loc' := [(9, .int a7), (0, .ref 0), (4, .int a4), (5, .int a5), (6, .int a6), (7, .int a7), (8, .int a8)]) dX12_procedure_412 (Nat.le_of_ble_eq_true rfl) rfl ?_
    refine r_drop (loc' := [(0, .ref 0), (4, .int a4), (5, .int a5), (6, .int a6), (8, .int a8), (9, .int a7)]) [1, 2, 3, 4, 6, 0] rfl ?_
    exact qX12_procedure_414 hS hK hN hX FU a4 a5 a6 a8 a7 w26 h
  replace h := if_t hc27 h
  refine r_aload_n (pc := 401) dX12_procedure_401 rfl 0 rfl ?_
  refine r_iload (pc := 402) dX12_procedure_402 3 rfl ?_
  replace h := be_e h; obtain ⟨o30, w29, ew29, h1, h2⟩ := h
  refine r_cVv (pc := 404) wyX12_spec oM0 rfl mlRX12_547 iyX12_spec syX12_spec ⟨Nat.succ_le_succ (Nat.le_trans (Nat.le_of_ble_eq_true rfl) hK), (Nat.le_of_ble_eq_true rfl)⟩ rfl rfl (Nat.le_of_ble_eq_true rfl) dX12_procedure_404 (mX12_spec ew29 (fun x28 ex28 => pV.mk ?_) (fun ez => be_x h2 ez hX))
  replace h := h1 _ ex28
  refine r_goto (pc := 407) dX12_procedure_407 rfl ?_
  exact hk_354 a4 a5 a6 a7 a8 w29 h
def oX12_procedure_354 (rc : TX12_block) : Nat → Int32 → Int32 → Int32 → Int32 → Int32 → Wd → Option (Option Int32 × Wd)
  | 0 => fun _ _ _ _ _ _ => none
  | n + 1 => fX12_procedure_354 rc (oX12_procedure_354 rc n)
theorem qX12_procedure_354 {q : Gq} {l : Launch} {N : Option Value → Wd → Prop} {X : String → Wd → Prop} {rc : TX12_block} {dd : Nat} (hS : HSX12_block q l rc dd) (hK : 905 ≤ dd) {R : Option Int32 × Wd} (hN : ∀ r : Int32, R.1 = some r → N none R.2) (hX : R.1 = none → X RAE R.2) : ∀ (n : Nat) (a4 : Int32) (a5 : Int32) (a6 : Int32) (a7 : Int32) (a8 : Int32) (w : Wd), oX12_procedure_354 rc n a4 a5 a6 a7 a8 w = some R → RT (GM q) l (dd + 1) yX12_procedure cX12_procedure 11 (none) N X 354 [] [(0, .ref 0), (4, .int a4), (5, .int a5), (6, .int a6), (7, .int a7), (8, .int a8)] w := by
  intro n
  induction n with
  | zero =>
    intro a4 a5 a6 a7 a8 w h
    exact absurd h (fun q => nomatch q)
  | succ n ih =>
    intro a4 a5 a6 a7 a8 w h
    exact pX12_procedure_354 hS hK hN hX ih h
def fX12_procedure_324 (rc : TX12_block) (k_324 : Int32 → Int32 → Int32 → Int32 → Wd → Option (Option Int32 × Wd)) (a4 : Int32) (a5 : Int32) (a6 : Int32) (a7 : Int32) (w : Wd) : Option (Option Int32 × Wd) :=
  be (fX12_expect 285 w) fun x1 w2 => be (fX12_skip 44 w2) fun x4 w5 => if x4 = true then (k_324 a4 a5 a6 a7 w5) else (lt ((gi w5 0 7)) fun x8 => be (fX12_expect 59 w5) fun x9 w10 => oX12_procedure_354 rc FU a4 a5 a6 a7 x8 w10)
theorem pX12_procedure_324 {q : Gq} {l : Launch} {N : Option Value → Wd → Prop} {X : String → Wd → Prop} {rc : TX12_block} {dd : Nat} (hS : HSX12_block q l rc dd) (hK : 905 ≤ dd) {w : Wd} {R : Option Int32 × Wd} (hN : ∀ r : Int32, R.1 = some r → N none R.2) (hX : R.1 = none → X RAE R.2) {k_324 : Int32 → Int32 → Int32 → Int32 → Wd → Option (Option Int32 × Wd)} (hk_324 : ∀ (a4 : Int32) (a5 : Int32) (a6 : Int32) (a7 : Int32) (w : Wd), k_324 a4 a5 a6 a7 w = some R → RT (GM q) l (dd + 1) yX12_procedure cX12_procedure 11 (none) N X 324 [] [(0, .ref 0), (4, .int a4), (5, .int a5), (6, .int a6), (7, .int a7)] w) {a4 : Int32} {a5 : Int32} {a6 : Int32} {a7 : Int32} (h : fX12_procedure_324 rc k_324 a4 a5 a6 a7 w = some R) : RT (GM q) l (dd + 1) yX12_procedure cX12_procedure 11 (none) N X 324 [] [(0, .ref 0), (4, .int a4), (5, .int a5), (6, .int a6), (7, .int a7)] w := by
  unfold fX12_procedure_324 at h
  refine r_aload_n (pc := 324) dX12_procedure_324 rfl 0 rfl ?_
  refine r_sipush (pc := 325) dX12_procedure_325 ks_285 ?_
  replace h := be_e h; obtain ⟨o3, w2, ew2, h1, h2⟩ := h
  refine r_cVi (pc := 328) wyX12_expect oM0 rfl mlRX12_491 iyX12_expect syX12_expect ⟨Nat.succ_le_succ (Nat.le_trans (Nat.le_of_ble_eq_true rfl) hK), (Nat.le_of_ble_eq_true rfl)⟩ rfl rfl (Nat.le_of_ble_eq_true rfl) dX12_procedure_328 (mX12_expect ew2 (fun x1 ex1 => pI.mk ?_) (fun ez => be_x h2 ez hX))
  replace h := h1 _ ex1
  refine r_istore_n (pc := 331) (loc' := [(2, .int x1), (0, .ref 0), (4, .int a4), (5, .int a5), (6, .int a6), (7, .int a7)]) dX12_procedure_331 rfl (Nat.le_of_ble_eq_true rfl) rfl ?_
  refine r_aload_n (pc := 332) dX12_procedure_332 rfl 1 rfl ?_
  refine r_bipush (pc := 333) dX12_procedure_333 kb_44 ?_
  replace h := be_e h; obtain ⟨o6, w5, ew5, h1, h2⟩ := h
  refine r_cVi (pc := 335) wyX12_skip oM0 rfl mlRX12_517 iyX12_skip syX12_skip ⟨Nat.succ_le_succ (Nat.le_trans (Nat.le_of_ble_eq_true rfl) hK), (Nat.le_of_ble_eq_true rfl)⟩ rfl rfl (Nat.le_of_ble_eq_true rfl) dX12_procedure_335 (mX12_skip ew5 (fun x4 ex4 => pI.mk ?_) (fun ez => be_x h2 ez hX))
  replace h := h1 _ ex4
  refine r_z_ne (pc := 338) dX12_procedure_338 rfl (fun hc7 => ?_) (fun hc7 => ?_)
  · replace h := if_t hc7 h
    refine r_drop (loc' := [(0, .ref 0), (4, .int a4), (5, .int a5), (6, .int a6), (7, .int a7)]) [1, 2, 3, 4, 5] rfl ?_
    exact hk_324 a4 a5 a6 a7 w5 h
  replace h := if_f hc7 h
  refine r_aload_n (pc := 341) dX12_procedure_341 rfl 1 rfl ?_
  refine r_get (pc := 342) (j := 7) (v := .int (gi w5 0 7)) oM0 cf12 flRX12_443 rfl dX12_procedure_342 rfl ?_
  replace h := lt_e h; obtain ⟨x8, ex8, h⟩ := h
  refine r_topi ex8 ?_
  refine r_istore (pc := 345) (loc' := [(8, .int x8), (2, .int x1), (0, .ref 0), (4, .int a4), (5, .int a5), (6, .int a6), (7, .int a7)]) dX12_procedure_345 (Nat.le_of_ble_eq_true rfl) rfl ?_
  refine r_aload_n (pc := 347) dX12_procedure_347 rfl 2 rfl ?_
  refine r_bipush (pc := 348) dX12_procedure_348 kb_59 ?_
  replace h := be_e h; obtain ⟨o11, w10, ew10, h1, h2⟩ := h
  refine r_cVi (pc := 350) wyX12_expect oM0 rfl mlRX12_491 iyX12_expect syX12_expect ⟨Nat.succ_le_succ (Nat.le_trans (Nat.le_of_ble_eq_true rfl) hK), (Nat.le_of_ble_eq_true rfl)⟩ rfl rfl (Nat.le_of_ble_eq_true rfl) dX12_procedure_350 (mX12_expect ew10 (fun x9 ex9 => pI.mk ?_) (fun ez => be_x h2 ez hX))
  replace h := h1 _ ex9
  refine r_istore_n (pc := 353) (loc' := [(2, .int x9), (8, .int x8), (0, .ref 0), (4, .int a4), (5, .int a5), (6, .int a6), (7, .int a7)]) dX12_procedure_353 rfl (Nat.le_of_ble_eq_true rfl) rfl ?_
  refine r_drop (loc' := [(0, .ref 0), (4, .int a4), (5, .int a5), (6, .int a6), (7, .int a7), (8, .int x8)]) [2, 3, 4, 5, 6, 1] rfl ?_
  exact qX12_procedure_354 hS hK hN hX FU a4 a5 a6 a7 x8 w10 h
def oX12_procedure_324 (rc : TX12_block) : Nat → Int32 → Int32 → Int32 → Int32 → Wd → Option (Option Int32 × Wd)
  | 0 => fun _ _ _ _ _ => none
  | n + 1 => fX12_procedure_324 rc (oX12_procedure_324 rc n)
theorem qX12_procedure_324 {q : Gq} {l : Launch} {N : Option Value → Wd → Prop} {X : String → Wd → Prop} {rc : TX12_block} {dd : Nat} (hS : HSX12_block q l rc dd) (hK : 905 ≤ dd) {R : Option Int32 × Wd} (hN : ∀ r : Int32, R.1 = some r → N none R.2) (hX : R.1 = none → X RAE R.2) : ∀ (n : Nat) (a4 : Int32) (a5 : Int32) (a6 : Int32) (a7 : Int32) (w : Wd), oX12_procedure_324 rc n a4 a5 a6 a7 w = some R → RT (GM q) l (dd + 1) yX12_procedure cX12_procedure 11 (none) N X 324 [] [(0, .ref 0), (4, .int a4), (5, .int a5), (6, .int a6), (7, .int a7)] w := by
  intro n
  induction n with
  | zero =>
    intro a4 a5 a6 a7 w h
    exact absurd h (fun q => nomatch q)
  | succ n ih =>
    intro a4 a5 a6 a7 w h
    exact pX12_procedure_324 hS hK hN hX ih h
def fX12_procedure_283 (rc : TX12_block) (a4 : Int32) (a5 : Int32) (w : Wd) : Option (Option Int32 × Wd) :=
  lt ((gi w 0 42)) fun x1 => be (fX12_expect 59 w) fun x2 w3 => lt ((gi w3 0 7)) fun x5 => lt ((gi w3 0 7)) fun x6 => be (fX12_skip 263 w3) fun x7 w8 => if x7 = true then (lt ((gi w8 0 7)) fun x11 => oX12_procedure_324 rc FU a4 a5 x1 x11 w8) else (oX12_procedure_354 rc FU a4 a5 x1 x5 x6 w8)
theorem pX12_procedure_283 {q : Gq} {l : Launch} {N : Option Value → Wd → Prop} {X : String → Wd → Prop} {rc : TX12_block} {dd : Nat} (hS : HSX12_block q l rc dd) (hK : 905 ≤ dd) {w : Wd} {R : Option Int32 × Wd} (hN : ∀ r : Int32, R.1 = some r → N none R.2) (hX : R.1 = none → X RAE R.2) {a4 : Int32} {a5 : Int32} (h : fX12_procedure_283 rc a4 a5 w = some R) : RT (GM q) l (dd + 1) yX12_procedure cX12_procedure 11 (none) N X 283 [] [(0, .ref 0), (4, .int a4), (5, .int a5)] w := by
  unfold fX12_procedure_283 at h
  refine r_aload_n (pc := 283) dX12_procedure_283 rfl 0 rfl ?_
  refine r_get (pc := 284) (j := 42) (v := .int (gi w 0 42)) oM0 cf12 flRX12_488 rfl dX12_procedure_284 rfl ?_
  replace h := lt_e h; obtain ⟨x1, ex1, h⟩ := h
  refine r_topi ex1 ?_
  refine r_istore (pc := 287) (loc' := [(6, .int x1), (0, .ref 0), (4, .int a4), (5, .int a5)]) dX12_procedure_287 (Nat.le_of_ble_eq_true rfl) rfl ?_
  refine r_aload_n (pc := 289) dX12_procedure_289 rfl 1 rfl ?_
  refine r_bipush (pc := 290) dX12_procedure_290 kb_59 ?_
  replace h := be_e h; obtain ⟨o4, w3, ew3, h1, h2⟩ := h
  refine r_cVi (pc := 292) wyX12_expect oM0 rfl mlRX12_491 iyX12_expect syX12_expect ⟨Nat.succ_le_succ (Nat.le_trans (Nat.le_of_ble_eq_true rfl) hK), (Nat.le_of_ble_eq_true rfl)⟩ rfl rfl (Nat.le_of_ble_eq_true rfl) dX12_procedure_292 (mX12_expect ew3 (fun x2 ex2 => pI.mk ?_) (fun ez => be_x h2 ez hX))
  replace h := h1 _ ex2
  refine r_istore_n (pc := 295) (loc' := [(2, .int x2), (6, .int x1), (0, .ref 0), (4, .int a4), (5, .int a5)]) dX12_procedure_295 rfl (Nat.le_of_ble_eq_true rfl) rfl ?_
  refine r_aload_n (pc := 296) dX12_procedure_296 rfl 2 rfl ?_
  refine r_get (pc := 297) (j := 7) (v := .int (gi w3 0 7)) oM0 cf12 flRX12_443 rfl dX12_procedure_297 rfl ?_
  replace h := lt_e h; obtain ⟨x5, ex5, h⟩ := h
  refine r_topi ex5 ?_
  refine r_istore (pc := 300) (loc' := [(7, .int x5), (2, .int x2), (6, .int x1), (0, .ref 0), (4, .int a4), (5, .int a5)]) dX12_procedure_300 (Nat.le_of_ble_eq_true rfl) rfl ?_
  refine r_aload_n (pc := 302) dX12_procedure_302 rfl 3 rfl ?_
  refine r_get (pc := 303) (j := 7) (v := .int (gi w3 0 7)) oM0 cf12 flRX12_443 rfl dX12_procedure_303 rfl ?_
  replace h := lt_e h; obtain ⟨x6, ex6, h⟩ := h
  refine r_topi ex6 ?_
  refine r_istore (pc := 306) (loc' := [(8, .int x6), (7, .int x5), (2, .int x2), (6, .int x1), (0, .ref 0), (4, .int a4), (5, .int a5)]) dX12_procedure_306 (Nat.le_of_ble_eq_true rfl) rfl ?_
  refine r_aload_n (pc := 308) dX12_procedure_308 rfl 4 rfl ?_
  refine r_sipush (pc := 309) dX12_procedure_309 ks_263 ?_
  replace h := be_e h; obtain ⟨o9, w8, ew8, h1, h2⟩ := h
  refine r_cVi (pc := 312) wyX12_skip oM0 rfl mlRX12_517 iyX12_skip syX12_skip ⟨Nat.succ_le_succ (Nat.le_trans (Nat.le_of_ble_eq_true rfl) hK), (Nat.le_of_ble_eq_true rfl)⟩ rfl rfl (Nat.le_of_ble_eq_true rfl) dX12_procedure_312 (mX12_skip ew8 (fun x7 ex7 => pI.mk ?_) (fun ez => be_x h2 ez hX))
  replace h := h1 _ ex7
  refine r_z_eq (pc := 315) dX12_procedure_315 rfl (fun hc10 => ?_) (fun hc10 => ?_)
  · replace h := if_f hc10 h
    refine r_drop (loc' := [(0, .ref 0), (4, .int a4), (5, .int a5), (6, .int x1), (7, .int x5), (8, .int x6)]) [4, 5, 6, 3, 1, 0] rfl ?_
    exact qX12_procedure_354 hS hK hN hX FU a4 a5 x1 x5 x6 w8 h
  replace h := if_t hc10 h
  refine r_aload_n (pc := 318) dX12_procedure_318 rfl 4 rfl ?_
  refine r_get (pc := 319) (j := 7) (v := .int (gi w8 0 7)) oM0 cf12 flRX12_443 rfl dX12_procedure_319 rfl ?_
  replace h := lt_e h; obtain ⟨x11, ex11, h⟩ := h
  refine r_topi ex11 ?_
  refine r_istore (pc := 322) (loc' := [(7, .int x11), (8, .int x6), (2, .int x2), (6, .int x1), (0, .ref 0), (4, .int a4), (5, .int a5)]) dX12_procedure_322 (Nat.le_of_ble_eq_true rfl) rfl ?_
  refine r_drop (loc' := [(0, .ref 0), (4, .int a4), (5, .int a5), (6, .int x1), (7, .int x11)]) [4, 5, 6, 3, 0] rfl ?_
  exact qX12_procedure_324 hS hK hN hX FU a4 a5 x1 x11 w8 h
def fX12_procedure_257 (rc : TX12_block) (k_187 : Int32 → Int32 → Wd → Option (Option Int32 × Wd)) (a4 : Int32) (a5 : Int32) (w : Wd) : Option (Option Int32 × Wd) :=
  be (fX12_skip 44 w) fun x1 w2 => if x1 = true then (k_187 a4 a5 w2) else (lt (si w2 0 8 ((gi w2 0 8) - 1)) fun w5 => be (fX12_expect 41 w5) fun x6 w7 => fX12_procedure_283 rc a4 a5 w7)
theorem pX12_procedure_257 {q : Gq} {l : Launch} {N : Option Value → Wd → Prop} {X : String → Wd → Prop} {rc : TX12_block} {dd : Nat} (hS : HSX12_block q l rc dd) (hK : 905 ≤ dd) {w : Wd} {R : Option Int32 × Wd} (hN : ∀ r : Int32, R.1 = some r → N none R.2) (hX : R.1 = none → X RAE R.2) {k_187 : Int32 → Int32 → Wd → Option (Option Int32 × Wd)} (hk_187 : ∀ (a4 : Int32) (a5 : Int32) (w : Wd), k_187 a4 a5 w = some R → RT (GM q) l (dd + 1) yX12_procedure cX12_procedure 11 (none) N X 187 [] [(0, .ref 0), (4, .int a4), (5, .int a5)] w) {a4 : Int32} {a5 : Int32} (h : fX12_procedure_257 rc k_187 a4 a5 w = some R) : RT (GM q) l (dd + 1) yX12_procedure cX12_procedure 11 (none) N X 257 [] [(0, .ref 0), (4, .int a4), (5, .int a5)] w := by
  unfold fX12_procedure_257 at h
  refine r_aload_n (pc := 257) dX12_procedure_257 rfl 0 rfl ?_
  refine r_bipush (pc := 258) dX12_procedure_258 kb_44 ?_
  replace h := be_e h; obtain ⟨o3, w2, ew2, h1, h2⟩ := h
  refine r_cVi (pc := 260) wyX12_skip oM0 rfl mlRX12_517 iyX12_skip syX12_skip ⟨Nat.succ_le_succ (Nat.le_trans (Nat.le_of_ble_eq_true rfl) hK), (Nat.le_of_ble_eq_true rfl)⟩ rfl rfl (Nat.le_of_ble_eq_true rfl) dX12_procedure_260 (mX12_skip ew2 (fun x1 ex1 => pI.mk ?_) (fun ez => be_x h2 ez hX))
  replace h := h1 _ ex1
  refine r_z_ne (pc := 263) dX12_procedure_263 rfl (fun hc4 => ?_) (fun hc4 => ?_)
  · replace h := if_t hc4 h
    exact hk_187 a4 a5 w2 h
  replace h := if_f hc4 h
  refine r_aload_n (pc := 266) dX12_procedure_266 rfl 0 rfl ?_
  refine r_dup (pc := 267) dX12_procedure_267 rfl ?_
  refine r_get (pc := 268) (j := 8) (v := .int (gi w2 0 8)) oM0 cf12 flRX12_449 rfl dX12_procedure_268 rfl ?_
  refine r_iconst (pc := 271) dX12_procedure_271 ki_1 ?_
  refine r_isub (pc := 272) dX12_procedure_272 ?_
  replace h := lt_e h; obtain ⟨w5, ew5, h⟩ := h
  refine r_putI (pc := 273) (j := 8) oM0 cf12 flRX12_449 rfl rfl rfl rfl dX12_procedure_273 ?_
  refine r_w ew5 ?_
  refine r_aload_n (pc := 276) dX12_procedure_276 rfl 0 rfl ?_
  refine r_bipush (pc := 277) dX12_procedure_277 kb_41 ?_
  replace h := be_e h; obtain ⟨o8, w7, ew7, h1, h2⟩ := h
  refine r_cVi (pc := 279) wyX12_expect oM0 rfl mlRX12_491 iyX12_expect syX12_expect ⟨Nat.succ_le_succ (Nat.le_trans (Nat.le_of_ble_eq_true rfl) hK), (Nat.le_of_ble_eq_true rfl)⟩ rfl rfl (Nat.le_of_ble_eq_true rfl) dX12_procedure_279 (mX12_expect ew7 (fun x6 ex6 => pI.mk ?_) (fun ez => be_x h2 ez hX))
  replace h := h1 _ ex6
  refine r_istore_n (pc := 282) (loc' := [(2, .int x6), (0, .ref 0), (4, .int a4), (5, .int a5)]) dX12_procedure_282 rfl (Nat.le_of_ble_eq_true rfl) rfl ?_
  refine r_drop (loc' := [(0, .ref 0), (4, .int a4), (5, .int a5)]) [1, 2, 3] rfl ?_
  exact pX12_procedure_283 hS hK hN hX h
def fX12_procedure_187 (rc : TX12_block) (k_187 : Int32 → Int32 → Wd → Option (Option Int32 × Wd)) (a4 : Int32) (a5 : Int32) (w : Wd) : Option (Option Int32 × Wd) :=
  be (fX12_expect 285 w) fun x1 w2 => bn2 (fX12_declare (gi w2 0 29) x1 6 0 w2) fun x4 w5 => bn2 (fX12_slots 2 w5) fun x6 w7 => if inb x4 5000 = true then lt (si w7 26 (Int32.toNatClampNeg x4) x6) fun w9 => if inb (gi w9 0 30) 1200 = true then if inb (gi w9 0 30) 1200 = true then lt (si w9 31 (Int32.toNatClampNeg (gi w9 0 30)) ((gi w9 31 (Int32.toNatClampNeg (gi w9 0 30))) + 1)) fun w12 => if inb (gi w12 0 30) 1200 = true then if (gi w12 31 (Int32.toNatClampNeg (gi w12 0 30))) = 9 then (bn (fX12_found 5 x1 w12) fun w15 => fX12_procedure_257 rc k_187 a4 a5 w15) else (fX12_procedure_257 rc k_187 a4 a5 w12) else none else none else none else none
theorem pX12_procedure_187 {q : Gq} {l : Launch} {N : Option Value → Wd → Prop} {X : String → Wd → Prop} {rc : TX12_block} {dd : Nat} (hS : HSX12_block q l rc dd) (hK : 905 ≤ dd) {w : Wd} {R : Option Int32 × Wd} (hN : ∀ r : Int32, R.1 = some r → N none R.2) (hX : R.1 = none → X RAE R.2) {k_187 : Int32 → Int32 → Wd → Option (Option Int32 × Wd)} (hk_187 : ∀ (a4 : Int32) (a5 : Int32) (w : Wd), k_187 a4 a5 w = some R → RT (GM q) l (dd + 1) yX12_procedure cX12_procedure 11 (none) N X 187 [] [(0, .ref 0), (4, .int a4), (5, .int a5)] w) {a4 : Int32} {a5 : Int32} (h : fX12_procedure_187 rc k_187 a4 a5 w = some R) : RT (GM q) l (dd + 1) yX12_procedure cX12_procedure 11 (none) N X 187 [] [(0, .ref 0), (4, .int a4), (5, .int a5)] w := by
  unfold fX12_procedure_187 at h
  refine r_aload_n (pc := 187) dX12_procedure_187 rfl 0 rfl ?_
  refine r_sipush (pc := 188) dX12_procedure_188 ks_285 ?_
  replace h := be_e h; obtain ⟨o3, w2, ew2, h1, h2⟩ := h
  refine r_cVi (pc := 191) wyX12_expect oM0 rfl mlRX12_491 iyX12_expect syX12_expect ⟨Nat.succ_le_succ (Nat.le_trans (Nat.le_of_ble_eq_true rfl) hK), (Nat.le_of_ble_eq_true rfl)⟩ rfl rfl (Nat.le_of_ble_eq_true rfl) dX12_procedure_191 (mX12_expect ew2 (fun x1 ex1 => pI.mk ?_) (fun ez => be_x h2 ez hX))
  replace h := h1 _ ex1
  refine r_istore (pc := 194) (loc' := [(6, .int x1), (0, .ref 0), (4, .int a4), (5, .int a5)]) dX12_procedure_194 (Nat.le_of_ble_eq_true rfl) rfl ?_
  refine r_aload_n (pc := 196) dX12_procedure_196 rfl 1 rfl ?_
  refine r_aload_n (pc := 197) dX12_procedure_197 rfl 1 rfl ?_
  refine r_get (pc := 198) (j := 29) (v := .int (gi w2 0 29)) oM0 cf12 flRX12_471 rfl dX12_procedure_198 rfl ?_
  refine r_iload (pc := 201) dX12_procedure_201 0 rfl ?_
  refine r_bipush (pc := 203) dX12_procedure_203 kb_6 ?_
  refine r_iconst (pc := 205) dX12_procedure_205 ki_0 ?_
  replace h := bn2_e h; obtain ⟨x4, w5, ew5, h⟩ := h
  refine r_cVi (pc := 206) wyX12_declare oM0 rfl mlRX12_531 iyX12_declare syX12_declare ⟨Nat.succ_le_succ (Nat.le_trans (Nat.le_of_ble_eq_true rfl) hK), (Nat.le_of_ble_eq_true rfl)⟩ rfl rfl (Nat.le_of_ble_eq_true rfl) dX12_procedure_206 (mX12_declare ew5 (pI.mk ?_))
  refine r_istore (pc := 209) (loc' := [(7, .int x4), (6, .int x1), (0, .ref 0), (4, .int a4), (5, .int a5)]) dX12_procedure_209 (Nat.le_of_ble_eq_true rfl) rfl ?_
  refine r_aload_n (pc := 211) dX12_procedure_211 rfl 2 rfl ?_
  refine r_get (pc := 212) (j := 39) (v := .ref 26) oM0 cf12 flRX12_156 rfl dX12_procedure_212 rfl ?_
  refine r_iload (pc := 215) dX12_procedure_215 0 rfl ?_
  refine r_aload_n (pc := 217) dX12_procedure_217 rfl 2 rfl ?_
  refine r_iconst (pc := 218) dX12_procedure_218 ki_2 ?_
  replace h := bn2_e h; obtain ⟨x6, w7, ew7, h⟩ := h
  refine r_cVi (pc := 219) wyX12_slots oM0 rfl mlRX12_504 iyX12_slots syX12_slots ⟨Nat.succ_le_succ (Nat.le_trans (Nat.le_of_ble_eq_true rfl) hK), (Nat.le_of_ble_eq_true rfl)⟩ rfl rfl (Nat.le_of_ble_eq_true rfl) dX12_procedure_219 (mX12_slots ew7 (pI.mk ?_))
  replace h := if_n h; obtain ⟨hb8, h⟩ := h
  replace h := lt_e h; obtain ⟨w9, ew9, h⟩ := h
  refine r_iast (pc := 222) aM26 (inb_in hb8) dX12_procedure_222 ?_
  refine r_w ew9 ?_
  refine r_aload_n (pc := 223) dX12_procedure_223 rfl 2 rfl ?_
  refine r_get (pc := 224) (j := 45) (v := .ref 31) oM0 cf12 flRX12_172 rfl dX12_procedure_224 rfl ?_
  refine r_aload_n (pc := 227) dX12_procedure_227 rfl 2 rfl ?_
  refine r_get (pc := 228) (j := 30) (v := .int (gi w9 0 30)) oM0 cf12 flRX12_477 rfl dX12_procedure_228 rfl ?_
  refine r_dup2 (pc := 231) dX12_procedure_231 rfl rfl ?_
  replace h := if_n h; obtain ⟨hb10, h⟩ := h
  refine r_iald (pc := 232) aM31 (inb_in hb10) dX12_procedure_232 ?_
  refine r_iconst (pc := 233) dX12_procedure_233 ki_1 ?_
  refine r_iadd (pc := 234) dX12_procedure_234 ?_
  replace h := if_n h; obtain ⟨hb11, h⟩ := h
  replace h := lt_e h; obtain ⟨w12, ew12, h⟩ := h
  refine r_iast (pc := 235) aM31 (inb_in hb11) dX12_procedure_235 ?_
  refine r_w ew12 ?_
  refine r_aload_n (pc := 236) dX12_procedure_236 rfl 2 rfl ?_
  refine r_get (pc := 237) (j := 45) (v := .ref 31) oM0 cf12 flRX12_172 rfl dX12_procedure_237 rfl ?_
  refine r_aload_n (pc := 240) dX12_procedure_240 rfl 2 rfl ?_
  refine r_get (pc := 241) (j := 30) (v := .int (gi w12 0 30)) oM0 cf12 flRX12_477 rfl dX12_procedure_241 rfl ?_
  replace h := if_n h; obtain ⟨hb13, h⟩ := h
  refine r_iald (pc := 244) aM31 (inb_in hb13) dX12_procedure_244 ?_
  refine r_bipush (pc := 245) dX12_procedure_245 kb_9 ?_
  refine r_icmp_ne (pc := 247) dX12_procedure_247 rfl (fun hc14 => ?_) (fun hc14 => ?_)
  · replace h := if_f hc14 h
    refine r_drop (loc' := [(0, .ref 0), (4, .int a4), (5, .int a5)]) [2, 3, 4] rfl ?_
    exact pX12_procedure_257 hS hK hN hX hk_187 h
  replace h := if_t hc14 h
  refine r_aload_n (pc := 250) dX12_procedure_250 rfl 2 rfl ?_
  refine r_iconst (pc := 251) dX12_procedure_251 ki_5 ?_
  refine r_iload (pc := 252) dX12_procedure_252 1 rfl ?_
  replace h := bn_e h; obtain ⟨w15, ew15, h⟩ := h
  refine r_cVv (pc := 254) wyX12_found oM0 rfl mlRX12_484 iyX12_found syX12_found ⟨Nat.succ_le_succ (Nat.le_trans (Nat.le_of_ble_eq_true rfl) hK), (Nat.le_of_ble_eq_true rfl)⟩ rfl rfl (Nat.le_of_ble_eq_true rfl) dX12_procedure_254 (mX12_found ew15 (pV.mk ?_))
  refine r_drop (loc' := [(0, .ref 0), (4, .int a4), (5, .int a5)]) [2, 3, 4] rfl ?_
  exact pX12_procedure_257 hS hK hN hX hk_187 h
def oX12_procedure_187 (rc : TX12_block) : Nat → Int32 → Int32 → Wd → Option (Option Int32 × Wd)
  | 0 => fun _ _ _ => none
  | n + 1 => fX12_procedure_187 rc (oX12_procedure_187 rc n)
theorem qX12_procedure_187 {q : Gq} {l : Launch} {N : Option Value → Wd → Prop} {X : String → Wd → Prop} {rc : TX12_block} {dd : Nat} (hS : HSX12_block q l rc dd) (hK : 905 ≤ dd) {R : Option Int32 × Wd} (hN : ∀ r : Int32, R.1 = some r → N none R.2) (hX : R.1 = none → X RAE R.2) : ∀ (n : Nat) (a4 : Int32) (a5 : Int32) (w : Wd), oX12_procedure_187 rc n a4 a5 w = some R → RT (GM q) l (dd + 1) yX12_procedure cX12_procedure 11 (none) N X 187 [] [(0, .ref 0), (4, .int a4), (5, .int a5)] w := by
  intro n
  induction n with
  | zero =>
    intro a4 a5 w h
    exact absurd h (fun q => nomatch q)
  | succ n ih =>
    intro a4 a5 w h
    exact pX12_procedure_187 hS hK hN hX ih h
def fX12_procedure (rc : TX12_block) (a1 : Int32) (w : Wd) : Option (Option Int32 × Wd) :=
  be (fX12_taken w) fun x1 w2 => lt (si w2 0 8 ((gi w2 0 8) + 1)) fun w4 => be (fX12_expect 285 w4) fun x5 w6 => bn2 (fX12_declare (gi w4 0 29) x5 3 a1 w6) fun x8 w9 => lt ((gi w9 0 30)) fun x10 => lt ((gi w9 0 29)) fun x11 => lt (si w9 0 30 (gi w9 0 53)) fun w12 => lt (si w12 0 53 ((gi w12 0 53) + 1)) fun w13 => if inb x8 5000 = true then lt (si w13 24 (Int32.toNatClampNeg x8) (gi w13 0 30)) fun w15 => if inb (gi w15 0 30) 1200 = true then lt (si w15 29 (Int32.toNatClampNeg (gi w15 0 30)) x8) fun w17 => if inb (gi w17 0 30) 1200 = true then lt (si w17 37 (Int32.toNatClampNeg (gi w17 0 30)) x10) fun w19 => if inb x10 1200 = true then if inb (gi w19 0 30) 1200 = true then lt (si w19 30 (Int32.toNatClampNeg (gi w19 0 30)) ((gi w19 30 (Int32.toNatClampNeg x10)) + 1)) fun w22 => if inb (gi w22 0 30) 1200 = true then lt (si w22 34 (Int32.toNatClampNeg (gi w22 0 30)) 0) fun w24 => if inb (gi w24 0 30) 1200 = true then lt (si w24 35 (Int32.toNatClampNeg (gi w24 0 30)) 1) fun w26 => if inb (gi w26 0 30) 1200 = true then lt (si w26 31 (Int32.toNatClampNeg (gi w26 0 30)) 0) fun w28 => if inb (gi w28 0 30) 1200 = true then lt (si w28 32 (Int32.toNatClampNeg (gi w28 0 30)) (gi w28 0 42)) fun w30 => bn2 (fX12_newScope (gi w30 0 29) (-1) w30) fun x31 w32 => lt (si w32 0 29 x31) fun w33 => be (fX12_skip 40 w33) fun x34 w35 => if x34 = true then (lt (si w35 0 8 ((gi w35 0 8) + 1)) fun w38 => oX12_procedure_187 rc FU x10 x11 w38) else (fX12_procedure_283 rc x10 x11 w35) else none else none else none else none else none else none else none else none else none
set_option maxHeartbeats 16000000 in
theorem pX12_procedure {q : Gq} {l : Launch} {N : Option Value → Wd → Prop} {X : String → Wd → Prop} {rc : TX12_block} {dd : Nat} (hS : HSX12_block q l rc dd) (hK : 905 ≤ dd) {w : Wd} {R : Option Int32 × Wd} (hN : ∀ r : Int32, R.1 = some r → N none R.2) (hX : R.1 = none → X RAE R.2) {a1 : Int32} (h : fX12_procedure rc a1 w = some R) : RT (GM q) l (dd + 1) yX12_procedure cX12_procedure 11 (none) N X 0 [] [(0, .ref 0), (1, .int a1)] w := by
  unfold fX12_procedure at h
  refine r_aload_n (pc := 0) dX12_procedure_0 rfl 0 rfl ?_
  replace h := be_e h; obtain ⟨o3, w2, ew2, h1, h2⟩ := h
  refine r_cVi (pc := 1) wyX12_taken oM0 rfl mlRX12_459 iyX12_taken syX12_taken ⟨Nat.succ_le_succ (Nat.le_trans (Nat.le_of_ble_eq_true rfl) hK), (Nat.le_of_ble_eq_true rfl)⟩ rfl rfl (Nat.le_of_ble_eq_true rfl) dX12_procedure_1 (mX12_taken ew2 (fun x1 ex1 => pI.mk ?_) (fun ez => be_x h2 ez hX))
  replace h := h1 _ ex1
  refine r_istore_n (pc := 4) (loc' := [(2, .int x1), (0, .ref 0), (1, .int a1)]) dX12_procedure_4 rfl (Nat.le_of_ble_eq_true rfl) rfl ?_
  refine r_aload_n (pc := 5) dX12_procedure_5 rfl 1 rfl ?_
  refine r_dup (pc := 6) dX12_procedure_6 rfl ?_
  refine r_get (pc := 7) (j := 8) (v := .int (gi w2 0 8)) oM0 cf12 flRX12_449 rfl dX12_procedure_7 rfl ?_
  refine r_iconst (pc := 10) dX12_procedure_10 ki_1 ?_
  refine r_iadd (pc := 11) dX12_procedure_11 ?_
  replace h := lt_e h; obtain ⟨w4, ew4, h⟩ := h
  refine r_putI (pc := 12) (j := 8) oM0 cf12 flRX12_449 rfl rfl rfl rfl dX12_procedure_12 ?_
  refine r_w ew4 ?_
  refine r_aload_n (pc := 15) dX12_procedure_15 rfl 1 rfl ?_
  refine r_aload_n (pc := 16) dX12_procedure_16 rfl 1 rfl ?_
  refine r_get (pc := 17) (j := 29) (v := .int (gi w4 0 29)) oM0 cf12 flRX12_471 rfl dX12_procedure_17 rfl ?_
  refine r_aload_n (pc := 20) dX12_procedure_20 rfl 1 rfl ?_
  refine r_sipush (pc := 21) dX12_procedure_21 ks_285 ?_
  replace h := be_e h; obtain ⟨o7, w6, ew6, h1, h2⟩ := h
  refine r_cVi (pc := 24) wyX12_expect oM0 rfl mlRX12_491 iyX12_expect syX12_expect ⟨Nat.succ_le_succ (Nat.le_trans (Nat.le_of_ble_eq_true rfl) hK), (Nat.le_of_ble_eq_true rfl)⟩ rfl rfl (Nat.le_of_ble_eq_true rfl) dX12_procedure_24 (mX12_expect ew6 (fun x5 ex5 => pI.mk ?_) (fun ez => be_x h2 ez hX))
  replace h := h1 _ ex5
  refine r_iconst (pc := 27) dX12_procedure_27 ki_3 ?_
  refine r_iload_n (pc := 28) dX12_procedure_28 rfl 2 rfl ?_
  replace h := bn2_e h; obtain ⟨x8, w9, ew9, h⟩ := h
  refine r_cVi (pc := 29) wyX12_declare oM0 rfl mlRX12_531 iyX12_declare syX12_declare ⟨Nat.succ_le_succ (Nat.le_trans (Nat.le_of_ble_eq_true rfl) hK), (Nat.le_of_ble_eq_true rfl)⟩ rfl rfl (Nat.le_of_ble_eq_true rfl) dX12_procedure_29 (mX12_declare ew9 (pI.mk ?_))
  refine r_istore_n (pc := 32) (loc' := [(3, .int x8), (2, .int x1), (0, .ref 0), (1, .int a1)]) dX12_procedure_32 rfl (Nat.le_of_ble_eq_true rfl) rfl ?_
  refine r_aload_n (pc := 33) dX12_procedure_33 rfl 2 rfl ?_
  refine r_get (pc := 34) (j := 30) (v := .int (gi w9 0 30)) oM0 cf12 flRX12_477 rfl dX12_procedure_34 rfl ?_
  replace h := lt_e h; obtain ⟨x10, ex10, h⟩ := h
  refine r_topi ex10 ?_
  refine r_istore (pc := 37) (loc' := [(4, .int x10), (3, .int x8), (2, .int x1), (0, .ref 0), (1, .int a1)]) dX12_procedure_37 (Nat.le_of_ble_eq_true rfl) rfl ?_
  refine r_aload_n (pc := 39) dX12_procedure_39 rfl 3 rfl ?_
  refine r_get (pc := 40) (j := 29) (v := .int (gi w9 0 29)) oM0 cf12 flRX12_471 rfl dX12_procedure_40 rfl ?_
  replace h := lt_e h; obtain ⟨x11, ex11, h⟩ := h
  refine r_topi ex11 ?_
  refine r_istore (pc := 43) (loc' := [(5, .int x11), (4, .int x10), (3, .int x8), (2, .int x1), (0, .ref 0), (1, .int a1)]) dX12_procedure_43 (Nat.le_of_ble_eq_true rfl) rfl ?_
  refine r_aload_n (pc := 45) dX12_procedure_45 rfl 4 rfl ?_
  refine r_aload_n (pc := 46) dX12_procedure_46 rfl 4 rfl ?_
  refine r_get (pc := 47) (j := 53) (v := .int (gi w9 0 53)) oM0 cf12 flRX12_544 rfl dX12_procedure_47 rfl ?_
  replace h := lt_e h; obtain ⟨w12, ew12, h⟩ := h
  refine r_putI (pc := 50) (j := 30) oM0 cf12 flRX12_477 rfl rfl rfl rfl dX12_procedure_50 ?_
  refine r_w ew12 ?_
  refine r_aload_n (pc := 53) dX12_procedure_53 rfl 4 rfl ?_
  refine r_dup (pc := 54) dX12_procedure_54 rfl ?_
  refine r_get (pc := 55) (j := 53) (v := .int (gi w12 0 53)) oM0 cf12 flRX12_544 rfl dX12_procedure_55 rfl ?_
  refine r_iconst (pc := 58) dX12_procedure_58 ki_1 ?_
  refine r_iadd (pc := 59) dX12_procedure_59 ?_
  replace h := lt_e h; obtain ⟨w13, ew13, h⟩ := h
  refine r_putI (pc := 60) (j := 53) oM0 cf12 flRX12_544 rfl rfl rfl rfl dX12_procedure_60 ?_
  refine r_w ew13 ?_
  refine r_aload_n (pc := 63) dX12_procedure_63 rfl 4 rfl ?_
  refine r_get (pc := 64) (j := 37) (v := .ref 24) oM0 cf12 flRX12_150 rfl dX12_procedure_64 rfl ?_
  refine r_iload_n (pc := 67) dX12_procedure_67 rfl 2 rfl ?_
  refine r_aload_n (pc := 68) dX12_procedure_68 rfl 4 rfl ?_
  refine r_get (pc := 69) (j := 30) (v := .int (gi w13 0 30)) oM0 cf12 flRX12_477 rfl dX12_procedure_69 rfl ?_
  replace h := if_n h; obtain ⟨hb14, h⟩ := h
  replace h := lt_e h; obtain ⟨w15, ew15, h⟩ := h
  refine r_iast (pc := 72) aM24 (inb_in hb14) dX12_procedure_72 ?_
  refine r_w ew15 ?_
  refine r_aload_n (pc := 73) dX12_procedure_73 rfl 4 rfl ?_
  refine r_get (pc := 74) (j := 43) (v := .ref 29) oM0 cf12 flRX12_166 rfl dX12_procedure_74 rfl ?_
  refine r_aload_n (pc := 77) dX12_procedure_77 rfl 4 rfl ?_
  refine r_get (pc := 78) (j := 30) (v := .int (gi w15 0 30)) oM0 cf12 flRX12_477 rfl dX12_procedure_78 rfl ?_
  refine r_iload_n (pc := 81) dX12_procedure_81 rfl 2 rfl ?_
  replace h := if_n h; obtain ⟨hb16, h⟩ := h
  replace h := lt_e h; obtain ⟨w17, ew17, h⟩ := h
  refine r_iast (pc := 82) aM29 (inb_in hb16) dX12_procedure_82 ?_
  refine r_w ew17 ?_
  refine r_aload_n (pc := 83) dX12_procedure_83 rfl 4 rfl ?_
  refine r_get (pc := 84) (j := 51) (v := .ref 37) oM0 cf12 flRX12_190 rfl dX12_procedure_84 rfl ?_
  refine r_aload_n (pc := 87) dX12_procedure_87 rfl 4 rfl ?_
  refine r_get (pc := 88) (j := 30) (v := .int (gi w17 0 30)) oM0 cf12 flRX12_477 rfl dX12_procedure_88 rfl ?_
  refine r_iload (pc := 91) dX12_procedure_91 1 rfl ?_
  replace h := if_n h; obtain ⟨hb18, h⟩ := h
  replace h := lt_e h; obtain ⟨w19, ew19, h⟩ := h
  refine r_iast (pc := 93) aM37 (inb_in hb18) dX12_procedure_93 ?_
  refine r_w ew19 ?_
  refine r_aload_n (pc := 94) dX12_procedure_94 rfl 4 rfl ?_
  refine r_get (pc := 95) (j := 44) (v := .ref 30) oM0 cf12 flRX12_169 rfl dX12_procedure_95 rfl ?_
  refine r_aload_n (pc := 98) dX12_procedure_98 rfl 4 rfl ?_
  refine r_get (pc := 99) (j := 30) (v := .int (gi w19 0 30)) oM0 cf12 flRX12_477 rfl dX12_procedure_99 rfl ?_
  refine r_aload_n (pc := 102) dX12_procedure_102 rfl 4 rfl ?_
  refine r_get (pc := 103) (j := 44) (v := .ref 30) oM0 cf12 flRX12_169 rfl dX12_procedure_103 rfl ?_
  refine r_iload (pc := 106) dX12_procedure_106 1 rfl ?_
  replace h := if_n h; obtain ⟨hb20, h⟩ := h
  refine r_iald (pc := 108) aM30 (inb_in hb20) dX12_procedure_108 ?_
  refine r_iconst (pc := 109) dX12_procedure_109 ki_1 ?_
  refine r_iadd (pc := 110) dX12_procedure_110 ?_
  replace h := if_n h; obtain ⟨hb21, h⟩ := h
  replace h := lt_e h; obtain ⟨w22, ew22, h⟩ := h
  refine r_iast (pc := 111) aM30 (inb_in hb21) dX12_procedure_111 ?_
  refine r_w ew22 ?_
  refine r_aload_n (pc := 112) dX12_procedure_112 rfl 4 rfl ?_
  refine r_get (pc := 113) (j := 48) (v := .ref 34) oM0 cf12 flRX12_181 rfl dX12_procedure_113 rfl ?_
  refine r_aload_n (pc := 116) dX12_procedure_116 rfl 4 rfl ?_
  refine r_get (pc := 117) (j := 30) (v := .int (gi w22 0 30)) oM0 cf12 flRX12_477 rfl dX12_procedure_117 rfl ?_
  refine r_iconst (pc := 120) dX12_procedure_120 ki_0 ?_
  replace h := if_n h; obtain ⟨hb23, h⟩ := h
  replace h := lt_e h; obtain ⟨w24, ew24, h⟩ := h
  refine r_iast (pc := 121) aM34 (inb_in hb23) dX12_procedure_121 ?_
  refine r_w ew24 ?_
  refine r_aload_n (pc := 122) dX12_procedure_122 rfl 4 rfl ?_
  refine r_get (pc := 123) (j := 49) (v := .ref 35) oM0 cf12 flRX12_184 rfl dX12_procedure_123 rfl ?_
  refine r_aload_n (pc := 126) dX12_procedure_126 rfl 4 rfl ?_
  refine r_get (pc := 127) (j := 30) (v := .int (gi w24 0 30)) oM0 cf12 flRX12_477 rfl dX12_procedure_127 rfl ?_
  refine r_iconst (pc := 130) dX12_procedure_130 ki_1 ?_
  replace h := if_n h; obtain ⟨hb25, h⟩ := h
  replace h := lt_e h; obtain ⟨w26, ew26, h⟩ := h
  refine r_iast (pc := 131) aM35 (inb_in hb25) dX12_procedure_131 ?_
  refine r_w ew26 ?_
  refine r_aload_n (pc := 132) dX12_procedure_132 rfl 4 rfl ?_
  refine r_get (pc := 133) (j := 45) (v := .ref 31) oM0 cf12 flRX12_172 rfl dX12_procedure_133 rfl ?_
  refine r_aload_n (pc := 136) dX12_procedure_136 rfl 4 rfl ?_
  refine r_get (pc := 137) (j := 30) (v := .int (gi w26 0 30)) oM0 cf12 flRX12_477 rfl dX12_procedure_137 rfl ?_
  refine r_iconst (pc := 140) dX12_procedure_140 ki_0 ?_
  replace h := if_n h; obtain ⟨hb27, h⟩ := h
  replace h := lt_e h; obtain ⟨w28, ew28, h⟩ := h
  refine r_iast (pc := 141) aM31 (inb_in hb27) dX12_procedure_141 ?_
  refine r_w ew28 ?_
  refine r_aload_n (pc := 142) dX12_procedure_142 rfl 4 rfl ?_
  refine r_get (pc := 143) (j := 46) (v := .ref 32) oM0 cf12 flRX12_175 rfl dX12_procedure_143 rfl ?_
  refine r_aload_n (pc := 146) dX12_procedure_146 rfl 4 rfl ?_
  refine r_get (pc := 147) (j := 30) (v := .int (gi w28 0 30)) oM0 cf12 flRX12_477 rfl dX12_procedure_147 rfl ?_
  refine r_aload_n (pc := 150) dX12_procedure_150 rfl 4 rfl ?_
  refine r_get (pc := 151) (j := 42) (v := .int (gi w28 0 42)) oM0 cf12 flRX12_488 rfl dX12_procedure_151 rfl ?_
  replace h := if_n h; obtain ⟨hb29, h⟩ := h
  replace h := lt_e h; obtain ⟨w30, ew30, h⟩ := h
  refine r_iast (pc := 154) aM32 (inb_in hb29) dX12_procedure_154 ?_
  refine r_w ew30 ?_
  refine r_aload_n (pc := 155) dX12_procedure_155 rfl 4 rfl ?_
  refine r_aload_n (pc := 156) dX12_procedure_156 rfl 4 rfl ?_
  refine r_aload_n (pc := 157) dX12_procedure_157 rfl 4 rfl ?_
  refine r_get (pc := 158) (j := 29) (v := .int (gi w30 0 29)) oM0 cf12 flRX12_471 rfl dX12_procedure_158 rfl ?_
  refine r_iconst (pc := 161) dX12_procedure_161 ki_m1 ?_
  replace h := bn2_e h; obtain ⟨x31, w32, ew32, h⟩ := h
  refine r_cVi (pc := 162) wyX12_newScope oM0 rfl mlRX12_497 iyX12_newScope syX12_newScope ⟨Nat.succ_le_succ (Nat.le_trans (Nat.le_of_ble_eq_true rfl) hK), (Nat.le_of_ble_eq_true rfl)⟩ rfl rfl (Nat.le_of_ble_eq_true rfl) dX12_procedure_162 (mX12_newScope ew32 (pI.mk ?_))
  replace h := lt_e h; obtain ⟨w33, ew33, h⟩ := h
  refine r_putI (pc := 165) (j := 29) oM0 cf12 flRX12_471 rfl rfl rfl rfl dX12_procedure_165 ?_
  refine r_w ew33 ?_
  refine r_aload_n (pc := 168) dX12_procedure_168 rfl 4 rfl ?_
  refine r_bipush (pc := 169) dX12_procedure_169 kb_40 ?_
  replace h := be_e h; obtain ⟨o36, w35, ew35, h1, h2⟩ := h
  refine r_cVi (pc := 171) wyX12_skip oM0 rfl mlRX12_517 iyX12_skip syX12_skip ⟨Nat.succ_le_succ (Nat.le_trans (Nat.le_of_ble_eq_true rfl) hK), (Nat.le_of_ble_eq_true rfl)⟩ rfl rfl (Nat.le_of_ble_eq_true rfl) dX12_procedure_171 (mX12_skip ew35 (fun x34 ex34 => pI.mk ?_) (fun ez => be_x h2 ez hX))
  replace h := h1 _ ex34
  refine r_z_eq (pc := 174) dX12_procedure_174 rfl (fun hc37 => ?_) (fun hc37 => ?_)
  · replace h := if_f hc37 h
    refine r_drop (loc' := [(0, .ref 0), (4, .int x10), (5, .int x11)]) [4, 1, 0] rfl ?_
    exact pX12_procedure_283 hS hK hN hX h
  replace h := if_t hc37 h
  refine r_aload_n (pc := 177) dX12_procedure_177 rfl 4 rfl ?_
  refine r_dup (pc := 178) dX12_procedure_178 rfl ?_
  refine r_get (pc := 179) (j := 8) (v := .int (gi w35 0 8)) oM0 cf12 flRX12_449 rfl dX12_procedure_179 rfl ?_
  refine r_iconst (pc := 182) dX12_procedure_182 ki_1 ?_
  refine r_iadd (pc := 183) dX12_procedure_183 ?_
  replace h := lt_e h; obtain ⟨w38, ew38, h⟩ := h
  refine r_putI (pc := 184) (j := 8) oM0 cf12 flRX12_449 rfl rfl rfl rfl dX12_procedure_184 ?_
  refine r_w ew38 ?_
  refine r_drop (loc' := [(0, .ref 0), (4, .int x10), (5, .int x11)]) [4, 1, 0] rfl ?_
  exact qX12_procedure_187 hS hK hN hX FU x10 x11 w38 h
/-! AlgolMillModel.declaration (I)I: E, 1805 -/
theorem dX12_declaration_0 : decode cX12_declaration 0 = .ok (.aload_n 0, 1) := by decide +kernel
theorem dX12_declaration_1 : decode cX12_declaration 1 = .ok (.invokevirtual 452, 3) := by decide +kernel
theorem dX12_declaration_4 : decode cX12_declaration 4 = .ok (.sipush 265, 3) := by decide +kernel
theorem dX12_declaration_7 : decode cX12_declaration 7 = .ok (.if_icmp .ne 9, 3) := by decide +kernel
theorem dX12_declaration_10 : decode cX12_declaration 10 = .ok (.aload_n 0, 1) := by decide +kernel
theorem dX12_declaration_11 : decode cX12_declaration 11 = .ok (.invokevirtual 520, 3) := by decide +kernel
theorem dX12_declaration_14 : decode cX12_declaration 14 = .ok (.iconst (-1), 1) := by decide +kernel
theorem dX12_declaration_15 : decode cX12_declaration 15 = .ok (.ireturn, 1) := by decide +kernel
theorem dX12_declaration_16 : decode cX12_declaration 16 = .ok (.aload_n 0, 1) := by decide +kernel
theorem dX12_declaration_17 : decode cX12_declaration 17 = .ok (.sipush 258, 3) := by decide +kernel
theorem dX12_declaration_20 : decode cX12_declaration 20 = .ok (.invokevirtual 517, 3) := by decide +kernel
theorem dX12_declaration_23 : decode cX12_declaration 23 = .ok (.istore_n 2, 1) := by decide +kernel
theorem dX12_declaration_24 : decode cX12_declaration 24 = .ok (.iconst 0, 1) := by decide +kernel
theorem dX12_declaration_25 : decode cX12_declaration 25 = .ok (.istore_n 3, 1) := by decide +kernel
theorem dX12_declaration_26 : decode cX12_declaration 26 = .ok (.aload_n 0, 1) := by decide +kernel
theorem dX12_declaration_27 : decode cX12_declaration 27 = .ok (.invokevirtual 507, 3) := by decide +kernel
theorem dX12_declaration_30 : decode cX12_declaration 30 = .ok (.ifCond .eq 19, 3) := by decide +kernel
theorem dX12_declaration_33 : decode cX12_declaration 33 = .ok (.aload_n 0, 1) := by decide +kernel
theorem dX12_declaration_34 : decode cX12_declaration 34 = .ok (.getfield 13, 3) := by decide +kernel
theorem dX12_declaration_37 : decode cX12_declaration 37 = .ok (.aload_n 0, 1) := by decide +kernel
theorem dX12_declaration_38 : decode cX12_declaration 38 = .ok (.invokevirtual 459, 3) := by decide +kernel
theorem dX12_declaration_41 : decode cX12_declaration 41 = .ok (.iaload, 1) := by decide +kernel
theorem dX12_declaration_42 : decode cX12_declaration 42 = .ok (.invokestatic 523, 3) := by decide +kernel
theorem dX12_declaration_45 : decode cX12_declaration 45 = .ok (.istore_n 3, 1) := by decide +kernel
theorem dX12_declaration_46 : decode cX12_declaration 46 = .ok (.goto 12, 3) := by decide +kernel
theorem dX12_declaration_49 : decode cX12_declaration 49 = .ok (.iload_n 2, 1) := by decide +kernel
theorem dX12_declaration_50 : decode cX12_declaration 50 = .ok (.ifCond .eq 8, 3) := by decide +kernel
theorem dX12_declaration_53 : decode cX12_declaration 53 = .ok (.aload_n 0, 1) := by decide +kernel
theorem dX12_declaration_54 : decode cX12_declaration 54 = .ok (.invokevirtual 455, 3) := by decide +kernel
theorem dX12_declaration_57 : decode cX12_declaration 57 = .ok (.athrow, 1) := by decide +kernel
theorem dX12_declaration_58 : decode cX12_declaration 58 = .ok (.iload_n 2, 1) := by decide +kernel
theorem dX12_declaration_59 : decode cX12_declaration 59 = .ok (.ifCond .ne 28, 3) := by decide +kernel
theorem dX12_declaration_62 : decode cX12_declaration 62 = .ok (.aload_n 0, 1) := by decide +kernel
theorem dX12_declaration_63 : decode cX12_declaration 63 = .ok (.invokevirtual 452, 3) := by decide +kernel
theorem dX12_declaration_66 : decode cX12_declaration 66 = .ok (.sipush 261, 3) := by decide +kernel
theorem dX12_declaration_69 : decode cX12_declaration 69 = .ok (.if_icmp .ne 18, 3) := by decide +kernel
theorem dX12_declaration_72 : decode cX12_declaration 72 = .ok (.aload_n 0, 1) := by decide +kernel
theorem dX12_declaration_73 : decode cX12_declaration 73 = .ok (.iload_n 3, 1) := by decide +kernel
theorem dX12_declaration_74 : decode cX12_declaration 74 = .ok (.ifCond .ne 7, 3) := by decide +kernel
theorem dX12_declaration_77 : decode cX12_declaration 77 = .ok (.iconst 1, 1) := by decide +kernel
theorem dX12_declaration_78 : decode cX12_declaration 78 = .ok (.goto 4, 3) := by decide +kernel
theorem dX12_declaration_81 : decode cX12_declaration 81 = .ok (.iload_n 3, 1) := by decide +kernel
theorem dX12_declaration_82 : decode cX12_declaration 82 = .ok (.iload_n 1, 1) := by decide +kernel
theorem dX12_declaration_83 : decode cX12_declaration 83 = .ok (.invokevirtual 526, 3) := by decide +kernel
theorem dX12_declaration_86 : decode cX12_declaration 86 = .ok (.ireturn, 1) := by decide +kernel
theorem dX12_declaration_87 : decode cX12_declaration 87 = .ok (.iload_n 2, 1) := by decide +kernel
theorem dX12_declaration_88 : decode cX12_declaration 88 = .ok (.ifCond .ne 20, 3) := by decide +kernel
theorem dX12_declaration_91 : decode cX12_declaration 91 = .ok (.aload_n 0, 1) := by decide +kernel
theorem dX12_declaration_92 : decode cX12_declaration 92 = .ok (.invokevirtual 452, 3) := by decide +kernel
theorem dX12_declaration_95 : decode cX12_declaration 95 = .ok (.sipush 262, 3) := by decide +kernel
theorem dX12_declaration_98 : decode cX12_declaration 98 = .ok (.if_icmp .ne 10, 3) := by decide +kernel
theorem dX12_declaration_101 : decode cX12_declaration 101 = .ok (.aload_n 0, 1) := by decide +kernel
theorem dX12_declaration_102 : decode cX12_declaration 102 = .ok (.iload_n 3, 1) := by decide +kernel
theorem dX12_declaration_103 : decode cX12_declaration 103 = .ok (.invokevirtual 529, 3) := by decide +kernel
theorem dX12_declaration_106 : decode cX12_declaration 106 = .ok (.iconst (-1), 1) := by decide +kernel
theorem dX12_declaration_107 : decode cX12_declaration 107 = .ok (.ireturn, 1) := by decide +kernel
theorem dX12_declaration_108 : decode cX12_declaration 108 = .ok (.aload_n 0, 1) := by decide +kernel
theorem dX12_declaration_109 : decode cX12_declaration 109 = .ok (.aload_n 0, 1) := by decide +kernel
theorem dX12_declaration_110 : decode cX12_declaration 110 = .ok (.getfield 471, 3) := by decide +kernel
theorem dX12_declaration_113 : decode cX12_declaration 113 = .ok (.aload_n 0, 1) := by decide +kernel
theorem dX12_declaration_114 : decode cX12_declaration 114 = .ok (.sipush 285, 3) := by decide +kernel
theorem dX12_declaration_117 : decode cX12_declaration 117 = .ok (.invokevirtual 491, 3) := by decide +kernel
theorem dX12_declaration_120 : decode cX12_declaration 120 = .ok (.iconst 1, 1) := by decide +kernel
theorem dX12_declaration_121 : decode cX12_declaration 121 = .ok (.iload_n 3, 1) := by decide +kernel
theorem dX12_declaration_122 : decode cX12_declaration 122 = .ok (.invokevirtual 531, 3) := by decide +kernel
theorem dX12_declaration_125 : decode cX12_declaration 125 = .ok (.istore 4, 2) := by decide +kernel
theorem dX12_declaration_127 : decode cX12_declaration 127 = .ok (.aload_n 0, 1) := by decide +kernel
theorem dX12_declaration_128 : decode cX12_declaration 128 = .ok (.getfield 159, 3) := by decide +kernel
theorem dX12_declaration_131 : decode cX12_declaration 131 = .ok (.iload 4, 2) := by decide +kernel
theorem dX12_declaration_133 : decode cX12_declaration 133 = .ok (.iload_n 2, 1) := by decide +kernel
theorem dX12_declaration_134 : decode cX12_declaration 134 = .ok (.bastore, 1) := by decide +kernel
theorem dX12_declaration_135 : decode cX12_declaration 135 = .ok (.aload_n 0, 1) := by decide +kernel
theorem dX12_declaration_136 : decode cX12_declaration 136 = .ok (.getfield 156, 3) := by decide +kernel
theorem dX12_declaration_139 : decode cX12_declaration 139 = .ok (.iload 4, 2) := by decide +kernel
theorem dX12_declaration_141 : decode cX12_declaration 141 = .ok (.iload_n 2, 1) := by decide +kernel
theorem dX12_declaration_142 : decode cX12_declaration 142 = .ok (.ifCond .eq 10, 3) := by decide +kernel
theorem dX12_declaration_145 : decode cX12_declaration 145 = .ok (.aload_n 0, 1) := by decide +kernel
theorem dX12_declaration_146 : decode cX12_declaration 146 = .ok (.getfield 535, 3) := by decide +kernel
theorem dX12_declaration_149 : decode cX12_declaration 149 = .ok (.goto 8, 3) := by decide +kernel
theorem dX12_declaration_152 : decode cX12_declaration 152 = .ok (.aload_n 0, 1) := by decide +kernel
theorem dX12_declaration_153 : decode cX12_declaration 153 = .ok (.iconst 1, 1) := by decide +kernel
theorem dX12_declaration_154 : decode cX12_declaration 154 = .ok (.invokevirtual 504, 3) := by decide +kernel
theorem dX12_declaration_157 : decode cX12_declaration 157 = .ok (.iastore, 1) := by decide +kernel
theorem dX12_declaration_158 : decode cX12_declaration 158 = .ok (.iload_n 2, 1) := by decide +kernel
theorem dX12_declaration_159 : decode cX12_declaration 159 = .ok (.ifCond .eq 13, 3) := by decide +kernel
theorem dX12_declaration_162 : decode cX12_declaration 162 = .ok (.aload_n 0, 1) := by decide +kernel
theorem dX12_declaration_163 : decode cX12_declaration 163 = .ok (.dup, 1) := by decide +kernel
theorem dX12_declaration_164 : decode cX12_declaration 164 = .ok (.getfield 535, 3) := by decide +kernel
theorem dX12_declaration_167 : decode cX12_declaration 167 = .ok (.iconst 1, 1) := by decide +kernel
theorem dX12_declaration_168 : decode cX12_declaration 168 = .ok (.iadd, 1) := by decide +kernel
theorem dX12_declaration_169 : decode cX12_declaration 169 = .ok (.putfield 535, 3) := by decide +kernel
theorem dX12_declaration_172 : decode cX12_declaration 172 = .ok (.aload_n 0, 1) := by decide +kernel
theorem dX12_declaration_173 : decode cX12_declaration 173 = .ok (.bipush 44, 2) := by decide +kernel
theorem dX12_declaration_175 : decode cX12_declaration 175 = .ok (.invokevirtual 517, 3) := by decide +kernel
theorem dX12_declaration_178 : decode cX12_declaration 178 = .ok (.ifCond .ne (-70), 3) := by decide +kernel
theorem dX12_declaration_181 : decode cX12_declaration 181 = .ok (.iconst (-1), 1) := by decide +kernel
theorem dX12_declaration_182 : decode cX12_declaration 182 = .ok (.ireturn, 1) := by decide +kernel
def fX12_declaration_157 (rc : TX12_block) (k_108 : Bool → Int32 → Wd → Option (Option Int32 × Wd)) (s1 : Int32) (s2 : Int32) (a2 : Bool) (a3 : Int32) (w : Wd) : Option (Option Int32 × Wd) :=
  if inb s1 5000 = true then lt (si w 26 (Int32.toNatClampNeg s1) s2) fun w2 => if a2 = true then (lt (si w2 0 54 ((gi w2 0 54) + 1)) fun w4 => be (fX12_skip 44 w4) fun x5 w6 => if x5 = true then (k_108 a2 a3 w6) else (some (some (-1), w6))) else (be (fX12_skip 44 w2) fun x9 w10 => if x9 = true then (k_108 a2 a3 w10) else (some (some (-1), w10))) else none
theorem pX12_declaration_157 {q : Gq} {l : Launch} {N : Option Value → Wd → Prop} {X : String → Wd → Prop} {rc : TX12_block} {dd : Nat} (hS : HSX12_block q l rc dd) (hK : 905 ≤ dd) {w : Wd} {R : Option Int32 × Wd} (hN : ∀ r : Int32, R.1 = some r → N (some (.int r)) R.2) (hX : R.1 = none → X RAE R.2) {k_108 : Bool → Int32 → Wd → Option (Option Int32 × Wd)} (hk_108 : ∀ (a2 : Bool) (a3 : Int32) (w : Wd), k_108 a2 a3 w = some R → RT (GM q) l (dd + 1) yX12_declaration cX12_declaration 5 ((some .int)) N X 108 [] [(0, .ref 0), (2, .int (b2i a2)), (3, .int a3)] w) {s1 : Int32} {s2 : Int32} {a2 : Bool} {a3 : Int32} (h : fX12_declaration_157 rc k_108 s1 s2 a2 a3 w = some R) : RT (GM q) l (dd + 1) yX12_declaration cX12_declaration 5 ((some .int)) N X 157 [.int s2, .int s1, .ref 26] [(0, .ref 0), (2, .int (b2i a2)), (3, .int a3)] w := by
  unfold fX12_declaration_157 at h
  replace h := if_n h; obtain ⟨hb1, h⟩ := h
  replace h := lt_e h; obtain ⟨w2, ew2, h⟩ := h
  refine r_iast (pc := 157) aM26 (inb_in hb1) dX12_declaration_157 ?_
  refine r_w ew2 ?_
  refine r_iload_n (pc := 158) dX12_declaration_158 rfl 1 rfl ?_
  refine r_z_eq (pc := 159) dX12_declaration_159 rfl (fun hc3 => ?_) (fun hc3 => ?_)
  · replace h := if_f hc3 h
    refine r_aload_n (pc := 172) dX12_declaration_172 rfl 0 rfl ?_
    refine r_bipush (pc := 173) dX12_declaration_173 kb_44 ?_
    replace h := be_e h; obtain ⟨o11, w10, ew10, h1, h2⟩ := h
    refine r_cVi (pc := 175) wyX12_skip oM0 rfl mlRX12_517 iyX12_skip syX12_skip ⟨Nat.succ_le_succ (Nat.le_trans (Nat.le_of_ble_eq_true rfl) hK), (Nat.le_of_ble_eq_true rfl)⟩ rfl rfl (Nat.le_of_ble_eq_true rfl) dX12_declaration_175 (mX12_skip ew10 (fun x9 ex9 => pI.mk ?_) (fun ez => be_x h2 ez hX))
    replace h := h1 _ ex9
    refine r_z_ne (pc := 178) dX12_declaration_178 rfl (fun hc12 => ?_) (fun hc12 => ?_)
    · replace h := if_t hc12 h
      exact hk_108 a2 a3 w10 h
    replace h := if_f hc12 h
    refine r_iconst (pc := 181) dX12_declaration_181 ki_m1 ?_
    exact rE_i (pc := 182) rfl dX12_declaration_182 h hN
  replace h := if_t hc3 h
  refine r_aload_n (pc := 162) dX12_declaration_162 rfl 0 rfl ?_
  refine r_dup (pc := 163) dX12_declaration_163 rfl ?_
  refine r_get (pc := 164) (j := 54) (v := .int (gi w2 0 54)) oM0 cf12 flRX12_535 rfl dX12_declaration_164 rfl ?_
  refine r_iconst (pc := 167) dX12_declaration_167 ki_1 ?_
  refine r_iadd (pc := 168) dX12_declaration_168 ?_
  replace h := lt_e h; obtain ⟨w4, ew4, h⟩ := h
  refine r_putI (pc := 169) (j := 54) oM0 cf12 flRX12_535 rfl rfl rfl rfl dX12_declaration_169 ?_
  refine r_w ew4 ?_
  refine r_aload_n (pc := 172) dX12_declaration_172 rfl 0 rfl ?_
  refine r_bipush (pc := 173) dX12_declaration_173 kb_44 ?_
  replace h := be_e h; obtain ⟨o7, w6, ew6, h1, h2⟩ := h
  refine r_cVi (pc := 175) wyX12_skip oM0 rfl mlRX12_517 iyX12_skip syX12_skip ⟨Nat.succ_le_succ (Nat.le_trans (Nat.le_of_ble_eq_true rfl) hK), (Nat.le_of_ble_eq_true rfl)⟩ rfl rfl (Nat.le_of_ble_eq_true rfl) dX12_declaration_175 (mX12_skip ew6 (fun x5 ex5 => pI.mk ?_) (fun ez => be_x h2 ez hX))
  replace h := h1 _ ex5
  refine r_z_ne (pc := 178) dX12_declaration_178 rfl (fun hc8 => ?_) (fun hc8 => ?_)
  · replace h := if_t hc8 h
    exact hk_108 a2 a3 w6 h
  replace h := if_f hc8 h
  refine r_iconst (pc := 181) dX12_declaration_181 ki_m1 ?_
  exact rE_i (pc := 182) rfl dX12_declaration_182 h hN
def fX12_declaration_108 (rc : TX12_block) (k_108 : Bool → Int32 → Wd → Option (Option Int32 × Wd)) (a2 : Bool) (a3 : Int32) (w : Wd) : Option (Option Int32 × Wd) :=
  be (fX12_expect 285 w) fun x1 w2 => bn2 (fX12_declare (gi w 0 29) x1 1 a3 w2) fun x4 w5 => if inb x4 5000 = true then lt (si w5 27 (Int32.toNatClampNeg x4) (vp_nar .boolean (b2i a2))) fun w7 => if a2 = true then (fX12_declaration_157 rc k_108 x4 (gi w7 0 54) a2 a3 w7) else (bn2 (fX12_slots 1 w7) fun x9 w10 => fX12_declaration_157 rc k_108 x4 x9 a2 a3 w10) else none
theorem pX12_declaration_108 {q : Gq} {l : Launch} {N : Option Value → Wd → Prop} {X : String → Wd → Prop} {rc : TX12_block} {dd : Nat} (hS : HSX12_block q l rc dd) (hK : 905 ≤ dd) {w : Wd} {R : Option Int32 × Wd} (hN : ∀ r : Int32, R.1 = some r → N (some (.int r)) R.2) (hX : R.1 = none → X RAE R.2) {k_108 : Bool → Int32 → Wd → Option (Option Int32 × Wd)} (hk_108 : ∀ (a2 : Bool) (a3 : Int32) (w : Wd), k_108 a2 a3 w = some R → RT (GM q) l (dd + 1) yX12_declaration cX12_declaration 5 ((some .int)) N X 108 [] [(0, .ref 0), (2, .int (b2i a2)), (3, .int a3)] w) {a2 : Bool} {a3 : Int32} (h : fX12_declaration_108 rc k_108 a2 a3 w = some R) : RT (GM q) l (dd + 1) yX12_declaration cX12_declaration 5 ((some .int)) N X 108 [] [(0, .ref 0), (2, .int (b2i a2)), (3, .int a3)] w := by
  unfold fX12_declaration_108 at h
  refine r_aload_n (pc := 108) dX12_declaration_108 rfl 0 rfl ?_
  refine r_aload_n (pc := 109) dX12_declaration_109 rfl 0 rfl ?_
  refine r_get (pc := 110) (j := 29) (v := .int (gi w 0 29)) oM0 cf12 flRX12_471 rfl dX12_declaration_110 rfl ?_
  refine r_aload_n (pc := 113) dX12_declaration_113 rfl 0 rfl ?_
  refine r_sipush (pc := 114) dX12_declaration_114 ks_285 ?_
  replace h := be_e h; obtain ⟨o3, w2, ew2, h1, h2⟩ := h
  refine r_cVi (pc := 117) wyX12_expect oM0 rfl mlRX12_491 iyX12_expect syX12_expect ⟨Nat.succ_le_succ (Nat.le_trans (Nat.le_of_ble_eq_true rfl) hK), (Nat.le_of_ble_eq_true rfl)⟩ rfl rfl (Nat.le_of_ble_eq_true rfl) dX12_declaration_117 (mX12_expect ew2 (fun x1 ex1 => pI.mk ?_) (fun ez => be_x h2 ez hX))
  replace h := h1 _ ex1
  refine r_iconst (pc := 120) dX12_declaration_120 ki_1 ?_
  refine r_iload_n (pc := 121) dX12_declaration_121 rfl 2 rfl ?_
  replace h := bn2_e h; obtain ⟨x4, w5, ew5, h⟩ := h
  refine r_cVi (pc := 122) wyX12_declare oM0 rfl mlRX12_531 iyX12_declare syX12_declare ⟨Nat.succ_le_succ (Nat.le_trans (Nat.le_of_ble_eq_true rfl) hK), (Nat.le_of_ble_eq_true rfl)⟩ rfl rfl (Nat.le_of_ble_eq_true rfl) dX12_declaration_122 (mX12_declare ew5 (pI.mk ?_))
  refine r_istore (pc := 125) (loc' := [(4, .int x4), (0, .ref 0), (2, .int (b2i a2)), (3, .int a3)]) dX12_declaration_125 (Nat.le_of_ble_eq_true rfl) rfl ?_
  refine r_aload_n (pc := 127) dX12_declaration_127 rfl 1 rfl ?_
  refine r_get (pc := 128) (j := 40) (v := .ref 27) oM0 cf12 flRX12_159 rfl dX12_declaration_128 rfl ?_
  refine r_iload (pc := 131) dX12_declaration_131 0 rfl ?_
  refine r_iload_n (pc := 133) dX12_declaration_133 rfl 2 rfl ?_
  replace h := if_n h; obtain ⟨hb6, h⟩ := h
  replace h := lt_e h; obtain ⟨w7, ew7, h⟩ := h
  refine r_zast (pc := 134) aM27 (inb_in hb6) dX12_declaration_134 ?_
  refine r_w ew7 ?_
  refine r_aload_n (pc := 135) dX12_declaration_135 rfl 1 rfl ?_
  refine r_get (pc := 136) (j := 39) (v := .ref 26) oM0 cf12 flRX12_156 rfl dX12_declaration_136 rfl ?_
  refine r_iload (pc := 139) dX12_declaration_139 0 rfl ?_
  refine r_iload_n (pc := 141) dX12_declaration_141 rfl 2 rfl ?_
  refine r_z_eq (pc := 142) dX12_declaration_142 rfl (fun hc8 => ?_) (fun hc8 => ?_)
  · replace h := if_f hc8 h
    refine r_aload_n (pc := 152) dX12_declaration_152 rfl 1 rfl ?_
    refine r_iconst (pc := 153) dX12_declaration_153 ki_1 ?_
    replace h := bn2_e h; obtain ⟨x9, w10, ew10, h⟩ := h
    refine r_cVi (pc := 154) wyX12_slots oM0 rfl mlRX12_504 iyX12_slots syX12_slots ⟨Nat.succ_le_succ (Nat.le_trans (Nat.le_of_ble_eq_true rfl) hK), (Nat.le_of_ble_eq_true rfl)⟩ rfl rfl (Nat.le_of_ble_eq_true rfl) dX12_declaration_154 (mX12_slots ew10 (pI.mk ?_))
    refine r_drop (loc' := [(0, .ref 0), (2, .int (b2i a2)), (3, .int a3)]) [1, 2, 3] rfl ?_
    exact pX12_declaration_157 hS hK hN hX hk_108 h
  replace h := if_t hc8 h
  refine r_aload_n (pc := 145) dX12_declaration_145 rfl 1 rfl ?_
  refine r_get (pc := 146) (j := 54) (v := .int (gi w7 0 54)) oM0 cf12 flRX12_535 rfl dX12_declaration_146 rfl ?_
  refine r_goto (pc := 149) dX12_declaration_149 rfl ?_
  refine r_drop (loc' := [(0, .ref 0), (2, .int (b2i a2)), (3, .int a3)]) [1, 2, 3] rfl ?_
  exact pX12_declaration_157 hS hK hN hX hk_108 h
def oX12_declaration_108 (rc : TX12_block) : Nat → Bool → Int32 → Wd → Option (Option Int32 × Wd)
  | 0 => fun _ _ _ => none
  | n + 1 => fX12_declaration_108 rc (oX12_declaration_108 rc n)
theorem qX12_declaration_108 {q : Gq} {l : Launch} {N : Option Value → Wd → Prop} {X : String → Wd → Prop} {rc : TX12_block} {dd : Nat} (hS : HSX12_block q l rc dd) (hK : 905 ≤ dd) {R : Option Int32 × Wd} (hN : ∀ r : Int32, R.1 = some r → N (some (.int r)) R.2) (hX : R.1 = none → X RAE R.2) : ∀ (n : Nat) (a2 : Bool) (a3 : Int32) (w : Wd), oX12_declaration_108 rc n a2 a3 w = some R → RT (GM q) l (dd + 1) yX12_declaration cX12_declaration 5 ((some .int)) N X 108 [] [(0, .ref 0), (2, .int (b2i a2)), (3, .int a3)] w := by
  intro n
  induction n with
  | zero =>
    intro a2 a3 w h
    exact absurd h (fun q => nomatch q)
  | succ n ih =>
    intro a2 a3 w h
    exact pX12_declaration_108 hS hK hN hX ih h
def fX12_declaration_87 (rc : TX12_block) (a2 : Bool) (a3 : Int32) (w : Wd) : Option (Option Int32 × Wd) :=
  if a2 = true then (oX12_declaration_108 rc FU a2 a3 w) else (bn2 (fX12_kind w) fun x2 w3 => if x2 = 262 then (be (rc 2 a3 0 0 w3) fun _ w6 => some (some (-1), w6)) else (oX12_declaration_108 rc FU a2 a3 w3))
theorem pX12_declaration_87 {q : Gq} {l : Launch} {N : Option Value → Wd → Prop} {X : String → Wd → Prop} {rc : TX12_block} {dd : Nat} (hS : HSX12_block q l rc dd) (hK : 905 ≤ dd) {w : Wd} {R : Option Int32 × Wd} (hN : ∀ r : Int32, R.1 = some r → N (some (.int r)) R.2) (hX : R.1 = none → X RAE R.2) {a2 : Bool} {a3 : Int32} (h : fX12_declaration_87 rc a2 a3 w = some R) : RT (GM q) l (dd + 1) yX12_declaration cX12_declaration 5 ((some .int)) N X 87 [] [(0, .ref 0), (2, .int (b2i a2)), (3, .int a3)] w := by
  unfold fX12_declaration_87 at h
  refine r_iload_n (pc := 87) dX12_declaration_87 rfl 1 rfl ?_
  refine r_z_ne (pc := 88) dX12_declaration_88 rfl (fun hc1 => ?_) (fun hc1 => ?_)
  · replace h := if_t hc1 h
    exact qX12_declaration_108 hS hK hN hX FU a2 a3 w h
  replace h := if_f hc1 h
  refine r_aload_n (pc := 91) dX12_declaration_91 rfl 0 rfl ?_
  replace h := bn2_e h; obtain ⟨x2, w3, ew3, h⟩ := h
  refine r_cVi (pc := 92) wyX12_kind oM0 rfl mlRX12_452 iyX12_kind syX12_kind ⟨Nat.succ_le_succ (Nat.le_trans (Nat.le_of_ble_eq_true rfl) hK), (Nat.le_of_ble_eq_true rfl)⟩ rfl rfl (Nat.le_of_ble_eq_true rfl) dX12_declaration_92 (mX12_kind ew3 (pI.mk ?_))
  refine r_sipush (pc := 95) dX12_declaration_95 ks_262 ?_
  refine r_icmp_ne (pc := 98) dX12_declaration_98 rfl (fun hc4 => ?_) (fun hc4 => ?_)
  · replace h := if_f hc4 h
    exact qX12_declaration_108 hS hK hN hX FU a2 a3 w3 h
  replace h := if_t hc4 h
  refine r_aload_n (pc := 101) dX12_declaration_101 rfl 0 rfl ?_
  refine r_iload_n (pc := 102) dX12_declaration_102 rfl 2 rfl ?_
  replace h := be_e h; obtain ⟨o7, w6, ew6, h1, h2⟩ := h
  refine r_cVv (pc := 103) wyX12_procedure oM0 rfl mlRX12_529 iyX12_procedure syX12_procedure ⟨Nat.le_refl _, (Nat.le_of_ble_eq_true rfl)⟩ rfl rfl (Nat.le_of_ble_eq_true rfl) dX12_declaration_103 ((hS.2.2.1 _ _ _ _ _ _) ew6 (fun x5 ex5 => pV.mk ?_) (fun ez => be_x h2 ez hX))
  replace h := h1 _ ex5
  refine r_iconst (pc := 106) dX12_declaration_106 ki_m1 ?_
  exact rE_i (pc := 107) rfl dX12_declaration_107 h hN
def fX12_declaration_58 (rc : TX12_block) (a1 : Int32) (a2 : Bool) (a3 : Int32) (w : Wd) : Option (Option Int32 × Wd) :=
  if a2 = true then (fX12_declaration_87 rc a2 a3 w) else (bn2 (fX12_kind w) fun x2 w3 => if x2 = 261 then (if a3 = 0 then (be (fX12_arrays 1 a1 w3) fun x6 w7 => some (some x6, w7)) else (be (fX12_arrays a3 a1 w3) fun x9 w10 => some (some x9, w10))) else (fX12_declaration_87 rc a2 a3 w3))
theorem pX12_declaration_58 {q : Gq} {l : Launch} {N : Option Value → Wd → Prop} {X : String → Wd → Prop} {rc : TX12_block} {dd : Nat} (hS : HSX12_block q l rc dd) (hK : 905 ≤ dd) {w : Wd} {R : Option Int32 × Wd} (hN : ∀ r : Int32, R.1 = some r → N (some (.int r)) R.2) (hX : R.1 = none → X RAE R.2) {a1 : Int32} {a2 : Bool} {a3 : Int32} (h : fX12_declaration_58 rc a1 a2 a3 w = some R) : RT (GM q) l (dd + 1) yX12_declaration cX12_declaration 5 ((some .int)) N X 58 [] [(0, .ref 0), (1, .int a1), (2, .int (b2i a2)), (3, .int a3)] w := by
  unfold fX12_declaration_58 at h
  refine r_iload_n (pc := 58) dX12_declaration_58 rfl 2 rfl ?_
  refine r_z_ne (pc := 59) dX12_declaration_59 rfl (fun hc1 => ?_) (fun hc1 => ?_)
  · replace h := if_t hc1 h
    refine r_drop (loc' := [(0, .ref 0), (2, .int (b2i a2)), (3, .int a3)]) [0, 2, 3] rfl ?_
    exact pX12_declaration_87 hS hK hN hX h
  replace h := if_f hc1 h
  refine r_aload_n (pc := 62) dX12_declaration_62 rfl 0 rfl ?_
  replace h := bn2_e h; obtain ⟨x2, w3, ew3, h⟩ := h
  refine r_cVi (pc := 63) wyX12_kind oM0 rfl mlRX12_452 iyX12_kind syX12_kind ⟨Nat.succ_le_succ (Nat.le_trans (Nat.le_of_ble_eq_true rfl) hK), (Nat.le_of_ble_eq_true rfl)⟩ rfl rfl (Nat.le_of_ble_eq_true rfl) dX12_declaration_63 (mX12_kind ew3 (pI.mk ?_))
  refine r_sipush (pc := 66) dX12_declaration_66 ks_261 ?_
  refine r_icmp_ne (pc := 69) dX12_declaration_69 rfl (fun hc4 => ?_) (fun hc4 => ?_)
  · replace h := if_f hc4 h
    refine r_drop (loc' := [(0, .ref 0), (2, .int (b2i a2)), (3, .int a3)]) [0, 2, 3] rfl ?_
    exact pX12_declaration_87 hS hK hN hX h
  replace h := if_t hc4 h
  refine r_aload_n (pc := 72) dX12_declaration_72 rfl 0 rfl ?_
  refine r_iload_n (pc := 73) dX12_declaration_73 rfl 3 rfl ?_
  refine r_if_ne (pc := 74) dX12_declaration_74 rfl (fun hc5 => ?_) (fun hc5 => ?_)
  · replace h := if_f hc5 h
    refine r_iload_n (pc := 81) dX12_declaration_81 rfl 3 rfl ?_
    refine r_iload_n (pc := 82) dX12_declaration_82 rfl 1 rfl ?_
    replace h := be_e h; obtain ⟨o11, w10, ew10, h1, h2⟩ := h
    refine r_cVi (pc := 83) wyX12_arrays oM0 rfl mlRX12_526 iyX12_arrays syX12_arrays ⟨Nat.succ_le_succ (Nat.le_trans (Nat.le_of_ble_eq_true rfl) hK), (Nat.le_of_ble_eq_true rfl)⟩ rfl rfl (Nat.le_of_ble_eq_true rfl) dX12_declaration_83 (mX12_arrays ew10 (fun x9 ex9 => pI.mk ?_) (fun ez => be_x h2 ez hX))
    replace h := h1 _ ex9
    exact rE_i (pc := 86) rfl dX12_declaration_86 h hN
  replace h := if_t hc5 h
  refine r_iconst (pc := 77) dX12_declaration_77 ki_1 ?_
  refine r_goto (pc := 78) dX12_declaration_78 rfl ?_
  refine r_iload_n (pc := 82) dX12_declaration_82 rfl 1 rfl ?_
  replace h := be_e h; obtain ⟨o8, w7, ew7, h1, h2⟩ := h
  refine r_cVi (pc := 83) wyX12_arrays oM0 rfl mlRX12_526 iyX12_arrays syX12_arrays ⟨Nat.succ_le_succ (Nat.le_trans (Nat.le_of_ble_eq_true rfl) hK), (Nat.le_of_ble_eq_true rfl)⟩ rfl rfl (Nat.le_of_ble_eq_true rfl) dX12_declaration_83 (mX12_arrays ew7 (fun x6 ex6 => pI.mk ?_) (fun ez => be_x h2 ez hX))
  replace h := h1 _ ex6
  exact rE_i (pc := 86) rfl dX12_declaration_86 h hN
def fX12_declaration (rc : TX12_block) (a1 : Int32) (w : Wd) : Option (Option Int32 × Wd) :=
  bn2 (fX12_kind w) fun x1 w2 => if x1 = 265 then (be (fX12_aSwitch w2) fun _ w5 => some (some (-1), w5)) else (be (fX12_skip 258 w2) fun x7 w8 => bn2 (fX12_isType w8) fun x10 w11 => if x10 = true then (be (fX12_taken w11) fun x13 w14 => if inb x13 8194 = true then lt (fX12_typeOf (gi w14 2 (Int32.toNatClampNeg x13)) w14) fun x17 => fX12_declaration_58 rc a1 x7 x17 w14 else none) else (if x7 = true then (bn (fX12_bad w11) fun w19 => some (none, w19)) else (fX12_declaration_58 rc a1 x7 0 w11)))
theorem pX12_declaration {q : Gq} {l : Launch} {N : Option Value → Wd → Prop} {X : String → Wd → Prop} {rc : TX12_block} {dd : Nat} (hS : HSX12_block q l rc dd) (hK : 905 ≤ dd) {w : Wd} {R : Option Int32 × Wd} (hN : ∀ r : Int32, R.1 = some r → N (some (.int r)) R.2) (hX : R.1 = none → X RAE R.2) {a1 : Int32} (h : fX12_declaration rc a1 w = some R) : RT (GM q) l (dd + 1) yX12_declaration cX12_declaration 5 ((some .int)) N X 0 [] [(0, .ref 0), (1, .int a1)] w := by
  unfold fX12_declaration at h
  refine r_aload_n (pc := 0) dX12_declaration_0 rfl 0 rfl ?_
  replace h := bn2_e h; obtain ⟨x1, w2, ew2, h⟩ := h
  refine r_cVi (pc := 1) wyX12_kind oM0 rfl mlRX12_452 iyX12_kind syX12_kind ⟨Nat.succ_le_succ (Nat.le_trans (Nat.le_of_ble_eq_true rfl) hK), (Nat.le_of_ble_eq_true rfl)⟩ rfl rfl (Nat.le_of_ble_eq_true rfl) dX12_declaration_1 (mX12_kind ew2 (pI.mk ?_))
  refine r_sipush (pc := 4) dX12_declaration_4 ks_265 ?_
  refine r_icmp_ne (pc := 7) dX12_declaration_7 rfl (fun hc3 => ?_) (fun hc3 => ?_)
  · replace h := if_f hc3 h
    refine r_aload_n (pc := 16) dX12_declaration_16 rfl 0 rfl ?_
    refine r_sipush (pc := 17) dX12_declaration_17 ks_258 ?_
    replace h := be_e h; obtain ⟨o9, w8, ew8, h1, h2⟩ := h
    refine r_cVi (pc := 20) wyX12_skip oM0 rfl mlRX12_517 iyX12_skip syX12_skip ⟨Nat.succ_le_succ (Nat.le_trans (Nat.le_of_ble_eq_true rfl) hK), (Nat.le_of_ble_eq_true rfl)⟩ rfl rfl (Nat.le_of_ble_eq_true rfl) dX12_declaration_20 (mX12_skip ew8 (fun x7 ex7 => pI.mk ?_) (fun ez => be_x h2 ez hX))
    replace h := h1 _ ex7
    refine r_istore_n (pc := 23) (loc' := [(2, .int (b2i x7)), (0, .ref 0), (1, .int a1)]) dX12_declaration_23 rfl (Nat.le_of_ble_eq_true rfl) rfl ?_
    refine r_iconst (pc := 24) dX12_declaration_24 ki_0 ?_
    refine r_istore_n (pc := 25) (loc' := [(3, .int 0), (2, .int (b2i x7)), (0, .ref 0), (1, .int a1)]) dX12_declaration_25 rfl (Nat.le_of_ble_eq_true rfl) rfl ?_
    refine r_aload_n (pc := 26) dX12_declaration_26 rfl 2 rfl ?_
    replace h := bn2_e h; obtain ⟨x10, w11, ew11, h⟩ := h
    refine r_cVi (pc := 27) wyX12_isType oM0 rfl mlRX12_507 iyX12_isType syX12_isType ⟨Nat.succ_le_succ (Nat.le_trans (Nat.le_of_ble_eq_true rfl) hK), (Nat.le_of_ble_eq_true rfl)⟩ rfl rfl (Nat.le_of_ble_eq_true rfl) dX12_declaration_27 (mX12_isType ew11 (pI.mk ?_))
    refine r_z_eq (pc := 30) dX12_declaration_30 rfl (fun hc12 => ?_) (fun hc12 => ?_)
    · replace h := if_f hc12 h
      refine r_iload_n (pc := 49) dX12_declaration_49 rfl 1 rfl ?_
      refine r_z_eq (pc := 50) dX12_declaration_50 rfl (fun hc18 => ?_) (fun hc18 => ?_)
      · replace h := if_f hc18 h
        refine r_drop (loc' := [(0, .ref 0), (1, .int a1), (2, .int (b2i x7)), (3, .int 0)]) [2, 3, 1, 0] rfl ?_
        exact pX12_declaration_58 hS hK hN hX h
      replace h := if_t hc18 h
      refine r_aload_n (pc := 53) dX12_declaration_53 rfl 2 rfl ?_
      replace h := bn_e h; obtain ⟨w19, ew19, h⟩ := h
      refine r_cVr (pc := 54) wyX12_bad oM0 rfl mlRX12_455 iyX12_bad syX12_bad ⟨Nat.succ_le_succ (Nat.le_trans (Nat.le_of_ble_eq_true rfl) hK), (Nat.le_of_ble_eq_true rfl)⟩ rfl rfl (Nat.le_of_ble_eq_true rfl) dX12_declaration_54 (mX12_bad ew19 (pR.mk ?_))
      exact rE_x (pc := 57) oM5 dX12_declaration_57 h hX
    replace h := if_t hc12 h
    refine r_aload_n (pc := 33) dX12_declaration_33 rfl 2 rfl ?_
    refine r_get (pc := 34) (j := 3) (v := .ref 2) oM0 cf12 flRX12_13 rfl dX12_declaration_34 rfl ?_
    refine r_aload_n (pc := 37) dX12_declaration_37 rfl 2 rfl ?_
    replace h := be_e h; obtain ⟨o15, w14, ew14, h1, h2⟩ := h
    refine r_cVi (pc := 38) wyX12_taken oM0 rfl mlRX12_459 iyX12_taken syX12_taken ⟨Nat.succ_le_succ (Nat.le_trans (Nat.le_of_ble_eq_true rfl) hK), (Nat.le_of_ble_eq_true rfl)⟩ rfl rfl (Nat.le_of_ble_eq_true rfl) dX12_declaration_38 (mX12_taken ew14 (fun x13 ex13 => pI.mk ?_) (fun ez => be_x h2 ez hX))
    replace h := h1 _ ex13
    replace h := if_n h; obtain ⟨hb16, h⟩ := h
    refine r_iald (pc := 41) aM2 (inb_in hb16) dX12_declaration_41 ?_
    replace h := lt_e h; obtain ⟨x17, ex17, h⟩ := h
    refine r_cSi (pc := 42) wyX12_typeOf mlRX12_523 tyX12_typeOf ⟨Nat.succ_le_succ (Nat.le_trans (Nat.le_of_ble_eq_true rfl) hK), (Nat.le_of_ble_eq_true rfl)⟩ rfl rfl (Nat.le_of_ble_eq_true rfl) dX12_declaration_42 (mX12_typeOf ex17 (pI.mk ?_))
    refine r_istore_n (pc := 45) (loc' := [(3, .int x17), (2, .int (b2i x7)), (0, .ref 0), (1, .int a1)]) dX12_declaration_45 rfl (Nat.le_of_ble_eq_true rfl) rfl ?_
    refine r_goto (pc := 46) dX12_declaration_46 rfl ?_
    refine r_drop (loc' := [(0, .ref 0), (1, .int a1), (2, .int (b2i x7)), (3, .int x17)]) [2, 3, 1, 0] rfl ?_
    exact pX12_declaration_58 hS hK hN hX h
  replace h := if_t hc3 h
  refine r_aload_n (pc := 10) dX12_declaration_10 rfl 0 rfl ?_
  replace h := be_e h; obtain ⟨o6, w5, ew5, h1, h2⟩ := h
  refine r_cVv (pc := 11) wyX12_aSwitch oM0 rfl mlRX12_520 iyX12_aSwitch syX12_aSwitch ⟨Nat.succ_le_succ (Nat.le_trans (Nat.le_of_ble_eq_true rfl) hK), (Nat.le_of_ble_eq_true rfl)⟩ rfl rfl (Nat.le_of_ble_eq_true rfl) dX12_declaration_11 (mX12_aSwitch ew5 (fun x4 ex4 => pV.mk ?_) (fun ez => be_x h2 ez hX))
  replace h := h1 _ ex4
  refine r_iconst (pc := 14) dX12_declaration_14 ki_m1 ?_
  exact rE_i (pc := 15) rfl dX12_declaration_15 h hN
/-! AlgolMillModel.block ()I: E, 1805 -/
theorem dX12_block_0 : decode cX12_block 0 = .ok (.aload_n 0, 1) := by decide +kernel
theorem dX12_block_1 : decode cX12_block 1 = .ok (.sipush 256, 3) := by decide +kernel
theorem dX12_block_4 : decode cX12_block 4 = .ok (.invokevirtual 491, 3) := by decide +kernel
theorem dX12_block_7 : decode cX12_block 7 = .ok (.istore_n 1, 1) := by decide +kernel
theorem dX12_block_8 : decode cX12_block 8 = .ok (.aload_n 0, 1) := by decide +kernel
theorem dX12_block_9 : decode cX12_block 9 = .ok (.dup, 1) := by decide +kernel
theorem dX12_block_10 : decode cX12_block 10 = .ok (.getfield 449, 3) := by decide +kernel
theorem dX12_block_13 : decode cX12_block 13 = .ok (.iconst 1, 1) := by decide +kernel
theorem dX12_block_14 : decode cX12_block 14 = .ok (.iadd, 1) := by decide +kernel
theorem dX12_block_15 : decode cX12_block 15 = .ok (.putfield 449, 3) := by decide +kernel
theorem dX12_block_18 : decode cX12_block 18 = .ok (.aload_n 0, 1) := by decide +kernel
theorem dX12_block_19 : decode cX12_block 19 = .ok (.getfield 494, 3) := by decide +kernel
theorem dX12_block_22 : decode cX12_block 22 = .ok (.istore_n 2, 1) := by decide +kernel
theorem dX12_block_23 : decode cX12_block 23 = .ok (.aload_n 0, 1) := by decide +kernel
theorem dX12_block_24 : decode cX12_block 24 = .ok (.dup, 1) := by decide +kernel
theorem dX12_block_25 : decode cX12_block 25 = .ok (.getfield 494, 3) := by decide +kernel
theorem dX12_block_28 : decode cX12_block 28 = .ok (.iconst 1, 1) := by decide +kernel
theorem dX12_block_29 : decode cX12_block 29 = .ok (.iadd, 1) := by decide +kernel
theorem dX12_block_30 : decode cX12_block 30 = .ok (.putfield 494, 3) := by decide +kernel
theorem dX12_block_33 : decode cX12_block 33 = .ok (.aload_n 0, 1) := by decide +kernel
theorem dX12_block_34 : decode cX12_block 34 = .ok (.getfield 471, 3) := by decide +kernel
theorem dX12_block_37 : decode cX12_block 37 = .ok (.istore_n 3, 1) := by decide +kernel
theorem dX12_block_38 : decode cX12_block 38 = .ok (.aload_n 0, 1) := by decide +kernel
theorem dX12_block_39 : decode cX12_block 39 = .ok (.aload_n 0, 1) := by decide +kernel
theorem dX12_block_40 : decode cX12_block 40 = .ok (.aload_n 0, 1) := by decide +kernel
theorem dX12_block_41 : decode cX12_block 41 = .ok (.getfield 471, 3) := by decide +kernel
theorem dX12_block_44 : decode cX12_block 44 = .ok (.iload_n 2, 1) := by decide +kernel
theorem dX12_block_45 : decode cX12_block 45 = .ok (.invokevirtual 497, 3) := by decide +kernel
theorem dX12_block_48 : decode cX12_block 48 = .ok (.putfield 471, 3) := by decide +kernel
theorem dX12_block_51 : decode cX12_block 51 = .ok (.aload_n 0, 1) := by decide +kernel
theorem dX12_block_52 : decode cX12_block 52 = .ok (.getfield 471, 3) := by decide +kernel
theorem dX12_block_55 : decode cX12_block 55 = .ok (.istore 4, 2) := by decide +kernel
theorem dX12_block_57 : decode cX12_block 57 = .ok (.aload_n 0, 1) := by decide +kernel
theorem dX12_block_58 : decode cX12_block 58 = .ok (.bipush 27, 2) := by decide +kernel
theorem dX12_block_60 : decode cX12_block 60 = .ok (.iload_n 2, 1) := by decide +kernel
theorem dX12_block_61 : decode cX12_block 61 = .ok (.iconst 0, 1) := by decide +kernel
theorem dX12_block_62 : decode cX12_block 62 = .ok (.iconst 0, 1) := by decide +kernel
theorem dX12_block_63 : decode cX12_block 63 = .ok (.iload_n 1, 1) := by decide +kernel
theorem dX12_block_64 : decode cX12_block 64 = .ok (.invokevirtual 500, 3) := by decide +kernel
theorem dX12_block_67 : decode cX12_block 67 = .ok (.istore 5, 2) := by decide +kernel
theorem dX12_block_69 : decode cX12_block 69 = .ok (.aload_n 0, 1) := by decide +kernel
theorem dX12_block_70 : decode cX12_block 70 = .ok (.getfield 202, 3) := by decide +kernel
theorem dX12_block_73 : decode cX12_block 73 = .ok (.iload_n 2, 1) := by decide +kernel
theorem dX12_block_74 : decode cX12_block 74 = .ok (.aload_n 0, 1) := by decide +kernel
theorem dX12_block_75 : decode cX12_block 75 = .ok (.iconst 2, 1) := by decide +kernel
theorem dX12_block_76 : decode cX12_block 76 = .ok (.invokevirtual 504, 3) := by decide +kernel
theorem dX12_block_79 : decode cX12_block 79 = .ok (.iastore, 1) := by decide +kernel
theorem dX12_block_80 : decode cX12_block 80 = .ok (.aload_n 0, 1) := by decide +kernel
theorem dX12_block_81 : decode cX12_block 81 = .ok (.getfield 196, 3) := by decide +kernel
theorem dX12_block_84 : decode cX12_block 84 = .ok (.iload_n 2, 1) := by decide +kernel
theorem dX12_block_85 : decode cX12_block 85 = .ok (.iconst (-1), 1) := by decide +kernel
theorem dX12_block_86 : decode cX12_block 86 = .ok (.iastore, 1) := by decide +kernel
theorem dX12_block_87 : decode cX12_block 87 = .ok (.aload_n 0, 1) := by decide +kernel
theorem dX12_block_88 : decode cX12_block 88 = .ok (.getfield 199, 3) := by decide +kernel
theorem dX12_block_91 : decode cX12_block 91 = .ok (.iload_n 2, 1) := by decide +kernel
theorem dX12_block_92 : decode cX12_block 92 = .ok (.iconst (-1), 1) := by decide +kernel
theorem dX12_block_93 : decode cX12_block 93 = .ok (.iastore, 1) := by decide +kernel
theorem dX12_block_94 : decode cX12_block 94 = .ok (.aload_n 0, 1) := by decide +kernel
theorem dX12_block_95 : decode cX12_block 95 = .ok (.getfield 205, 3) := by decide +kernel
theorem dX12_block_98 : decode cX12_block 98 = .ok (.iload_n 2, 1) := by decide +kernel
theorem dX12_block_99 : decode cX12_block 99 = .ok (.aload_n 0, 1) := by decide +kernel
theorem dX12_block_100 : decode cX12_block 100 = .ok (.getfield 471, 3) := by decide +kernel
theorem dX12_block_103 : decode cX12_block 103 = .ok (.iastore, 1) := by decide +kernel
theorem dX12_block_104 : decode cX12_block 104 = .ok (.iconst (-1), 1) := by decide +kernel
theorem dX12_block_105 : decode cX12_block 105 = .ok (.istore 6, 2) := by decide +kernel
theorem dX12_block_107 : decode cX12_block 107 = .ok (.aload_n 0, 1) := by decide +kernel
theorem dX12_block_108 : decode cX12_block 108 = .ok (.invokevirtual 507, 3) := by decide +kernel
theorem dX12_block_111 : decode cX12_block 111 = .ok (.ifCond .ne 43, 3) := by decide +kernel
theorem dX12_block_114 : decode cX12_block 114 = .ok (.aload_n 0, 1) := by decide +kernel
theorem dX12_block_115 : decode cX12_block 115 = .ok (.invokevirtual 452, 3) := by decide +kernel
theorem dX12_block_118 : decode cX12_block 118 = .ok (.sipush 258, 3) := by decide +kernel
theorem dX12_block_121 : decode cX12_block 121 = .ok (.if_icmp .eq 33, 3) := by decide +kernel
theorem dX12_block_124 : decode cX12_block 124 = .ok (.aload_n 0, 1) := by decide +kernel
theorem dX12_block_125 : decode cX12_block 125 = .ok (.invokevirtual 452, 3) := by decide +kernel
theorem dX12_block_128 : decode cX12_block 128 = .ok (.sipush 261, 3) := by decide +kernel
theorem dX12_block_131 : decode cX12_block 131 = .ok (.if_icmp .eq 23, 3) := by decide +kernel
theorem dX12_block_134 : decode cX12_block 134 = .ok (.aload_n 0, 1) := by decide +kernel
theorem dX12_block_135 : decode cX12_block 135 = .ok (.invokevirtual 452, 3) := by decide +kernel
theorem dX12_block_138 : decode cX12_block 138 = .ok (.sipush 262, 3) := by decide +kernel
theorem dX12_block_141 : decode cX12_block 141 = .ok (.if_icmp .eq 13, 3) := by decide +kernel
theorem dX12_block_144 : decode cX12_block 144 = .ok (.aload_n 0, 1) := by decide +kernel
theorem dX12_block_145 : decode cX12_block 145 = .ok (.invokevirtual 452, 3) := by decide +kernel
theorem dX12_block_148 : decode cX12_block 148 = .ok (.sipush 265, 3) := by decide +kernel
theorem dX12_block_151 : decode cX12_block 151 = .ok (.if_icmp .ne 58, 3) := by decide +kernel
theorem dX12_block_154 : decode cX12_block 154 = .ok (.aload_n 0, 1) := by decide +kernel
theorem dX12_block_155 : decode cX12_block 155 = .ok (.iload_n 3, 1) := by decide +kernel
theorem dX12_block_156 : decode cX12_block 156 = .ok (.invokevirtual 511, 3) := by decide +kernel
theorem dX12_block_159 : decode cX12_block 159 = .ok (.istore 7, 2) := by decide +kernel
theorem dX12_block_161 : decode cX12_block 161 = .ok (.aload_n 0, 1) := by decide +kernel
theorem dX12_block_162 : decode cX12_block 162 = .ok (.bipush 59, 2) := by decide +kernel
theorem dX12_block_164 : decode cX12_block 164 = .ok (.invokevirtual 491, 3) := by decide +kernel
theorem dX12_block_167 : decode cX12_block 167 = .ok (.istore 8, 2) := by decide +kernel
theorem dX12_block_169 : decode cX12_block 169 = .ok (.iload 7, 2) := by decide +kernel
theorem dX12_block_171 : decode cX12_block 171 = .ok (.ifCond .ge 6, 3) := by decide +kernel
theorem dX12_block_174 : decode cX12_block 174 = .ok (.goto (-67), 3) := by decide +kernel
theorem dX12_block_177 : decode cX12_block 177 = .ok (.iload 6, 2) := by decide +kernel
theorem dX12_block_179 : decode cX12_block 179 = .ok (.ifCond .ge 14, 3) := by decide +kernel
theorem dX12_block_182 : decode cX12_block 182 = .ok (.aload_n 0, 1) := by decide +kernel
theorem dX12_block_183 : decode cX12_block 183 = .ok (.getfield 199, 3) := by decide +kernel
theorem dX12_block_186 : decode cX12_block 186 = .ok (.iload_n 2, 1) := by decide +kernel
theorem dX12_block_187 : decode cX12_block 187 = .ok (.iload 7, 2) := by decide +kernel
theorem dX12_block_189 : decode cX12_block 189 = .ok (.iastore, 1) := by decide +kernel
theorem dX12_block_190 : decode cX12_block 190 = .ok (.goto 12, 3) := by decide +kernel
theorem dX12_block_193 : decode cX12_block 193 = .ok (.aload_n 0, 1) := by decide +kernel
theorem dX12_block_194 : decode cX12_block 194 = .ok (.getfield 111, 3) := by decide +kernel
theorem dX12_block_197 : decode cX12_block 197 = .ok (.iload 6, 2) := by decide +kernel
theorem dX12_block_199 : decode cX12_block 199 = .ok (.iload 7, 2) := by decide +kernel
theorem dX12_block_201 : decode cX12_block 201 = .ok (.iastore, 1) := by decide +kernel
theorem dX12_block_202 : decode cX12_block 202 = .ok (.iload 7, 2) := by decide +kernel
theorem dX12_block_204 : decode cX12_block 204 = .ok (.istore 6, 2) := by decide +kernel
theorem dX12_block_206 : decode cX12_block 206 = .ok (.goto (-99), 3) := by decide +kernel
theorem dX12_block_209 : decode cX12_block 209 = .ok (.iconst (-1), 1) := by decide +kernel
theorem dX12_block_210 : decode cX12_block 210 = .ok (.istore 7, 2) := by decide +kernel
theorem dX12_block_212 : decode cX12_block 212 = .ok (.aload_n 0, 1) := by decide +kernel
theorem dX12_block_213 : decode cX12_block 213 = .ok (.invokevirtual 514, 3) := by decide +kernel
theorem dX12_block_216 : decode cX12_block 216 = .ok (.istore 8, 2) := by decide +kernel
theorem dX12_block_218 : decode cX12_block 218 = .ok (.iload 7, 2) := by decide +kernel
theorem dX12_block_220 : decode cX12_block 220 = .ok (.ifCond .ge 14, 3) := by decide +kernel
theorem dX12_block_223 : decode cX12_block 223 = .ok (.aload_n 0, 1) := by decide +kernel
theorem dX12_block_224 : decode cX12_block 224 = .ok (.getfield 196, 3) := by decide +kernel
theorem dX12_block_227 : decode cX12_block 227 = .ok (.iload_n 2, 1) := by decide +kernel
theorem dX12_block_228 : decode cX12_block 228 = .ok (.iload 8, 2) := by decide +kernel
theorem dX12_block_230 : decode cX12_block 230 = .ok (.iastore, 1) := by decide +kernel
theorem dX12_block_231 : decode cX12_block 231 = .ok (.goto 12, 3) := by decide +kernel
theorem dX12_block_234 : decode cX12_block 234 = .ok (.aload_n 0, 1) := by decide +kernel
theorem dX12_block_235 : decode cX12_block 235 = .ok (.getfield 111, 3) := by decide +kernel
theorem dX12_block_238 : decode cX12_block 238 = .ok (.iload 7, 2) := by decide +kernel
theorem dX12_block_240 : decode cX12_block 240 = .ok (.iload 8, 2) := by decide +kernel
theorem dX12_block_242 : decode cX12_block 242 = .ok (.iastore, 1) := by decide +kernel
theorem dX12_block_243 : decode cX12_block 243 = .ok (.iload 8, 2) := by decide +kernel
theorem dX12_block_245 : decode cX12_block 245 = .ok (.istore 7, 2) := by decide +kernel
theorem dX12_block_247 : decode cX12_block 247 = .ok (.aload_n 0, 1) := by decide +kernel
theorem dX12_block_248 : decode cX12_block 248 = .ok (.bipush 59, 2) := by decide +kernel
theorem dX12_block_250 : decode cX12_block 250 = .ok (.invokevirtual 517, 3) := by decide +kernel
theorem dX12_block_253 : decode cX12_block 253 = .ok (.ifCond .ne (-41), 3) := by decide +kernel
theorem dX12_block_256 : decode cX12_block 256 = .ok (.aload_n 0, 1) := by decide +kernel
theorem dX12_block_257 : decode cX12_block 257 = .ok (.dup, 1) := by decide +kernel
theorem dX12_block_258 : decode cX12_block 258 = .ok (.getfield 449, 3) := by decide +kernel
theorem dX12_block_261 : decode cX12_block 261 = .ok (.iconst 1, 1) := by decide +kernel
theorem dX12_block_262 : decode cX12_block 262 = .ok (.isub, 1) := by decide +kernel
theorem dX12_block_263 : decode cX12_block 263 = .ok (.putfield 449, 3) := by decide +kernel
theorem dX12_block_266 : decode cX12_block 266 = .ok (.aload_n 0, 1) := by decide +kernel
theorem dX12_block_267 : decode cX12_block 267 = .ok (.invokevirtual 452, 3) := by decide +kernel
theorem dX12_block_270 : decode cX12_block 270 = .ok (.sipush 257, 3) := by decide +kernel
theorem dX12_block_273 : decode cX12_block 273 = .ok (.if_icmp .eq 8, 3) := by decide +kernel
theorem dX12_block_276 : decode cX12_block 276 = .ok (.aload_n 0, 1) := by decide +kernel
theorem dX12_block_277 : decode cX12_block 277 = .ok (.invokevirtual 455, 3) := by decide +kernel
theorem dX12_block_280 : decode cX12_block 280 = .ok (.athrow, 1) := by decide +kernel
theorem dX12_block_281 : decode cX12_block 281 = .ok (.aload_n 0, 1) := by decide +kernel
theorem dX12_block_282 : decode cX12_block 282 = .ok (.invokevirtual 459, 3) := by decide +kernel
theorem dX12_block_285 : decode cX12_block 285 = .ok (.istore 8, 2) := by decide +kernel
theorem dX12_block_287 : decode cX12_block 287 = .ok (.aload_n 0, 1) := by decide +kernel
theorem dX12_block_288 : decode cX12_block 288 = .ok (.iload_n 3, 1) := by decide +kernel
theorem dX12_block_289 : decode cX12_block 289 = .ok (.putfield 471, 3) := by decide +kernel
theorem dX12_block_292 : decode cX12_block 292 = .ok (.iload 5, 2) := by decide +kernel
theorem dX12_block_294 : decode cX12_block 294 = .ok (.ireturn, 1) := by decide +kernel
def fX12_block_154 (rc : TX12_block) (k_107 : Int32 → Int32 → Int32 → Int32 → Wd → Option (Option Int32 × Wd)) (a2 : Int32) (a3 : Int32) (a5 : Int32) (a6 : Int32) (w : Wd) : Option (Option Int32 × Wd) :=
  be (rc 1 a3 0 0 w) fun x1 w2 => be (fX12_expect 59 w2) fun x4 w5 => if 0 ≤ x1 then (if 0 ≤ a6 then (if inb a6 24000 = true then lt (si w5 11 (Int32.toNatClampNeg a6) x1) fun w10 => k_107 a2 a3 a5 x1 w10 else none) else (if inb a2 9000 = true then lt (si w5 40 (Int32.toNatClampNeg a2) x1) fun w12 => k_107 a2 a3 a5 x1 w12 else none)) else (k_107 a2 a3 a5 a6 w5)
theorem pX12_block_154 {q : Gq} {l : Launch} {N : Option Value → Wd → Prop} {X : String → Wd → Prop} {rc : TX12_block} {dd : Nat} (hS : HSX12_block q l rc dd) (hK : 905 ≤ dd) {w : Wd} {R : Option Int32 × Wd} (hN : ∀ r : Int32, R.1 = some r → N (some (.int r)) R.2) (hX : R.1 = none → X RAE R.2) {k_107 : Int32 → Int32 → Int32 → Int32 → Wd → Option (Option Int32 × Wd)} (hk_107 : ∀ (a2 : Int32) (a3 : Int32) (a5 : Int32) (a6 : Int32) (w : Wd), k_107 a2 a3 a5 a6 w = some R → RT (GM q) l (dd + 1) yX12_block cX12_block 9 ((some .int)) N X 107 [] [(0, .ref 0), (2, .int a2), (3, .int a3), (5, .int a5), (6, .int a6)] w) {a2 : Int32} {a3 : Int32} {a5 : Int32} {a6 : Int32} (h : fX12_block_154 rc k_107 a2 a3 a5 a6 w = some R) : RT (GM q) l (dd + 1) yX12_block cX12_block 9 ((some .int)) N X 154 [] [(0, .ref 0), (2, .int a2), (3, .int a3), (5, .int a5), (6, .int a6)] w := by
  unfold fX12_block_154 at h
  refine r_aload_n (pc := 154) dX12_block_154 rfl 0 rfl ?_
  refine r_iload_n (pc := 155) dX12_block_155 rfl 2 rfl ?_
  replace h := be_e h; obtain ⟨o3, w2, ew2, h1, h2⟩ := h
  refine r_cVi (pc := 156) wyX12_declaration oM0 rfl mlRX12_511 iyX12_declaration syX12_declaration ⟨Nat.le_refl _, (Nat.le_of_ble_eq_true rfl)⟩ rfl rfl (Nat.le_of_ble_eq_true rfl) dX12_block_156 ((hS.2.1 _ _ _ _ _ _) ew2 (fun x1 ex1 => pI.mk ?_) (fun ez => be_x h2 ez hX))
  replace h := h1 _ ex1
  refine r_istore (pc := 159) (loc' := [(7, .int x1), (0, .ref 0), (2, .int a2), (3, .int a3), (5, .int a5), (6, .int a6)]) dX12_block_159 (Nat.le_of_ble_eq_true rfl) rfl ?_
  refine r_aload_n (pc := 161) dX12_block_161 rfl 1 rfl ?_
  refine r_bipush (pc := 162) dX12_block_162 kb_59 ?_
  replace h := be_e h; obtain ⟨o6, w5, ew5, h1, h2⟩ := h
  refine r_cVi (pc := 164) wyX12_expect oM0 rfl mlRX12_491 iyX12_expect syX12_expect ⟨Nat.succ_le_succ (Nat.le_trans (Nat.le_of_ble_eq_true rfl) hK), (Nat.le_of_ble_eq_true rfl)⟩ rfl rfl (Nat.le_of_ble_eq_true rfl) dX12_block_164 (mX12_expect ew5 (fun x4 ex4 => pI.mk ?_) (fun ez => be_x h2 ez hX))
  replace h := h1 _ ex4
  refine r_istore (pc := 167) (loc' := [(8, .int x4), (7, .int x1), (0, .ref 0), (2, .int a2), (3, .int a3), (5, .int a5), (6, .int a6)]) dX12_block_167 (Nat.le_of_ble_eq_true rfl) rfl ?_
  refine r_iload (pc := 169) dX12_block_169 1 rfl ?_
  refine r_if_ge (pc := 171) dX12_block_171 rfl (fun hc7 => ?_) (fun hc7 => ?_)
  · replace h := if_t hc7 h
    refine r_iload (pc := 177) dX12_block_177 6 rfl ?_
    refine r_if_ge (pc := 179) dX12_block_179 rfl (fun hc8 => ?_) (fun hc8 => ?_)
    · replace h := if_t hc8 h
      refine r_aload_n (pc := 193) dX12_block_193 rfl 2 rfl ?_
      refine r_get (pc := 194) (j := 20) (v := .ref 11) oM0 cf12 flRX12_111 rfl dX12_block_194 rfl ?_
      refine r_iload (pc := 197) dX12_block_197 6 rfl ?_
      refine r_iload (pc := 199) dX12_block_199 1 rfl ?_
      replace h := if_n h; obtain ⟨hb9, h⟩ := h
      replace h := lt_e h; obtain ⟨w10, ew10, h⟩ := h
      refine r_iast (pc := 201) aM11 (inb_in hb9) dX12_block_201 ?_
      refine r_w ew10 ?_
      refine r_iload (pc := 202) dX12_block_202 1 rfl ?_
      refine r_istore (pc := 204) (loc' := [(6, .int x1), (8, .int x4), (7, .int x1), (0, .ref 0), (2, .int a2), (3, .int a3), (5, .int a5)]) dX12_block_204 (Nat.le_of_ble_eq_true rfl) rfl ?_
      refine r_goto (pc := 206) dX12_block_206 rfl ?_
      refine r_drop (loc' := [(0, .ref 0), (2, .int a2), (3, .int a3), (5, .int a5), (6, .int x1)]) [3, 4, 5, 6, 0] rfl ?_
      exact hk_107 a2 a3 a5 x1 w10 h
    replace h := if_f hc8 h
    refine r_aload_n (pc := 182) dX12_block_182 rfl 2 rfl ?_
    refine r_get (pc := 183) (j := 56) (v := .ref 40) oM0 cf12 flRX12_199 rfl dX12_block_183 rfl ?_
    refine r_iload_n (pc := 186) dX12_block_186 rfl 3 rfl ?_
    refine r_iload (pc := 187) dX12_block_187 1 rfl ?_
    replace h := if_n h; obtain ⟨hb11, h⟩ := h
    replace h := lt_e h; obtain ⟨w12, ew12, h⟩ := h
    refine r_iast (pc := 189) aM40 (inb_in hb11) dX12_block_189 ?_
    refine r_w ew12 ?_
    refine r_goto (pc := 190) dX12_block_190 rfl ?_
    refine r_iload (pc := 202) dX12_block_202 1 rfl ?_
    refine r_istore (pc := 204) (loc' := [(6, .int x1), (8, .int x4), (7, .int x1), (0, .ref 0), (2, .int a2), (3, .int a3), (5, .int a5)]) dX12_block_204 (Nat.le_of_ble_eq_true rfl) rfl ?_
    refine r_goto (pc := 206) dX12_block_206 rfl ?_
    refine r_drop (loc' := [(0, .ref 0), (2, .int a2), (3, .int a3), (5, .int a5), (6, .int x1)]) [3, 4, 5, 6, 0] rfl ?_
    exact hk_107 a2 a3 a5 x1 w12 h
  replace h := if_f hc7 h
  refine r_goto (pc := 174) dX12_block_174 rfl ?_
  refine r_drop (loc' := [(0, .ref 0), (2, .int a2), (3, .int a3), (5, .int a5), (6, .int a6)]) [2, 3, 4, 5, 6] rfl ?_
  exact hk_107 a2 a3 a5 a6 w5 h
def fX12_block_243 (rc : TX12_block) (k_212 : Int32 → Int32 → Int32 → Int32 → Wd → Option (Option Int32 × Wd)) (a2 : Int32) (a3 : Int32) (a5 : Int32) (a8 : Int32) (w : Wd) : Option (Option Int32 × Wd) :=
  be (fX12_skip 59 w) fun x1 w2 => if x1 = true then (k_212 a2 a3 a5 a8 w2) else (lt (si w2 0 8 ((gi w2 0 8) - 1)) fun w5 => bn2 (fX12_kind w5) fun x6 w7 => if x6 = 257 then (be (fX12_taken w7) fun x9 w10 => lt (si w10 0 29 a3) fun w12 => some (some a5, w12)) else (bn (fX12_bad w7) fun w13 => some (none, w13)))
theorem pX12_block_243 {q : Gq} {l : Launch} {N : Option Value → Wd → Prop} {X : String → Wd → Prop} {rc : TX12_block} {dd : Nat} (hS : HSX12_block q l rc dd) (hK : 905 ≤ dd) {w : Wd} {R : Option Int32 × Wd} (hN : ∀ r : Int32, R.1 = some r → N (some (.int r)) R.2) (hX : R.1 = none → X RAE R.2) {k_212 : Int32 → Int32 → Int32 → Int32 → Wd → Option (Option Int32 × Wd)} (hk_212 : ∀ (a2 : Int32) (a3 : Int32) (a5 : Int32) (a7 : Int32) (w : Wd), k_212 a2 a3 a5 a7 w = some R → RT (GM q) l (dd + 1) yX12_block cX12_block 9 ((some .int)) N X 212 [] [(0, .ref 0), (2, .int a2), (3, .int a3), (5, .int a5), (7, .int a7)] w) {a2 : Int32} {a3 : Int32} {a5 : Int32} {a8 : Int32} (h : fX12_block_243 rc k_212 a2 a3 a5 a8 w = some R) : RT (GM q) l (dd + 1) yX12_block cX12_block 9 ((some .int)) N X 243 [] [(0, .ref 0), (2, .int a2), (3, .int a3), (5, .int a5), (8, .int a8)] w := by
  unfold fX12_block_243 at h
  refine r_iload (pc := 243) dX12_block_243 4 rfl ?_
  refine r_istore (pc := 245) (loc' := [(7, .int a8), (0, .ref 0), (2, .int a2), (3, .int a3), (5, .int a5), (8, .int a8)]) dX12_block_245 (Nat.le_of_ble_eq_true rfl) rfl ?_
  refine r_aload_n (pc := 247) dX12_block_247 rfl 1 rfl ?_
  refine r_bipush (pc := 248) dX12_block_248 kb_59 ?_
  replace h := be_e h; obtain ⟨o3, w2, ew2, h1, h2⟩ := h
  refine r_cVi (pc := 250) wyX12_skip oM0 rfl mlRX12_517 iyX12_skip syX12_skip ⟨Nat.succ_le_succ (Nat.le_trans (Nat.le_of_ble_eq_true rfl) hK), (Nat.le_of_ble_eq_true rfl)⟩ rfl rfl (Nat.le_of_ble_eq_true rfl) dX12_block_250 (mX12_skip ew2 (fun x1 ex1 => pI.mk ?_) (fun ez => be_x h2 ez hX))
  replace h := h1 _ ex1
  refine r_z_ne (pc := 253) dX12_block_253 rfl (fun hc4 => ?_) (fun hc4 => ?_)
  · replace h := if_t hc4 h
    refine r_drop (loc' := [(0, .ref 0), (2, .int a2), (3, .int a3), (5, .int a5), (7, .int a8)]) [1, 2, 3, 4, 0] rfl ?_
    exact hk_212 a2 a3 a5 a8 w2 h
  replace h := if_f hc4 h
  refine r_aload_n (pc := 256) dX12_block_256 rfl 1 rfl ?_
  refine r_dup (pc := 257) dX12_block_257 rfl ?_
  refine r_get (pc := 258) (j := 8) (v := .int (gi w2 0 8)) oM0 cf12 flRX12_449 rfl dX12_block_258 rfl ?_
  refine r_iconst (pc := 261) dX12_block_261 ki_1 ?_
  refine r_isub (pc := 262) dX12_block_262 ?_
  replace h := lt_e h; obtain ⟨w5, ew5, h⟩ := h
  refine r_putI (pc := 263) (j := 8) oM0 cf12 flRX12_449 rfl rfl rfl rfl dX12_block_263 ?_
  refine r_w ew5 ?_
  refine r_aload_n (pc := 266) dX12_block_266 rfl 1 rfl ?_
  replace h := bn2_e h; obtain ⟨x6, w7, ew7, h⟩ := h
  refine r_cVi (pc := 267) wyX12_kind oM0 rfl mlRX12_452 iyX12_kind syX12_kind ⟨Nat.succ_le_succ (Nat.le_trans (Nat.le_of_ble_eq_true rfl) hK), (Nat.le_of_ble_eq_true rfl)⟩ rfl rfl (Nat.le_of_ble_eq_true rfl) dX12_block_267 (mX12_kind ew7 (pI.mk ?_))
  refine r_sipush (pc := 270) dX12_block_270 ks_257 ?_
  refine r_icmp_eq (pc := 273) dX12_block_273 rfl (fun hc8 => ?_) (fun hc8 => ?_)
  · replace h := if_t hc8 h
    refine r_aload_n (pc := 281) dX12_block_281 rfl 1 rfl ?_
    replace h := be_e h; obtain ⟨o11, w10, ew10, h1, h2⟩ := h
    refine r_cVi (pc := 282) wyX12_taken oM0 rfl mlRX12_459 iyX12_taken syX12_taken ⟨Nat.succ_le_succ (Nat.le_trans (Nat.le_of_ble_eq_true rfl) hK), (Nat.le_of_ble_eq_true rfl)⟩ rfl rfl (Nat.le_of_ble_eq_true rfl) dX12_block_282 (mX12_taken ew10 (fun x9 ex9 => pI.mk ?_) (fun ez => be_x h2 ez hX))
    replace h := h1 _ ex9
    refine r_istore (pc := 285) (loc' := [(8, .int x9), (7, .int a8), (0, .ref 0), (2, .int a2), (3, .int a3), (5, .int a5)]) dX12_block_285 (Nat.le_of_ble_eq_true rfl) rfl ?_
    refine r_aload_n (pc := 287) dX12_block_287 rfl 2 rfl ?_
    refine r_iload_n (pc := 288) dX12_block_288 rfl 4 rfl ?_
    replace h := lt_e h; obtain ⟨w12, ew12, h⟩ := h
    refine r_putI (pc := 289) (j := 29) oM0 cf12 flRX12_471 rfl rfl rfl rfl dX12_block_289 ?_
    refine r_w ew12 ?_
    refine r_iload (pc := 292) dX12_block_292 5 rfl ?_
    exact rE_i (pc := 294) rfl dX12_block_294 h hN
  replace h := if_f hc8 h
  refine r_aload_n (pc := 276) dX12_block_276 rfl 1 rfl ?_
  replace h := bn_e h; obtain ⟨w13, ew13, h⟩ := h
  refine r_cVr (pc := 277) wyX12_bad oM0 rfl mlRX12_455 iyX12_bad syX12_bad ⟨Nat.succ_le_succ (Nat.le_trans (Nat.le_of_ble_eq_true rfl) hK), (Nat.le_of_ble_eq_true rfl)⟩ rfl rfl (Nat.le_of_ble_eq_true rfl) dX12_block_277 (mX12_bad ew13 (pR.mk ?_))
  exact rE_x (pc := 280) oM5 dX12_block_280 h hX
def fX12_block_212 (rc : TX12_block) (k_212 : Int32 → Int32 → Int32 → Int32 → Wd → Option (Option Int32 × Wd)) (a2 : Int32) (a3 : Int32) (a5 : Int32) (a7 : Int32) (w : Wd) : Option (Option Int32 × Wd) :=
  be (rc 4 0 0 0 w) fun x1 w2 => if 0 ≤ a7 then (if inb a7 24000 = true then lt (si w2 11 (Int32.toNatClampNeg a7) x1) fun w6 => fX12_block_243 rc k_212 a2 a3 a5 x1 w6 else none) else (if inb a2 9000 = true then lt (si w2 39 (Int32.toNatClampNeg a2) x1) fun w8 => fX12_block_243 rc k_212 a2 a3 a5 x1 w8 else none)
theorem pX12_block_212 {q : Gq} {l : Launch} {N : Option Value → Wd → Prop} {X : String → Wd → Prop} {rc : TX12_block} {dd : Nat} (hS : HSX12_block q l rc dd) (hK : 905 ≤ dd) {w : Wd} {R : Option Int32 × Wd} (hN : ∀ r : Int32, R.1 = some r → N (some (.int r)) R.2) (hX : R.1 = none → X RAE R.2) {k_212 : Int32 → Int32 → Int32 → Int32 → Wd → Option (Option Int32 × Wd)} (hk_212 : ∀ (a2 : Int32) (a3 : Int32) (a5 : Int32) (a7 : Int32) (w : Wd), k_212 a2 a3 a5 a7 w = some R → RT (GM q) l (dd + 1) yX12_block cX12_block 9 ((some .int)) N X 212 [] [(0, .ref 0), (2, .int a2), (3, .int a3), (5, .int a5), (7, .int a7)] w) {a2 : Int32} {a3 : Int32} {a5 : Int32} {a7 : Int32} (h : fX12_block_212 rc k_212 a2 a3 a5 a7 w = some R) : RT (GM q) l (dd + 1) yX12_block cX12_block 9 ((some .int)) N X 212 [] [(0, .ref 0), (2, .int a2), (3, .int a3), (5, .int a5), (7, .int a7)] w := by
  unfold fX12_block_212 at h
  refine r_aload_n (pc := 212) dX12_block_212 rfl 0 rfl ?_
  replace h := be_e h; obtain ⟨o3, w2, ew2, h1, h2⟩ := h
  refine r_cVi (pc := 213) wyX12_statement oM0 rfl mlRX12_514 iyX12_statement syX12_statement ⟨Nat.le_refl _, (Nat.le_of_ble_eq_true rfl)⟩ rfl rfl (Nat.le_of_ble_eq_true rfl) dX12_block_213 ((hS.2.2.2.2.1 _ _ _ _ _) ew2 (fun x1 ex1 => pI.mk ?_) (fun ez => be_x h2 ez hX))
  replace h := h1 _ ex1
  refine r_istore (pc := 216) (loc' := [(8, .int x1), (0, .ref 0), (2, .int a2), (3, .int a3), (5, .int a5), (7, .int a7)]) dX12_block_216 (Nat.le_of_ble_eq_true rfl) rfl ?_
  refine r_iload (pc := 218) dX12_block_218 5 rfl ?_
  refine r_if_ge (pc := 220) dX12_block_220 rfl (fun hc4 => ?_) (fun hc4 => ?_)
  · replace h := if_t hc4 h
    refine r_aload_n (pc := 234) dX12_block_234 rfl 1 rfl ?_
    refine r_get (pc := 235) (j := 20) (v := .ref 11) oM0 cf12 flRX12_111 rfl dX12_block_235 rfl ?_
    refine r_iload (pc := 238) dX12_block_238 5 rfl ?_
    refine r_iload (pc := 240) dX12_block_240 0 rfl ?_
    replace h := if_n h; obtain ⟨hb5, h⟩ := h
    replace h := lt_e h; obtain ⟨w6, ew6, h⟩ := h
    refine r_iast (pc := 242) aM11 (inb_in hb5) dX12_block_242 ?_
    refine r_w ew6 ?_
    refine r_drop (loc' := [(0, .ref 0), (2, .int a2), (3, .int a3), (5, .int a5), (8, .int x1)]) [1, 2, 3, 4, 0] rfl ?_
    exact pX12_block_243 hS hK hN hX hk_212 h
  replace h := if_f hc4 h
  refine r_aload_n (pc := 223) dX12_block_223 rfl 1 rfl ?_
  refine r_get (pc := 224) (j := 55) (v := .ref 39) oM0 cf12 flRX12_196 rfl dX12_block_224 rfl ?_
  refine r_iload_n (pc := 227) dX12_block_227 rfl 2 rfl ?_
  refine r_iload (pc := 228) dX12_block_228 0 rfl ?_
  replace h := if_n h; obtain ⟨hb7, h⟩ := h
  replace h := lt_e h; obtain ⟨w8, ew8, h⟩ := h
  refine r_iast (pc := 230) aM39 (inb_in hb7) dX12_block_230 ?_
  refine r_w ew8 ?_
  refine r_goto (pc := 231) dX12_block_231 rfl ?_
  refine r_drop (loc' := [(0, .ref 0), (2, .int a2), (3, .int a3), (5, .int a5), (8, .int x1)]) [1, 2, 3, 4, 0] rfl ?_
  exact pX12_block_243 hS hK hN hX hk_212 h
def oX12_block_212 (rc : TX12_block) : Nat → Int32 → Int32 → Int32 → Int32 → Wd → Option (Option Int32 × Wd)
  | 0 => fun _ _ _ _ _ => none
  | n + 1 => fX12_block_212 rc (oX12_block_212 rc n)
theorem qX12_block_212 {q : Gq} {l : Launch} {N : Option Value → Wd → Prop} {X : String → Wd → Prop} {rc : TX12_block} {dd : Nat} (hS : HSX12_block q l rc dd) (hK : 905 ≤ dd) {R : Option Int32 × Wd} (hN : ∀ r : Int32, R.1 = some r → N (some (.int r)) R.2) (hX : R.1 = none → X RAE R.2) : ∀ (n : Nat) (a2 : Int32) (a3 : Int32) (a5 : Int32) (a7 : Int32) (w : Wd), oX12_block_212 rc n a2 a3 a5 a7 w = some R → RT (GM q) l (dd + 1) yX12_block cX12_block 9 ((some .int)) N X 212 [] [(0, .ref 0), (2, .int a2), (3, .int a3), (5, .int a5), (7, .int a7)] w := by
  intro n
  induction n with
  | zero =>
    intro a2 a3 a5 a7 w h
    exact absurd h (fun q => nomatch q)
  | succ n ih =>
    intro a2 a3 a5 a7 w h
    exact pX12_block_212 hS hK hN hX ih h
def fX12_block_107 (rc : TX12_block) (k_107 : Int32 → Int32 → Int32 → Int32 → Wd → Option (Option Int32 × Wd)) (a2 : Int32) (a3 : Int32) (a5 : Int32) (a6 : Int32) (w : Wd) : Option (Option Int32 × Wd) :=
  bn2 (fX12_isType w) fun x1 w2 => if x1 = true then (fX12_block_154 rc k_107 a2 a3 a5 a6 w2) else (bn2 (fX12_kind w2) fun x4 w5 => if x4 = 258 then (fX12_block_154 rc k_107 a2 a3 a5 a6 w5) else (bn2 (fX12_kind w5) fun x7 w8 => if x7 = 261 then (fX12_block_154 rc k_107 a2 a3 a5 a6 w8) else (bn2 (fX12_kind w8) fun x10 w11 => if x10 = 262 then (fX12_block_154 rc k_107 a2 a3 a5 a6 w11) else (bn2 (fX12_kind w11) fun x13 w14 => if x13 = 265 then (fX12_block_154 rc k_107 a2 a3 a5 a6 w14) else (oX12_block_212 rc FU a2 a3 a5 (-1) w14)))))
theorem pX12_block_107 {q : Gq} {l : Launch} {N : Option Value → Wd → Prop} {X : String → Wd → Prop} {rc : TX12_block} {dd : Nat} (hS : HSX12_block q l rc dd) (hK : 905 ≤ dd) {w : Wd} {R : Option Int32 × Wd} (hN : ∀ r : Int32, R.1 = some r → N (some (.int r)) R.2) (hX : R.1 = none → X RAE R.2) {k_107 : Int32 → Int32 → Int32 → Int32 → Wd → Option (Option Int32 × Wd)} (hk_107 : ∀ (a2 : Int32) (a3 : Int32) (a5 : Int32) (a6 : Int32) (w : Wd), k_107 a2 a3 a5 a6 w = some R → RT (GM q) l (dd + 1) yX12_block cX12_block 9 ((some .int)) N X 107 [] [(0, .ref 0), (2, .int a2), (3, .int a3), (5, .int a5), (6, .int a6)] w) {a2 : Int32} {a3 : Int32} {a5 : Int32} {a6 : Int32} (h : fX12_block_107 rc k_107 a2 a3 a5 a6 w = some R) : RT (GM q) l (dd + 1) yX12_block cX12_block 9 ((some .int)) N X 107 [] [(0, .ref 0), (2, .int a2), (3, .int a3), (5, .int a5), (6, .int a6)] w := by
  unfold fX12_block_107 at h
  refine r_aload_n (pc := 107) dX12_block_107 rfl 0 rfl ?_
  replace h := bn2_e h; obtain ⟨x1, w2, ew2, h⟩ := h
  refine r_cVi (pc := 108) wyX12_isType oM0 rfl mlRX12_507 iyX12_isType syX12_isType ⟨Nat.succ_le_succ (Nat.le_trans (Nat.le_of_ble_eq_true rfl) hK), (Nat.le_of_ble_eq_true rfl)⟩ rfl rfl (Nat.le_of_ble_eq_true rfl) dX12_block_108 (mX12_isType ew2 (pI.mk ?_))
  refine r_z_ne (pc := 111) dX12_block_111 rfl (fun hc3 => ?_) (fun hc3 => ?_)
  · replace h := if_t hc3 h
    exact pX12_block_154 hS hK hN hX hk_107 h
  replace h := if_f hc3 h
  refine r_aload_n (pc := 114) dX12_block_114 rfl 0 rfl ?_
  replace h := bn2_e h; obtain ⟨x4, w5, ew5, h⟩ := h
  refine r_cVi (pc := 115) wyX12_kind oM0 rfl mlRX12_452 iyX12_kind syX12_kind ⟨Nat.succ_le_succ (Nat.le_trans (Nat.le_of_ble_eq_true rfl) hK), (Nat.le_of_ble_eq_true rfl)⟩ rfl rfl (Nat.le_of_ble_eq_true rfl) dX12_block_115 (mX12_kind ew5 (pI.mk ?_))
  refine r_sipush (pc := 118) dX12_block_118 ks_258 ?_
  refine r_icmp_eq (pc := 121) dX12_block_121 rfl (fun hc6 => ?_) (fun hc6 => ?_)
  · replace h := if_t hc6 h
    exact pX12_block_154 hS hK hN hX hk_107 h
  replace h := if_f hc6 h
  refine r_aload_n (pc := 124) dX12_block_124 rfl 0 rfl ?_
  replace h := bn2_e h; obtain ⟨x7, w8, ew8, h⟩ := h
  refine r_cVi (pc := 125) wyX12_kind oM0 rfl mlRX12_452 iyX12_kind syX12_kind ⟨Nat.succ_le_succ (Nat.le_trans (Nat.le_of_ble_eq_true rfl) hK), (Nat.le_of_ble_eq_true rfl)⟩ rfl rfl (Nat.le_of_ble_eq_true rfl) dX12_block_125 (mX12_kind ew8 (pI.mk ?_))
  refine r_sipush (pc := 128) dX12_block_128 ks_261 ?_
  refine r_icmp_eq (pc := 131) dX12_block_131 rfl (fun hc9 => ?_) (fun hc9 => ?_)
  · replace h := if_t hc9 h
    exact pX12_block_154 hS hK hN hX hk_107 h
  replace h := if_f hc9 h
  refine r_aload_n (pc := 134) dX12_block_134 rfl 0 rfl ?_
  replace h := bn2_e h; obtain ⟨x10, w11, ew11, h⟩ := h
  refine r_cVi (pc := 135) wyX12_kind oM0 rfl mlRX12_452 iyX12_kind syX12_kind ⟨Nat.succ_le_succ (Nat.le_trans (Nat.le_of_ble_eq_true rfl) hK), (Nat.le_of_ble_eq_true rfl)⟩ rfl rfl (Nat.le_of_ble_eq_true rfl) dX12_block_135 (mX12_kind ew11 (pI.mk ?_))
  refine r_sipush (pc := 138) dX12_block_138 ks_262 ?_
  refine r_icmp_eq (pc := 141) dX12_block_141 rfl (fun hc12 => ?_) (fun hc12 => ?_)
  · replace h := if_t hc12 h
    exact pX12_block_154 hS hK hN hX hk_107 h
  replace h := if_f hc12 h
  refine r_aload_n (pc := 144) dX12_block_144 rfl 0 rfl ?_
  replace h := bn2_e h; obtain ⟨x13, w14, ew14, h⟩ := h
  refine r_cVi (pc := 145) wyX12_kind oM0 rfl mlRX12_452 iyX12_kind syX12_kind ⟨Nat.succ_le_succ (Nat.le_trans (Nat.le_of_ble_eq_true rfl) hK), (Nat.le_of_ble_eq_true rfl)⟩ rfl rfl (Nat.le_of_ble_eq_true rfl) dX12_block_145 (mX12_kind ew14 (pI.mk ?_))
  refine r_sipush (pc := 148) dX12_block_148 ks_265 ?_
  refine r_icmp_ne (pc := 151) dX12_block_151 rfl (fun hc15 => ?_) (fun hc15 => ?_)
  · replace h := if_f hc15 h
    refine r_iconst (pc := 209) dX12_block_209 ki_m1 ?_
    refine r_istore (pc := 210) (loc' := [(7, .int (-1)), (0, .ref 0), (2, .int a2), (3, .int a3), (5, .int a5), (6, .int a6)]) dX12_block_210 (Nat.le_of_ble_eq_true rfl) rfl ?_
    refine r_drop (loc' := [(0, .ref 0), (2, .int a2), (3, .int a3), (5, .int a5), (7, .int (-1))]) [1, 2, 3, 4, 0] rfl ?_
    exact qX12_block_212 hS hK hN hX FU a2 a3 a5 (-1) w14 h
  replace h := if_t hc15 h
  exact pX12_block_154 hS hK hN hX hk_107 h
def oX12_block_107 (rc : TX12_block) : Nat → Int32 → Int32 → Int32 → Int32 → Wd → Option (Option Int32 × Wd)
  | 0 => fun _ _ _ _ _ => none
  | n + 1 => fX12_block_107 rc (oX12_block_107 rc n)
theorem qX12_block_107 {q : Gq} {l : Launch} {N : Option Value → Wd → Prop} {X : String → Wd → Prop} {rc : TX12_block} {dd : Nat} (hS : HSX12_block q l rc dd) (hK : 905 ≤ dd) {R : Option Int32 × Wd} (hN : ∀ r : Int32, R.1 = some r → N (some (.int r)) R.2) (hX : R.1 = none → X RAE R.2) : ∀ (n : Nat) (a2 : Int32) (a3 : Int32) (a5 : Int32) (a6 : Int32) (w : Wd), oX12_block_107 rc n a2 a3 a5 a6 w = some R → RT (GM q) l (dd + 1) yX12_block cX12_block 9 ((some .int)) N X 107 [] [(0, .ref 0), (2, .int a2), (3, .int a3), (5, .int a5), (6, .int a6)] w := by
  intro n
  induction n with
  | zero =>
    intro a2 a3 a5 a6 w h
    exact absurd h (fun q => nomatch q)
  | succ n ih =>
    intro a2 a3 a5 a6 w h
    exact pX12_block_107 hS hK hN hX ih h
def fX12_block (rc : TX12_block) (w : Wd) : Option (Option Int32 × Wd) :=
  be (fX12_expect 256 w) fun x1 w2 => lt (si w2 0 8 ((gi w2 0 8) + 1)) fun w4 => lt ((gi w4 0 59)) fun x5 => lt (si w4 0 59 ((gi w4 0 59) + 1)) fun w6 => lt ((gi w6 0 29)) fun x7 => bn2 (fX12_newScope (gi w6 0 29) x5 w6) fun x8 w9 => lt (si w9 0 29 x8) fun w10 => lt ((gi w10 0 29)) fun x11 => bn2 (fX12_node 27 x5 0 0 x1 w10) fun x12 w13 => bn2 (fX12_slots 2 w13) fun x14 w15 => if inb x5 9000 = true then lt (si w15 41 (Int32.toNatClampNeg x5) x14) fun w17 => if inb x5 9000 = true then lt (si w17 39 (Int32.toNatClampNeg x5) (-1)) fun w19 => if inb x5 9000 = true then lt (si w19 40 (Int32.toNatClampNeg x5) (-1)) fun w21 => if inb x5 9000 = true then lt (si w21 42 (Int32.toNatClampNeg x5) (gi w21 0 29)) fun w23 => oX12_block_107 rc FU x5 x7 x12 (-1) w23 else none else none else none else none
set_option maxHeartbeats 16000000 in
theorem pX12_block {q : Gq} {l : Launch} {N : Option Value → Wd → Prop} {X : String → Wd → Prop} {rc : TX12_block} {dd : Nat} (hS : HSX12_block q l rc dd) (hK : 905 ≤ dd) {w : Wd} {R : Option Int32 × Wd} (hN : ∀ r : Int32, R.1 = some r → N (some (.int r)) R.2) (hX : R.1 = none → X RAE R.2) (h : fX12_block rc w = some R) : RT (GM q) l (dd + 1) yX12_block cX12_block 9 ((some .int)) N X 0 [] [(0, .ref 0)] w := by
  unfold fX12_block at h
  refine r_aload_n (pc := 0) dX12_block_0 rfl 0 rfl ?_
  refine r_sipush (pc := 1) dX12_block_1 ks_256 ?_
  replace h := be_e h; obtain ⟨o3, w2, ew2, h1, h2⟩ := h
  refine r_cVi (pc := 4) wyX12_expect oM0 rfl mlRX12_491 iyX12_expect syX12_expect ⟨Nat.succ_le_succ (Nat.le_trans (Nat.le_of_ble_eq_true rfl) hK), (Nat.le_of_ble_eq_true rfl)⟩ rfl rfl (Nat.le_of_ble_eq_true rfl) dX12_block_4 (mX12_expect ew2 (fun x1 ex1 => pI.mk ?_) (fun ez => be_x h2 ez hX))
  replace h := h1 _ ex1
  refine r_istore_n (pc := 7) (loc' := [(1, .int x1), (0, .ref 0)]) dX12_block_7 rfl (Nat.le_of_ble_eq_true rfl) rfl ?_
  refine r_aload_n (pc := 8) dX12_block_8 rfl 1 rfl ?_
  refine r_dup (pc := 9) dX12_block_9 rfl ?_
  refine r_get (pc := 10) (j := 8) (v := .int (gi w2 0 8)) oM0 cf12 flRX12_449 rfl dX12_block_10 rfl ?_
  refine r_iconst (pc := 13) dX12_block_13 ki_1 ?_
  refine r_iadd (pc := 14) dX12_block_14 ?_
  replace h := lt_e h; obtain ⟨w4, ew4, h⟩ := h
  refine r_putI (pc := 15) (j := 8) oM0 cf12 flRX12_449 rfl rfl rfl rfl dX12_block_15 ?_
  refine r_w ew4 ?_
  refine r_aload_n (pc := 18) dX12_block_18 rfl 1 rfl ?_
  refine r_get (pc := 19) (j := 59) (v := .int (gi w4 0 59)) oM0 cf12 flRX12_494 rfl dX12_block_19 rfl ?_
  replace h := lt_e h; obtain ⟨x5, ex5, h⟩ := h
  refine r_topi ex5 ?_
  refine r_istore_n (pc := 22) (loc' := [(2, .int x5), (1, .int x1), (0, .ref 0)]) dX12_block_22 rfl (Nat.le_of_ble_eq_true rfl) rfl ?_
  refine r_aload_n (pc := 23) dX12_block_23 rfl 2 rfl ?_
  refine r_dup (pc := 24) dX12_block_24 rfl ?_
  refine r_get (pc := 25) (j := 59) (v := .int (gi w4 0 59)) oM0 cf12 flRX12_494 rfl dX12_block_25 rfl ?_
  refine r_iconst (pc := 28) dX12_block_28 ki_1 ?_
  refine r_iadd (pc := 29) dX12_block_29 ?_
  replace h := lt_e h; obtain ⟨w6, ew6, h⟩ := h
  refine r_putI (pc := 30) (j := 59) oM0 cf12 flRX12_494 rfl rfl rfl rfl dX12_block_30 ?_
  refine r_w ew6 ?_
  refine r_aload_n (pc := 33) dX12_block_33 rfl 2 rfl ?_
  refine r_get (pc := 34) (j := 29) (v := .int (gi w6 0 29)) oM0 cf12 flRX12_471 rfl dX12_block_34 rfl ?_
  replace h := lt_e h; obtain ⟨x7, ex7, h⟩ := h
  refine r_topi ex7 ?_
  refine r_istore_n (pc := 37) (loc' := [(3, .int x7), (2, .int x5), (1, .int x1), (0, .ref 0)]) dX12_block_37 rfl (Nat.le_of_ble_eq_true rfl) rfl ?_
  refine r_aload_n (pc := 38) dX12_block_38 rfl 3 rfl ?_
  refine r_aload_n (pc := 39) dX12_block_39 rfl 3 rfl ?_
  refine r_aload_n (pc := 40) dX12_block_40 rfl 3 rfl ?_
  refine r_get (pc := 41) (j := 29) (v := .int (gi w6 0 29)) oM0 cf12 flRX12_471 rfl dX12_block_41 rfl ?_
  refine r_iload_n (pc := 44) dX12_block_44 rfl 1 rfl ?_
  replace h := bn2_e h; obtain ⟨x8, w9, ew9, h⟩ := h
  refine r_cVi (pc := 45) wyX12_newScope oM0 rfl mlRX12_497 iyX12_newScope syX12_newScope ⟨Nat.succ_le_succ (Nat.le_trans (Nat.le_of_ble_eq_true rfl) hK), (Nat.le_of_ble_eq_true rfl)⟩ rfl rfl (Nat.le_of_ble_eq_true rfl) dX12_block_45 (mX12_newScope ew9 (pI.mk ?_))
  replace h := lt_e h; obtain ⟨w10, ew10, h⟩ := h
  refine r_putI (pc := 48) (j := 29) oM0 cf12 flRX12_471 rfl rfl rfl rfl dX12_block_48 ?_
  refine r_w ew10 ?_
  refine r_aload_n (pc := 51) dX12_block_51 rfl 3 rfl ?_
  refine r_get (pc := 52) (j := 29) (v := .int (gi w10 0 29)) oM0 cf12 flRX12_471 rfl dX12_block_52 rfl ?_
  replace h := lt_e h; obtain ⟨x11, ex11, h⟩ := h
  refine r_topi ex11 ?_
  refine r_istore (pc := 55) (loc' := [(4, .int x11), (3, .int x7), (2, .int x5), (1, .int x1), (0, .ref 0)]) dX12_block_55 (Nat.le_of_ble_eq_true rfl) rfl ?_
  refine r_aload_n (pc := 57) dX12_block_57 rfl 4 rfl ?_
  refine r_bipush (pc := 58) dX12_block_58 kb_27 ?_
  refine r_iload_n (pc := 60) dX12_block_60 rfl 2 rfl ?_
  refine r_iconst (pc := 61) dX12_block_61 ki_0 ?_
  refine r_iconst (pc := 62) dX12_block_62 ki_0 ?_
  refine r_iload_n (pc := 63) dX12_block_63 rfl 3 rfl ?_
  replace h := bn2_e h; obtain ⟨x12, w13, ew13, h⟩ := h
  refine r_cVi (pc := 64) wyX12_node oM0 rfl mlRX12_500 iyX12_node syX12_node ⟨Nat.succ_le_succ (Nat.le_trans (Nat.le_of_ble_eq_true rfl) hK), (Nat.le_of_ble_eq_true rfl)⟩ rfl rfl (Nat.le_of_ble_eq_true rfl) dX12_block_64 (mX12_node ew13 (pI.mk ?_))
  refine r_istore (pc := 67) (loc' := [(5, .int x12), (4, .int x11), (3, .int x7), (2, .int x5), (1, .int x1), (0, .ref 0)]) dX12_block_67 (Nat.le_of_ble_eq_true rfl) rfl ?_
  refine r_aload_n (pc := 69) dX12_block_69 rfl 5 rfl ?_
  refine r_get (pc := 70) (j := 57) (v := .ref 41) oM0 cf12 flRX12_202 rfl dX12_block_70 rfl ?_
  refine r_iload_n (pc := 73) dX12_block_73 rfl 3 rfl ?_
  refine r_aload_n (pc := 74) dX12_block_74 rfl 5 rfl ?_
  refine r_iconst (pc := 75) dX12_block_75 ki_2 ?_
  replace h := bn2_e h; obtain ⟨x14, w15, ew15, h⟩ := h
  refine r_cVi (pc := 76) wyX12_slots oM0 rfl mlRX12_504 iyX12_slots syX12_slots ⟨Nat.succ_le_succ (Nat.le_trans (Nat.le_of_ble_eq_true rfl) hK), (Nat.le_of_ble_eq_true rfl)⟩ rfl rfl (Nat.le_of_ble_eq_true rfl) dX12_block_76 (mX12_slots ew15 (pI.mk ?_))
  replace h := if_n h; obtain ⟨hb16, h⟩ := h
  replace h := lt_e h; obtain ⟨w17, ew17, h⟩ := h
  refine r_iast (pc := 79) aM41 (inb_in hb16) dX12_block_79 ?_
  refine r_w ew17 ?_
  refine r_aload_n (pc := 80) dX12_block_80 rfl 5 rfl ?_
  refine r_get (pc := 81) (j := 55) (v := .ref 39) oM0 cf12 flRX12_196 rfl dX12_block_81 rfl ?_
  refine r_iload_n (pc := 84) dX12_block_84 rfl 3 rfl ?_
  refine r_iconst (pc := 85) dX12_block_85 ki_m1 ?_
  replace h := if_n h; obtain ⟨hb18, h⟩ := h
  replace h := lt_e h; obtain ⟨w19, ew19, h⟩ := h
  refine r_iast (pc := 86) aM39 (inb_in hb18) dX12_block_86 ?_
  refine r_w ew19 ?_
  refine r_aload_n (pc := 87) dX12_block_87 rfl 5 rfl ?_
  refine r_get (pc := 88) (j := 56) (v := .ref 40) oM0 cf12 flRX12_199 rfl dX12_block_88 rfl ?_
  refine r_iload_n (pc := 91) dX12_block_91 rfl 3 rfl ?_
  refine r_iconst (pc := 92) dX12_block_92 ki_m1 ?_
  replace h := if_n h; obtain ⟨hb20, h⟩ := h
  replace h := lt_e h; obtain ⟨w21, ew21, h⟩ := h
  refine r_iast (pc := 93) aM40 (inb_in hb20) dX12_block_93 ?_
  refine r_w ew21 ?_
  refine r_aload_n (pc := 94) dX12_block_94 rfl 5 rfl ?_
  refine r_get (pc := 95) (j := 58) (v := .ref 42) oM0 cf12 flRX12_205 rfl dX12_block_95 rfl ?_
  refine r_iload_n (pc := 98) dX12_block_98 rfl 3 rfl ?_
  refine r_aload_n (pc := 99) dX12_block_99 rfl 5 rfl ?_
  refine r_get (pc := 100) (j := 29) (v := .int (gi w21 0 29)) oM0 cf12 flRX12_471 rfl dX12_block_100 rfl ?_
  replace h := if_n h; obtain ⟨hb22, h⟩ := h
  replace h := lt_e h; obtain ⟨w23, ew23, h⟩ := h
  refine r_iast (pc := 103) aM42 (inb_in hb22) dX12_block_103 ?_
  refine r_w ew23 ?_
  refine r_iconst (pc := 104) dX12_block_104 ki_m1 ?_
  refine r_istore (pc := 105) (loc' := [(6, .int (-1)), (5, .int x12), (4, .int x11), (3, .int x7), (2, .int x5), (1, .int x1), (0, .ref 0)]) dX12_block_105 (Nat.le_of_ble_eq_true rfl) rfl ?_
  refine r_drop (loc' := [(0, .ref 0), (2, .int x5), (3, .int x7), (5, .int x12), (6, .int (-1))]) [6, 4, 3, 1, 0] rfl ?_
  exact qX12_block_107 hS hK hN hX FU x5 x7 x12 (-1) w23 h
def BX12_block (rc : TX12_block) : TX12_block := fun i a b c w => match i with
  | 0 => fX12_block rc  w
  | 1 => fX12_declaration rc a w
  | 2 => fX12_procedure rc a w
  | 3 => fX12_inner rc  w
  | 4 => fX12_statement rc  w
  | 5 => fX12_plain rc  w
  | 6 => fX12_loop rc  w
  | _ => none
def RX12_block : Nat → TX12_block
  | 0 => fun _ _ _ _ _ => none
  | n + 1 => BX12_block (RX12_block n)
theorem hzX12_block {q : Gq} {l : Launch} (dd : Nat) : HSX12_block q l (RX12_block 0) dd :=
  ⟨fun _ _ _ _ _ h => absurd h (fun q => nomatch q),
    fun _ _ _ _ _ _ h => absurd h (fun q => nomatch q),
    fun _ _ _ _ _ _ h => absurd h (fun q => nomatch q),
    fun _ _ _ _ _ h => absurd h (fun q => nomatch q),
    fun _ _ _ _ _ h => absurd h (fun q => nomatch q),
    fun _ _ _ _ _ h => absurd h (fun q => nomatch q),
    fun _ _ _ _ _ h => absurd h (fun q => nomatch q)⟩
theorem hnX12_block {q : Gq} {l : Launch} {rc : TX12_block} {dd : Nat} (ih : HSX12_block q l rc dd) (hK : 905 ≤ dd) : HSX12_block q l (BX12_block rc) (dd + 1) :=
  ⟨fun _ _ _ _ _ h hN hX => Ct.of (by decide) (Nat.le_of_ble_eq_true rfl) (pX12_block ih hK hN hX h),
    fun _ _ _ _ _ _ h hN hX => Ct.of (by decide) (Nat.le_of_ble_eq_true rfl) (pX12_declaration ih hK hN hX h),
    fun _ _ _ _ _ _ h hN hX => Ct.of (by decide) (Nat.le_of_ble_eq_true rfl) (pX12_procedure ih hK hN hX h),
    fun _ _ _ _ _ h hN hX => Ct.of (by decide) (Nat.le_of_ble_eq_true rfl) (pX12_inner ih hK hN hX h),
    fun _ _ _ _ _ h hN hX => Ct.of (by decide) (Nat.le_of_ble_eq_true rfl) (pX12_statement ih hK hN hX h),
    fun _ _ _ _ _ h hN hX => Ct.of (by decide) (Nat.le_of_ble_eq_true rfl) (pX12_plain ih hK hN hX h),
    fun _ _ _ _ _ h hN hX => Ct.of (by decide) (Nat.le_of_ble_eq_true rfl) (pX12_loop ih hK hN hX h)⟩
theorem hsX12_block {q : Gq} {l : Launch} (b9 : Nat) (hb : 905 ≤ b9) : ∀ n : Nat, HSX12_block q l (RX12_block n) (b9 + n) := by
  intro n
  induction n with
  | zero => exact hzX12_block (b9 + 0)
  | succ n ih => exact hnX12_block (rc := RX12_block n) (dd := b9 + n) ih (Nat.le_trans hb (Nat.le_add_right _ _))
theorem mX12_block {q : Gq} {l : Launch} {N : Option Value → Wd → Prop} {X : String → Wd → Prop} {w : Wd} {o : Option Int32} {u : Wd} (h : RX12_block 900 0 0 0 0 w = some (o, u)) (hN : ∀ r : Int32, o = some r → N (some (.int r)) u) (hX : o = none → X RAE u) : Ct (GM q) l 1805 yX12_block cX12_block 9 ((some .int)) [.ref 0] w N X := (hsX12_block 905 (Nat.le_refl _) 900).1 _ _ _ _ _ h hN hX
theorem mX12_declaration {q : Gq} {l : Launch} {N : Option Value → Wd → Prop} {X : String → Wd → Prop} {a1 : Int32} {w : Wd} {o : Option Int32} {u : Wd} (h : RX12_block 900 1 a1 0 0 w = some (o, u)) (hN : ∀ r : Int32, o = some r → N (some (.int r)) u) (hX : o = none → X RAE u) : Ct (GM q) l 1805 yX12_declaration cX12_declaration 5 ((some .int)) [.ref 0, .int a1] w N X := (hsX12_block 905 (Nat.le_refl _) 900).2.1 _ _ _ _ _ _ h hN hX
theorem mX12_procedure {q : Gq} {l : Launch} {N : Option Value → Wd → Prop} {X : String → Wd → Prop} {a1 : Int32} {w : Wd} {o : Option Int32} {u : Wd} (h : RX12_block 900 2 a1 0 0 w = some (o, u)) (hN : ∀ r : Int32, o = some r → N none u) (hX : o = none → X RAE u) : Ct (GM q) l 1805 yX12_procedure cX12_procedure 11 (none) [.ref 0, .int a1] w N X := (hsX12_block 905 (Nat.le_refl _) 900).2.2.1 _ _ _ _ _ _ h hN hX
theorem mX12_inner {q : Gq} {l : Launch} {N : Option Value → Wd → Prop} {X : String → Wd → Prop} {w : Wd} {o : Option Int32} {u : Wd} (h : RX12_block 900 3 0 0 0 w = some (o, u)) (hN : ∀ r : Int32, o = some r → N (some (.int r)) u) (hX : o = none → X RAE u) : Ct (GM q) l 1805 yX12_inner cX12_inner 3 ((some .int)) [.ref 0] w N X := (hsX12_block 905 (Nat.le_refl _) 900).2.2.2.1 _ _ _ _ _ h hN hX
theorem mX12_statement {q : Gq} {l : Launch} {N : Option Value → Wd → Prop} {X : String → Wd → Prop} {w : Wd} {o : Option Int32} {u : Wd} (h : RX12_block 900 4 0 0 0 w = some (o, u)) (hN : ∀ r : Int32, o = some r → N (some (.int r)) u) (hX : o = none → X RAE u) : Ct (GM q) l 1805 yX12_statement cX12_statement 4 ((some .int)) [.ref 0] w N X := (hsX12_block 905 (Nat.le_refl _) 900).2.2.2.2.1 _ _ _ _ _ h hN hX
theorem mX12_plain {q : Gq} {l : Launch} {N : Option Value → Wd → Prop} {X : String → Wd → Prop} {w : Wd} {o : Option Int32} {u : Wd} (h : RX12_block 900 5 0 0 0 w = some (o, u)) (hN : ∀ r : Int32, o = some r → N (some (.int r)) u) (hX : o = none → X RAE u) : Ct (GM q) l 1805 yX12_plain cX12_plain 6 ((some .int)) [.ref 0] w N X := (hsX12_block 905 (Nat.le_refl _) 900).2.2.2.2.2.1 _ _ _ _ _ h hN hX
theorem mX12_loop {q : Gq} {l : Launch} {N : Option Value → Wd → Prop} {X : String → Wd → Prop} {w : Wd} {o : Option Int32} {u : Wd} (h : RX12_block 900 6 0 0 0 w = some (o, u)) (hN : ∀ r : Int32, o = some r → N (some (.int r)) u) (hX : o = none → X RAE u) : Ct (GM q) l 1805 yX12_loop cX12_loop 10 ((some .int)) [.ref 0] w N X := (hsX12_block 905 (Nat.le_refl _) 900).2.2.2.2.2.2 _ _ _ _ _ h hN hX
