/-! the reference: methods that call each other -/
/-! X12_row: methods that call each other: 0 X12_row, 1 X12_statementCode, 2 X12_forCode, 3 X12_blockCode -/
abbrev TX12_row : Type := Nat → Int32 → Int32 → Int32 → Wd → Option (Int32 × Wd)
def HX12_row (q : Gq) (l : Launch) (rc : TX12_row) (dd : Nat) : Prop := ∀ (a1 : Int32) (w : Wd) (x : Int32) (u : Wd) (N : Option Value → Wd → Prop) (X : String → Wd → Prop), rc 0 a1 0 0 w = some (x, u) → N none u → Ct (GM q) l dd yX12_row cX12_row 3 (none) [.ref 0, .int a1] w N X
def HX12_statementCode (q : Gq) (l : Launch) (rc : TX12_row) (dd : Nat) : Prop := ∀ (a1 : Int32) (w : Wd) (x : Int32) (u : Wd) (N : Option Value → Wd → Prop) (X : String → Wd → Prop), rc 1 a1 0 0 w = some (x, u) → N none u → Ct (GM q) l dd yX12_statementCode cX12_statementCode 7 (none) [.ref 0, .int a1] w N X
def HX12_forCode (q : Gq) (l : Launch) (rc : TX12_row) (dd : Nat) : Prop := ∀ (a1 : Int32) (w : Wd) (x : Int32) (u : Wd) (N : Option Value → Wd → Prop) (X : String → Wd → Prop), rc 2 a1 0 0 w = some (x, u) → N none u → Ct (GM q) l dd yX12_forCode cX12_forCode 15 (none) [.ref 0, .int a1] w N X
def HX12_blockCode (q : Gq) (l : Launch) (rc : TX12_row) (dd : Nat) : Prop := ∀ (a1 : Int32) (w : Wd) (x : Int32) (u : Wd) (N : Option Value → Wd → Prop) (X : String → Wd → Prop), rc 3 a1 0 0 w = some (x, u) → N none u → Ct (GM q) l dd yX12_blockCode cX12_blockCode 6 (none) [.ref 0, .int a1] w N X
def HSX12_row (q : Gq) (l : Launch) (rc : TX12_row) (dd : Nat) : Prop := HX12_row q l rc dd ∧ HX12_statementCode q l rc dd ∧ HX12_forCode q l rc dd ∧ HX12_blockCode q l rc dd
/-! AlgolMillModel.blockCode (I)V: O, 1908 -/
theorem dX12_blockCode_0 : decode cX12_blockCode 0 = .ok (.aload_n 0, 1) := by decide +kernel
theorem dX12_blockCode_1 : decode cX12_blockCode 1 = .ok (.bipush 23, 2) := by decide +kernel
theorem dX12_blockCode_3 : decode cX12_blockCode 3 = .ok (.iload_n 1, 1) := by decide +kernel
theorem dX12_blockCode_4 : decode cX12_blockCode 4 = .ok (.iconst 0, 1) := by decide +kernel
theorem dX12_blockCode_5 : decode cX12_blockCode 5 = .ok (.iconst 0, 1) := by decide +kernel
theorem dX12_blockCode_6 : decode cX12_blockCode 6 = .ok (.invokevirtual 609, 3) := by decide +kernel
theorem dX12_blockCode_9 : decode cX12_blockCode 9 = .ok (.istore_n 2, 1) := by decide +kernel
theorem dX12_blockCode_10 : decode cX12_blockCode 10 = .ok (.aload_n 0, 1) := by decide +kernel
theorem dX12_blockCode_11 : decode cX12_blockCode 11 = .ok (.getfield 199, 3) := by decide +kernel
theorem dX12_blockCode_14 : decode cX12_blockCode 14 = .ok (.iload_n 1, 1) := by decide +kernel
theorem dX12_blockCode_15 : decode cX12_blockCode 15 = .ok (.iaload, 1) := by decide +kernel
theorem dX12_blockCode_16 : decode cX12_blockCode 16 = .ok (.istore_n 3, 1) := by decide +kernel
theorem dX12_blockCode_17 : decode cX12_blockCode 17 = .ok (.iload_n 3, 1) := by decide +kernel
theorem dX12_blockCode_18 : decode cX12_blockCode 18 = .ok (.ifCond .lt 106, 3) := by decide +kernel
theorem dX12_blockCode_21 : decode cX12_blockCode 21 = .ok (.iconst 0, 1) := by decide +kernel
theorem dX12_blockCode_22 : decode cX12_blockCode 22 = .ok (.istore 4, 2) := by decide +kernel
theorem dX12_blockCode_24 : decode cX12_blockCode 24 = .ok (.aload_n 0, 1) := by decide +kernel
theorem dX12_blockCode_25 : decode cX12_blockCode 25 = .ok (.getfield 108, 3) := by decide +kernel
theorem dX12_blockCode_28 : decode cX12_blockCode 28 = .ok (.iload_n 3, 1) := by decide +kernel
theorem dX12_blockCode_29 : decode cX12_blockCode 29 = .ok (.iaload, 1) := by decide +kernel
theorem dX12_blockCode_30 : decode cX12_blockCode 30 = .ok (.istore 5, 2) := by decide +kernel
theorem dX12_blockCode_32 : decode cX12_blockCode 32 = .ok (.iload 5, 2) := by decide +kernel
theorem dX12_blockCode_34 : decode cX12_blockCode 34 = .ok (.ifCond .lt 25, 3) := by decide +kernel
theorem dX12_blockCode_37 : decode cX12_blockCode 37 = .ok (.aload_n 0, 1) := by decide +kernel
theorem dX12_blockCode_38 : decode cX12_blockCode 38 = .ok (.iload 5, 2) := by decide +kernel
theorem dX12_blockCode_40 : decode cX12_blockCode 40 = .ok (.iconst 1, 1) := by decide +kernel
theorem dX12_blockCode_41 : decode cX12_blockCode 41 = .ok (.invokevirtual 622, 3) := by decide +kernel
theorem dX12_blockCode_44 : decode cX12_blockCode 44 = .ok (.iinc 4 1, 3) := by decide +kernel
theorem dX12_blockCode_47 : decode cX12_blockCode 47 = .ok (.aload_n 0, 1) := by decide +kernel
theorem dX12_blockCode_48 : decode cX12_blockCode 48 = .ok (.getfield 111, 3) := by decide +kernel
theorem dX12_blockCode_51 : decode cX12_blockCode 51 = .ok (.iload 5, 2) := by decide +kernel
theorem dX12_blockCode_53 : decode cX12_blockCode 53 = .ok (.iaload, 1) := by decide +kernel
theorem dX12_blockCode_54 : decode cX12_blockCode 54 = .ok (.istore 5, 2) := by decide +kernel
theorem dX12_blockCode_56 : decode cX12_blockCode 56 = .ok (.goto (-24), 3) := by decide +kernel
theorem dX12_blockCode_59 : decode cX12_blockCode 59 = .ok (.aload_n 0, 1) := by decide +kernel
theorem dX12_blockCode_60 : decode cX12_blockCode 60 = .ok (.getfield 102, 3) := by decide +kernel
theorem dX12_blockCode_63 : decode cX12_blockCode 63 = .ok (.iload_n 3, 1) := by decide +kernel
theorem dX12_blockCode_64 : decode cX12_blockCode 64 = .ok (.iaload, 1) := by decide +kernel
theorem dX12_blockCode_65 : decode cX12_blockCode 65 = .ok (.istore 5, 2) := by decide +kernel
theorem dX12_blockCode_67 : decode cX12_blockCode 67 = .ok (.iload 5, 2) := by decide +kernel
theorem dX12_blockCode_69 : decode cX12_blockCode 69 = .ok (.aload_n 0, 1) := by decide +kernel
theorem dX12_blockCode_70 : decode cX12_blockCode 70 = .ok (.getfield 105, 3) := by decide +kernel
theorem dX12_blockCode_73 : decode cX12_blockCode 73 = .ok (.iload_n 3, 1) := by decide +kernel
theorem dX12_blockCode_74 : decode cX12_blockCode 74 = .ok (.iaload, 1) := by decide +kernel
theorem dX12_blockCode_75 : decode cX12_blockCode 75 = .ok (.if_icmp .ge 28, 3) := by decide +kernel
theorem dX12_blockCode_78 : decode cX12_blockCode 78 = .ok (.aload_n 0, 1) := by decide +kernel
theorem dX12_blockCode_79 : decode cX12_blockCode 79 = .ok (.bipush 24, 2) := by decide +kernel
theorem dX12_blockCode_81 : decode cX12_blockCode 81 = .ok (.aload_n 0, 1) := by decide +kernel
theorem dX12_blockCode_82 : decode cX12_blockCode 82 = .ok (.getfield 156, 3) := by decide +kernel
theorem dX12_blockCode_85 : decode cX12_blockCode 85 = .ok (.iload 5, 2) := by decide +kernel
theorem dX12_blockCode_87 : decode cX12_blockCode 87 = .ok (.iaload, 1) := by decide +kernel
theorem dX12_blockCode_88 : decode cX12_blockCode 88 = .ok (.iload 4, 2) := by decide +kernel
theorem dX12_blockCode_90 : decode cX12_blockCode 90 = .ok (.iconst 2, 1) := by decide +kernel
theorem dX12_blockCode_91 : decode cX12_blockCode 91 = .ok (.idiv, 1) := by decide +kernel
theorem dX12_blockCode_92 : decode cX12_blockCode 92 = .ok (.iconst 0, 1) := by decide +kernel
theorem dX12_blockCode_93 : decode cX12_blockCode 93 = .ok (.invokevirtual 609, 3) := by decide +kernel
theorem dX12_blockCode_96 : decode cX12_blockCode 96 = .ok (.istore_n 2, 1) := by decide +kernel
theorem dX12_blockCode_97 : decode cX12_blockCode 97 = .ok (.iinc 5 1, 3) := by decide +kernel
theorem dX12_blockCode_100 : decode cX12_blockCode 100 = .ok (.goto (-33), 3) := by decide +kernel
theorem dX12_blockCode_103 : decode cX12_blockCode 103 = .ok (.aload_n 0, 1) := by decide +kernel
theorem dX12_blockCode_104 : decode cX12_blockCode 104 = .ok (.bipush 25, 2) := by decide +kernel
theorem dX12_blockCode_106 : decode cX12_blockCode 106 = .ok (.iload 4, 2) := by decide +kernel
theorem dX12_blockCode_108 : decode cX12_blockCode 108 = .ok (.iconst 0, 1) := by decide +kernel
theorem dX12_blockCode_109 : decode cX12_blockCode 109 = .ok (.iconst 0, 1) := by decide +kernel
theorem dX12_blockCode_110 : decode cX12_blockCode 110 = .ok (.invokevirtual 609, 3) := by decide +kernel
theorem dX12_blockCode_113 : decode cX12_blockCode 113 = .ok (.istore_n 2, 1) := by decide +kernel
theorem dX12_blockCode_114 : decode cX12_blockCode 114 = .ok (.aload_n 0, 1) := by decide +kernel
theorem dX12_blockCode_115 : decode cX12_blockCode 115 = .ok (.getfield 111, 3) := by decide +kernel
theorem dX12_blockCode_118 : decode cX12_blockCode 118 = .ok (.iload_n 3, 1) := by decide +kernel
theorem dX12_blockCode_119 : decode cX12_blockCode 119 = .ok (.iaload, 1) := by decide +kernel
theorem dX12_blockCode_120 : decode cX12_blockCode 120 = .ok (.istore_n 3, 1) := by decide +kernel
theorem dX12_blockCode_121 : decode cX12_blockCode 121 = .ok (.goto (-104), 3) := by decide +kernel
theorem dX12_blockCode_124 : decode cX12_blockCode 124 = .ok (.aload_n 0, 1) := by decide +kernel
theorem dX12_blockCode_125 : decode cX12_blockCode 125 = .ok (.bipush 26, 2) := by decide +kernel
theorem dX12_blockCode_127 : decode cX12_blockCode 127 = .ok (.iload_n 1, 1) := by decide +kernel
theorem dX12_blockCode_128 : decode cX12_blockCode 128 = .ok (.iconst 0, 1) := by decide +kernel
theorem dX12_blockCode_129 : decode cX12_blockCode 129 = .ok (.iconst 0, 1) := by decide +kernel
theorem dX12_blockCode_130 : decode cX12_blockCode 130 = .ok (.invokevirtual 609, 3) := by decide +kernel
theorem dX12_blockCode_133 : decode cX12_blockCode 133 = .ok (.istore_n 2, 1) := by decide +kernel
theorem dX12_blockCode_134 : decode cX12_blockCode 134 = .ok (.aload_n 0, 1) := by decide +kernel
theorem dX12_blockCode_135 : decode cX12_blockCode 135 = .ok (.getfield 126, 3) := by decide +kernel
theorem dX12_blockCode_138 : decode cX12_blockCode 138 = .ok (.aload_n 0, 1) := by decide +kernel
theorem dX12_blockCode_139 : decode cX12_blockCode 139 = .ok (.getfield 205, 3) := by decide +kernel
theorem dX12_blockCode_142 : decode cX12_blockCode 142 = .ok (.iload_n 1, 1) := by decide +kernel
theorem dX12_blockCode_143 : decode cX12_blockCode 143 = .ok (.iaload, 1) := by decide +kernel
theorem dX12_blockCode_144 : decode cX12_blockCode 144 = .ok (.iaload, 1) := by decide +kernel
theorem dX12_blockCode_145 : decode cX12_blockCode 145 = .ok (.istore_n 3, 1) := by decide +kernel
theorem dX12_blockCode_146 : decode cX12_blockCode 146 = .ok (.iload_n 3, 1) := by decide +kernel
theorem dX12_blockCode_147 : decode cX12_blockCode 147 = .ok (.ifCond .lt 28, 3) := by decide +kernel
theorem dX12_blockCode_150 : decode cX12_blockCode 150 = .ok (.aload_n 0, 1) := by decide +kernel
theorem dX12_blockCode_151 : decode cX12_blockCode 151 = .ok (.getfield 135, 3) := by decide +kernel
theorem dX12_blockCode_154 : decode cX12_blockCode 154 = .ok (.iload_n 3, 1) := by decide +kernel
theorem dX12_blockCode_155 : decode cX12_blockCode 155 = .ok (.iaload, 1) := by decide +kernel
theorem dX12_blockCode_156 : decode cX12_blockCode 156 = .ok (.iconst 5, 1) := by decide +kernel
theorem dX12_blockCode_157 : decode cX12_blockCode 157 = .ok (.if_icmp .ne 8, 3) := by decide +kernel
theorem dX12_blockCode_160 : decode cX12_blockCode 160 = .ok (.aload_n 0, 1) := by decide +kernel
theorem dX12_blockCode_161 : decode cX12_blockCode 161 = .ok (.iload_n 3, 1) := by decide +kernel
theorem dX12_blockCode_162 : decode cX12_blockCode 162 = .ok (.invokevirtual 724, 3) := by decide +kernel
theorem dX12_blockCode_165 : decode cX12_blockCode 165 = .ok (.aload_n 0, 1) := by decide +kernel
theorem dX12_blockCode_166 : decode cX12_blockCode 166 = .ok (.getfield 141, 3) := by decide +kernel
theorem dX12_blockCode_169 : decode cX12_blockCode 169 = .ok (.iload_n 3, 1) := by decide +kernel
theorem dX12_blockCode_170 : decode cX12_blockCode 170 = .ok (.iaload, 1) := by decide +kernel
theorem dX12_blockCode_171 : decode cX12_blockCode 171 = .ok (.istore_n 3, 1) := by decide +kernel
theorem dX12_blockCode_172 : decode cX12_blockCode 172 = .ok (.goto (-26), 3) := by decide +kernel
theorem dX12_blockCode_175 : decode cX12_blockCode 175 = .ok (.aload_n 0, 1) := by decide +kernel
theorem dX12_blockCode_176 : decode cX12_blockCode 176 = .ok (.aload_n 0, 1) := by decide +kernel
theorem dX12_blockCode_177 : decode cX12_blockCode 177 = .ok (.getfield 196, 3) := by decide +kernel
theorem dX12_blockCode_180 : decode cX12_blockCode 180 = .ok (.iload_n 1, 1) := by decide +kernel
theorem dX12_blockCode_181 : decode cX12_blockCode 181 = .ok (.iaload, 1) := by decide +kernel
theorem dX12_blockCode_182 : decode cX12_blockCode 182 = .ok (.invokevirtual 727, 3) := by decide +kernel
theorem dX12_blockCode_185 : decode cX12_blockCode 185 = .ok (.aload_n 0, 1) := by decide +kernel
theorem dX12_blockCode_186 : decode cX12_blockCode 186 = .ok (.bipush 27, 2) := by decide +kernel
theorem dX12_blockCode_188 : decode cX12_blockCode 188 = .ok (.iload_n 1, 1) := by decide +kernel
theorem dX12_blockCode_189 : decode cX12_blockCode 189 = .ok (.iconst 0, 1) := by decide +kernel
theorem dX12_blockCode_190 : decode cX12_blockCode 190 = .ok (.iconst 0, 1) := by decide +kernel
theorem dX12_blockCode_191 : decode cX12_blockCode 191 = .ok (.invokevirtual 609, 3) := by decide +kernel
theorem dX12_blockCode_194 : decode cX12_blockCode 194 = .ok (.istore_n 2, 1) := by decide +kernel
theorem dX12_blockCode_195 : decode cX12_blockCode 195 = .ok (.return_, 1) := by decide +kernel
def fX12_blockCode_146 (rc : TX12_row) (k_146 : Int32 → Int32 → Wd → Option (Int32 × Wd)) (a1 : Int32) (a3 : Int32) (w : Wd) : Option (Int32 × Wd) :=
  if a3 < 0 then (if inb a1 9000 = true then bn2 (rc 0 (gi w 39 (Int32.toNatClampNeg a1)) 0 0 w) fun _ w4 => bn2 (fX12_op 27 a1 0 0 w4) fun x5 w6 => some (0, w6) else none) else (if inb a3 5000 = true then if (gi w 19 (Int32.toNatClampNeg a3)) = 5 then (bn (fX12_switchCode a3 w) fun w9 => if inb a3 5000 = true then lt ((gi w9 21 (Int32.toNatClampNeg a3))) fun x11 => k_146 a1 x11 w9 else none) else (if inb a3 5000 = true then lt ((gi w 21 (Int32.toNatClampNeg a3))) fun x13 => k_146 a1 x13 w else none) else none)
theorem pX12_blockCode_146 {q : Gq} {l : Launch} {N : Option Value → Wd → Prop} {X : String → Wd → Prop} {rc : TX12_row} {dd : Nat} (hS : HSX12_row q l rc dd) (hK : 1708 ≤ dd) {w : Wd} {R : Int32 × Wd} (hN : N none R.2) {k_146 : Int32 → Int32 → Wd → Option (Int32 × Wd)} (hk_146 : ∀ (a1 : Int32) (a3 : Int32) (w : Wd), k_146 a1 a3 w = some R → RT (GM q) l (dd + 1) yX12_blockCode cX12_blockCode 6 (none) N X 146 [] [(0, .ref 0), (1, .int a1), (3, .int a3)] w) {a1 : Int32} {a3 : Int32} (h : fX12_blockCode_146 rc k_146 a1 a3 w = some R) : RT (GM q) l (dd + 1) yX12_blockCode cX12_blockCode 6 (none) N X 146 [] [(0, .ref 0), (1, .int a1), (3, .int a3)] w := by
  unfold fX12_blockCode_146 at h
  refine r_iload_n (pc := 146) dX12_blockCode_146 rfl 2 rfl ?_
  refine r_if_lt (pc := 147) dX12_blockCode_147 rfl (fun hc1 => ?_) (fun hc1 => ?_)
  · replace h := if_t hc1 h
    refine r_aload_n (pc := 175) dX12_blockCode_175 rfl 0 rfl ?_
    refine r_aload_n (pc := 176) dX12_blockCode_176 rfl 0 rfl ?_
    refine r_get (pc := 177) (j := 55) (v := .ref 39) oM0 cf12 flRX12_196 rfl dX12_blockCode_177 rfl ?_
    refine r_iload_n (pc := 180) dX12_blockCode_180 rfl 1 rfl ?_
    replace h := if_n h; obtain ⟨hb2, h⟩ := h
    refine r_iald (pc := 181) aM39 (inb_in hb2) dX12_blockCode_181 ?_
    replace h := bn2_e h; obtain ⟨x3, w4, ew4, h⟩ := h
    refine r_cVv (pc := 182) wyX12_row oM0 rfl mlRX12_727 iyX12_row syX12_row ⟨Nat.le_refl _, (Nat.le_of_ble_eq_true rfl)⟩ rfl rfl (Nat.le_of_ble_eq_true rfl) dX12_blockCode_182 ((hS.1 _ _ _ _ _ _) ew4 (pV.mk ?_))
    refine r_aload_n (pc := 185) dX12_blockCode_185 rfl 0 rfl ?_
    refine r_bipush (pc := 186) dX12_blockCode_186 kb_27 ?_
    refine r_iload_n (pc := 188) dX12_blockCode_188 rfl 1 rfl ?_
    refine r_iconst (pc := 189) dX12_blockCode_189 ki_0 ?_
    refine r_iconst (pc := 190) dX12_blockCode_190 ki_0 ?_
    replace h := bn2_e h; obtain ⟨x5, w6, ew6, h⟩ := h
    refine r_cVi (pc := 191) wyX12_op oM0 rfl mlRX12_609 iyX12_op syX12_op ⟨Nat.succ_le_succ (Nat.le_trans (Nat.le_of_ble_eq_true rfl) hK), (Nat.le_of_ble_eq_true rfl)⟩ rfl rfl (Nat.le_of_ble_eq_true rfl) dX12_blockCode_191 (mX12_op ew6 (pI.mk ?_))
    refine r_istore_n (pc := 194) (loc' := [(2, .int x5), (0, .ref 0), (1, .int a1), (3, .int a3)]) dX12_blockCode_194 rfl (Nat.le_of_ble_eq_true rfl) rfl ?_
    exact rOR_v (pc := 195) rfl dX12_blockCode_195 h hN
  replace h := if_f hc1 h
  refine r_aload_n (pc := 150) dX12_blockCode_150 rfl 0 rfl ?_
  refine r_get (pc := 151) (j := 32) (v := .ref 19) oM0 cf12 flRX12_135 rfl dX12_blockCode_151 rfl ?_
  refine r_iload_n (pc := 154) dX12_blockCode_154 rfl 2 rfl ?_
  replace h := if_n h; obtain ⟨hb7, h⟩ := h
  refine r_iald (pc := 155) aM19 (inb_in hb7) dX12_blockCode_155 ?_
  refine r_iconst (pc := 156) dX12_blockCode_156 ki_5 ?_
  refine r_icmp_ne (pc := 157) dX12_blockCode_157 rfl (fun hc8 => ?_) (fun hc8 => ?_)
  · replace h := if_f hc8 h
    refine r_aload_n (pc := 165) dX12_blockCode_165 rfl 0 rfl ?_
    refine r_get (pc := 166) (j := 34) (v := .ref 21) oM0 cf12 flRX12_141 rfl dX12_blockCode_166 rfl ?_
    refine r_iload_n (pc := 169) dX12_blockCode_169 rfl 2 rfl ?_
    replace h := if_n h; obtain ⟨hb12, h⟩ := h
    refine r_iald (pc := 170) aM21 (inb_in hb12) dX12_blockCode_170 ?_
    replace h := lt_e h; obtain ⟨x13, ex13, h⟩ := h
    refine r_topi ex13 ?_
    refine r_istore_n (pc := 171) (loc' := [(3, .int x13), (0, .ref 0), (1, .int a1)]) dX12_blockCode_171 rfl (Nat.le_of_ble_eq_true rfl) rfl ?_
    refine r_goto (pc := 172) dX12_blockCode_172 rfl ?_
    refine r_drop (loc' := [(0, .ref 0), (1, .int a1), (3, .int x13)]) [1, 2, 0] rfl ?_
    exact hk_146 a1 x13 w h
  replace h := if_t hc8 h
  refine r_aload_n (pc := 160) dX12_blockCode_160 rfl 0 rfl ?_
  refine r_iload_n (pc := 161) dX12_blockCode_161 rfl 2 rfl ?_
  replace h := bn_e h; obtain ⟨w9, ew9, h⟩ := h
  refine r_cVv (pc := 162) wyX12_switchCode oM0 rfl mlRX12_724 iyX12_switchCode syX12_switchCode ⟨Nat.succ_le_succ (Nat.le_trans (Nat.le_of_ble_eq_true rfl) hK), (Nat.le_of_ble_eq_true rfl)⟩ rfl rfl (Nat.le_of_ble_eq_true rfl) dX12_blockCode_162 (mX12_switchCode ew9 (pV.mk ?_))
  refine r_aload_n (pc := 165) dX12_blockCode_165 rfl 0 rfl ?_
  refine r_get (pc := 166) (j := 34) (v := .ref 21) oM0 cf12 flRX12_141 rfl dX12_blockCode_166 rfl ?_
  refine r_iload_n (pc := 169) dX12_blockCode_169 rfl 2 rfl ?_
  replace h := if_n h; obtain ⟨hb10, h⟩ := h
  refine r_iald (pc := 170) aM21 (inb_in hb10) dX12_blockCode_170 ?_
  replace h := lt_e h; obtain ⟨x11, ex11, h⟩ := h
  refine r_topi ex11 ?_
  refine r_istore_n (pc := 171) (loc' := [(3, .int x11), (0, .ref 0), (1, .int a1)]) dX12_blockCode_171 rfl (Nat.le_of_ble_eq_true rfl) rfl ?_
  refine r_goto (pc := 172) dX12_blockCode_172 rfl ?_
  refine r_drop (loc' := [(0, .ref 0), (1, .int a1), (3, .int x11)]) [1, 2, 0] rfl ?_
  exact hk_146 a1 x11 w9 h
def oX12_blockCode_146 (rc : TX12_row) : Nat → Int32 → Int32 → Wd → Option (Int32 × Wd)
  | 0 => fun _ _ _ => none
  | n + 1 => fX12_blockCode_146 rc (oX12_blockCode_146 rc n)
theorem qX12_blockCode_146 {q : Gq} {l : Launch} {N : Option Value → Wd → Prop} {X : String → Wd → Prop} {rc : TX12_row} {dd : Nat} (hS : HSX12_row q l rc dd) (hK : 1708 ≤ dd) {R : Int32 × Wd} (hN : N none R.2) : ∀ (n : Nat) (a1 : Int32) (a3 : Int32) (w : Wd), oX12_blockCode_146 rc n a1 a3 w = some R → RT (GM q) l (dd + 1) yX12_blockCode cX12_blockCode 6 (none) N X 146 [] [(0, .ref 0), (1, .int a1), (3, .int a3)] w := by
  intro n
  induction n with
  | zero =>
    intro a1 a3 w h
    exact absurd h (fun q => nomatch q)
  | succ n ih =>
    intro a1 a3 w h
    exact pX12_blockCode_146 hS hK hN ih h
def fX12_blockCode_67 (rc : TX12_row) (k_17 : Int32 → Int32 → Wd → Option (Int32 × Wd)) (k_67 : Int32 → Int32 → Int32 → Int32 → Wd → Option (Int32 × Wd)) (a1 : Int32) (a3 : Int32) (a4 : Int32) (a5 : Int32) (w : Wd) : Option (Int32 × Wd) :=
  if inb a3 24000 = true then if (gi w 9 (Int32.toNatClampNeg a3)) ≤ a5 then (bn2 (fX12_op 25 a4 0 0 w) fun x3 w4 => if inb a3 24000 = true then lt ((gi w4 11 (Int32.toNatClampNeg a3))) fun x6 => k_17 a1 x6 w4 else none) else (if inb a5 5000 = true then bn2 (fX12_op 24 (gi w 26 (Int32.toNatClampNeg a5)) (a4 / 2) 0 w) fun x8 w9 => lt (a5 + 1) fun x10 => k_67 a1 a3 a4 x10 w9 else none) else none
theorem pX12_blockCode_67 {q : Gq} {l : Launch} {N : Option Value → Wd → Prop} {X : String → Wd → Prop} {rc : TX12_row} {dd : Nat} (hS : HSX12_row q l rc dd) (hK : 1708 ≤ dd) {w : Wd} {R : Int32 × Wd} (hN : N none R.2) {k_17 : Int32 → Int32 → Wd → Option (Int32 × Wd)} {k_67 : Int32 → Int32 → Int32 → Int32 → Wd → Option (Int32 × Wd)} (hk_17 : ∀ (a1 : Int32) (a3 : Int32) (w : Wd), k_17 a1 a3 w = some R → RT (GM q) l (dd + 1) yX12_blockCode cX12_blockCode 6 (none) N X 17 [] [(0, .ref 0), (1, .int a1), (3, .int a3)] w) (hk_67 : ∀ (a1 : Int32) (a3 : Int32) (a4 : Int32) (a5 : Int32) (w : Wd), k_67 a1 a3 a4 a5 w = some R → RT (GM q) l (dd + 1) yX12_blockCode cX12_blockCode 6 (none) N X 67 [] [(0, .ref 0), (1, .int a1), (3, .int a3), (4, .int a4), (5, .int a5)] w) {a1 : Int32} {a3 : Int32} {a4 : Int32} {a5 : Int32} (h : fX12_blockCode_67 rc k_17 k_67 a1 a3 a4 a5 w = some R) : RT (GM q) l (dd + 1) yX12_blockCode cX12_blockCode 6 (none) N X 67 [] [(0, .ref 0), (1, .int a1), (3, .int a3), (4, .int a4), (5, .int a5)] w := by
  unfold fX12_blockCode_67 at h
  refine r_iload (pc := 67) dX12_blockCode_67 4 rfl ?_
  refine r_aload_n (pc := 69) dX12_blockCode_69 rfl 0 rfl ?_
  refine r_get (pc := 70) (j := 18) (v := .ref 9) oM0 cf12 flRX12_105 rfl dX12_blockCode_70 rfl ?_
  refine r_iload_n (pc := 73) dX12_blockCode_73 rfl 2 rfl ?_
  replace h := if_n h; obtain ⟨hb1, h⟩ := h
  refine r_iald (pc := 74) aM9 (inb_in hb1) dX12_blockCode_74 ?_
  refine r_icmp_ge (pc := 75) dX12_blockCode_75 rfl (fun hc2 => ?_) (fun hc2 => ?_)
  · replace h := if_t hc2 h
    refine r_aload_n (pc := 103) dX12_blockCode_103 rfl 0 rfl ?_
    refine r_bipush (pc := 104) dX12_blockCode_104 kb_25 ?_
    refine r_iload (pc := 106) dX12_blockCode_106 3 rfl ?_
    refine r_iconst (pc := 108) dX12_blockCode_108 ki_0 ?_
    refine r_iconst (pc := 109) dX12_blockCode_109 ki_0 ?_
    replace h := bn2_e h; obtain ⟨x3, w4, ew4, h⟩ := h
    refine r_cVi (pc := 110) wyX12_op oM0 rfl mlRX12_609 iyX12_op syX12_op ⟨Nat.succ_le_succ (Nat.le_trans (Nat.le_of_ble_eq_true rfl) hK), (Nat.le_of_ble_eq_true rfl)⟩ rfl rfl (Nat.le_of_ble_eq_true rfl) dX12_blockCode_110 (mX12_op ew4 (pI.mk ?_))
    refine r_istore_n (pc := 113) (loc' := [(2, .int x3), (0, .ref 0), (1, .int a1), (3, .int a3), (4, .int a4), (5, .int a5)]) dX12_blockCode_113 rfl (Nat.le_of_ble_eq_true rfl) rfl ?_
    refine r_aload_n (pc := 114) dX12_blockCode_114 rfl 1 rfl ?_
    refine r_get (pc := 115) (j := 20) (v := .ref 11) oM0 cf12 flRX12_111 rfl dX12_blockCode_115 rfl ?_
    refine r_iload_n (pc := 118) dX12_blockCode_118 rfl 3 rfl ?_
    replace h := if_n h; obtain ⟨hb5, h⟩ := h
    refine r_iald (pc := 119) aM11 (inb_in hb5) dX12_blockCode_119 ?_
    replace h := lt_e h; obtain ⟨x6, ex6, h⟩ := h
    refine r_topi ex6 ?_
    refine r_istore_n (pc := 120) (loc' := [(3, .int x6), (2, .int x3), (0, .ref 0), (1, .int a1), (4, .int a4), (5, .int a5)]) dX12_blockCode_120 rfl (Nat.le_of_ble_eq_true rfl) rfl ?_
    refine r_goto (pc := 121) dX12_blockCode_121 rfl ?_
    refine r_drop (loc' := [(0, .ref 0), (1, .int a1), (3, .int x6)]) [2, 3, 0] rfl ?_
    exact hk_17 a1 x6 w4 h
  replace h := if_f hc2 h
  refine r_aload_n (pc := 78) dX12_blockCode_78 rfl 0 rfl ?_
  refine r_bipush (pc := 79) dX12_blockCode_79 kb_24 ?_
  refine r_aload_n (pc := 81) dX12_blockCode_81 rfl 0 rfl ?_
  refine r_get (pc := 82) (j := 39) (v := .ref 26) oM0 cf12 flRX12_156 rfl dX12_blockCode_82 rfl ?_
  refine r_iload (pc := 85) dX12_blockCode_85 4 rfl ?_
  replace h := if_n h; obtain ⟨hb7, h⟩ := h
  refine r_iald (pc := 87) aM26 (inb_in hb7) dX12_blockCode_87 ?_
  refine r_iload (pc := 88) dX12_blockCode_88 3 rfl ?_
  refine r_iconst (pc := 90) dX12_blockCode_90 ki_2 ?_
  refine r_idiv (pc := 91) dX12_blockCode_91 (by decide) ?_
  refine r_iconst (pc := 92) dX12_blockCode_92 ki_0 ?_
  replace h := bn2_e h; obtain ⟨x8, w9, ew9, h⟩ := h
  refine r_cVi (pc := 93) wyX12_op oM0 rfl mlRX12_609 iyX12_op syX12_op ⟨Nat.succ_le_succ (Nat.le_trans (Nat.le_of_ble_eq_true rfl) hK), (Nat.le_of_ble_eq_true rfl)⟩ rfl rfl (Nat.le_of_ble_eq_true rfl) dX12_blockCode_93 (mX12_op ew9 (pI.mk ?_))
  refine r_istore_n (pc := 96) (loc' := [(2, .int x8), (0, .ref 0), (1, .int a1), (3, .int a3), (4, .int a4), (5, .int a5)]) dX12_blockCode_96 rfl (Nat.le_of_ble_eq_true rfl) rfl ?_
  replace h := lt_e h; obtain ⟨x10, ex10, h⟩ := h
  refine r_inc (pc := 97) (loc' := [(5, .int x10), (2, .int x8), (0, .ref 0), (1, .int a1), (3, .int a3), (4, .int a4)]) dX12_blockCode_97 ki_1 ex10 5 rfl (Nat.le_of_ble_eq_true rfl) rfl ?_
  refine r_goto (pc := 100) dX12_blockCode_100 rfl ?_
  refine r_drop (loc' := [(0, .ref 0), (1, .int a1), (3, .int a3), (4, .int a4), (5, .int x10)]) [2, 3, 4, 5, 0] rfl ?_
  exact hk_67 a1 a3 a4 x10 w9 h
def oX12_blockCode_67 (rc : TX12_row) (k_17 : Int32 → Int32 → Wd → Option (Int32 × Wd)) : Nat → Int32 → Int32 → Int32 → Int32 → Wd → Option (Int32 × Wd)
  | 0 => fun _ _ _ _ _ => none
  | n + 1 => fX12_blockCode_67 rc k_17 (oX12_blockCode_67 rc k_17 n)
theorem qX12_blockCode_67 {q : Gq} {l : Launch} {N : Option Value → Wd → Prop} {X : String → Wd → Prop} {rc : TX12_row} {dd : Nat} (hS : HSX12_row q l rc dd) (hK : 1708 ≤ dd) {R : Int32 × Wd} (hN : N none R.2) {k_17 : Int32 → Int32 → Wd → Option (Int32 × Wd)} (hk_17 : ∀ (a1 : Int32) (a3 : Int32) (w : Wd), k_17 a1 a3 w = some R → RT (GM q) l (dd + 1) yX12_blockCode cX12_blockCode 6 (none) N X 17 [] [(0, .ref 0), (1, .int a1), (3, .int a3)] w) : ∀ (n : Nat) (a1 : Int32) (a3 : Int32) (a4 : Int32) (a5 : Int32) (w : Wd), oX12_blockCode_67 rc k_17 n a1 a3 a4 a5 w = some R → RT (GM q) l (dd + 1) yX12_blockCode cX12_blockCode 6 (none) N X 67 [] [(0, .ref 0), (1, .int a1), (3, .int a3), (4, .int a4), (5, .int a5)] w := by
  intro n
  induction n with
  | zero =>
    intro a1 a3 a4 a5 w h
    exact absurd h (fun q => nomatch q)
  | succ n ih =>
    intro a1 a3 a4 a5 w h
    exact pX12_blockCode_67 hS hK hN hk_17 ih h
def fX12_blockCode_32 (rc : TX12_row) (k_17 : Int32 → Int32 → Wd → Option (Int32 × Wd)) (k_32 : Int32 → Int32 → Int32 → Int32 → Wd → Option (Int32 × Wd)) (a1 : Int32) (a3 : Int32) (a4 : Int32) (a5 : Int32) (w : Wd) : Option (Int32 × Wd) :=
  if a5 < 0 then (if inb a3 24000 = true then lt ((gi w 8 (Int32.toNatClampNeg a3))) fun x3 => oX12_blockCode_67 rc k_17 FU a1 a3 a4 x3 w else none) else (bn2 (RX12_mustBe 1700 0 a5 1 0 w) fun _ w5 => lt (a4 + 1) fun x6 => if inb a5 24000 = true then lt ((gi w5 11 (Int32.toNatClampNeg a5))) fun x8 => k_32 a1 a3 x6 x8 w5 else none)
theorem pX12_blockCode_32 {q : Gq} {l : Launch} {N : Option Value → Wd → Prop} {X : String → Wd → Prop} {rc : TX12_row} {dd : Nat} (hS : HSX12_row q l rc dd) (hK : 1708 ≤ dd) {w : Wd} {R : Int32 × Wd} (hN : N none R.2) {k_17 : Int32 → Int32 → Wd → Option (Int32 × Wd)} {k_32 : Int32 → Int32 → Int32 → Int32 → Wd → Option (Int32 × Wd)} (hk_17 : ∀ (a1 : Int32) (a3 : Int32) (w : Wd), k_17 a1 a3 w = some R → RT (GM q) l (dd + 1) yX12_blockCode cX12_blockCode 6 (none) N X 17 [] [(0, .ref 0), (1, .int a1), (3, .int a3)] w) (hk_32 : ∀ (a1 : Int32) (a3 : Int32) (a4 : Int32) (a5 : Int32) (w : Wd), k_32 a1 a3 a4 a5 w = some R → RT (GM q) l (dd + 1) yX12_blockCode cX12_blockCode 6 (none) N X 32 [] [(0, .ref 0), (1, .int a1), (3, .int a3), (4, .int a4), (5, .int a5)] w) {a1 : Int32} {a3 : Int32} {a4 : Int32} {a5 : Int32} (h : fX12_blockCode_32 rc k_17 k_32 a1 a3 a4 a5 w = some R) : RT (GM q) l (dd + 1) yX12_blockCode cX12_blockCode 6 (none) N X 32 [] [(0, .ref 0), (1, .int a1), (3, .int a3), (4, .int a4), (5, .int a5)] w := by
  unfold fX12_blockCode_32 at h
  refine r_iload (pc := 32) dX12_blockCode_32 4 rfl ?_
  refine r_if_lt (pc := 34) dX12_blockCode_34 rfl (fun hc1 => ?_) (fun hc1 => ?_)
  · replace h := if_t hc1 h
    refine r_aload_n (pc := 59) dX12_blockCode_59 rfl 0 rfl ?_
    refine r_get (pc := 60) (j := 17) (v := .ref 8) oM0 cf12 flRX12_102 rfl dX12_blockCode_60 rfl ?_
    refine r_iload_n (pc := 63) dX12_blockCode_63 rfl 2 rfl ?_
    replace h := if_n h; obtain ⟨hb2, h⟩ := h
    refine r_iald (pc := 64) aM8 (inb_in hb2) dX12_blockCode_64 ?_
    replace h := lt_e h; obtain ⟨x3, ex3, h⟩ := h
    refine r_topi ex3 ?_
    refine r_istore (pc := 65) (loc' := [(5, .int x3), (0, .ref 0), (1, .int a1), (3, .int a3), (4, .int a4)]) dX12_blockCode_65 (Nat.le_of_ble_eq_true rfl) rfl ?_
    refine r_drop (loc' := [(0, .ref 0), (1, .int a1), (3, .int a3), (4, .int a4), (5, .int x3)]) [1, 2, 3, 4, 0] rfl ?_
    exact qX12_blockCode_67 hS hK hN hk_17 FU a1 a3 a4 x3 w h
  replace h := if_f hc1 h
  refine r_aload_n (pc := 37) dX12_blockCode_37 rfl 0 rfl ?_
  refine r_iload (pc := 38) dX12_blockCode_38 4 rfl ?_
  refine r_iconst (pc := 40) dX12_blockCode_40 ki_1 ?_
  replace h := bn2_e h; obtain ⟨x4, w5, ew5, h⟩ := h
  refine r_cVv (pc := 41) wyX12_mustBe oM0 rfl mlRX12_622 iyX12_mustBe syX12_mustBe ⟨Nat.succ_le_succ (Nat.le_trans (Nat.le_of_ble_eq_true rfl) hK), (Nat.le_of_ble_eq_true rfl)⟩ rfl rfl (Nat.le_of_ble_eq_true rfl) dX12_blockCode_41 (mX12_mustBe ew5 (pV.mk ?_))
  replace h := lt_e h; obtain ⟨x6, ex6, h⟩ := h
  refine r_inc (pc := 44) (loc' := [(4, .int x6), (0, .ref 0), (1, .int a1), (3, .int a3), (5, .int a5)]) dX12_blockCode_44 ki_1 ex6 3 rfl (Nat.le_of_ble_eq_true rfl) rfl ?_
  refine r_aload_n (pc := 47) dX12_blockCode_47 rfl 1 rfl ?_
  refine r_get (pc := 48) (j := 20) (v := .ref 11) oM0 cf12 flRX12_111 rfl dX12_blockCode_48 rfl ?_
  refine r_iload (pc := 51) dX12_blockCode_51 4 rfl ?_
  replace h := if_n h; obtain ⟨hb7, h⟩ := h
  refine r_iald (pc := 53) aM11 (inb_in hb7) dX12_blockCode_53 ?_
  replace h := lt_e h; obtain ⟨x8, ex8, h⟩ := h
  refine r_topi ex8 ?_
  refine r_istore (pc := 54) (loc' := [(5, .int x8), (4, .int x6), (0, .ref 0), (1, .int a1), (3, .int a3)]) dX12_blockCode_54 (Nat.le_of_ble_eq_true rfl) rfl ?_
  refine r_goto (pc := 56) dX12_blockCode_56 rfl ?_
  refine r_drop (loc' := [(0, .ref 0), (1, .int a1), (3, .int a3), (4, .int x6), (5, .int x8)]) [2, 3, 4, 1, 0] rfl ?_
  exact hk_32 a1 a3 x6 x8 w5 h
def oX12_blockCode_32 (rc : TX12_row) (k_17 : Int32 → Int32 → Wd → Option (Int32 × Wd)) : Nat → Int32 → Int32 → Int32 → Int32 → Wd → Option (Int32 × Wd)
  | 0 => fun _ _ _ _ _ => none
  | n + 1 => fX12_blockCode_32 rc k_17 (oX12_blockCode_32 rc k_17 n)
theorem qX12_blockCode_32 {q : Gq} {l : Launch} {N : Option Value → Wd → Prop} {X : String → Wd → Prop} {rc : TX12_row} {dd : Nat} (hS : HSX12_row q l rc dd) (hK : 1708 ≤ dd) {R : Int32 × Wd} (hN : N none R.2) {k_17 : Int32 → Int32 → Wd → Option (Int32 × Wd)} (hk_17 : ∀ (a1 : Int32) (a3 : Int32) (w : Wd), k_17 a1 a3 w = some R → RT (GM q) l (dd + 1) yX12_blockCode cX12_blockCode 6 (none) N X 17 [] [(0, .ref 0), (1, .int a1), (3, .int a3)] w) : ∀ (n : Nat) (a1 : Int32) (a3 : Int32) (a4 : Int32) (a5 : Int32) (w : Wd), oX12_blockCode_32 rc k_17 n a1 a3 a4 a5 w = some R → RT (GM q) l (dd + 1) yX12_blockCode cX12_blockCode 6 (none) N X 32 [] [(0, .ref 0), (1, .int a1), (3, .int a3), (4, .int a4), (5, .int a5)] w := by
  intro n
  induction n with
  | zero =>
    intro a1 a3 a4 a5 w h
    exact absurd h (fun q => nomatch q)
  | succ n ih =>
    intro a1 a3 a4 a5 w h
    exact pX12_blockCode_32 hS hK hN hk_17 ih h
def fX12_blockCode_17 (rc : TX12_row) (k_17 : Int32 → Int32 → Wd → Option (Int32 × Wd)) (a1 : Int32) (a3 : Int32) (w : Wd) : Option (Int32 × Wd) :=
  if a3 < 0 then (bn2 (fX12_op 26 a1 0 0 w) fun x2 w3 => if inb a1 9000 = true then if inb (gi w3 42 (Int32.toNatClampNeg a1)) 9000 = true then lt ((gi w3 16 (Int32.toNatClampNeg (gi w3 42 (Int32.toNatClampNeg a1))))) fun x6 => oX12_blockCode_146 rc FU a1 x6 w3 else none else none) else (if inb a3 24000 = true then lt ((gi w 10 (Int32.toNatClampNeg a3))) fun x8 => oX12_blockCode_32 rc k_17 FU a1 a3 0 x8 w else none)
theorem pX12_blockCode_17 {q : Gq} {l : Launch} {N : Option Value → Wd → Prop} {X : String → Wd → Prop} {rc : TX12_row} {dd : Nat} (hS : HSX12_row q l rc dd) (hK : 1708 ≤ dd) {w : Wd} {R : Int32 × Wd} (hN : N none R.2) {k_17 : Int32 → Int32 → Wd → Option (Int32 × Wd)} (hk_17 : ∀ (a1 : Int32) (a3 : Int32) (w : Wd), k_17 a1 a3 w = some R → RT (GM q) l (dd + 1) yX12_blockCode cX12_blockCode 6 (none) N X 17 [] [(0, .ref 0), (1, .int a1), (3, .int a3)] w) {a1 : Int32} {a3 : Int32} (h : fX12_blockCode_17 rc k_17 a1 a3 w = some R) : RT (GM q) l (dd + 1) yX12_blockCode cX12_blockCode 6 (none) N X 17 [] [(0, .ref 0), (1, .int a1), (3, .int a3)] w := by
  unfold fX12_blockCode_17 at h
  refine r_iload_n (pc := 17) dX12_blockCode_17 rfl 2 rfl ?_
  refine r_if_lt (pc := 18) dX12_blockCode_18 rfl (fun hc1 => ?_) (fun hc1 => ?_)
  · replace h := if_t hc1 h
    refine r_aload_n (pc := 124) dX12_blockCode_124 rfl 0 rfl ?_
    refine r_bipush (pc := 125) dX12_blockCode_125 kb_26 ?_
    refine r_iload_n (pc := 127) dX12_blockCode_127 rfl 1 rfl ?_
    refine r_iconst (pc := 128) dX12_blockCode_128 ki_0 ?_
    refine r_iconst (pc := 129) dX12_blockCode_129 ki_0 ?_
    replace h := bn2_e h; obtain ⟨x2, w3, ew3, h⟩ := h
    refine r_cVi (pc := 130) wyX12_op oM0 rfl mlRX12_609 iyX12_op syX12_op ⟨Nat.succ_le_succ (Nat.le_trans (Nat.le_of_ble_eq_true rfl) hK), (Nat.le_of_ble_eq_true rfl)⟩ rfl rfl (Nat.le_of_ble_eq_true rfl) dX12_blockCode_130 (mX12_op ew3 (pI.mk ?_))
    refine r_istore_n (pc := 133) (loc' := [(2, .int x2), (0, .ref 0), (1, .int a1), (3, .int a3)]) dX12_blockCode_133 rfl (Nat.le_of_ble_eq_true rfl) rfl ?_
    refine r_aload_n (pc := 134) dX12_blockCode_134 rfl 1 rfl ?_
    refine r_get (pc := 135) (j := 26) (v := .ref 16) oM0 cf12 flRX12_126 rfl dX12_blockCode_135 rfl ?_
    refine r_aload_n (pc := 138) dX12_blockCode_138 rfl 1 rfl ?_
    refine r_get (pc := 139) (j := 58) (v := .ref 42) oM0 cf12 flRX12_205 rfl dX12_blockCode_139 rfl ?_
    refine r_iload_n (pc := 142) dX12_blockCode_142 rfl 2 rfl ?_
    replace h := if_n h; obtain ⟨hb4, h⟩ := h
    refine r_iald (pc := 143) aM42 (inb_in hb4) dX12_blockCode_143 ?_
    replace h := if_n h; obtain ⟨hb5, h⟩ := h
    refine r_iald (pc := 144) aM16 (inb_in hb5) dX12_blockCode_144 ?_
    replace h := lt_e h; obtain ⟨x6, ex6, h⟩ := h
    refine r_topi ex6 ?_
    refine r_istore_n (pc := 145) (loc' := [(3, .int x6), (2, .int x2), (0, .ref 0), (1, .int a1)]) dX12_blockCode_145 rfl (Nat.le_of_ble_eq_true rfl) rfl ?_
    refine r_drop (loc' := [(0, .ref 0), (1, .int a1), (3, .int x6)]) [2, 3, 0] rfl ?_
    exact qX12_blockCode_146 hS hK hN FU a1 x6 w3 h
  replace h := if_f hc1 h
  refine r_iconst (pc := 21) dX12_blockCode_21 ki_0 ?_
  refine r_istore (pc := 22) (loc' := [(4, .int 0), (0, .ref 0), (1, .int a1), (3, .int a3)]) dX12_blockCode_22 (Nat.le_of_ble_eq_true rfl) rfl ?_
  refine r_aload_n (pc := 24) dX12_blockCode_24 rfl 1 rfl ?_
  refine r_get (pc := 25) (j := 19) (v := .ref 10) oM0 cf12 flRX12_108 rfl dX12_blockCode_25 rfl ?_
  refine r_iload_n (pc := 28) dX12_blockCode_28 rfl 3 rfl ?_
  replace h := if_n h; obtain ⟨hb7, h⟩ := h
  refine r_iald (pc := 29) aM10 (inb_in hb7) dX12_blockCode_29 ?_
  replace h := lt_e h; obtain ⟨x8, ex8, h⟩ := h
  refine r_topi ex8 ?_
  refine r_istore (pc := 30) (loc' := [(5, .int x8), (4, .int 0), (0, .ref 0), (1, .int a1), (3, .int a3)]) dX12_blockCode_30 (Nat.le_of_ble_eq_true rfl) rfl ?_
  refine r_drop (loc' := [(0, .ref 0), (1, .int a1), (3, .int a3), (4, .int 0), (5, .int x8)]) [2, 3, 4, 1, 0] rfl ?_
  exact qX12_blockCode_32 hS hK hN hk_17 FU a1 a3 0 x8 w h
def oX12_blockCode_17 (rc : TX12_row) : Nat → Int32 → Int32 → Wd → Option (Int32 × Wd)
  | 0 => fun _ _ _ => none
  | n + 1 => fX12_blockCode_17 rc (oX12_blockCode_17 rc n)
theorem qX12_blockCode_17 {q : Gq} {l : Launch} {N : Option Value → Wd → Prop} {X : String → Wd → Prop} {rc : TX12_row} {dd : Nat} (hS : HSX12_row q l rc dd) (hK : 1708 ≤ dd) {R : Int32 × Wd} (hN : N none R.2) : ∀ (n : Nat) (a1 : Int32) (a3 : Int32) (w : Wd), oX12_blockCode_17 rc n a1 a3 w = some R → RT (GM q) l (dd + 1) yX12_blockCode cX12_blockCode 6 (none) N X 17 [] [(0, .ref 0), (1, .int a1), (3, .int a3)] w := by
  intro n
  induction n with
  | zero =>
    intro a1 a3 w h
    exact absurd h (fun q => nomatch q)
  | succ n ih =>
    intro a1 a3 w h
    exact pX12_blockCode_17 hS hK hN ih h
def fX12_blockCode (rc : TX12_row) (a1 : Int32) (w : Wd) : Option (Int32 × Wd) :=
  bn2 (fX12_op 23 a1 0 0 w) fun x1 w2 => if inb a1 9000 = true then lt ((gi w2 40 (Int32.toNatClampNeg a1))) fun x4 => oX12_blockCode_17 rc FU a1 x4 w2 else none
theorem pX12_blockCode {q : Gq} {l : Launch} {N : Option Value → Wd → Prop} {X : String → Wd → Prop} {rc : TX12_row} {dd : Nat} (hS : HSX12_row q l rc dd) (hK : 1708 ≤ dd) {w : Wd} {R : Int32 × Wd} (hN : N none R.2) {a1 : Int32} (h : fX12_blockCode rc a1 w = some R) : RT (GM q) l (dd + 1) yX12_blockCode cX12_blockCode 6 (none) N X 0 [] [(0, .ref 0), (1, .int a1)] w := by
  unfold fX12_blockCode at h
  refine r_aload_n (pc := 0) dX12_blockCode_0 rfl 0 rfl ?_
  refine r_bipush (pc := 1) dX12_blockCode_1 kb_23 ?_
  refine r_iload_n (pc := 3) dX12_blockCode_3 rfl 1 rfl ?_
  refine r_iconst (pc := 4) dX12_blockCode_4 ki_0 ?_
  refine r_iconst (pc := 5) dX12_blockCode_5 ki_0 ?_
  replace h := bn2_e h; obtain ⟨x1, w2, ew2, h⟩ := h
  refine r_cVi (pc := 6) wyX12_op oM0 rfl mlRX12_609 iyX12_op syX12_op ⟨Nat.succ_le_succ (Nat.le_trans (Nat.le_of_ble_eq_true rfl) hK), (Nat.le_of_ble_eq_true rfl)⟩ rfl rfl (Nat.le_of_ble_eq_true rfl) dX12_blockCode_6 (mX12_op ew2 (pI.mk ?_))
  refine r_istore_n (pc := 9) (loc' := [(2, .int x1), (0, .ref 0), (1, .int a1)]) dX12_blockCode_9 rfl (Nat.le_of_ble_eq_true rfl) rfl ?_
  refine r_aload_n (pc := 10) dX12_blockCode_10 rfl 1 rfl ?_
  refine r_get (pc := 11) (j := 56) (v := .ref 40) oM0 cf12 flRX12_199 rfl dX12_blockCode_11 rfl ?_
  refine r_iload_n (pc := 14) dX12_blockCode_14 rfl 2 rfl ?_
  replace h := if_n h; obtain ⟨hb3, h⟩ := h
  refine r_iald (pc := 15) aM40 (inb_in hb3) dX12_blockCode_15 ?_
  replace h := lt_e h; obtain ⟨x4, ex4, h⟩ := h
  refine r_topi ex4 ?_
  refine r_istore_n (pc := 16) (loc' := [(3, .int x4), (2, .int x1), (0, .ref 0), (1, .int a1)]) dX12_blockCode_16 rfl (Nat.le_of_ble_eq_true rfl) rfl ?_
  refine r_drop (loc' := [(0, .ref 0), (1, .int a1), (3, .int x4)]) [2, 3, 0] rfl ?_
  exact qX12_blockCode_17 hS hK hN FU a1 x4 w2 h
/-! AlgolMillModel.forCode (I)V: O, 1908 -/
theorem dX12_forCode_0 : decode cX12_forCode 0 = .ok (.aload_n 0, 1) := by decide +kernel
theorem dX12_forCode_1 : decode cX12_forCode 1 = .ok (.iload_n 1, 1) := by decide +kernel
theorem dX12_forCode_2 : decode cX12_forCode 2 = .ok (.invokevirtual 706, 3) := by decide +kernel
theorem dX12_forCode_5 : decode cX12_forCode 5 = .ok (.istore_n 2, 1) := by decide +kernel
theorem dX12_forCode_6 : decode cX12_forCode 6 = .ok (.aload_n 0, 1) := by decide +kernel
theorem dX12_forCode_7 : decode cX12_forCode 7 = .ok (.iconst (-1), 1) := by decide +kernel
theorem dX12_forCode_8 : decode cX12_forCode 8 = .ok (.putfield 709, 3) := by decide +kernel
theorem dX12_forCode_11 : decode cX12_forCode 11 = .ok (.iconst (-1), 1) := by decide +kernel
theorem dX12_forCode_12 : decode cX12_forCode 12 = .ok (.istore_n 3, 1) := by decide +kernel
theorem dX12_forCode_13 : decode cX12_forCode 13 = .ok (.aload_n 0, 1) := by decide +kernel
theorem dX12_forCode_14 : decode cX12_forCode 14 = .ok (.getfield 99, 3) := by decide +kernel
theorem dX12_forCode_17 : decode cX12_forCode 17 = .ok (.aload_n 0, 1) := by decide +kernel
theorem dX12_forCode_18 : decode cX12_forCode 18 = .ok (.getfield 102, 3) := by decide +kernel
theorem dX12_forCode_21 : decode cX12_forCode 21 = .ok (.iload_n 1, 1) := by decide +kernel
theorem dX12_forCode_22 : decode cX12_forCode 22 = .ok (.iaload, 1) := by decide +kernel
theorem dX12_forCode_23 : decode cX12_forCode 23 = .ok (.iaload, 1) := by decide +kernel
theorem dX12_forCode_24 : decode cX12_forCode 24 = .ok (.iconst 4, 1) := by decide +kernel
theorem dX12_forCode_25 : decode cX12_forCode 25 = .ok (.if_icmp .ne 50, 3) := by decide +kernel
theorem dX12_forCode_28 : decode cX12_forCode 28 = .ok (.aload_n 0, 1) := by decide +kernel
theorem dX12_forCode_29 : decode cX12_forCode 29 = .ok (.bipush 10, 2) := by decide +kernel
theorem dX12_forCode_31 : decode cX12_forCode 31 = .ok (.iconst 0, 1) := by decide +kernel
theorem dX12_forCode_32 : decode cX12_forCode 32 = .ok (.iconst 0, 1) := by decide +kernel
theorem dX12_forCode_33 : decode cX12_forCode 33 = .ok (.iconst 0, 1) := by decide +kernel
theorem dX12_forCode_34 : decode cX12_forCode 34 = .ok (.invokevirtual 609, 3) := by decide +kernel
theorem dX12_forCode_37 : decode cX12_forCode 37 = .ok (.istore 4, 2) := by decide +kernel
theorem dX12_forCode_39 : decode cX12_forCode 39 = .ok (.aload_n 0, 1) := by decide +kernel
theorem dX12_forCode_40 : decode cX12_forCode 40 = .ok (.getfield 596, 3) := by decide +kernel
theorem dX12_forCode_43 : decode cX12_forCode 43 = .ok (.istore_n 3, 1) := by decide +kernel
theorem dX12_forCode_44 : decode cX12_forCode 44 = .ok (.aload_n 0, 1) := by decide +kernel
theorem dX12_forCode_45 : decode cX12_forCode 45 = .ok (.aload_n 0, 1) := by decide +kernel
theorem dX12_forCode_46 : decode cX12_forCode 46 = .ok (.aload_n 0, 1) := by decide +kernel
theorem dX12_forCode_47 : decode cX12_forCode 47 = .ok (.getfield 102, 3) := by decide +kernel
theorem dX12_forCode_50 : decode cX12_forCode 50 = .ok (.iload_n 1, 1) := by decide +kernel
theorem dX12_forCode_51 : decode cX12_forCode 51 = .ok (.iaload, 1) := by decide +kernel
theorem dX12_forCode_52 : decode cX12_forCode 52 = .ok (.invokevirtual 615, 3) := by decide +kernel
theorem dX12_forCode_55 : decode cX12_forCode 55 = .ok (.putfield 712, 3) := by decide +kernel
theorem dX12_forCode_58 : decode cX12_forCode 58 = .ok (.aload_n 0, 1) := by decide +kernel
theorem dX12_forCode_59 : decode cX12_forCode 59 = .ok (.bipush 32, 2) := by decide +kernel
theorem dX12_forCode_61 : decode cX12_forCode 61 = .ok (.iconst 0, 1) := by decide +kernel
theorem dX12_forCode_62 : decode cX12_forCode 62 = .ok (.iconst 0, 1) := by decide +kernel
theorem dX12_forCode_63 : decode cX12_forCode 63 = .ok (.iconst 0, 1) := by decide +kernel
theorem dX12_forCode_64 : decode cX12_forCode 64 = .ok (.invokevirtual 609, 3) := by decide +kernel
theorem dX12_forCode_67 : decode cX12_forCode 67 = .ok (.istore 5, 2) := by decide +kernel
theorem dX12_forCode_69 : decode cX12_forCode 69 = .ok (.aload_n 0, 1) := by decide +kernel
theorem dX12_forCode_70 : decode cX12_forCode 70 = .ok (.iload 4, 2) := by decide +kernel
theorem dX12_forCode_72 : decode cX12_forCode 72 = .ok (.invokevirtual 625, 3) := by decide +kernel
theorem dX12_forCode_75 : decode cX12_forCode 75 = .ok (.aload_n 0, 1) := by decide +kernel
theorem dX12_forCode_76 : decode cX12_forCode 76 = .ok (.getfield 712, 3) := by decide +kernel
theorem dX12_forCode_79 : decode cX12_forCode 79 = .ok (.istore 4, 2) := by decide +kernel
theorem dX12_forCode_81 : decode cX12_forCode 81 = .ok (.aload_n 0, 1) := by decide +kernel
theorem dX12_forCode_82 : decode cX12_forCode 82 = .ok (.bipush 10, 2) := by decide +kernel
theorem dX12_forCode_84 : decode cX12_forCode 84 = .ok (.iconst 0, 1) := by decide +kernel
theorem dX12_forCode_85 : decode cX12_forCode 85 = .ok (.iconst 0, 1) := by decide +kernel
theorem dX12_forCode_86 : decode cX12_forCode 86 = .ok (.iconst 0, 1) := by decide +kernel
theorem dX12_forCode_87 : decode cX12_forCode 87 = .ok (.invokevirtual 609, 3) := by decide +kernel
theorem dX12_forCode_90 : decode cX12_forCode 90 = .ok (.istore 5, 2) := by decide +kernel
theorem dX12_forCode_92 : decode cX12_forCode 92 = .ok (.aload_n 0, 1) := by decide +kernel
theorem dX12_forCode_93 : decode cX12_forCode 93 = .ok (.getfield 596, 3) := by decide +kernel
theorem dX12_forCode_96 : decode cX12_forCode 96 = .ok (.istore 6, 2) := by decide +kernel
theorem dX12_forCode_98 : decode cX12_forCode 98 = .ok (.aload_n 0, 1) := by decide +kernel
theorem dX12_forCode_99 : decode cX12_forCode 99 = .ok (.aload_n 0, 1) := by decide +kernel
theorem dX12_forCode_100 : decode cX12_forCode 100 = .ok (.getfield 108, 3) := by decide +kernel
theorem dX12_forCode_103 : decode cX12_forCode 103 = .ok (.iload_n 1, 1) := by decide +kernel
theorem dX12_forCode_104 : decode cX12_forCode 104 = .ok (.iaload, 1) := by decide +kernel
theorem dX12_forCode_105 : decode cX12_forCode 105 = .ok (.invokevirtual 697, 3) := by decide +kernel
theorem dX12_forCode_108 : decode cX12_forCode 108 = .ok (.aload_n 0, 1) := by decide +kernel
theorem dX12_forCode_109 : decode cX12_forCode 109 = .ok (.bipush 29, 2) := by decide +kernel
theorem dX12_forCode_111 : decode cX12_forCode 111 = .ok (.iload_n 2, 1) := by decide +kernel
theorem dX12_forCode_112 : decode cX12_forCode 112 = .ok (.iconst 0, 1) := by decide +kernel
theorem dX12_forCode_113 : decode cX12_forCode 113 = .ok (.iconst 0, 1) := by decide +kernel
theorem dX12_forCode_114 : decode cX12_forCode 114 = .ok (.invokevirtual 609, 3) := by decide +kernel
theorem dX12_forCode_117 : decode cX12_forCode 117 = .ok (.istore 7, 2) := by decide +kernel
theorem dX12_forCode_119 : decode cX12_forCode 119 = .ok (.aload_n 0, 1) := by decide +kernel
theorem dX12_forCode_120 : decode cX12_forCode 120 = .ok (.iload 5, 2) := by decide +kernel
theorem dX12_forCode_122 : decode cX12_forCode 122 = .ok (.invokevirtual 625, 3) := by decide +kernel
theorem dX12_forCode_125 : decode cX12_forCode 125 = .ok (.aload_n 0, 1) := by decide +kernel
theorem dX12_forCode_126 : decode cX12_forCode 126 = .ok (.iload_n 3, 1) := by decide +kernel
theorem dX12_forCode_127 : decode cX12_forCode 127 = .ok (.putfield 709, 3) := by decide +kernel
theorem dX12_forCode_130 : decode cX12_forCode 130 = .ok (.aload_n 0, 1) := by decide +kernel
theorem dX12_forCode_131 : decode cX12_forCode 131 = .ok (.iload 4, 2) := by decide +kernel
theorem dX12_forCode_133 : decode cX12_forCode 133 = .ok (.putfield 712, 3) := by decide +kernel
theorem dX12_forCode_136 : decode cX12_forCode 136 = .ok (.aload_n 0, 1) := by decide +kernel
theorem dX12_forCode_137 : decode cX12_forCode 137 = .ok (.getfield 105, 3) := by decide +kernel
theorem dX12_forCode_140 : decode cX12_forCode 140 = .ok (.iload_n 1, 1) := by decide +kernel
theorem dX12_forCode_141 : decode cX12_forCode 141 = .ok (.iaload, 1) := by decide +kernel
theorem dX12_forCode_142 : decode cX12_forCode 142 = .ok (.istore 8, 2) := by decide +kernel
theorem dX12_forCode_144 : decode cX12_forCode 144 = .ok (.iload 8, 2) := by decide +kernel
theorem dX12_forCode_146 : decode cX12_forCode 146 = .ok (.ifCond .lt 382, 3) := by decide +kernel
theorem dX12_forCode_149 : decode cX12_forCode 149 = .ok (.aload_n 0, 1) := by decide +kernel
theorem dX12_forCode_150 : decode cX12_forCode 150 = .ok (.getfield 99, 3) := by decide +kernel
theorem dX12_forCode_153 : decode cX12_forCode 153 = .ok (.iload 8, 2) := by decide +kernel
theorem dX12_forCode_155 : decode cX12_forCode 155 = .ok (.iaload, 1) := by decide +kernel
theorem dX12_forCode_156 : decode cX12_forCode 156 = .ok (.bipush 30, 2) := by decide +kernel
theorem dX12_forCode_158 : decode cX12_forCode 158 = .ok (.if_icmp .ne 51, 3) := by decide +kernel
theorem dX12_forCode_161 : decode cX12_forCode 161 = .ok (.aload_n 0, 1) := by decide +kernel
theorem dX12_forCode_162 : decode cX12_forCode 162 = .ok (.aload_n 0, 1) := by decide +kernel
theorem dX12_forCode_163 : decode cX12_forCode 163 = .ok (.getfield 102, 3) := by decide +kernel
theorem dX12_forCode_166 : decode cX12_forCode 166 = .ok (.iload_n 1, 1) := by decide +kernel
theorem dX12_forCode_167 : decode cX12_forCode 167 = .ok (.iaload, 1) := by decide +kernel
theorem dX12_forCode_168 : decode cX12_forCode 168 = .ok (.aload_n 0, 1) := by decide +kernel
theorem dX12_forCode_169 : decode cX12_forCode 169 = .ok (.getfield 102, 3) := by decide +kernel
theorem dX12_forCode_172 : decode cX12_forCode 172 = .ok (.iload 8, 2) := by decide +kernel
theorem dX12_forCode_174 : decode cX12_forCode 174 = .ok (.iaload, 1) := by decide +kernel
theorem dX12_forCode_175 : decode cX12_forCode 175 = .ok (.invokevirtual 715, 3) := by decide +kernel
theorem dX12_forCode_178 : decode cX12_forCode 178 = .ok (.aload_n 0, 1) := by decide +kernel
theorem dX12_forCode_179 : decode cX12_forCode 179 = .ok (.bipush 30, 2) := by decide +kernel
theorem dX12_forCode_181 : decode cX12_forCode 181 = .ok (.iload_n 2, 1) := by decide +kernel
theorem dX12_forCode_182 : decode cX12_forCode 182 = .ok (.aload_n 0, 1) := by decide +kernel
theorem dX12_forCode_183 : decode cX12_forCode 183 = .ok (.getfield 596, 3) := by decide +kernel
theorem dX12_forCode_186 : decode cX12_forCode 186 = .ok (.iconst 2, 1) := by decide +kernel
theorem dX12_forCode_187 : decode cX12_forCode 187 = .ok (.iadd, 1) := by decide +kernel
theorem dX12_forCode_188 : decode cX12_forCode 188 = .ok (.iconst 0, 1) := by decide +kernel
theorem dX12_forCode_189 : decode cX12_forCode 189 = .ok (.invokevirtual 609, 3) := by decide +kernel
theorem dX12_forCode_192 : decode cX12_forCode 192 = .ok (.istore 9, 2) := by decide +kernel
theorem dX12_forCode_194 : decode cX12_forCode 194 = .ok (.aload_n 0, 1) := by decide +kernel
theorem dX12_forCode_195 : decode cX12_forCode 195 = .ok (.bipush 10, 2) := by decide +kernel
theorem dX12_forCode_197 : decode cX12_forCode 197 = .ok (.iload 6, 2) := by decide +kernel
theorem dX12_forCode_199 : decode cX12_forCode 199 = .ok (.iconst 0, 1) := by decide +kernel
theorem dX12_forCode_200 : decode cX12_forCode 200 = .ok (.iconst 0, 1) := by decide +kernel
theorem dX12_forCode_201 : decode cX12_forCode 201 = .ok (.invokevirtual 609, 3) := by decide +kernel
theorem dX12_forCode_204 : decode cX12_forCode 204 = .ok (.istore 9, 2) := by decide +kernel
theorem dX12_forCode_206 : decode cX12_forCode 206 = .ok (.goto 310, 3) := by decide +kernel
theorem dX12_forCode_209 : decode cX12_forCode 209 = .ok (.aload_n 0, 1) := by decide +kernel
theorem dX12_forCode_210 : decode cX12_forCode 210 = .ok (.getfield 99, 3) := by decide +kernel
theorem dX12_forCode_213 : decode cX12_forCode 213 = .ok (.iload 8, 2) := by decide +kernel
theorem dX12_forCode_215 : decode cX12_forCode 215 = .ok (.iaload, 1) := by decide +kernel
theorem dX12_forCode_216 : decode cX12_forCode 216 = .ok (.bipush 32, 2) := by decide +kernel
theorem dX12_forCode_218 : decode cX12_forCode 218 = .ok (.if_icmp .ne 82, 3) := by decide +kernel
theorem dX12_forCode_221 : decode cX12_forCode 221 = .ok (.aload_n 0, 1) := by decide +kernel
theorem dX12_forCode_222 : decode cX12_forCode 222 = .ok (.getfield 596, 3) := by decide +kernel
theorem dX12_forCode_225 : decode cX12_forCode 225 = .ok (.istore 9, 2) := by decide +kernel
theorem dX12_forCode_227 : decode cX12_forCode 227 = .ok (.aload_n 0, 1) := by decide +kernel
theorem dX12_forCode_228 : decode cX12_forCode 228 = .ok (.aload_n 0, 1) := by decide +kernel
theorem dX12_forCode_229 : decode cX12_forCode 229 = .ok (.getfield 102, 3) := by decide +kernel
theorem dX12_forCode_232 : decode cX12_forCode 232 = .ok (.iload_n 1, 1) := by decide +kernel
theorem dX12_forCode_233 : decode cX12_forCode 233 = .ok (.iaload, 1) := by decide +kernel
theorem dX12_forCode_234 : decode cX12_forCode 234 = .ok (.aload_n 0, 1) := by decide +kernel
theorem dX12_forCode_235 : decode cX12_forCode 235 = .ok (.getfield 102, 3) := by decide +kernel
theorem dX12_forCode_238 : decode cX12_forCode 238 = .ok (.iload 8, 2) := by decide +kernel
theorem dX12_forCode_240 : decode cX12_forCode 240 = .ok (.iaload, 1) := by decide +kernel
theorem dX12_forCode_241 : decode cX12_forCode 241 = .ok (.invokevirtual 715, 3) := by decide +kernel
theorem dX12_forCode_244 : decode cX12_forCode 244 = .ok (.aload_n 0, 1) := by decide +kernel
theorem dX12_forCode_245 : decode cX12_forCode 245 = .ok (.aload_n 0, 1) := by decide +kernel
theorem dX12_forCode_246 : decode cX12_forCode 246 = .ok (.getfield 105, 3) := by decide +kernel
theorem dX12_forCode_249 : decode cX12_forCode 249 = .ok (.iload 8, 2) := by decide +kernel
theorem dX12_forCode_251 : decode cX12_forCode 251 = .ok (.iaload, 1) := by decide +kernel
theorem dX12_forCode_252 : decode cX12_forCode 252 = .ok (.iconst 2, 1) := by decide +kernel
theorem dX12_forCode_253 : decode cX12_forCode 253 = .ok (.invokevirtual 622, 3) := by decide +kernel
theorem dX12_forCode_256 : decode cX12_forCode 256 = .ok (.aload_n 0, 1) := by decide +kernel
theorem dX12_forCode_257 : decode cX12_forCode 257 = .ok (.bipush 11, 2) := by decide +kernel
theorem dX12_forCode_259 : decode cX12_forCode 259 = .ok (.iconst 0, 1) := by decide +kernel
theorem dX12_forCode_260 : decode cX12_forCode 260 = .ok (.iconst 0, 1) := by decide +kernel
theorem dX12_forCode_261 : decode cX12_forCode 261 = .ok (.iconst 0, 1) := by decide +kernel
theorem dX12_forCode_262 : decode cX12_forCode 262 = .ok (.invokevirtual 609, 3) := by decide +kernel
theorem dX12_forCode_265 : decode cX12_forCode 265 = .ok (.istore 10, 2) := by decide +kernel
theorem dX12_forCode_267 : decode cX12_forCode 267 = .ok (.aload_n 0, 1) := by decide +kernel
theorem dX12_forCode_268 : decode cX12_forCode 268 = .ok (.bipush 30, 2) := by decide +kernel
theorem dX12_forCode_270 : decode cX12_forCode 270 = .ok (.iload_n 2, 1) := by decide +kernel
theorem dX12_forCode_271 : decode cX12_forCode 271 = .ok (.iload 9, 2) := by decide +kernel
theorem dX12_forCode_273 : decode cX12_forCode 273 = .ok (.iconst 0, 1) := by decide +kernel
theorem dX12_forCode_274 : decode cX12_forCode 274 = .ok (.invokevirtual 609, 3) := by decide +kernel
theorem dX12_forCode_277 : decode cX12_forCode 277 = .ok (.istore 11, 2) := by decide +kernel
theorem dX12_forCode_279 : decode cX12_forCode 279 = .ok (.aload_n 0, 1) := by decide +kernel
theorem dX12_forCode_280 : decode cX12_forCode 280 = .ok (.bipush 10, 2) := by decide +kernel
theorem dX12_forCode_282 : decode cX12_forCode 282 = .ok (.iload 6, 2) := by decide +kernel
theorem dX12_forCode_284 : decode cX12_forCode 284 = .ok (.iconst 0, 1) := by decide +kernel
theorem dX12_forCode_285 : decode cX12_forCode 285 = .ok (.iconst 0, 1) := by decide +kernel
theorem dX12_forCode_286 : decode cX12_forCode 286 = .ok (.invokevirtual 609, 3) := by decide +kernel
theorem dX12_forCode_289 : decode cX12_forCode 289 = .ok (.istore 11, 2) := by decide +kernel
theorem dX12_forCode_291 : decode cX12_forCode 291 = .ok (.aload_n 0, 1) := by decide +kernel
theorem dX12_forCode_292 : decode cX12_forCode 292 = .ok (.iload 10, 2) := by decide +kernel
theorem dX12_forCode_294 : decode cX12_forCode 294 = .ok (.invokevirtual 625, 3) := by decide +kernel
theorem dX12_forCode_297 : decode cX12_forCode 297 = .ok (.goto 219, 3) := by decide +kernel
theorem dX12_forCode_300 : decode cX12_forCode 300 = .ok (.aload_n 0, 1) := by decide +kernel
theorem dX12_forCode_301 : decode cX12_forCode 301 = .ok (.aload_n 0, 1) := by decide +kernel
theorem dX12_forCode_302 : decode cX12_forCode 302 = .ok (.getfield 102, 3) := by decide +kernel
theorem dX12_forCode_305 : decode cX12_forCode 305 = .ok (.iload_n 1, 1) := by decide +kernel
theorem dX12_forCode_306 : decode cX12_forCode 306 = .ok (.iaload, 1) := by decide +kernel
theorem dX12_forCode_307 : decode cX12_forCode 307 = .ok (.aload_n 0, 1) := by decide +kernel
theorem dX12_forCode_308 : decode cX12_forCode 308 = .ok (.getfield 102, 3) := by decide +kernel
theorem dX12_forCode_311 : decode cX12_forCode 311 = .ok (.iload 8, 2) := by decide +kernel
theorem dX12_forCode_313 : decode cX12_forCode 313 = .ok (.iaload, 1) := by decide +kernel
theorem dX12_forCode_314 : decode cX12_forCode 314 = .ok (.invokevirtual 715, 3) := by decide +kernel
theorem dX12_forCode_317 : decode cX12_forCode 317 = .ok (.aload_n 0, 1) := by decide +kernel
theorem dX12_forCode_318 : decode cX12_forCode 318 = .ok (.bipush 10, 2) := by decide +kernel
theorem dX12_forCode_320 : decode cX12_forCode 320 = .ok (.iconst 0, 1) := by decide +kernel
theorem dX12_forCode_321 : decode cX12_forCode 321 = .ok (.iconst 0, 1) := by decide +kernel
theorem dX12_forCode_322 : decode cX12_forCode 322 = .ok (.iconst 0, 1) := by decide +kernel
theorem dX12_forCode_323 : decode cX12_forCode 323 = .ok (.invokevirtual 609, 3) := by decide +kernel
theorem dX12_forCode_326 : decode cX12_forCode 326 = .ok (.istore 9, 2) := by decide +kernel
theorem dX12_forCode_328 : decode cX12_forCode 328 = .ok (.aload_n 0, 1) := by decide +kernel
theorem dX12_forCode_329 : decode cX12_forCode 329 = .ok (.getfield 596, 3) := by decide +kernel
theorem dX12_forCode_332 : decode cX12_forCode 332 = .ok (.istore 10, 2) := by decide +kernel
theorem dX12_forCode_334 : decode cX12_forCode 334 = .ok (.aload_n 0, 1) := by decide +kernel
theorem dX12_forCode_335 : decode cX12_forCode 335 = .ok (.aload_n 0, 1) := by decide +kernel
theorem dX12_forCode_336 : decode cX12_forCode 336 = .ok (.getfield 105, 3) := by decide +kernel
theorem dX12_forCode_339 : decode cX12_forCode 339 = .ok (.iload 8, 2) := by decide +kernel
theorem dX12_forCode_341 : decode cX12_forCode 341 = .ok (.iaload, 1) := by decide +kernel
theorem dX12_forCode_342 : decode cX12_forCode 342 = .ok (.iconst 1, 1) := by decide +kernel
theorem dX12_forCode_343 : decode cX12_forCode 343 = .ok (.invokevirtual 622, 3) := by decide +kernel
theorem dX12_forCode_346 : decode cX12_forCode 346 = .ok (.aload_n 0, 1) := by decide +kernel
theorem dX12_forCode_347 : decode cX12_forCode 347 = .ok (.bipush 32, 2) := by decide +kernel
theorem dX12_forCode_349 : decode cX12_forCode 349 = .ok (.iconst 0, 1) := by decide +kernel
theorem dX12_forCode_350 : decode cX12_forCode 350 = .ok (.iconst 0, 1) := by decide +kernel
theorem dX12_forCode_351 : decode cX12_forCode 351 = .ok (.iconst 0, 1) := by decide +kernel
theorem dX12_forCode_352 : decode cX12_forCode 352 = .ok (.invokevirtual 609, 3) := by decide +kernel
theorem dX12_forCode_355 : decode cX12_forCode 355 = .ok (.istore 11, 2) := by decide +kernel
theorem dX12_forCode_357 : decode cX12_forCode 357 = .ok (.aload_n 0, 1) := by decide +kernel
theorem dX12_forCode_358 : decode cX12_forCode 358 = .ok (.getfield 596, 3) := by decide +kernel
theorem dX12_forCode_361 : decode cX12_forCode 361 = .ok (.istore 12, 2) := by decide +kernel
theorem dX12_forCode_363 : decode cX12_forCode 363 = .ok (.aload_n 0, 1) := by decide +kernel
theorem dX12_forCode_364 : decode cX12_forCode 364 = .ok (.bipush 12, 2) := by decide +kernel
theorem dX12_forCode_366 : decode cX12_forCode 366 = .ok (.iconst 0, 1) := by decide +kernel
theorem dX12_forCode_367 : decode cX12_forCode 367 = .ok (.iconst 0, 1) := by decide +kernel
theorem dX12_forCode_368 : decode cX12_forCode 368 = .ok (.iconst 0, 1) := by decide +kernel
theorem dX12_forCode_369 : decode cX12_forCode 369 = .ok (.invokevirtual 609, 3) := by decide +kernel
theorem dX12_forCode_372 : decode cX12_forCode 372 = .ok (.istore 11, 2) := by decide +kernel
theorem dX12_forCode_374 : decode cX12_forCode 374 = .ok (.aload_n 0, 1) := by decide +kernel
theorem dX12_forCode_375 : decode cX12_forCode 375 = .ok (.aload_n 0, 1) := by decide +kernel
theorem dX12_forCode_376 : decode cX12_forCode 376 = .ok (.getfield 102, 3) := by decide +kernel
theorem dX12_forCode_379 : decode cX12_forCode 379 = .ok (.iload_n 1, 1) := by decide +kernel
theorem dX12_forCode_380 : decode cX12_forCode 380 = .ok (.iaload, 1) := by decide +kernel
theorem dX12_forCode_381 : decode cX12_forCode 381 = .ok (.invokevirtual 718, 3) := by decide +kernel
theorem dX12_forCode_384 : decode cX12_forCode 384 = .ok (.istore 13, 2) := by decide +kernel
theorem dX12_forCode_386 : decode cX12_forCode 386 = .ok (.aload_n 0, 1) := by decide +kernel
theorem dX12_forCode_387 : decode cX12_forCode 387 = .ok (.aload_n 0, 1) := by decide +kernel
theorem dX12_forCode_388 : decode cX12_forCode 388 = .ok (.getfield 102, 3) := by decide +kernel
theorem dX12_forCode_391 : decode cX12_forCode 391 = .ok (.iload_n 1, 1) := by decide +kernel
theorem dX12_forCode_392 : decode cX12_forCode 392 = .ok (.iaload, 1) := by decide +kernel
theorem dX12_forCode_393 : decode cX12_forCode 393 = .ok (.invokevirtual 721, 3) := by decide +kernel
theorem dX12_forCode_396 : decode cX12_forCode 396 = .ok (.istore 13, 2) := by decide +kernel
theorem dX12_forCode_398 : decode cX12_forCode 398 = .ok (.aload_n 0, 1) := by decide +kernel
theorem dX12_forCode_399 : decode cX12_forCode 399 = .ok (.bipush 31, 2) := by decide +kernel
theorem dX12_forCode_401 : decode cX12_forCode 401 = .ok (.iload 10, 2) := by decide +kernel
theorem dX12_forCode_403 : decode cX12_forCode 403 = .ok (.iconst 0, 1) := by decide +kernel
theorem dX12_forCode_404 : decode cX12_forCode 404 = .ok (.iconst 0, 1) := by decide +kernel
theorem dX12_forCode_405 : decode cX12_forCode 405 = .ok (.invokevirtual 609, 3) := by decide +kernel
theorem dX12_forCode_408 : decode cX12_forCode 408 = .ok (.istore 11, 2) := by decide +kernel
theorem dX12_forCode_410 : decode cX12_forCode 410 = .ok (.aload_n 0, 1) := by decide +kernel
theorem dX12_forCode_411 : decode cX12_forCode 411 = .ok (.bipush 8, 2) := by decide +kernel
theorem dX12_forCode_413 : decode cX12_forCode 413 = .ok (.bipush 43, 2) := by decide +kernel
theorem dX12_forCode_415 : decode cX12_forCode 415 = .ok (.iconst 0, 1) := by decide +kernel
theorem dX12_forCode_416 : decode cX12_forCode 416 = .ok (.iconst 0, 1) := by decide +kernel
theorem dX12_forCode_417 : decode cX12_forCode 417 = .ok (.invokevirtual 609, 3) := by decide +kernel
theorem dX12_forCode_420 : decode cX12_forCode 420 = .ok (.istore 11, 2) := by decide +kernel
theorem dX12_forCode_422 : decode cX12_forCode 422 = .ok (.aload_n 0, 1) := by decide +kernel
theorem dX12_forCode_423 : decode cX12_forCode 423 = .ok (.bipush 7, 2) := by decide +kernel
theorem dX12_forCode_425 : decode cX12_forCode 425 = .ok (.iconst 1, 1) := by decide +kernel
theorem dX12_forCode_426 : decode cX12_forCode 426 = .ok (.iconst 0, 1) := by decide +kernel
theorem dX12_forCode_427 : decode cX12_forCode 427 = .ok (.iconst 0, 1) := by decide +kernel
theorem dX12_forCode_428 : decode cX12_forCode 428 = .ok (.invokevirtual 609, 3) := by decide +kernel
theorem dX12_forCode_431 : decode cX12_forCode 431 = .ok (.istore 11, 2) := by decide +kernel
theorem dX12_forCode_433 : decode cX12_forCode 433 = .ok (.aload_n 0, 1) := by decide +kernel
theorem dX12_forCode_434 : decode cX12_forCode 434 = .ok (.iload 9, 2) := by decide +kernel
theorem dX12_forCode_436 : decode cX12_forCode 436 = .ok (.invokevirtual 625, 3) := by decide +kernel
theorem dX12_forCode_439 : decode cX12_forCode 439 = .ok (.aload_n 0, 1) := by decide +kernel
theorem dX12_forCode_440 : decode cX12_forCode 440 = .ok (.bipush 31, 2) := by decide +kernel
theorem dX12_forCode_442 : decode cX12_forCode 442 = .ok (.iload 10, 2) := by decide +kernel
theorem dX12_forCode_444 : decode cX12_forCode 444 = .ok (.iconst 0, 1) := by decide +kernel
theorem dX12_forCode_445 : decode cX12_forCode 445 = .ok (.iconst 0, 1) := by decide +kernel
theorem dX12_forCode_446 : decode cX12_forCode 446 = .ok (.invokevirtual 609, 3) := by decide +kernel
theorem dX12_forCode_449 : decode cX12_forCode 449 = .ok (.istore 11, 2) := by decide +kernel
theorem dX12_forCode_451 : decode cX12_forCode 451 = .ok (.aload_n 0, 1) := by decide +kernel
theorem dX12_forCode_452 : decode cX12_forCode 452 = .ok (.aload_n 0, 1) := by decide +kernel
theorem dX12_forCode_453 : decode cX12_forCode 453 = .ok (.getfield 102, 3) := by decide +kernel
theorem dX12_forCode_456 : decode cX12_forCode 456 = .ok (.iload_n 1, 1) := by decide +kernel
theorem dX12_forCode_457 : decode cX12_forCode 457 = .ok (.iaload, 1) := by decide +kernel
theorem dX12_forCode_458 : decode cX12_forCode 458 = .ok (.invokevirtual 721, 3) := by decide +kernel
theorem dX12_forCode_461 : decode cX12_forCode 461 = .ok (.istore 13, 2) := by decide +kernel
theorem dX12_forCode_463 : decode cX12_forCode 463 = .ok (.aload_n 0, 1) := by decide +kernel
theorem dX12_forCode_464 : decode cX12_forCode 464 = .ok (.aload_n 0, 1) := by decide +kernel
theorem dX12_forCode_465 : decode cX12_forCode 465 = .ok (.getfield 108, 3) := by decide +kernel
theorem dX12_forCode_468 : decode cX12_forCode 468 = .ok (.iload 8, 2) := by decide +kernel
theorem dX12_forCode_470 : decode cX12_forCode 470 = .ok (.iaload, 1) := by decide +kernel
theorem dX12_forCode_471 : decode cX12_forCode 471 = .ok (.iconst 1, 1) := by decide +kernel
theorem dX12_forCode_472 : decode cX12_forCode 472 = .ok (.invokevirtual 622, 3) := by decide +kernel
theorem dX12_forCode_475 : decode cX12_forCode 475 = .ok (.aload_n 0, 1) := by decide +kernel
theorem dX12_forCode_476 : decode cX12_forCode 476 = .ok (.bipush 28, 2) := by decide +kernel
theorem dX12_forCode_478 : decode cX12_forCode 478 = .ok (.iconst 0, 1) := by decide +kernel
theorem dX12_forCode_479 : decode cX12_forCode 479 = .ok (.iconst 0, 1) := by decide +kernel
theorem dX12_forCode_480 : decode cX12_forCode 480 = .ok (.iconst 0, 1) := by decide +kernel
theorem dX12_forCode_481 : decode cX12_forCode 481 = .ok (.invokevirtual 609, 3) := by decide +kernel
theorem dX12_forCode_484 : decode cX12_forCode 484 = .ok (.istore 14, 2) := by decide +kernel
theorem dX12_forCode_486 : decode cX12_forCode 486 = .ok (.aload_n 0, 1) := by decide +kernel
theorem dX12_forCode_487 : decode cX12_forCode 487 = .ok (.bipush 30, 2) := by decide +kernel
theorem dX12_forCode_489 : decode cX12_forCode 489 = .ok (.iload_n 2, 1) := by decide +kernel
theorem dX12_forCode_490 : decode cX12_forCode 490 = .ok (.iload 12, 2) := by decide +kernel
theorem dX12_forCode_492 : decode cX12_forCode 492 = .ok (.iconst 0, 1) := by decide +kernel
theorem dX12_forCode_493 : decode cX12_forCode 493 = .ok (.invokevirtual 609, 3) := by decide +kernel
theorem dX12_forCode_496 : decode cX12_forCode 496 = .ok (.istore 11, 2) := by decide +kernel
theorem dX12_forCode_498 : decode cX12_forCode 498 = .ok (.aload_n 0, 1) := by decide +kernel
theorem dX12_forCode_499 : decode cX12_forCode 499 = .ok (.bipush 10, 2) := by decide +kernel
theorem dX12_forCode_501 : decode cX12_forCode 501 = .ok (.iload 6, 2) := by decide +kernel
theorem dX12_forCode_503 : decode cX12_forCode 503 = .ok (.iconst 0, 1) := by decide +kernel
theorem dX12_forCode_504 : decode cX12_forCode 504 = .ok (.iconst 0, 1) := by decide +kernel
theorem dX12_forCode_505 : decode cX12_forCode 505 = .ok (.invokevirtual 609, 3) := by decide +kernel
theorem dX12_forCode_508 : decode cX12_forCode 508 = .ok (.istore 11, 2) := by decide +kernel
theorem dX12_forCode_510 : decode cX12_forCode 510 = .ok (.aload_n 0, 1) := by decide +kernel
theorem dX12_forCode_511 : decode cX12_forCode 511 = .ok (.iload 14, 2) := by decide +kernel
theorem dX12_forCode_513 : decode cX12_forCode 513 = .ok (.invokevirtual 625, 3) := by decide +kernel
theorem dX12_forCode_516 : decode cX12_forCode 516 = .ok (.aload_n 0, 1) := by decide +kernel
theorem dX12_forCode_517 : decode cX12_forCode 517 = .ok (.getfield 111, 3) := by decide +kernel
theorem dX12_forCode_520 : decode cX12_forCode 520 = .ok (.iload 8, 2) := by decide +kernel
theorem dX12_forCode_522 : decode cX12_forCode 522 = .ok (.iaload, 1) := by decide +kernel
theorem dX12_forCode_523 : decode cX12_forCode 523 = .ok (.istore 8, 2) := by decide +kernel
theorem dX12_forCode_525 : decode cX12_forCode 525 = .ok (.goto (-381), 3) := by decide +kernel
theorem dX12_forCode_528 : decode cX12_forCode 528 = .ok (.return_, 1) := by decide +kernel
def fX12_forCode_144 (rc : TX12_row) (k_144 : Int32 → Int32 → Int32 → Int32 → Wd → Option (Int32 × Wd)) (a1 : Int32) (a2 : Int32) (a6 : Int32) (a8 : Int32) (w : Wd) : Option (Int32 × Wd) :=
  if a8 < 0 then (some (0, w)) else (if inb a8 24000 = true then if (gi w 7 (Int32.toNatClampNeg a8)) = 30 then (if inb a1 24000 = true then if inb a8 24000 = true then bn (fX12_setTo (gi w 8 (Int32.toNatClampNeg a1)) (gi w 8 (Int32.toNatClampNeg a8)) w) fun w6 => bn2 (fX12_op 30 a2 ((gi w6 0 64) + 2) 0 w6) fun x7 w8 => bn2 (fX12_op 10 a6 0 0 w8) fun x9 w10 => if inb a8 24000 = true then lt ((gi w10 11 (Int32.toNatClampNeg a8))) fun x12 => k_144 a1 a2 a6 x12 w10 else none else none else none) else (if inb a8 24000 = true then if (gi w 7 (Int32.toNatClampNeg a8)) = 32 then (lt ((gi w 0 64)) fun x15 => if inb a1 24000 = true then if inb a8 24000 = true then bn (fX12_setTo (gi w 8 (Int32.toNatClampNeg a1)) (gi w 8 (Int32.toNatClampNeg a8)) w) fun w18 => if inb a8 24000 = true then bn2 (RX12_mustBe 1700 0 (gi w18 9 (Int32.toNatClampNeg a8)) 2 0 w18) fun _ w21 => bn2 (fX12_op 11 0 0 0 w21) fun x22 w23 => bn2 (fX12_op 30 a2 x15 0 w23) fun x24 w25 => bn2 (fX12_op 10 a6 0 0 w25) fun x26 w27 => bn (fX12_patch x22 w27) fun w28 => if inb a8 24000 = true then lt ((gi w28 11 (Int32.toNatClampNeg a8))) fun x30 => k_144 a1 a2 a6 x30 w28 else none else none else none else none) else (if inb a1 24000 = true then if inb a8 24000 = true then bn (fX12_setTo (gi w 8 (Int32.toNatClampNeg a1)) (gi w 8 (Int32.toNatClampNeg a8)) w) fun w33 => bn2 (fX12_op 10 0 0 0 w33) fun x34 w35 => lt ((gi w35 0 64)) fun x36 => if inb a8 24000 = true then bn2 (RX12_mustBe 1700 0 (gi w35 9 (Int32.toNatClampNeg a8)) 1 0 w35) fun _ w39 => bn2 (fX12_op 32 0 0 0 w39) fun x40 w41 => lt ((gi w41 0 64)) fun x42 => bn2 (fX12_op 12 0 0 0 w41) fun x43 w44 => if inb a1 24000 = true then bn2 (fX12_target (gi w44 8 (Int32.toNatClampNeg a1)) w44) fun x46 w47 => if inb a1 24000 = true then bn2 (fX12_read (gi w47 8 (Int32.toNatClampNeg a1)) w47) fun x49 w50 => bn2 (fX12_op 31 x36 0 0 w50) fun x51 w52 => bn2 (fX12_op 8 43 0 0 w52) fun x53 w54 => bn2 (fX12_op 7 1 0 0 w54) fun x55 w56 => bn (fX12_patch x34 w56) fun w57 => bn2 (fX12_op 31 x36 0 0 w57) fun x58 w59 => if inb a1 24000 = true then bn2 (fX12_read (gi w59 8 (Int32.toNatClampNeg a1)) w59) fun x61 w62 => if inb a8 24000 = true then bn2 (RX12_mustBe 1700 0 (gi w62 10 (Int32.toNatClampNeg a8)) 1 0 w62) fun _ w65 => bn2 (fX12_op 28 0 0 0 w65) fun x66 w67 => bn2 (fX12_op 30 a2 x42 0 w67) fun x68 w69 => bn2 (fX12_op 10 a6 0 0 w69) fun x70 w71 => bn (fX12_patch x66 w71) fun w72 => if inb a8 24000 = true then lt ((gi w72 11 (Int32.toNatClampNeg a8))) fun x74 => k_144 a1 a2 a6 x74 w72 else none else none else none else none else none else none else none else none) else none) else none)
set_option maxHeartbeats 16000000 in
theorem pX12_forCode_144 {q : Gq} {l : Launch} {N : Option Value → Wd → Prop} {X : String → Wd → Prop} {rc : TX12_row} {dd : Nat} (hS : HSX12_row q l rc dd) (hK : 1708 ≤ dd) {w : Wd} {R : Int32 × Wd} (hN : N none R.2) {k_144 : Int32 → Int32 → Int32 → Int32 → Wd → Option (Int32 × Wd)} (hk_144 : ∀ (a1 : Int32) (a2 : Int32) (a6 : Int32) (a8 : Int32) (w : Wd), k_144 a1 a2 a6 a8 w = some R → RT (GM q) l (dd + 1) yX12_forCode cX12_forCode 15 (none) N X 144 [] [(0, .ref 0), (1, .int a1), (2, .int a2), (6, .int a6), (8, .int a8)] w) {a1 : Int32} {a2 : Int32} {a6 : Int32} {a8 : Int32} (h : fX12_forCode_144 rc k_144 a1 a2 a6 a8 w = some R) : RT (GM q) l (dd + 1) yX12_forCode cX12_forCode 15 (none) N X 144 [] [(0, .ref 0), (1, .int a1), (2, .int a2), (6, .int a6), (8, .int a8)] w := by
  unfold fX12_forCode_144 at h
  refine r_iload (pc := 144) dX12_forCode_144 4 rfl ?_
  refine r_if_lt (pc := 146) dX12_forCode_146 rfl (fun hc1 => ?_) (fun hc1 => ?_)
  · replace h := if_t hc1 h
    exact rOR_v (pc := 528) rfl dX12_forCode_528 h hN
  replace h := if_f hc1 h
  refine r_aload_n (pc := 149) dX12_forCode_149 rfl 0 rfl ?_
  refine r_get (pc := 150) (j := 16) (v := .ref 7) oM0 cf12 flRX12_99 rfl dX12_forCode_150 rfl ?_
  refine r_iload (pc := 153) dX12_forCode_153 4 rfl ?_
  replace h := if_n h; obtain ⟨hb2, h⟩ := h
  refine r_iald (pc := 155) aM7 (inb_in hb2) dX12_forCode_155 ?_
  refine r_bipush (pc := 156) dX12_forCode_156 kb_30 ?_
  refine r_icmp_ne (pc := 158) dX12_forCode_158 rfl (fun hc3 => ?_) (fun hc3 => ?_)
  · replace h := if_f hc3 h
    refine r_aload_n (pc := 209) dX12_forCode_209 rfl 0 rfl ?_
    refine r_get (pc := 210) (j := 16) (v := .ref 7) oM0 cf12 flRX12_99 rfl dX12_forCode_210 rfl ?_
    refine r_iload (pc := 213) dX12_forCode_213 4 rfl ?_
    replace h := if_n h; obtain ⟨hb13, h⟩ := h
    refine r_iald (pc := 215) aM7 (inb_in hb13) dX12_forCode_215 ?_
    refine r_bipush (pc := 216) dX12_forCode_216 kb_32 ?_
    refine r_icmp_ne (pc := 218) dX12_forCode_218 rfl (fun hc14 => ?_) (fun hc14 => ?_)
    · replace h := if_f hc14 h
      refine r_aload_n (pc := 300) dX12_forCode_300 rfl 0 rfl ?_
      refine r_aload_n (pc := 301) dX12_forCode_301 rfl 0 rfl ?_
      refine r_get (pc := 302) (j := 17) (v := .ref 8) oM0 cf12 flRX12_102 rfl dX12_forCode_302 rfl ?_
      refine r_iload_n (pc := 305) dX12_forCode_305 rfl 1 rfl ?_
      replace h := if_n h; obtain ⟨hb31, h⟩ := h
      refine r_iald (pc := 306) aM8 (inb_in hb31) dX12_forCode_306 ?_
      refine r_aload_n (pc := 307) dX12_forCode_307 rfl 0 rfl ?_
      refine r_get (pc := 308) (j := 17) (v := .ref 8) oM0 cf12 flRX12_102 rfl dX12_forCode_308 rfl ?_
      refine r_iload (pc := 311) dX12_forCode_311 4 rfl ?_
      replace h := if_n h; obtain ⟨hb32, h⟩ := h
      refine r_iald (pc := 313) aM8 (inb_in hb32) dX12_forCode_313 ?_
      replace h := bn_e h; obtain ⟨w33, ew33, h⟩ := h
      refine r_cVv (pc := 314) wyX12_setTo oM0 rfl mlRX12_715 iyX12_setTo syX12_setTo ⟨Nat.succ_le_succ (Nat.le_trans (Nat.le_of_ble_eq_true rfl) hK), (Nat.le_of_ble_eq_true rfl)⟩ rfl rfl (Nat.le_of_ble_eq_true rfl) dX12_forCode_314 (mX12_setTo ew33 (pV.mk ?_))
      refine r_aload_n (pc := 317) dX12_forCode_317 rfl 0 rfl ?_
      refine r_bipush (pc := 318) dX12_forCode_318 kb_10 ?_
      refine r_iconst (pc := 320) dX12_forCode_320 ki_0 ?_
      refine r_iconst (pc := 321) dX12_forCode_321 ki_0 ?_
      refine r_iconst (pc := 322) dX12_forCode_322 ki_0 ?_
      replace h := bn2_e h; obtain ⟨x34, w35, ew35, h⟩ := h
      refine r_cVi (pc := 323) wyX12_op oM0 rfl mlRX12_609 iyX12_op syX12_op ⟨Nat.succ_le_succ (Nat.le_trans (Nat.le_of_ble_eq_true rfl) hK), (Nat.le_of_ble_eq_true rfl)⟩ rfl rfl (Nat.le_of_ble_eq_true rfl) dX12_forCode_323 (mX12_op ew35 (pI.mk ?_))
      refine r_istore (pc := 326) (loc' := [(9, .int x34), (0, .ref 0), (1, .int a1), (2, .int a2), (6, .int a6), (8, .int a8)]) dX12_forCode_326 (Nat.le_of_ble_eq_true rfl) rfl ?_
      refine r_aload_n (pc := 328) dX12_forCode_328 rfl 1 rfl ?_
      refine r_get (pc := 329) (j := 64) (v := .int (gi w35 0 64)) oM0 cf12 flRX12_596 rfl dX12_forCode_329 rfl ?_
      replace h := lt_e h; obtain ⟨x36, ex36, h⟩ := h
      refine r_topi ex36 ?_
      refine r_istore (pc := 332) (loc' := [(10, .int x36), (9, .int x34), (0, .ref 0), (1, .int a1), (2, .int a2), (6, .int a6), (8, .int a8)]) dX12_forCode_332 (Nat.le_of_ble_eq_true rfl) rfl ?_
      refine r_aload_n (pc := 334) dX12_forCode_334 rfl 2 rfl ?_
      refine r_aload_n (pc := 335) dX12_forCode_335 rfl 2 rfl ?_
      refine r_get (pc := 336) (j := 18) (v := .ref 9) oM0 cf12 flRX12_105 rfl dX12_forCode_336 rfl ?_
      refine r_iload (pc := 339) dX12_forCode_339 6 rfl ?_
      replace h := if_n h; obtain ⟨hb37, h⟩ := h
      refine r_iald (pc := 341) aM9 (inb_in hb37) dX12_forCode_341 ?_
      refine r_iconst (pc := 342) dX12_forCode_342 ki_1 ?_
      replace h := bn2_e h; obtain ⟨x38, w39, ew39, h⟩ := h
      refine r_cVv (pc := 343) wyX12_mustBe oM0 rfl mlRX12_622 iyX12_mustBe syX12_mustBe ⟨Nat.succ_le_succ (Nat.le_trans (Nat.le_of_ble_eq_true rfl) hK), (Nat.le_of_ble_eq_true rfl)⟩ rfl rfl (Nat.le_of_ble_eq_true rfl) dX12_forCode_343 (mX12_mustBe ew39 (pV.mk ?_))
      refine r_aload_n (pc := 346) dX12_forCode_346 rfl 2 rfl ?_
      refine r_bipush (pc := 347) dX12_forCode_347 kb_32 ?_
      refine r_iconst (pc := 349) dX12_forCode_349 ki_0 ?_
      refine r_iconst (pc := 350) dX12_forCode_350 ki_0 ?_
      refine r_iconst (pc := 351) dX12_forCode_351 ki_0 ?_
      replace h := bn2_e h; obtain ⟨x40, w41, ew41, h⟩ := h
      refine r_cVi (pc := 352) wyX12_op oM0 rfl mlRX12_609 iyX12_op syX12_op ⟨Nat.succ_le_succ (Nat.le_trans (Nat.le_of_ble_eq_true rfl) hK), (Nat.le_of_ble_eq_true rfl)⟩ rfl rfl (Nat.le_of_ble_eq_true rfl) dX12_forCode_352 (mX12_op ew41 (pI.mk ?_))
      refine r_istore (pc := 355) (loc' := [(11, .int x40), (10, .int x36), (9, .int x34), (0, .ref 0), (1, .int a1), (2, .int a2), (6, .int a6), (8, .int a8)]) dX12_forCode_355 (Nat.le_of_ble_eq_true rfl) rfl ?_
      refine r_aload_n (pc := 357) dX12_forCode_357 rfl 3 rfl ?_
      refine r_get (pc := 358) (j := 64) (v := .int (gi w41 0 64)) oM0 cf12 flRX12_596 rfl dX12_forCode_358 rfl ?_
      replace h := lt_e h; obtain ⟨x42, ex42, h⟩ := h
      refine r_topi ex42 ?_
      refine r_istore (pc := 361) (loc' := [(12, .int x42), (11, .int x40), (10, .int x36), (9, .int x34), (0, .ref 0), (1, .int a1), (2, .int a2), (6, .int a6), (8, .int a8)]) dX12_forCode_361 (Nat.le_of_ble_eq_true rfl) rfl ?_
      refine r_aload_n (pc := 363) dX12_forCode_363 rfl 4 rfl ?_
      refine r_bipush (pc := 364) dX12_forCode_364 kb_12 ?_
      refine r_iconst (pc := 366) dX12_forCode_366 ki_0 ?_
      refine r_iconst (pc := 367) dX12_forCode_367 ki_0 ?_
      refine r_iconst (pc := 368) dX12_forCode_368 ki_0 ?_
      replace h := bn2_e h; obtain ⟨x43, w44, ew44, h⟩ := h
      refine r_cVi (pc := 369) wyX12_op oM0 rfl mlRX12_609 iyX12_op syX12_op ⟨Nat.succ_le_succ (Nat.le_trans (Nat.le_of_ble_eq_true rfl) hK), (Nat.le_of_ble_eq_true rfl)⟩ rfl rfl (Nat.le_of_ble_eq_true rfl) dX12_forCode_369 (mX12_op ew44 (pI.mk ?_))
      refine r_istore (pc := 372) (loc' := [(11, .int x43), (12, .int x42), (10, .int x36), (9, .int x34), (0, .ref 0), (1, .int a1), (2, .int a2), (6, .int a6), (8, .int a8)]) dX12_forCode_372 (Nat.le_of_ble_eq_true rfl) rfl ?_
      refine r_aload_n (pc := 374) dX12_forCode_374 rfl 4 rfl ?_
      refine r_aload_n (pc := 375) dX12_forCode_375 rfl 4 rfl ?_
      refine r_get (pc := 376) (j := 17) (v := .ref 8) oM0 cf12 flRX12_102 rfl dX12_forCode_376 rfl ?_
      refine r_iload_n (pc := 379) dX12_forCode_379 rfl 5 rfl ?_
      replace h := if_n h; obtain ⟨hb45, h⟩ := h
      refine r_iald (pc := 380) aM8 (inb_in hb45) dX12_forCode_380 ?_
      replace h := bn2_e h; obtain ⟨x46, w47, ew47, h⟩ := h
      refine r_cVi (pc := 381) wyX12_target oM0 rfl mlRX12_718 iyX12_target syX12_target ⟨Nat.succ_le_succ (Nat.le_trans (Nat.le_of_ble_eq_true rfl) hK), (Nat.le_of_ble_eq_true rfl)⟩ rfl rfl (Nat.le_of_ble_eq_true rfl) dX12_forCode_381 (mX12_target ew47 (pI.mk ?_))
      refine r_istore (pc := 384) (loc' := [(13, .int x46), (11, .int x43), (12, .int x42), (10, .int x36), (9, .int x34), (0, .ref 0), (1, .int a1), (2, .int a2), (6, .int a6), (8, .int a8)]) dX12_forCode_384 (Nat.le_of_ble_eq_true rfl) rfl ?_
      refine r_aload_n (pc := 386) dX12_forCode_386 rfl 5 rfl ?_
      refine r_aload_n (pc := 387) dX12_forCode_387 rfl 5 rfl ?_
      refine r_get (pc := 388) (j := 17) (v := .ref 8) oM0 cf12 flRX12_102 rfl dX12_forCode_388 rfl ?_
      refine r_iload_n (pc := 391) dX12_forCode_391 rfl 6 rfl ?_
      replace h := if_n h; obtain ⟨hb48, h⟩ := h
      refine r_iald (pc := 392) aM8 (inb_in hb48) dX12_forCode_392 ?_
      replace h := bn2_e h; obtain ⟨x49, w50, ew50, h⟩ := h
      refine r_cVi (pc := 393) wyX12_read oM0 rfl mlRX12_721 iyX12_read syX12_read ⟨Nat.succ_le_succ (Nat.le_trans (Nat.le_of_ble_eq_true rfl) hK), (Nat.le_of_ble_eq_true rfl)⟩ rfl rfl (Nat.le_of_ble_eq_true rfl) dX12_forCode_393 (mX12_read ew50 (pI.mk ?_))
      refine r_istore (pc := 396) (loc' := [(13, .int x49), (11, .int x43), (12, .int x42), (10, .int x36), (9, .int x34), (0, .ref 0), (1, .int a1), (2, .int a2), (6, .int a6), (8, .int a8)]) dX12_forCode_396 (Nat.le_of_ble_eq_true rfl) rfl ?_
      refine r_aload_n (pc := 398) dX12_forCode_398 rfl 5 rfl ?_
      refine r_bipush (pc := 399) dX12_forCode_399 kb_31 ?_
      refine r_iload (pc := 401) dX12_forCode_401 3 rfl ?_
      refine r_iconst (pc := 403) dX12_forCode_403 ki_0 ?_
      refine r_iconst (pc := 404) dX12_forCode_404 ki_0 ?_
      replace h := bn2_e h; obtain ⟨x51, w52, ew52, h⟩ := h
      refine r_cVi (pc := 405) wyX12_op oM0 rfl mlRX12_609 iyX12_op syX12_op ⟨Nat.succ_le_succ (Nat.le_trans (Nat.le_of_ble_eq_true rfl) hK), (Nat.le_of_ble_eq_true rfl)⟩ rfl rfl (Nat.le_of_ble_eq_true rfl) dX12_forCode_405 (mX12_op ew52 (pI.mk ?_))
      refine r_istore (pc := 408) (loc' := [(11, .int x51), (13, .int x49), (12, .int x42), (10, .int x36), (9, .int x34), (0, .ref 0), (1, .int a1), (2, .int a2), (6, .int a6), (8, .int a8)]) dX12_forCode_408 (Nat.le_of_ble_eq_true rfl) rfl ?_
      refine r_aload_n (pc := 410) dX12_forCode_410 rfl 5 rfl ?_
      refine r_bipush (pc := 411) dX12_forCode_411 kb_8 ?_
      refine r_bipush (pc := 413) dX12_forCode_413 kb_43 ?_
      refine r_iconst (pc := 415) dX12_forCode_415 ki_0 ?_
      refine r_iconst (pc := 416) dX12_forCode_416 ki_0 ?_
      replace h := bn2_e h; obtain ⟨x53, w54, ew54, h⟩ := h
      refine r_cVi (pc := 417) wyX12_op oM0 rfl mlRX12_609 iyX12_op syX12_op ⟨Nat.succ_le_succ (Nat.le_trans (Nat.le_of_ble_eq_true rfl) hK), (Nat.le_of_ble_eq_true rfl)⟩ rfl rfl (Nat.le_of_ble_eq_true rfl) dX12_forCode_417 (mX12_op ew54 (pI.mk ?_))
      refine r_istore (pc := 420) (loc' := [(11, .int x53), (13, .int x49), (12, .int x42), (10, .int x36), (9, .int x34), (0, .ref 0), (1, .int a1), (2, .int a2), (6, .int a6), (8, .int a8)]) dX12_forCode_420 (Nat.le_of_ble_eq_true rfl) rfl ?_
      refine r_aload_n (pc := 422) dX12_forCode_422 rfl 5 rfl ?_
      refine r_bipush (pc := 423) dX12_forCode_423 kb_7 ?_
      refine r_iconst (pc := 425) dX12_forCode_425 ki_1 ?_
      refine r_iconst (pc := 426) dX12_forCode_426 ki_0 ?_
      refine r_iconst (pc := 427) dX12_forCode_427 ki_0 ?_
      replace h := bn2_e h; obtain ⟨x55, w56, ew56, h⟩ := h
      refine r_cVi (pc := 428) wyX12_op oM0 rfl mlRX12_609 iyX12_op syX12_op ⟨Nat.succ_le_succ (Nat.le_trans (Nat.le_of_ble_eq_true rfl) hK), (Nat.le_of_ble_eq_true rfl)⟩ rfl rfl (Nat.le_of_ble_eq_true rfl) dX12_forCode_428 (mX12_op ew56 (pI.mk ?_))
      refine r_istore (pc := 431) (loc' := [(11, .int x55), (13, .int x49), (12, .int x42), (10, .int x36), (9, .int x34), (0, .ref 0), (1, .int a1), (2, .int a2), (6, .int a6), (8, .int a8)]) dX12_forCode_431 (Nat.le_of_ble_eq_true rfl) rfl ?_
      refine r_aload_n (pc := 433) dX12_forCode_433 rfl 5 rfl ?_
      refine r_iload (pc := 434) dX12_forCode_434 4 rfl ?_
      replace h := bn_e h; obtain ⟨w57, ew57, h⟩ := h
      refine r_cVv (pc := 436) wyX12_patch oM0 rfl mlRX12_625 iyX12_patch syX12_patch ⟨Nat.succ_le_succ (Nat.le_trans (Nat.le_of_ble_eq_true rfl) hK), (Nat.le_of_ble_eq_true rfl)⟩ rfl rfl (Nat.le_of_ble_eq_true rfl) dX12_forCode_436 (mX12_patch ew57 (pV.mk ?_))
      refine r_aload_n (pc := 439) dX12_forCode_439 rfl 5 rfl ?_
      refine r_bipush (pc := 440) dX12_forCode_440 kb_31 ?_
      refine r_iload (pc := 442) dX12_forCode_442 3 rfl ?_
      refine r_iconst (pc := 444) dX12_forCode_444 ki_0 ?_
      refine r_iconst (pc := 445) dX12_forCode_445 ki_0 ?_
      replace h := bn2_e h; obtain ⟨x58, w59, ew59, h⟩ := h
      refine r_cVi (pc := 446) wyX12_op oM0 rfl mlRX12_609 iyX12_op syX12_op ⟨Nat.succ_le_succ (Nat.le_trans (Nat.le_of_ble_eq_true rfl) hK), (Nat.le_of_ble_eq_true rfl)⟩ rfl rfl (Nat.le_of_ble_eq_true rfl) dX12_forCode_446 (mX12_op ew59 (pI.mk ?_))
      refine r_istore (pc := 449) (loc' := [(11, .int x58), (13, .int x49), (12, .int x42), (10, .int x36), (9, .int x34), (0, .ref 0), (1, .int a1), (2, .int a2), (6, .int a6), (8, .int a8)]) dX12_forCode_449 (Nat.le_of_ble_eq_true rfl) rfl ?_
      refine r_aload_n (pc := 451) dX12_forCode_451 rfl 5 rfl ?_
      refine r_aload_n (pc := 452) dX12_forCode_452 rfl 5 rfl ?_
      refine r_get (pc := 453) (j := 17) (v := .ref 8) oM0 cf12 flRX12_102 rfl dX12_forCode_453 rfl ?_
      refine r_iload_n (pc := 456) dX12_forCode_456 rfl 6 rfl ?_
      replace h := if_n h; obtain ⟨hb60, h⟩ := h
      refine r_iald (pc := 457) aM8 (inb_in hb60) dX12_forCode_457 ?_
      replace h := bn2_e h; obtain ⟨x61, w62, ew62, h⟩ := h
      refine r_cVi (pc := 458) wyX12_read oM0 rfl mlRX12_721 iyX12_read syX12_read ⟨Nat.succ_le_succ (Nat.le_trans (Nat.le_of_ble_eq_true rfl) hK), (Nat.le_of_ble_eq_true rfl)⟩ rfl rfl (Nat.le_of_ble_eq_true rfl) dX12_forCode_458 (mX12_read ew62 (pI.mk ?_))
      refine r_istore (pc := 461) (loc' := [(13, .int x61), (11, .int x58), (12, .int x42), (10, .int x36), (9, .int x34), (0, .ref 0), (1, .int a1), (2, .int a2), (6, .int a6), (8, .int a8)]) dX12_forCode_461 (Nat.le_of_ble_eq_true rfl) rfl ?_
      refine r_aload_n (pc := 463) dX12_forCode_463 rfl 5 rfl ?_
      refine r_aload_n (pc := 464) dX12_forCode_464 rfl 5 rfl ?_
      refine r_get (pc := 465) (j := 19) (v := .ref 10) oM0 cf12 flRX12_108 rfl dX12_forCode_465 rfl ?_
      refine r_iload (pc := 468) dX12_forCode_468 9 rfl ?_
      replace h := if_n h; obtain ⟨hb63, h⟩ := h
      refine r_iald (pc := 470) aM10 (inb_in hb63) dX12_forCode_470 ?_
      refine r_iconst (pc := 471) dX12_forCode_471 ki_1 ?_
      replace h := bn2_e h; obtain ⟨x64, w65, ew65, h⟩ := h
      refine r_cVv (pc := 472) wyX12_mustBe oM0 rfl mlRX12_622 iyX12_mustBe syX12_mustBe ⟨Nat.succ_le_succ (Nat.le_trans (Nat.le_of_ble_eq_true rfl) hK), (Nat.le_of_ble_eq_true rfl)⟩ rfl rfl (Nat.le_of_ble_eq_true rfl) dX12_forCode_472 (mX12_mustBe ew65 (pV.mk ?_))
      refine r_aload_n (pc := 475) dX12_forCode_475 rfl 5 rfl ?_
      refine r_bipush (pc := 476) dX12_forCode_476 kb_28 ?_
      refine r_iconst (pc := 478) dX12_forCode_478 ki_0 ?_
      refine r_iconst (pc := 479) dX12_forCode_479 ki_0 ?_
      refine r_iconst (pc := 480) dX12_forCode_480 ki_0 ?_
      replace h := bn2_e h; obtain ⟨x66, w67, ew67, h⟩ := h
      refine r_cVi (pc := 481) wyX12_op oM0 rfl mlRX12_609 iyX12_op syX12_op ⟨Nat.succ_le_succ (Nat.le_trans (Nat.le_of_ble_eq_true rfl) hK), (Nat.le_of_ble_eq_true rfl)⟩ rfl rfl (Nat.le_of_ble_eq_true rfl) dX12_forCode_481 (mX12_op ew67 (pI.mk ?_))
      refine r_istore (pc := 484) (loc' := [(14, .int x66), (13, .int x61), (11, .int x58), (12, .int x42), (10, .int x36), (9, .int x34), (0, .ref 0), (1, .int a1), (2, .int a2), (6, .int a6), (8, .int a8)]) dX12_forCode_484 (Nat.le_of_ble_eq_true rfl) rfl ?_
      refine r_aload_n (pc := 486) dX12_forCode_486 rfl 6 rfl ?_
      refine r_bipush (pc := 487) dX12_forCode_487 kb_30 ?_
      refine r_iload_n (pc := 489) dX12_forCode_489 rfl 8 rfl ?_
      refine r_iload (pc := 490) dX12_forCode_490 3 rfl ?_
      refine r_iconst (pc := 492) dX12_forCode_492 ki_0 ?_
      replace h := bn2_e h; obtain ⟨x68, w69, ew69, h⟩ := h
      refine r_cVi (pc := 493) wyX12_op oM0 rfl mlRX12_609 iyX12_op syX12_op ⟨Nat.succ_le_succ (Nat.le_trans (Nat.le_of_ble_eq_true rfl) hK), (Nat.le_of_ble_eq_true rfl)⟩ rfl rfl (Nat.le_of_ble_eq_true rfl) dX12_forCode_493 (mX12_op ew69 (pI.mk ?_))
      refine r_istore (pc := 496) (loc' := [(11, .int x68), (14, .int x66), (13, .int x61), (12, .int x42), (10, .int x36), (9, .int x34), (0, .ref 0), (1, .int a1), (2, .int a2), (6, .int a6), (8, .int a8)]) dX12_forCode_496 (Nat.le_of_ble_eq_true rfl) rfl ?_
      refine r_aload_n (pc := 498) dX12_forCode_498 rfl 6 rfl ?_
      refine r_bipush (pc := 499) dX12_forCode_499 kb_10 ?_
      refine r_iload (pc := 501) dX12_forCode_501 9 rfl ?_
      refine r_iconst (pc := 503) dX12_forCode_503 ki_0 ?_
      refine r_iconst (pc := 504) dX12_forCode_504 ki_0 ?_
      replace h := bn2_e h; obtain ⟨x70, w71, ew71, h⟩ := h
      refine r_cVi (pc := 505) wyX12_op oM0 rfl mlRX12_609 iyX12_op syX12_op ⟨Nat.succ_le_succ (Nat.le_trans (Nat.le_of_ble_eq_true rfl) hK), (Nat.le_of_ble_eq_true rfl)⟩ rfl rfl (Nat.le_of_ble_eq_true rfl) dX12_forCode_505 (mX12_op ew71 (pI.mk ?_))
      refine r_istore (pc := 508) (loc' := [(11, .int x70), (14, .int x66), (13, .int x61), (12, .int x42), (10, .int x36), (9, .int x34), (0, .ref 0), (1, .int a1), (2, .int a2), (6, .int a6), (8, .int a8)]) dX12_forCode_508 (Nat.le_of_ble_eq_true rfl) rfl ?_
      refine r_aload_n (pc := 510) dX12_forCode_510 rfl 6 rfl ?_
      refine r_iload (pc := 511) dX12_forCode_511 1 rfl ?_
      replace h := bn_e h; obtain ⟨w72, ew72, h⟩ := h
      refine r_cVv (pc := 513) wyX12_patch oM0 rfl mlRX12_625 iyX12_patch syX12_patch ⟨Nat.succ_le_succ (Nat.le_trans (Nat.le_of_ble_eq_true rfl) hK), (Nat.le_of_ble_eq_true rfl)⟩ rfl rfl (Nat.le_of_ble_eq_true rfl) dX12_forCode_513 (mX12_patch ew72 (pV.mk ?_))
      refine r_aload_n (pc := 516) dX12_forCode_516 rfl 6 rfl ?_
      refine r_get (pc := 517) (j := 20) (v := .ref 11) oM0 cf12 flRX12_111 rfl dX12_forCode_517 rfl ?_
      refine r_iload (pc := 520) dX12_forCode_520 10 rfl ?_
      replace h := if_n h; obtain ⟨hb73, h⟩ := h
      refine r_iald (pc := 522) aM11 (inb_in hb73) dX12_forCode_522 ?_
      replace h := lt_e h; obtain ⟨x74, ex74, h⟩ := h
      refine r_topi ex74 ?_
      refine r_istore (pc := 523) (loc' := [(8, .int x74), (11, .int x70), (14, .int x66), (13, .int x61), (12, .int x42), (10, .int x36), (9, .int x34), (0, .ref 0), (1, .int a1), (2, .int a2), (6, .int a6)]) dX12_forCode_523 (Nat.le_of_ble_eq_true rfl) rfl ?_
      refine r_goto (pc := 525) dX12_forCode_525 rfl ?_
      refine r_drop (loc' := [(0, .ref 0), (1, .int a1), (2, .int a2), (6, .int a6), (8, .int x74)]) [7, 8, 9, 10, 0] rfl ?_
      exact hk_144 a1 a2 a6 x74 w72 h
    replace h := if_t hc14 h
    refine r_aload_n (pc := 221) dX12_forCode_221 rfl 0 rfl ?_
    refine r_get (pc := 222) (j := 64) (v := .int (gi w 0 64)) oM0 cf12 flRX12_596 rfl dX12_forCode_222 rfl ?_
    replace h := lt_e h; obtain ⟨x15, ex15, h⟩ := h
    refine r_topi ex15 ?_
    refine r_istore (pc := 225) (loc' := [(9, .int x15), (0, .ref 0), (1, .int a1), (2, .int a2), (6, .int a6), (8, .int a8)]) dX12_forCode_225 (Nat.le_of_ble_eq_true rfl) rfl ?_
    refine r_aload_n (pc := 227) dX12_forCode_227 rfl 1 rfl ?_
    refine r_aload_n (pc := 228) dX12_forCode_228 rfl 1 rfl ?_
    refine r_get (pc := 229) (j := 17) (v := .ref 8) oM0 cf12 flRX12_102 rfl dX12_forCode_229 rfl ?_
    refine r_iload_n (pc := 232) dX12_forCode_232 rfl 2 rfl ?_
    replace h := if_n h; obtain ⟨hb16, h⟩ := h
    refine r_iald (pc := 233) aM8 (inb_in hb16) dX12_forCode_233 ?_
    refine r_aload_n (pc := 234) dX12_forCode_234 rfl 1 rfl ?_
    refine r_get (pc := 235) (j := 17) (v := .ref 8) oM0 cf12 flRX12_102 rfl dX12_forCode_235 rfl ?_
    refine r_iload (pc := 238) dX12_forCode_238 5 rfl ?_
    replace h := if_n h; obtain ⟨hb17, h⟩ := h
    refine r_iald (pc := 240) aM8 (inb_in hb17) dX12_forCode_240 ?_
    replace h := bn_e h; obtain ⟨w18, ew18, h⟩ := h
    refine r_cVv (pc := 241) wyX12_setTo oM0 rfl mlRX12_715 iyX12_setTo syX12_setTo ⟨Nat.succ_le_succ (Nat.le_trans (Nat.le_of_ble_eq_true rfl) hK), (Nat.le_of_ble_eq_true rfl)⟩ rfl rfl (Nat.le_of_ble_eq_true rfl) dX12_forCode_241 (mX12_setTo ew18 (pV.mk ?_))
    refine r_aload_n (pc := 244) dX12_forCode_244 rfl 1 rfl ?_
    refine r_aload_n (pc := 245) dX12_forCode_245 rfl 1 rfl ?_
    refine r_get (pc := 246) (j := 18) (v := .ref 9) oM0 cf12 flRX12_105 rfl dX12_forCode_246 rfl ?_
    refine r_iload (pc := 249) dX12_forCode_249 5 rfl ?_
    replace h := if_n h; obtain ⟨hb19, h⟩ := h
    refine r_iald (pc := 251) aM9 (inb_in hb19) dX12_forCode_251 ?_
    refine r_iconst (pc := 252) dX12_forCode_252 ki_2 ?_
    replace h := bn2_e h; obtain ⟨x20, w21, ew21, h⟩ := h
    refine r_cVv (pc := 253) wyX12_mustBe oM0 rfl mlRX12_622 iyX12_mustBe syX12_mustBe ⟨Nat.succ_le_succ (Nat.le_trans (Nat.le_of_ble_eq_true rfl) hK), (Nat.le_of_ble_eq_true rfl)⟩ rfl rfl (Nat.le_of_ble_eq_true rfl) dX12_forCode_253 (mX12_mustBe ew21 (pV.mk ?_))
    refine r_aload_n (pc := 256) dX12_forCode_256 rfl 1 rfl ?_
    refine r_bipush (pc := 257) dX12_forCode_257 kb_11 ?_
    refine r_iconst (pc := 259) dX12_forCode_259 ki_0 ?_
    refine r_iconst (pc := 260) dX12_forCode_260 ki_0 ?_
    refine r_iconst (pc := 261) dX12_forCode_261 ki_0 ?_
    replace h := bn2_e h; obtain ⟨x22, w23, ew23, h⟩ := h
    refine r_cVi (pc := 262) wyX12_op oM0 rfl mlRX12_609 iyX12_op syX12_op ⟨Nat.succ_le_succ (Nat.le_trans (Nat.le_of_ble_eq_true rfl) hK), (Nat.le_of_ble_eq_true rfl)⟩ rfl rfl (Nat.le_of_ble_eq_true rfl) dX12_forCode_262 (mX12_op ew23 (pI.mk ?_))
    refine r_istore (pc := 265) (loc' := [(10, .int x22), (9, .int x15), (0, .ref 0), (1, .int a1), (2, .int a2), (6, .int a6), (8, .int a8)]) dX12_forCode_265 (Nat.le_of_ble_eq_true rfl) rfl ?_
    refine r_aload_n (pc := 267) dX12_forCode_267 rfl 2 rfl ?_
    refine r_bipush (pc := 268) dX12_forCode_268 kb_30 ?_
    refine r_iload_n (pc := 270) dX12_forCode_270 rfl 4 rfl ?_
    refine r_iload (pc := 271) dX12_forCode_271 1 rfl ?_
    refine r_iconst (pc := 273) dX12_forCode_273 ki_0 ?_
    replace h := bn2_e h; obtain ⟨x24, w25, ew25, h⟩ := h
    refine r_cVi (pc := 274) wyX12_op oM0 rfl mlRX12_609 iyX12_op syX12_op ⟨Nat.succ_le_succ (Nat.le_trans (Nat.le_of_ble_eq_true rfl) hK), (Nat.le_of_ble_eq_true rfl)⟩ rfl rfl (Nat.le_of_ble_eq_true rfl) dX12_forCode_274 (mX12_op ew25 (pI.mk ?_))
    refine r_istore (pc := 277) (loc' := [(11, .int x24), (10, .int x22), (9, .int x15), (0, .ref 0), (1, .int a1), (2, .int a2), (6, .int a6), (8, .int a8)]) dX12_forCode_277 (Nat.le_of_ble_eq_true rfl) rfl ?_
    refine r_aload_n (pc := 279) dX12_forCode_279 rfl 3 rfl ?_
    refine r_bipush (pc := 280) dX12_forCode_280 kb_10 ?_
    refine r_iload (pc := 282) dX12_forCode_282 6 rfl ?_
    refine r_iconst (pc := 284) dX12_forCode_284 ki_0 ?_
    refine r_iconst (pc := 285) dX12_forCode_285 ki_0 ?_
    replace h := bn2_e h; obtain ⟨x26, w27, ew27, h⟩ := h
    refine r_cVi (pc := 286) wyX12_op oM0 rfl mlRX12_609 iyX12_op syX12_op ⟨Nat.succ_le_succ (Nat.le_trans (Nat.le_of_ble_eq_true rfl) hK), (Nat.le_of_ble_eq_true rfl)⟩ rfl rfl (Nat.le_of_ble_eq_true rfl) dX12_forCode_286 (mX12_op ew27 (pI.mk ?_))
    refine r_istore (pc := 289) (loc' := [(11, .int x26), (10, .int x22), (9, .int x15), (0, .ref 0), (1, .int a1), (2, .int a2), (6, .int a6), (8, .int a8)]) dX12_forCode_289 (Nat.le_of_ble_eq_true rfl) rfl ?_
    refine r_aload_n (pc := 291) dX12_forCode_291 rfl 3 rfl ?_
    refine r_iload (pc := 292) dX12_forCode_292 1 rfl ?_
    replace h := bn_e h; obtain ⟨w28, ew28, h⟩ := h
    refine r_cVv (pc := 294) wyX12_patch oM0 rfl mlRX12_625 iyX12_patch syX12_patch ⟨Nat.succ_le_succ (Nat.le_trans (Nat.le_of_ble_eq_true rfl) hK), (Nat.le_of_ble_eq_true rfl)⟩ rfl rfl (Nat.le_of_ble_eq_true rfl) dX12_forCode_294 (mX12_patch ew28 (pV.mk ?_))
    refine r_goto (pc := 297) dX12_forCode_297 rfl ?_
    refine r_aload_n (pc := 516) dX12_forCode_516 rfl 3 rfl ?_
    refine r_get (pc := 517) (j := 20) (v := .ref 11) oM0 cf12 flRX12_111 rfl dX12_forCode_517 rfl ?_
    refine r_iload (pc := 520) dX12_forCode_520 7 rfl ?_
    replace h := if_n h; obtain ⟨hb29, h⟩ := h
    refine r_iald (pc := 522) aM11 (inb_in hb29) dX12_forCode_522 ?_
    replace h := lt_e h; obtain ⟨x30, ex30, h⟩ := h
    refine r_topi ex30 ?_
    refine r_istore (pc := 523) (loc' := [(8, .int x30), (11, .int x26), (10, .int x22), (9, .int x15), (0, .ref 0), (1, .int a1), (2, .int a2), (6, .int a6)]) dX12_forCode_523 (Nat.le_of_ble_eq_true rfl) rfl ?_
    refine r_goto (pc := 525) dX12_forCode_525 rfl ?_
    refine r_drop (loc' := [(0, .ref 0), (1, .int a1), (2, .int a2), (6, .int a6), (8, .int x30)]) [4, 5, 6, 7, 0] rfl ?_
    exact hk_144 a1 a2 a6 x30 w28 h
  replace h := if_t hc3 h
  refine r_aload_n (pc := 161) dX12_forCode_161 rfl 0 rfl ?_
  refine r_aload_n (pc := 162) dX12_forCode_162 rfl 0 rfl ?_
  refine r_get (pc := 163) (j := 17) (v := .ref 8) oM0 cf12 flRX12_102 rfl dX12_forCode_163 rfl ?_
  refine r_iload_n (pc := 166) dX12_forCode_166 rfl 1 rfl ?_
  replace h := if_n h; obtain ⟨hb4, h⟩ := h
  refine r_iald (pc := 167) aM8 (inb_in hb4) dX12_forCode_167 ?_
  refine r_aload_n (pc := 168) dX12_forCode_168 rfl 0 rfl ?_
  refine r_get (pc := 169) (j := 17) (v := .ref 8) oM0 cf12 flRX12_102 rfl dX12_forCode_169 rfl ?_
  refine r_iload (pc := 172) dX12_forCode_172 4 rfl ?_
  replace h := if_n h; obtain ⟨hb5, h⟩ := h
  refine r_iald (pc := 174) aM8 (inb_in hb5) dX12_forCode_174 ?_
  replace h := bn_e h; obtain ⟨w6, ew6, h⟩ := h
  refine r_cVv (pc := 175) wyX12_setTo oM0 rfl mlRX12_715 iyX12_setTo syX12_setTo ⟨Nat.succ_le_succ (Nat.le_trans (Nat.le_of_ble_eq_true rfl) hK), (Nat.le_of_ble_eq_true rfl)⟩ rfl rfl (Nat.le_of_ble_eq_true rfl) dX12_forCode_175 (mX12_setTo ew6 (pV.mk ?_))
  refine r_aload_n (pc := 178) dX12_forCode_178 rfl 0 rfl ?_
  refine r_bipush (pc := 179) dX12_forCode_179 kb_30 ?_
  refine r_iload_n (pc := 181) dX12_forCode_181 rfl 2 rfl ?_
  refine r_aload_n (pc := 182) dX12_forCode_182 rfl 0 rfl ?_
  refine r_get (pc := 183) (j := 64) (v := .int (gi w6 0 64)) oM0 cf12 flRX12_596 rfl dX12_forCode_183 rfl ?_
  refine r_iconst (pc := 186) dX12_forCode_186 ki_2 ?_
  refine r_iadd (pc := 187) dX12_forCode_187 ?_
  refine r_iconst (pc := 188) dX12_forCode_188 ki_0 ?_
  replace h := bn2_e h; obtain ⟨x7, w8, ew8, h⟩ := h
  refine r_cVi (pc := 189) wyX12_op oM0 rfl mlRX12_609 iyX12_op syX12_op ⟨Nat.succ_le_succ (Nat.le_trans (Nat.le_of_ble_eq_true rfl) hK), (Nat.le_of_ble_eq_true rfl)⟩ rfl rfl (Nat.le_of_ble_eq_true rfl) dX12_forCode_189 (mX12_op ew8 (pI.mk ?_))
  refine r_istore (pc := 192) (loc' := [(9, .int x7), (0, .ref 0), (1, .int a1), (2, .int a2), (6, .int a6), (8, .int a8)]) dX12_forCode_192 (Nat.le_of_ble_eq_true rfl) rfl ?_
  refine r_aload_n (pc := 194) dX12_forCode_194 rfl 1 rfl ?_
  refine r_bipush (pc := 195) dX12_forCode_195 kb_10 ?_
  refine r_iload (pc := 197) dX12_forCode_197 4 rfl ?_
  refine r_iconst (pc := 199) dX12_forCode_199 ki_0 ?_
  refine r_iconst (pc := 200) dX12_forCode_200 ki_0 ?_
  replace h := bn2_e h; obtain ⟨x9, w10, ew10, h⟩ := h
  refine r_cVi (pc := 201) wyX12_op oM0 rfl mlRX12_609 iyX12_op syX12_op ⟨Nat.succ_le_succ (Nat.le_trans (Nat.le_of_ble_eq_true rfl) hK), (Nat.le_of_ble_eq_true rfl)⟩ rfl rfl (Nat.le_of_ble_eq_true rfl) dX12_forCode_201 (mX12_op ew10 (pI.mk ?_))
  refine r_istore (pc := 204) (loc' := [(9, .int x9), (0, .ref 0), (1, .int a1), (2, .int a2), (6, .int a6), (8, .int a8)]) dX12_forCode_204 (Nat.le_of_ble_eq_true rfl) rfl ?_
  refine r_goto (pc := 206) dX12_forCode_206 rfl ?_
  refine r_aload_n (pc := 516) dX12_forCode_516 rfl 1 rfl ?_
  refine r_get (pc := 517) (j := 20) (v := .ref 11) oM0 cf12 flRX12_111 rfl dX12_forCode_517 rfl ?_
  refine r_iload (pc := 520) dX12_forCode_520 5 rfl ?_
  replace h := if_n h; obtain ⟨hb11, h⟩ := h
  refine r_iald (pc := 522) aM11 (inb_in hb11) dX12_forCode_522 ?_
  replace h := lt_e h; obtain ⟨x12, ex12, h⟩ := h
  refine r_topi ex12 ?_
  refine r_istore (pc := 523) (loc' := [(8, .int x12), (9, .int x9), (0, .ref 0), (1, .int a1), (2, .int a2), (6, .int a6)]) dX12_forCode_523 (Nat.le_of_ble_eq_true rfl) rfl ?_
  refine r_goto (pc := 525) dX12_forCode_525 rfl ?_
  refine r_drop (loc' := [(0, .ref 0), (1, .int a1), (2, .int a2), (6, .int a6), (8, .int x12)]) [2, 3, 4, 5, 0] rfl ?_
  exact hk_144 a1 a2 a6 x12 w10 h
def oX12_forCode_144 (rc : TX12_row) : Nat → Int32 → Int32 → Int32 → Int32 → Wd → Option (Int32 × Wd)
  | 0 => fun _ _ _ _ _ => none
  | n + 1 => fX12_forCode_144 rc (oX12_forCode_144 rc n)
theorem qX12_forCode_144 {q : Gq} {l : Launch} {N : Option Value → Wd → Prop} {X : String → Wd → Prop} {rc : TX12_row} {dd : Nat} (hS : HSX12_row q l rc dd) (hK : 1708 ≤ dd) {R : Int32 × Wd} (hN : N none R.2) : ∀ (n : Nat) (a1 : Int32) (a2 : Int32) (a6 : Int32) (a8 : Int32) (w : Wd), oX12_forCode_144 rc n a1 a2 a6 a8 w = some R → RT (GM q) l (dd + 1) yX12_forCode cX12_forCode 15 (none) N X 144 [] [(0, .ref 0), (1, .int a1), (2, .int a2), (6, .int a6), (8, .int a8)] w := by
  intro n
  induction n with
  | zero =>
    intro a1 a2 a6 a8 w h
    exact absurd h (fun q => nomatch q)
  | succ n ih =>
    intro a1 a2 a6 a8 w h
    exact pX12_forCode_144 hS hK hN ih h
def fX12_forCode_75 (rc : TX12_row) (a1 : Int32) (a2 : Int32) (a3 : Int32) (w : Wd) : Option (Int32 × Wd) :=
  lt ((gi w 0 86)) fun x1 => bn2 (fX12_op 10 0 0 0 w) fun x2 w3 => lt ((gi w3 0 64)) fun x4 => if inb a1 24000 = true then bn2 (rc 1 (gi w3 10 (Int32.toNatClampNeg a1)) 0 0 w3) fun _ w7 => bn2 (fX12_op 29 a2 0 0 w7) fun x8 w9 => bn (fX12_patch x2 w9) fun w10 => lt (si w10 0 85 a3) fun w11 => lt (si w11 0 86 x1) fun w12 => if inb a1 24000 = true then lt ((gi w12 9 (Int32.toNatClampNeg a1))) fun x14 => oX12_forCode_144 rc FU a1 a2 x4 x14 w12 else none else none
theorem pX12_forCode_75 {q : Gq} {l : Launch} {N : Option Value → Wd → Prop} {X : String → Wd → Prop} {rc : TX12_row} {dd : Nat} (hS : HSX12_row q l rc dd) (hK : 1708 ≤ dd) {w : Wd} {R : Int32 × Wd} (hN : N none R.2) {a1 : Int32} {a2 : Int32} {a3 : Int32} (h : fX12_forCode_75 rc a1 a2 a3 w = some R) : RT (GM q) l (dd + 1) yX12_forCode cX12_forCode 15 (none) N X 75 [] [(0, .ref 0), (1, .int a1), (2, .int a2), (3, .int a3)] w := by
  unfold fX12_forCode_75 at h
  refine r_aload_n (pc := 75) dX12_forCode_75 rfl 0 rfl ?_
  refine r_get (pc := 76) (j := 86) (v := .int (gi w 0 86)) oM0 cf12 flRX12_712 rfl dX12_forCode_76 rfl ?_
  replace h := lt_e h; obtain ⟨x1, ex1, h⟩ := h
  refine r_topi ex1 ?_
  refine r_istore (pc := 79) (loc' := [(4, .int x1), (0, .ref 0), (1, .int a1), (2, .int a2), (3, .int a3)]) dX12_forCode_79 (Nat.le_of_ble_eq_true rfl) rfl ?_
  refine r_aload_n (pc := 81) dX12_forCode_81 rfl 1 rfl ?_
  refine r_bipush (pc := 82) dX12_forCode_82 kb_10 ?_
  refine r_iconst (pc := 84) dX12_forCode_84 ki_0 ?_
  refine r_iconst (pc := 85) dX12_forCode_85 ki_0 ?_
  refine r_iconst (pc := 86) dX12_forCode_86 ki_0 ?_
  replace h := bn2_e h; obtain ⟨x2, w3, ew3, h⟩ := h
  refine r_cVi (pc := 87) wyX12_op oM0 rfl mlRX12_609 iyX12_op syX12_op ⟨Nat.succ_le_succ (Nat.le_trans (Nat.le_of_ble_eq_true rfl) hK), (Nat.le_of_ble_eq_true rfl)⟩ rfl rfl (Nat.le_of_ble_eq_true rfl) dX12_forCode_87 (mX12_op ew3 (pI.mk ?_))
  refine r_istore (pc := 90) (loc' := [(5, .int x2), (4, .int x1), (0, .ref 0), (1, .int a1), (2, .int a2), (3, .int a3)]) dX12_forCode_90 (Nat.le_of_ble_eq_true rfl) rfl ?_
  refine r_aload_n (pc := 92) dX12_forCode_92 rfl 2 rfl ?_
  refine r_get (pc := 93) (j := 64) (v := .int (gi w3 0 64)) oM0 cf12 flRX12_596 rfl dX12_forCode_93 rfl ?_
  replace h := lt_e h; obtain ⟨x4, ex4, h⟩ := h
  refine r_topi ex4 ?_
  refine r_istore (pc := 96) (loc' := [(6, .int x4), (5, .int x2), (4, .int x1), (0, .ref 0), (1, .int a1), (2, .int a2), (3, .int a3)]) dX12_forCode_96 (Nat.le_of_ble_eq_true rfl) rfl ?_
  refine r_aload_n (pc := 98) dX12_forCode_98 rfl 3 rfl ?_
  refine r_aload_n (pc := 99) dX12_forCode_99 rfl 3 rfl ?_
  refine r_get (pc := 100) (j := 19) (v := .ref 10) oM0 cf12 flRX12_108 rfl dX12_forCode_100 rfl ?_
  refine r_iload_n (pc := 103) dX12_forCode_103 rfl 4 rfl ?_
  replace h := if_n h; obtain ⟨hb5, h⟩ := h
  refine r_iald (pc := 104) aM10 (inb_in hb5) dX12_forCode_104 ?_
  replace h := bn2_e h; obtain ⟨x6, w7, ew7, h⟩ := h
  refine r_cVv (pc := 105) wyX12_statementCode oM0 rfl mlRX12_697 iyX12_statementCode syX12_statementCode ⟨Nat.le_refl _, (Nat.le_of_ble_eq_true rfl)⟩ rfl rfl (Nat.le_of_ble_eq_true rfl) dX12_forCode_105 ((hS.2.1 _ _ _ _ _ _) ew7 (pV.mk ?_))
  refine r_aload_n (pc := 108) dX12_forCode_108 rfl 3 rfl ?_
  refine r_bipush (pc := 109) dX12_forCode_109 kb_29 ?_
  refine r_iload_n (pc := 111) dX12_forCode_111 rfl 5 rfl ?_
  refine r_iconst (pc := 112) dX12_forCode_112 ki_0 ?_
  refine r_iconst (pc := 113) dX12_forCode_113 ki_0 ?_
  replace h := bn2_e h; obtain ⟨x8, w9, ew9, h⟩ := h
  refine r_cVi (pc := 114) wyX12_op oM0 rfl mlRX12_609 iyX12_op syX12_op ⟨Nat.succ_le_succ (Nat.le_trans (Nat.le_of_ble_eq_true rfl) hK), (Nat.le_of_ble_eq_true rfl)⟩ rfl rfl (Nat.le_of_ble_eq_true rfl) dX12_forCode_114 (mX12_op ew9 (pI.mk ?_))
  refine r_istore (pc := 117) (loc' := [(7, .int x8), (6, .int x4), (5, .int x2), (4, .int x1), (0, .ref 0), (1, .int a1), (2, .int a2), (3, .int a3)]) dX12_forCode_117 (Nat.le_of_ble_eq_true rfl) rfl ?_
  refine r_aload_n (pc := 119) dX12_forCode_119 rfl 4 rfl ?_
  refine r_iload (pc := 120) dX12_forCode_120 2 rfl ?_
  replace h := bn_e h; obtain ⟨w10, ew10, h⟩ := h
  refine r_cVv (pc := 122) wyX12_patch oM0 rfl mlRX12_625 iyX12_patch syX12_patch ⟨Nat.succ_le_succ (Nat.le_trans (Nat.le_of_ble_eq_true rfl) hK), (Nat.le_of_ble_eq_true rfl)⟩ rfl rfl (Nat.le_of_ble_eq_true rfl) dX12_forCode_122 (mX12_patch ew10 (pV.mk ?_))
  refine r_aload_n (pc := 125) dX12_forCode_125 rfl 4 rfl ?_
  refine r_iload_n (pc := 126) dX12_forCode_126 rfl 7 rfl ?_
  replace h := lt_e h; obtain ⟨w11, ew11, h⟩ := h
  refine r_putI (pc := 127) (j := 85) oM0 cf12 flRX12_709 rfl rfl rfl rfl dX12_forCode_127 ?_
  refine r_w ew11 ?_
  refine r_aload_n (pc := 130) dX12_forCode_130 rfl 4 rfl ?_
  refine r_iload (pc := 131) dX12_forCode_131 3 rfl ?_
  replace h := lt_e h; obtain ⟨w12, ew12, h⟩ := h
  refine r_putI (pc := 133) (j := 86) oM0 cf12 flRX12_712 rfl rfl rfl rfl dX12_forCode_133 ?_
  refine r_w ew12 ?_
  refine r_aload_n (pc := 136) dX12_forCode_136 rfl 4 rfl ?_
  refine r_get (pc := 137) (j := 18) (v := .ref 9) oM0 cf12 flRX12_105 rfl dX12_forCode_137 rfl ?_
  refine r_iload_n (pc := 140) dX12_forCode_140 rfl 5 rfl ?_
  replace h := if_n h; obtain ⟨hb13, h⟩ := h
  refine r_iald (pc := 141) aM9 (inb_in hb13) dX12_forCode_141 ?_
  replace h := lt_e h; obtain ⟨x14, ex14, h⟩ := h
  refine r_topi ex14 ?_
  refine r_istore (pc := 142) (loc' := [(8, .int x14), (7, .int x8), (6, .int x4), (5, .int x2), (4, .int x1), (0, .ref 0), (1, .int a1), (2, .int a2), (3, .int a3)]) dX12_forCode_142 (Nat.le_of_ble_eq_true rfl) rfl ?_
  refine r_drop (loc' := [(0, .ref 0), (1, .int a1), (2, .int a2), (6, .int x4), (8, .int x14)]) [5, 6, 7, 2, 0] rfl ?_
  exact qX12_forCode_144 hS hK hN FU a1 a2 x4 x14 w12 h
def fX12_forCode (rc : TX12_row) (a1 : Int32) (w : Wd) : Option (Int32 × Wd) :=
  bn2 (fX12_forSlot a1 w) fun x1 w2 => lt (si w2 0 85 (-1)) fun w3 => if inb a1 24000 = true then if inb (gi w3 8 (Int32.toNatClampNeg a1)) 24000 = true then if (gi w3 7 (Int32.toNatClampNeg (gi w3 8 (Int32.toNatClampNeg a1)))) = 4 then (bn2 (fX12_op 10 0 0 0 w3) fun x7 w8 => lt ((gi w8 0 64)) fun x9 => if inb a1 24000 = true then bn2 (RX12_mustBe 1700 4 (gi w8 8 (Int32.toNatClampNeg a1)) 0 0 w8) fun x11 w12 => lt (si w12 0 86 x11) fun w13 => bn2 (fX12_op 32 0 0 0 w13) fun x14 w15 => bn (fX12_patch x7 w15) fun w16 => fX12_forCode_75 rc a1 x1 x9 w16 else none) else (fX12_forCode_75 rc a1 x1 (-1) w3) else none else none
theorem pX12_forCode {q : Gq} {l : Launch} {N : Option Value → Wd → Prop} {X : String → Wd → Prop} {rc : TX12_row} {dd : Nat} (hS : HSX12_row q l rc dd) (hK : 1708 ≤ dd) {w : Wd} {R : Int32 × Wd} (hN : N none R.2) {a1 : Int32} (h : fX12_forCode rc a1 w = some R) : RT (GM q) l (dd + 1) yX12_forCode cX12_forCode 15 (none) N X 0 [] [(0, .ref 0), (1, .int a1)] w := by
  unfold fX12_forCode at h
  refine r_aload_n (pc := 0) dX12_forCode_0 rfl 0 rfl ?_
  refine r_iload_n (pc := 1) dX12_forCode_1 rfl 1 rfl ?_
  replace h := bn2_e h; obtain ⟨x1, w2, ew2, h⟩ := h
  refine r_cVi (pc := 2) wyX12_forSlot oM0 rfl mlRX12_706 iyX12_forSlot syX12_forSlot ⟨Nat.succ_le_succ (Nat.le_trans (Nat.le_of_ble_eq_true rfl) hK), (Nat.le_of_ble_eq_true rfl)⟩ rfl rfl (Nat.le_of_ble_eq_true rfl) dX12_forCode_2 (mX12_forSlot ew2 (pI.mk ?_))
  refine r_istore_n (pc := 5) (loc' := [(2, .int x1), (0, .ref 0), (1, .int a1)]) dX12_forCode_5 rfl (Nat.le_of_ble_eq_true rfl) rfl ?_
  refine r_aload_n (pc := 6) dX12_forCode_6 rfl 1 rfl ?_
  refine r_iconst (pc := 7) dX12_forCode_7 ki_m1 ?_
  replace h := lt_e h; obtain ⟨w3, ew3, h⟩ := h
  refine r_putI (pc := 8) (j := 85) oM0 cf12 flRX12_709 rfl rfl rfl rfl dX12_forCode_8 ?_
  refine r_w ew3 ?_
  refine r_iconst (pc := 11) dX12_forCode_11 ki_m1 ?_
  refine r_istore_n (pc := 12) (loc' := [(3, .int (-1)), (2, .int x1), (0, .ref 0), (1, .int a1)]) dX12_forCode_12 rfl (Nat.le_of_ble_eq_true rfl) rfl ?_
  refine r_aload_n (pc := 13) dX12_forCode_13 rfl 2 rfl ?_
  refine r_get (pc := 14) (j := 16) (v := .ref 7) oM0 cf12 flRX12_99 rfl dX12_forCode_14 rfl ?_
  refine r_aload_n (pc := 17) dX12_forCode_17 rfl 2 rfl ?_
  refine r_get (pc := 18) (j := 17) (v := .ref 8) oM0 cf12 flRX12_102 rfl dX12_forCode_18 rfl ?_
  refine r_iload_n (pc := 21) dX12_forCode_21 rfl 3 rfl ?_
  replace h := if_n h; obtain ⟨hb4, h⟩ := h
  refine r_iald (pc := 22) aM8 (inb_in hb4) dX12_forCode_22 ?_
  replace h := if_n h; obtain ⟨hb5, h⟩ := h
  refine r_iald (pc := 23) aM7 (inb_in hb5) dX12_forCode_23 ?_
  refine r_iconst (pc := 24) dX12_forCode_24 ki_4 ?_
  refine r_icmp_ne (pc := 25) dX12_forCode_25 rfl (fun hc6 => ?_) (fun hc6 => ?_)
  · replace h := if_f hc6 h
    refine r_drop (loc' := [(0, .ref 0), (1, .int a1), (2, .int x1), (3, .int (-1))]) [2, 3, 1, 0] rfl ?_
    exact pX12_forCode_75 hS hK hN h
  replace h := if_t hc6 h
  refine r_aload_n (pc := 28) dX12_forCode_28 rfl 2 rfl ?_
  refine r_bipush (pc := 29) dX12_forCode_29 kb_10 ?_
  refine r_iconst (pc := 31) dX12_forCode_31 ki_0 ?_
  refine r_iconst (pc := 32) dX12_forCode_32 ki_0 ?_
  refine r_iconst (pc := 33) dX12_forCode_33 ki_0 ?_
  replace h := bn2_e h; obtain ⟨x7, w8, ew8, h⟩ := h
  refine r_cVi (pc := 34) wyX12_op oM0 rfl mlRX12_609 iyX12_op syX12_op ⟨Nat.succ_le_succ (Nat.le_trans (Nat.le_of_ble_eq_true rfl) hK), (Nat.le_of_ble_eq_true rfl)⟩ rfl rfl (Nat.le_of_ble_eq_true rfl) dX12_forCode_34 (mX12_op ew8 (pI.mk ?_))
  refine r_istore (pc := 37) (loc' := [(4, .int x7), (3, .int (-1)), (2, .int x1), (0, .ref 0), (1, .int a1)]) dX12_forCode_37 (Nat.le_of_ble_eq_true rfl) rfl ?_
  refine r_aload_n (pc := 39) dX12_forCode_39 rfl 3 rfl ?_
  refine r_get (pc := 40) (j := 64) (v := .int (gi w8 0 64)) oM0 cf12 flRX12_596 rfl dX12_forCode_40 rfl ?_
  replace h := lt_e h; obtain ⟨x9, ex9, h⟩ := h
  refine r_topi ex9 ?_
  refine r_istore_n (pc := 43) (loc' := [(3, .int x9), (4, .int x7), (2, .int x1), (0, .ref 0), (1, .int a1)]) dX12_forCode_43 rfl (Nat.le_of_ble_eq_true rfl) rfl ?_
  refine r_aload_n (pc := 44) dX12_forCode_44 rfl 3 rfl ?_
  refine r_aload_n (pc := 45) dX12_forCode_45 rfl 3 rfl ?_
  refine r_aload_n (pc := 46) dX12_forCode_46 rfl 3 rfl ?_
  refine r_get (pc := 47) (j := 17) (v := .ref 8) oM0 cf12 flRX12_102 rfl dX12_forCode_47 rfl ?_
  refine r_iload_n (pc := 50) dX12_forCode_50 rfl 4 rfl ?_
  replace h := if_n h; obtain ⟨hb10, h⟩ := h
  refine r_iald (pc := 51) aM8 (inb_in hb10) dX12_forCode_51 ?_
  replace h := bn2_e h; obtain ⟨x11, w12, ew12, h⟩ := h
  refine r_cVi (pc := 52) wyX12_element oM0 rfl mlRX12_615 iyX12_element syX12_element ⟨Nat.succ_le_succ (Nat.le_trans (Nat.le_of_ble_eq_true rfl) hK), (Nat.le_of_ble_eq_true rfl)⟩ rfl rfl (Nat.le_of_ble_eq_true rfl) dX12_forCode_52 (mX12_element ew12 (pI.mk ?_))
  replace h := lt_e h; obtain ⟨w13, ew13, h⟩ := h
  refine r_putI (pc := 55) (j := 86) oM0 cf12 flRX12_712 rfl rfl rfl rfl dX12_forCode_55 ?_
  refine r_w ew13 ?_
  refine r_aload_n (pc := 58) dX12_forCode_58 rfl 3 rfl ?_
  refine r_bipush (pc := 59) dX12_forCode_59 kb_32 ?_
  refine r_iconst (pc := 61) dX12_forCode_61 ki_0 ?_
  refine r_iconst (pc := 62) dX12_forCode_62 ki_0 ?_
  refine r_iconst (pc := 63) dX12_forCode_63 ki_0 ?_
  replace h := bn2_e h; obtain ⟨x14, w15, ew15, h⟩ := h
  refine r_cVi (pc := 64) wyX12_op oM0 rfl mlRX12_609 iyX12_op syX12_op ⟨Nat.succ_le_succ (Nat.le_trans (Nat.le_of_ble_eq_true rfl) hK), (Nat.le_of_ble_eq_true rfl)⟩ rfl rfl (Nat.le_of_ble_eq_true rfl) dX12_forCode_64 (mX12_op ew15 (pI.mk ?_))
  refine r_istore (pc := 67) (loc' := [(5, .int x14), (3, .int x9), (4, .int x7), (2, .int x1), (0, .ref 0), (1, .int a1)]) dX12_forCode_67 (Nat.le_of_ble_eq_true rfl) rfl ?_
  refine r_aload_n (pc := 69) dX12_forCode_69 rfl 4 rfl ?_
  refine r_iload (pc := 70) dX12_forCode_70 2 rfl ?_
  replace h := bn_e h; obtain ⟨w16, ew16, h⟩ := h
  refine r_cVv (pc := 72) wyX12_patch oM0 rfl mlRX12_625 iyX12_patch syX12_patch ⟨Nat.succ_le_succ (Nat.le_trans (Nat.le_of_ble_eq_true rfl) hK), (Nat.le_of_ble_eq_true rfl)⟩ rfl rfl (Nat.le_of_ble_eq_true rfl) dX12_forCode_72 (mX12_patch ew16 (pV.mk ?_))
  refine r_drop (loc' := [(0, .ref 0), (1, .int a1), (2, .int x1), (3, .int x9)]) [4, 5, 3, 1] rfl ?_
  exact pX12_forCode_75 hS hK hN h
/-! AlgolMillModel.statementCode (I)V: O, 1908 -/
theorem dX12_statementCode_0 : decode cX12_statementCode 0 = .ok (.aload_n 0, 1) := by decide +kernel
theorem dX12_statementCode_1 : decode cX12_statementCode 1 = .ok (.getfield 211, 3) := by decide +kernel
theorem dX12_statementCode_4 : decode cX12_statementCode 4 = .ok (.iload_n 1, 1) := by decide +kernel
theorem dX12_statementCode_5 : decode cX12_statementCode 5 = .ok (.iaload, 1) := by decide +kernel
theorem dX12_statementCode_6 : decode cX12_statementCode 6 = .ok (.istore_n 2, 1) := by decide +kernel
theorem dX12_statementCode_7 : decode cX12_statementCode 7 = .ok (.iload_n 2, 1) := by decide +kernel
theorem dX12_statementCode_8 : decode cX12_statementCode 8 = .ok (.ifCond .lt 23, 3) := by decide +kernel
theorem dX12_statementCode_11 : decode cX12_statementCode 11 = .ok (.aload_n 0, 1) := by decide +kernel
theorem dX12_statementCode_12 : decode cX12_statementCode 12 = .ok (.getfield 245, 3) := by decide +kernel
theorem dX12_statementCode_15 : decode cX12_statementCode 15 = .ok (.iload_n 2, 1) := by decide +kernel
theorem dX12_statementCode_16 : decode cX12_statementCode 16 = .ok (.aload_n 0, 1) := by decide +kernel
theorem dX12_statementCode_17 : decode cX12_statementCode 17 = .ok (.getfield 596, 3) := by decide +kernel
theorem dX12_statementCode_20 : decode cX12_statementCode 20 = .ok (.iastore, 1) := by decide +kernel
theorem dX12_statementCode_21 : decode cX12_statementCode 21 = .ok (.aload_n 0, 1) := by decide +kernel
theorem dX12_statementCode_22 : decode cX12_statementCode 22 = .ok (.getfield 208, 3) := by decide +kernel
theorem dX12_statementCode_25 : decode cX12_statementCode 25 = .ok (.iload_n 2, 1) := by decide +kernel
theorem dX12_statementCode_26 : decode cX12_statementCode 26 = .ok (.iaload, 1) := by decide +kernel
theorem dX12_statementCode_27 : decode cX12_statementCode 27 = .ok (.istore_n 2, 1) := by decide +kernel
theorem dX12_statementCode_28 : decode cX12_statementCode 28 = .ok (.goto (-21), 3) := by decide +kernel
theorem dX12_statementCode_31 : decode cX12_statementCode 31 = .ok (.aload_n 0, 1) := by decide +kernel
theorem dX12_statementCode_32 : decode cX12_statementCode 32 = .ok (.getfield 99, 3) := by decide +kernel
theorem dX12_statementCode_35 : decode cX12_statementCode 35 = .ok (.iload_n 1, 1) := by decide +kernel
theorem dX12_statementCode_36 : decode cX12_statementCode 36 = .ok (.iaload, 1) := by decide +kernel
theorem dX12_statementCode_37 : decode cX12_statementCode 37 = .ok (.bipush 20, 2) := by decide +kernel
theorem dX12_statementCode_39 : decode cX12_statementCode 39 = .ok (.if_icmp .ne 4, 3) := by decide +kernel
theorem dX12_statementCode_42 : decode cX12_statementCode 42 = .ok (.return_, 1) := by decide +kernel
theorem dX12_statementCode_43 : decode cX12_statementCode 43 = .ok (.aload_n 0, 1) := by decide +kernel
theorem dX12_statementCode_44 : decode cX12_statementCode 44 = .ok (.bipush 12, 2) := by decide +kernel
theorem dX12_statementCode_46 : decode cX12_statementCode 46 = .ok (.iconst 0, 1) := by decide +kernel
theorem dX12_statementCode_47 : decode cX12_statementCode 47 = .ok (.iconst 0, 1) := by decide +kernel
theorem dX12_statementCode_48 : decode cX12_statementCode 48 = .ok (.iconst 0, 1) := by decide +kernel
theorem dX12_statementCode_49 : decode cX12_statementCode 49 = .ok (.invokevirtual 609, 3) := by decide +kernel
theorem dX12_statementCode_52 : decode cX12_statementCode 52 = .ok (.istore_n 2, 1) := by decide +kernel
theorem dX12_statementCode_53 : decode cX12_statementCode 53 = .ok (.aload_n 0, 1) := by decide +kernel
theorem dX12_statementCode_54 : decode cX12_statementCode 54 = .ok (.getfield 99, 3) := by decide +kernel
theorem dX12_statementCode_57 : decode cX12_statementCode 57 = .ok (.iload_n 1, 1) := by decide +kernel
theorem dX12_statementCode_58 : decode cX12_statementCode 58 = .ok (.iaload, 1) := by decide +kernel
theorem dX12_statementCode_59 : decode cX12_statementCode 59 = .ok (.tableswitch 413 21 26 #[37, 170, 275, 299, 322, 405], 37) := by decide +kernel
theorem dX12_statementCode_96 : decode cX12_statementCode 96 = .ok (.iconst 0, 1) := by decide +kernel
theorem dX12_statementCode_97 : decode cX12_statementCode 97 = .ok (.istore_n 3, 1) := by decide +kernel
theorem dX12_statementCode_98 : decode cX12_statementCode 98 = .ok (.iconst 0, 1) := by decide +kernel
theorem dX12_statementCode_99 : decode cX12_statementCode 99 = .ok (.istore 4, 2) := by decide +kernel
theorem dX12_statementCode_101 : decode cX12_statementCode 101 = .ok (.aload_n 0, 1) := by decide +kernel
theorem dX12_statementCode_102 : decode cX12_statementCode 102 = .ok (.getfield 102, 3) := by decide +kernel
theorem dX12_statementCode_105 : decode cX12_statementCode 105 = .ok (.iload_n 1, 1) := by decide +kernel
theorem dX12_statementCode_106 : decode cX12_statementCode 106 = .ok (.iaload, 1) := by decide +kernel
theorem dX12_statementCode_107 : decode cX12_statementCode 107 = .ok (.istore 5, 2) := by decide +kernel
theorem dX12_statementCode_109 : decode cX12_statementCode 109 = .ok (.iload 5, 2) := by decide +kernel
theorem dX12_statementCode_111 : decode cX12_statementCode 111 = .ok (.ifCond .lt 61, 3) := by decide +kernel
theorem dX12_statementCode_114 : decode cX12_statementCode 114 = .ok (.aload_n 0, 1) := by decide +kernel
theorem dX12_statementCode_115 : decode cX12_statementCode 115 = .ok (.iload 5, 2) := by decide +kernel
theorem dX12_statementCode_117 : decode cX12_statementCode 117 = .ok (.iconst 0, 1) := by decide +kernel
theorem dX12_statementCode_118 : decode cX12_statementCode 118 = .ok (.invokevirtual 694, 3) := by decide +kernel
theorem dX12_statementCode_121 : decode cX12_statementCode 121 = .ok (.istore 6, 2) := by decide +kernel
theorem dX12_statementCode_123 : decode cX12_statementCode 123 = .ok (.iload 6, 2) := by decide +kernel
theorem dX12_statementCode_125 : decode cX12_statementCode 125 = .ok (.ifCond .eq 25, 3) := by decide +kernel
theorem dX12_statementCode_128 : decode cX12_statementCode 128 = .ok (.iload_n 3, 1) := by decide +kernel
theorem dX12_statementCode_129 : decode cX12_statementCode 129 = .ok (.ifCond .eq 21, 3) := by decide +kernel
theorem dX12_statementCode_132 : decode cX12_statementCode 132 = .ok (.iload 6, 2) := by decide +kernel
theorem dX12_statementCode_134 : decode cX12_statementCode 134 = .ok (.iload_n 3, 1) := by decide +kernel
theorem dX12_statementCode_135 : decode cX12_statementCode 135 = .ok (.if_icmp .eq 15, 3) := by decide +kernel
theorem dX12_statementCode_138 : decode cX12_statementCode 138 = .ok (.aload_n 0, 1) := by decide +kernel
theorem dX12_statementCode_139 : decode cX12_statementCode 139 = .ok (.iconst 4, 1) := by decide +kernel
theorem dX12_statementCode_140 : decode cX12_statementCode 140 = .ok (.aload_n 0, 1) := by decide +kernel
theorem dX12_statementCode_141 : decode cX12_statementCode 141 = .ok (.getfield 114, 3) := by decide +kernel
theorem dX12_statementCode_144 : decode cX12_statementCode 144 = .ok (.iload 5, 2) := by decide +kernel
theorem dX12_statementCode_146 : decode cX12_statementCode 146 = .ok (.iaload, 1) := by decide +kernel
theorem dX12_statementCode_147 : decode cX12_statementCode 147 = .ok (.invokevirtual 484, 3) := by decide +kernel
theorem dX12_statementCode_150 : decode cX12_statementCode 150 = .ok (.iload_n 3, 1) := by decide +kernel
theorem dX12_statementCode_151 : decode cX12_statementCode 151 = .ok (.ifCond .ne 6, 3) := by decide +kernel
theorem dX12_statementCode_154 : decode cX12_statementCode 154 = .ok (.iload 6, 2) := by decide +kernel
theorem dX12_statementCode_156 : decode cX12_statementCode 156 = .ok (.istore_n 3, 1) := by decide +kernel
theorem dX12_statementCode_157 : decode cX12_statementCode 157 = .ok (.iinc 4 1, 3) := by decide +kernel
theorem dX12_statementCode_160 : decode cX12_statementCode 160 = .ok (.aload_n 0, 1) := by decide +kernel
theorem dX12_statementCode_161 : decode cX12_statementCode 161 = .ok (.getfield 111, 3) := by decide +kernel
theorem dX12_statementCode_164 : decode cX12_statementCode 164 = .ok (.iload 5, 2) := by decide +kernel
theorem dX12_statementCode_166 : decode cX12_statementCode 166 = .ok (.iaload, 1) := by decide +kernel
theorem dX12_statementCode_167 : decode cX12_statementCode 167 = .ok (.istore 5, 2) := by decide +kernel
theorem dX12_statementCode_169 : decode cX12_statementCode 169 = .ok (.goto (-60), 3) := by decide +kernel
theorem dX12_statementCode_172 : decode cX12_statementCode 172 = .ok (.aload_n 0, 1) := by decide +kernel
theorem dX12_statementCode_173 : decode cX12_statementCode 173 = .ok (.aload_n 0, 1) := by decide +kernel
theorem dX12_statementCode_174 : decode cX12_statementCode 174 = .ok (.getfield 105, 3) := by decide +kernel
theorem dX12_statementCode_177 : decode cX12_statementCode 177 = .ok (.iload_n 1, 1) := by decide +kernel
theorem dX12_statementCode_178 : decode cX12_statementCode 178 = .ok (.iaload, 1) := by decide +kernel
theorem dX12_statementCode_179 : decode cX12_statementCode 179 = .ok (.invokevirtual 607, 3) := by decide +kernel
theorem dX12_statementCode_182 : decode cX12_statementCode 182 = .ok (.istore 5, 2) := by decide +kernel
theorem dX12_statementCode_184 : decode cX12_statementCode 184 = .ok (.iload 5, 2) := by decide +kernel
theorem dX12_statementCode_186 : decode cX12_statementCode 186 = .ok (.ifCond .eq 29, 3) := by decide +kernel
theorem dX12_statementCode_189 : decode cX12_statementCode 189 = .ok (.iload_n 3, 1) := by decide +kernel
theorem dX12_statementCode_190 : decode cX12_statementCode 190 = .ok (.ifCond .eq 25, 3) := by decide +kernel
theorem dX12_statementCode_193 : decode cX12_statementCode 193 = .ok (.iload 5, 2) := by decide +kernel
theorem dX12_statementCode_195 : decode cX12_statementCode 195 = .ok (.iload_n 3, 1) := by decide +kernel
theorem dX12_statementCode_196 : decode cX12_statementCode 196 = .ok (.if_icmp .eq 19, 3) := by decide +kernel
theorem dX12_statementCode_199 : decode cX12_statementCode 199 = .ok (.aload_n 0, 1) := by decide +kernel
theorem dX12_statementCode_200 : decode cX12_statementCode 200 = .ok (.iconst 4, 1) := by decide +kernel
theorem dX12_statementCode_201 : decode cX12_statementCode 201 = .ok (.aload_n 0, 1) := by decide +kernel
theorem dX12_statementCode_202 : decode cX12_statementCode 202 = .ok (.getfield 114, 3) := by decide +kernel
theorem dX12_statementCode_205 : decode cX12_statementCode 205 = .ok (.aload_n 0, 1) := by decide +kernel
theorem dX12_statementCode_206 : decode cX12_statementCode 206 = .ok (.getfield 105, 3) := by decide +kernel
theorem dX12_statementCode_209 : decode cX12_statementCode 209 = .ok (.iload_n 1, 1) := by decide +kernel
theorem dX12_statementCode_210 : decode cX12_statementCode 210 = .ok (.iaload, 1) := by decide +kernel
theorem dX12_statementCode_211 : decode cX12_statementCode 211 = .ok (.iaload, 1) := by decide +kernel
theorem dX12_statementCode_212 : decode cX12_statementCode 212 = .ok (.invokevirtual 484, 3) := by decide +kernel
theorem dX12_statementCode_215 : decode cX12_statementCode 215 = .ok (.aload_n 0, 1) := by decide +kernel
theorem dX12_statementCode_216 : decode cX12_statementCode 216 = .ok (.bipush 7, 2) := by decide +kernel
theorem dX12_statementCode_218 : decode cX12_statementCode 218 = .ok (.iload 4, 2) := by decide +kernel
theorem dX12_statementCode_220 : decode cX12_statementCode 220 = .ok (.iconst 0, 1) := by decide +kernel
theorem dX12_statementCode_221 : decode cX12_statementCode 221 = .ok (.iconst 0, 1) := by decide +kernel
theorem dX12_statementCode_222 : decode cX12_statementCode 222 = .ok (.invokevirtual 609, 3) := by decide +kernel
theorem dX12_statementCode_225 : decode cX12_statementCode 225 = .ok (.istore_n 2, 1) := by decide +kernel
theorem dX12_statementCode_226 : decode cX12_statementCode 226 = .ok (.goto 256, 3) := by decide +kernel
theorem dX12_statementCode_229 : decode cX12_statementCode 229 = .ok (.aload_n 0, 1) := by decide +kernel
theorem dX12_statementCode_230 : decode cX12_statementCode 230 = .ok (.getfield 102, 3) := by decide +kernel
theorem dX12_statementCode_233 : decode cX12_statementCode 233 = .ok (.iload_n 1, 1) := by decide +kernel
theorem dX12_statementCode_234 : decode cX12_statementCode 234 = .ok (.iaload, 1) := by decide +kernel
theorem dX12_statementCode_235 : decode cX12_statementCode 235 = .ok (.istore_n 3, 1) := by decide +kernel
theorem dX12_statementCode_236 : decode cX12_statementCode 236 = .ok (.aload_n 0, 1) := by decide +kernel
theorem dX12_statementCode_237 : decode cX12_statementCode 237 = .ok (.getfield 99, 3) := by decide +kernel
theorem dX12_statementCode_240 : decode cX12_statementCode 240 = .ok (.iload_n 3, 1) := by decide +kernel
theorem dX12_statementCode_241 : decode cX12_statementCode 241 = .ok (.iaload, 1) := by decide +kernel
theorem dX12_statementCode_242 : decode cX12_statementCode 242 = .ok (.iconst 5, 1) := by decide +kernel
theorem dX12_statementCode_243 : decode cX12_statementCode 243 = .ok (.if_icmp .ne 13, 3) := by decide +kernel
theorem dX12_statementCode_246 : decode cX12_statementCode 246 = .ok (.aload_n 0, 1) := by decide +kernel
theorem dX12_statementCode_247 : decode cX12_statementCode 247 = .ok (.iload_n 3, 1) := by decide +kernel
theorem dX12_statementCode_248 : decode cX12_statementCode 248 = .ok (.iconst 0, 1) := by decide +kernel
theorem dX12_statementCode_249 : decode cX12_statementCode 249 = .ok (.invokevirtual 618, 3) := by decide +kernel
theorem dX12_statementCode_252 : decode cX12_statementCode 252 = .ok (.istore_n 2, 1) := by decide +kernel
theorem dX12_statementCode_253 : decode cX12_statementCode 253 = .ok (.goto 229, 3) := by decide +kernel
theorem dX12_statementCode_256 : decode cX12_statementCode 256 = .ok (.aload_n 0, 1) := by decide +kernel
theorem dX12_statementCode_257 : decode cX12_statementCode 257 = .ok (.iload_n 3, 1) := by decide +kernel
theorem dX12_statementCode_258 : decode cX12_statementCode 258 = .ok (.invokevirtual 638, 3) := by decide +kernel
theorem dX12_statementCode_261 : decode cX12_statementCode 261 = .ok (.istore 4, 2) := by decide +kernel
theorem dX12_statementCode_263 : decode cX12_statementCode 263 = .ok (.iload 4, 2) := by decide +kernel
theorem dX12_statementCode_265 : decode cX12_statementCode 265 = .ok (.ifCond .ge 6, 3) := by decide +kernel
theorem dX12_statementCode_268 : decode cX12_statementCode 268 = .ok (.goto 214, 3) := by decide +kernel
theorem dX12_statementCode_271 : decode cX12_statementCode 271 = .ok (.aload_n 0, 1) := by decide +kernel
theorem dX12_statementCode_272 : decode cX12_statementCode 272 = .ok (.getfield 135, 3) := by decide +kernel
theorem dX12_statementCode_275 : decode cX12_statementCode 275 = .ok (.iload 4, 2) := by decide +kernel
theorem dX12_statementCode_277 : decode cX12_statementCode 277 = .ok (.iaload, 1) := by decide +kernel
theorem dX12_statementCode_278 : decode cX12_statementCode 278 = .ok (.iconst 3, 1) := by decide +kernel
theorem dX12_statementCode_279 : decode cX12_statementCode 279 = .ok (.if_icmp .eq 13, 3) := by decide +kernel
theorem dX12_statementCode_282 : decode cX12_statementCode 282 = .ok (.aload_n 0, 1) := by decide +kernel
theorem dX12_statementCode_283 : decode cX12_statementCode 283 = .ok (.iload 4, 2) := by decide +kernel
theorem dX12_statementCode_285 : decode cX12_statementCode 285 = .ok (.iconst 3, 1) := by decide +kernel
theorem dX12_statementCode_286 : decode cX12_statementCode 286 = .ok (.invokevirtual 644, 3) := by decide +kernel
theorem dX12_statementCode_289 : decode cX12_statementCode 289 = .ok (.ifCond .eq 14, 3) := by decide +kernel
theorem dX12_statementCode_292 : decode cX12_statementCode 292 = .ok (.aload_n 0, 1) := by decide +kernel
theorem dX12_statementCode_293 : decode cX12_statementCode 293 = .ok (.iload_n 3, 1) := by decide +kernel
theorem dX12_statementCode_294 : decode cX12_statementCode 294 = .ok (.iload 4, 2) := by decide +kernel
theorem dX12_statementCode_296 : decode cX12_statementCode 296 = .ok (.iconst 0, 1) := by decide +kernel
theorem dX12_statementCode_297 : decode cX12_statementCode 297 = .ok (.invokevirtual 651, 3) := by decide +kernel
theorem dX12_statementCode_300 : decode cX12_statementCode 300 = .ok (.goto 182, 3) := by decide +kernel
theorem dX12_statementCode_303 : decode cX12_statementCode 303 = .ok (.aload_n 0, 1) := by decide +kernel
theorem dX12_statementCode_304 : decode cX12_statementCode 304 = .ok (.getfield 135, 3) := by decide +kernel
theorem dX12_statementCode_307 : decode cX12_statementCode 307 = .ok (.iload 4, 2) := by decide +kernel
theorem dX12_statementCode_309 : decode cX12_statementCode 309 = .ok (.iaload, 1) := by decide +kernel
theorem dX12_statementCode_310 : decode cX12_statementCode 310 = .ok (.bipush 6, 2) := by decide +kernel
theorem dX12_statementCode_312 : decode cX12_statementCode 312 = .ok (.if_icmp .ne 13, 3) := by decide +kernel
theorem dX12_statementCode_315 : decode cX12_statementCode 315 = .ok (.aload_n 0, 1) := by decide +kernel
theorem dX12_statementCode_316 : decode cX12_statementCode 316 = .ok (.getfield 150, 3) := by decide +kernel
theorem dX12_statementCode_319 : decode cX12_statementCode 319 = .ok (.iload 4, 2) := by decide +kernel
theorem dX12_statementCode_321 : decode cX12_statementCode 321 = .ok (.iaload, 1) := by decide +kernel
theorem dX12_statementCode_322 : decode cX12_statementCode 322 = .ok (.ifCond .eq 160, 3) := by decide +kernel
theorem dX12_statementCode_325 : decode cX12_statementCode 325 = .ok (.aload_n 0, 1) := by decide +kernel
theorem dX12_statementCode_326 : decode cX12_statementCode 326 = .ok (.iload_n 3, 1) := by decide +kernel
theorem dX12_statementCode_327 : decode cX12_statementCode 327 = .ok (.invokevirtual 648, 3) := by decide +kernel
theorem dX12_statementCode_330 : decode cX12_statementCode 330 = .ok (.istore_n 2, 1) := by decide +kernel
theorem dX12_statementCode_331 : decode cX12_statementCode 331 = .ok (.goto 151, 3) := by decide +kernel
theorem dX12_statementCode_334 : decode cX12_statementCode 334 = .ok (.aload_n 0, 1) := by decide +kernel
theorem dX12_statementCode_335 : decode cX12_statementCode 335 = .ok (.aload_n 0, 1) := by decide +kernel
theorem dX12_statementCode_336 : decode cX12_statementCode 336 = .ok (.getfield 102, 3) := by decide +kernel
theorem dX12_statementCode_339 : decode cX12_statementCode 339 = .ok (.iload_n 1, 1) := by decide +kernel
theorem dX12_statementCode_340 : decode cX12_statementCode 340 = .ok (.iaload, 1) := by decide +kernel
theorem dX12_statementCode_341 : decode cX12_statementCode 341 = .ok (.invokevirtual 607, 3) := by decide +kernel
theorem dX12_statementCode_344 : decode cX12_statementCode 344 = .ok (.istore_n 2, 1) := by decide +kernel
theorem dX12_statementCode_345 : decode cX12_statementCode 345 = .ok (.aload_n 0, 1) := by decide +kernel
theorem dX12_statementCode_346 : decode cX12_statementCode 346 = .ok (.bipush 13, 2) := by decide +kernel
theorem dX12_statementCode_348 : decode cX12_statementCode 348 = .ok (.iconst 0, 1) := by decide +kernel
theorem dX12_statementCode_349 : decode cX12_statementCode 349 = .ok (.iconst 0, 1) := by decide +kernel
theorem dX12_statementCode_350 : decode cX12_statementCode 350 = .ok (.iconst 0, 1) := by decide +kernel
theorem dX12_statementCode_351 : decode cX12_statementCode 351 = .ok (.invokevirtual 609, 3) := by decide +kernel
theorem dX12_statementCode_354 : decode cX12_statementCode 354 = .ok (.istore_n 2, 1) := by decide +kernel
theorem dX12_statementCode_355 : decode cX12_statementCode 355 = .ok (.goto 127, 3) := by decide +kernel
theorem dX12_statementCode_358 : decode cX12_statementCode 358 = .ok (.aload_n 0, 1) := by decide +kernel
theorem dX12_statementCode_359 : decode cX12_statementCode 359 = .ok (.aload_n 0, 1) := by decide +kernel
theorem dX12_statementCode_360 : decode cX12_statementCode 360 = .ok (.getfield 102, 3) := by decide +kernel
theorem dX12_statementCode_363 : decode cX12_statementCode 363 = .ok (.iload_n 1, 1) := by decide +kernel
theorem dX12_statementCode_364 : decode cX12_statementCode 364 = .ok (.iaload, 1) := by decide +kernel
theorem dX12_statementCode_365 : decode cX12_statementCode 365 = .ok (.invokevirtual 670, 3) := by decide +kernel
theorem dX12_statementCode_368 : decode cX12_statementCode 368 = .ok (.aload_n 0, 1) := by decide +kernel
theorem dX12_statementCode_369 : decode cX12_statementCode 369 = .ok (.bipush 19, 2) := by decide +kernel
theorem dX12_statementCode_371 : decode cX12_statementCode 371 = .ok (.iconst 0, 1) := by decide +kernel
theorem dX12_statementCode_372 : decode cX12_statementCode 372 = .ok (.iconst 0, 1) := by decide +kernel
theorem dX12_statementCode_373 : decode cX12_statementCode 373 = .ok (.iconst 0, 1) := by decide +kernel
theorem dX12_statementCode_374 : decode cX12_statementCode 374 = .ok (.invokevirtual 609, 3) := by decide +kernel
theorem dX12_statementCode_377 : decode cX12_statementCode 377 = .ok (.istore_n 2, 1) := by decide +kernel
theorem dX12_statementCode_378 : decode cX12_statementCode 378 = .ok (.goto 104, 3) := by decide +kernel
theorem dX12_statementCode_381 : decode cX12_statementCode 381 = .ok (.aload_n 0, 1) := by decide +kernel
theorem dX12_statementCode_382 : decode cX12_statementCode 382 = .ok (.aload_n 0, 1) := by decide +kernel
theorem dX12_statementCode_383 : decode cX12_statementCode 383 = .ok (.getfield 102, 3) := by decide +kernel
theorem dX12_statementCode_386 : decode cX12_statementCode 386 = .ok (.iload_n 1, 1) := by decide +kernel
theorem dX12_statementCode_387 : decode cX12_statementCode 387 = .ok (.iaload, 1) := by decide +kernel
theorem dX12_statementCode_388 : decode cX12_statementCode 388 = .ok (.iconst 2, 1) := by decide +kernel
theorem dX12_statementCode_389 : decode cX12_statementCode 389 = .ok (.invokevirtual 622, 3) := by decide +kernel
theorem dX12_statementCode_392 : decode cX12_statementCode 392 = .ok (.aload_n 0, 1) := by decide +kernel
theorem dX12_statementCode_393 : decode cX12_statementCode 393 = .ok (.bipush 11, 2) := by decide +kernel
theorem dX12_statementCode_395 : decode cX12_statementCode 395 = .ok (.iconst 0, 1) := by decide +kernel
theorem dX12_statementCode_396 : decode cX12_statementCode 396 = .ok (.iconst 0, 1) := by decide +kernel
theorem dX12_statementCode_397 : decode cX12_statementCode 397 = .ok (.iconst 0, 1) := by decide +kernel
theorem dX12_statementCode_398 : decode cX12_statementCode 398 = .ok (.invokevirtual 609, 3) := by decide +kernel
theorem dX12_statementCode_401 : decode cX12_statementCode 401 = .ok (.istore_n 3, 1) := by decide +kernel
theorem dX12_statementCode_402 : decode cX12_statementCode 402 = .ok (.aload_n 0, 1) := by decide +kernel
theorem dX12_statementCode_403 : decode cX12_statementCode 403 = .ok (.aload_n 0, 1) := by decide +kernel
theorem dX12_statementCode_404 : decode cX12_statementCode 404 = .ok (.getfield 105, 3) := by decide +kernel
theorem dX12_statementCode_407 : decode cX12_statementCode 407 = .ok (.iload_n 1, 1) := by decide +kernel
theorem dX12_statementCode_408 : decode cX12_statementCode 408 = .ok (.iaload, 1) := by decide +kernel
theorem dX12_statementCode_409 : decode cX12_statementCode 409 = .ok (.invokevirtual 697, 3) := by decide +kernel
theorem dX12_statementCode_412 : decode cX12_statementCode 412 = .ok (.aload_n 0, 1) := by decide +kernel
theorem dX12_statementCode_413 : decode cX12_statementCode 413 = .ok (.getfield 108, 3) := by decide +kernel
theorem dX12_statementCode_416 : decode cX12_statementCode 416 = .ok (.iload_n 1, 1) := by decide +kernel
theorem dX12_statementCode_417 : decode cX12_statementCode 417 = .ok (.iaload, 1) := by decide +kernel
theorem dX12_statementCode_418 : decode cX12_statementCode 418 = .ok (.ifCond .ge 11, 3) := by decide +kernel
theorem dX12_statementCode_421 : decode cX12_statementCode 421 = .ok (.aload_n 0, 1) := by decide +kernel
theorem dX12_statementCode_422 : decode cX12_statementCode 422 = .ok (.iload_n 3, 1) := by decide +kernel
theorem dX12_statementCode_423 : decode cX12_statementCode 423 = .ok (.invokevirtual 625, 3) := by decide +kernel
theorem dX12_statementCode_426 : decode cX12_statementCode 426 = .ok (.goto 56, 3) := by decide +kernel
theorem dX12_statementCode_429 : decode cX12_statementCode 429 = .ok (.aload_n 0, 1) := by decide +kernel
theorem dX12_statementCode_430 : decode cX12_statementCode 430 = .ok (.bipush 10, 2) := by decide +kernel
theorem dX12_statementCode_432 : decode cX12_statementCode 432 = .ok (.iconst 0, 1) := by decide +kernel
theorem dX12_statementCode_433 : decode cX12_statementCode 433 = .ok (.iconst 0, 1) := by decide +kernel
theorem dX12_statementCode_434 : decode cX12_statementCode 434 = .ok (.iconst 0, 1) := by decide +kernel
theorem dX12_statementCode_435 : decode cX12_statementCode 435 = .ok (.invokevirtual 609, 3) := by decide +kernel
theorem dX12_statementCode_438 : decode cX12_statementCode 438 = .ok (.istore 4, 2) := by decide +kernel
theorem dX12_statementCode_440 : decode cX12_statementCode 440 = .ok (.aload_n 0, 1) := by decide +kernel
theorem dX12_statementCode_441 : decode cX12_statementCode 441 = .ok (.iload_n 3, 1) := by decide +kernel
theorem dX12_statementCode_442 : decode cX12_statementCode 442 = .ok (.invokevirtual 625, 3) := by decide +kernel
theorem dX12_statementCode_445 : decode cX12_statementCode 445 = .ok (.aload_n 0, 1) := by decide +kernel
theorem dX12_statementCode_446 : decode cX12_statementCode 446 = .ok (.aload_n 0, 1) := by decide +kernel
theorem dX12_statementCode_447 : decode cX12_statementCode 447 = .ok (.getfield 108, 3) := by decide +kernel
theorem dX12_statementCode_450 : decode cX12_statementCode 450 = .ok (.iload_n 1, 1) := by decide +kernel
theorem dX12_statementCode_451 : decode cX12_statementCode 451 = .ok (.iaload, 1) := by decide +kernel
theorem dX12_statementCode_452 : decode cX12_statementCode 452 = .ok (.invokevirtual 697, 3) := by decide +kernel
theorem dX12_statementCode_455 : decode cX12_statementCode 455 = .ok (.aload_n 0, 1) := by decide +kernel
theorem dX12_statementCode_456 : decode cX12_statementCode 456 = .ok (.iload 4, 2) := by decide +kernel
theorem dX12_statementCode_458 : decode cX12_statementCode 458 = .ok (.invokevirtual 625, 3) := by decide +kernel
theorem dX12_statementCode_461 : decode cX12_statementCode 461 = .ok (.goto 21, 3) := by decide +kernel
theorem dX12_statementCode_464 : decode cX12_statementCode 464 = .ok (.aload_n 0, 1) := by decide +kernel
theorem dX12_statementCode_465 : decode cX12_statementCode 465 = .ok (.iload_n 1, 1) := by decide +kernel
theorem dX12_statementCode_466 : decode cX12_statementCode 466 = .ok (.invokevirtual 700, 3) := by decide +kernel
theorem dX12_statementCode_469 : decode cX12_statementCode 469 = .ok (.goto 13, 3) := by decide +kernel
theorem dX12_statementCode_472 : decode cX12_statementCode 472 = .ok (.aload_n 0, 1) := by decide +kernel
theorem dX12_statementCode_473 : decode cX12_statementCode 473 = .ok (.aload_n 0, 1) := by decide +kernel
theorem dX12_statementCode_474 : decode cX12_statementCode 474 = .ok (.getfield 102, 3) := by decide +kernel
theorem dX12_statementCode_477 : decode cX12_statementCode 477 = .ok (.iload_n 1, 1) := by decide +kernel
theorem dX12_statementCode_478 : decode cX12_statementCode 478 = .ok (.iaload, 1) := by decide +kernel
theorem dX12_statementCode_479 : decode cX12_statementCode 479 = .ok (.invokevirtual 703, 3) := by decide +kernel
theorem dX12_statementCode_482 : decode cX12_statementCode 482 = .ok (.return_, 1) := by decide +kernel
def fX12_statementCode_215 (rc : TX12_row) (a4 : Int32) (w : Wd) : Option (Int32 × Wd) :=
  bn2 (fX12_op 7 a4 0 0 w) fun x1 w2 => some (0, w2)
theorem pX12_statementCode_215 {q : Gq} {l : Launch} {N : Option Value → Wd → Prop} {X : String → Wd → Prop} {rc : TX12_row} {dd : Nat} (hS : HSX12_row q l rc dd) (hK : 1708 ≤ dd) {w : Wd} {R : Int32 × Wd} (hN : N none R.2) {a4 : Int32} (h : fX12_statementCode_215 rc a4 w = some R) : RT (GM q) l (dd + 1) yX12_statementCode cX12_statementCode 7 (none) N X 215 [] [(0, .ref 0), (4, .int a4)] w := by
  unfold fX12_statementCode_215 at h
  refine r_aload_n (pc := 215) dX12_statementCode_215 rfl 0 rfl ?_
  refine r_bipush (pc := 216) dX12_statementCode_216 kb_7 ?_
  refine r_iload (pc := 218) dX12_statementCode_218 1 rfl ?_
  refine r_iconst (pc := 220) dX12_statementCode_220 ki_0 ?_
  refine r_iconst (pc := 221) dX12_statementCode_221 ki_0 ?_
  replace h := bn2_e h; obtain ⟨x1, w2, ew2, h⟩ := h
  refine r_cVi (pc := 222) wyX12_op oM0 rfl mlRX12_609 iyX12_op syX12_op ⟨Nat.succ_le_succ (Nat.le_trans (Nat.le_of_ble_eq_true rfl) hK), (Nat.le_of_ble_eq_true rfl)⟩ rfl rfl (Nat.le_of_ble_eq_true rfl) dX12_statementCode_222 (mX12_op ew2 (pI.mk ?_))
  refine r_istore_n (pc := 225) (loc' := [(2, .int x1), (0, .ref 0), (4, .int a4)]) dX12_statementCode_225 rfl (Nat.le_of_ble_eq_true rfl) rfl ?_
  refine r_goto (pc := 226) dX12_statementCode_226 rfl ?_
  exact rOR_v (pc := 482) rfl dX12_statementCode_482 h hN
def fX12_statementCode_150 (rc : TX12_row) (k_109 : Int32 → Int32 → Int32 → Int32 → Wd → Option (Int32 × Wd)) (a1 : Int32) (a3 : Int32) (a4 : Int32) (a5 : Int32) (a6 : Int32) (w : Wd) : Option (Int32 × Wd) :=
  if a3 = 0 then (lt (a4 + 1) fun x2 => if inb a5 24000 = true then lt ((gi w 11 (Int32.toNatClampNeg a5))) fun x4 => k_109 a1 a6 x2 x4 w else none) else (lt (a4 + 1) fun x5 => if inb a5 24000 = true then lt ((gi w 11 (Int32.toNatClampNeg a5))) fun x7 => k_109 a1 a3 x5 x7 w else none)
theorem pX12_statementCode_150 {q : Gq} {l : Launch} {N : Option Value → Wd → Prop} {X : String → Wd → Prop} {rc : TX12_row} {dd : Nat} (hS : HSX12_row q l rc dd) (hK : 1708 ≤ dd) {w : Wd} {R : Int32 × Wd} (hN : N none R.2) {k_109 : Int32 → Int32 → Int32 → Int32 → Wd → Option (Int32 × Wd)} (hk_109 : ∀ (a1 : Int32) (a3 : Int32) (a4 : Int32) (a5 : Int32) (w : Wd), k_109 a1 a3 a4 a5 w = some R → RT (GM q) l (dd + 1) yX12_statementCode cX12_statementCode 7 (none) N X 109 [] [(0, .ref 0), (1, .int a1), (3, .int a3), (4, .int a4), (5, .int a5)] w) {a1 : Int32} {a3 : Int32} {a4 : Int32} {a5 : Int32} {a6 : Int32} (h : fX12_statementCode_150 rc k_109 a1 a3 a4 a5 a6 w = some R) : RT (GM q) l (dd + 1) yX12_statementCode cX12_statementCode 7 (none) N X 150 [] [(0, .ref 0), (1, .int a1), (3, .int a3), (4, .int a4), (5, .int a5), (6, .int a6)] w := by
  unfold fX12_statementCode_150 at h
  refine r_iload_n (pc := 150) dX12_statementCode_150 rfl 2 rfl ?_
  refine r_if_ne (pc := 151) dX12_statementCode_151 rfl (fun hc1 => ?_) (fun hc1 => ?_)
  · replace h := if_f hc1 h
    replace h := lt_e h; obtain ⟨x5, ex5, h⟩ := h
    refine r_inc (pc := 157) (loc' := [(4, .int x5), (0, .ref 0), (1, .int a1), (3, .int a3), (5, .int a5), (6, .int a6)]) dX12_statementCode_157 ki_1 ex5 3 rfl (Nat.le_of_ble_eq_true rfl) rfl ?_
    refine r_aload_n (pc := 160) dX12_statementCode_160 rfl 1 rfl ?_
    refine r_get (pc := 161) (j := 20) (v := .ref 11) oM0 cf12 flRX12_111 rfl dX12_statementCode_161 rfl ?_
    refine r_iload (pc := 164) dX12_statementCode_164 4 rfl ?_
    replace h := if_n h; obtain ⟨hb6, h⟩ := h
    refine r_iald (pc := 166) aM11 (inb_in hb6) dX12_statementCode_166 ?_
    replace h := lt_e h; obtain ⟨x7, ex7, h⟩ := h
    refine r_topi ex7 ?_
    refine r_istore (pc := 167) (loc' := [(5, .int x7), (4, .int x5), (0, .ref 0), (1, .int a1), (3, .int a3), (6, .int a6)]) dX12_statementCode_167 (Nat.le_of_ble_eq_true rfl) rfl ?_
    refine r_goto (pc := 169) dX12_statementCode_169 rfl ?_
    refine r_drop (loc' := [(0, .ref 0), (1, .int a1), (3, .int a3), (4, .int x5), (5, .int x7)]) [2, 3, 4, 1, 0] rfl ?_
    exact hk_109 a1 a3 x5 x7 w h
  replace h := if_t hc1 h
  refine r_iload (pc := 154) dX12_statementCode_154 5 rfl ?_
  refine r_istore_n (pc := 156) (loc' := [(3, .int a6), (0, .ref 0), (1, .int a1), (4, .int a4), (5, .int a5), (6, .int a6)]) dX12_statementCode_156 rfl (Nat.le_of_ble_eq_true rfl) rfl ?_
  replace h := lt_e h; obtain ⟨x2, ex2, h⟩ := h
  refine r_inc (pc := 157) (loc' := [(4, .int x2), (3, .int a6), (0, .ref 0), (1, .int a1), (5, .int a5), (6, .int a6)]) dX12_statementCode_157 ki_1 ex2 3 rfl (Nat.le_of_ble_eq_true rfl) rfl ?_
  refine r_aload_n (pc := 160) dX12_statementCode_160 rfl 2 rfl ?_
  refine r_get (pc := 161) (j := 20) (v := .ref 11) oM0 cf12 flRX12_111 rfl dX12_statementCode_161 rfl ?_
  refine r_iload (pc := 164) dX12_statementCode_164 4 rfl ?_
  replace h := if_n h; obtain ⟨hb3, h⟩ := h
  refine r_iald (pc := 166) aM11 (inb_in hb3) dX12_statementCode_166 ?_
  replace h := lt_e h; obtain ⟨x4, ex4, h⟩ := h
  refine r_topi ex4 ?_
  refine r_istore (pc := 167) (loc' := [(5, .int x4), (4, .int x2), (3, .int a6), (0, .ref 0), (1, .int a1), (6, .int a6)]) dX12_statementCode_167 (Nat.le_of_ble_eq_true rfl) rfl ?_
  refine r_goto (pc := 169) dX12_statementCode_169 rfl ?_
  refine r_drop (loc' := [(0, .ref 0), (1, .int a1), (3, .int a6), (4, .int x2), (5, .int x4)]) [3, 4, 2, 1, 0] rfl ?_
  exact hk_109 a1 a6 x2 x4 w h
def fX12_statementCode_109 (rc : TX12_row) (k_109 : Int32 → Int32 → Int32 → Int32 → Wd → Option (Int32 × Wd)) (a1 : Int32) (a3 : Int32) (a4 : Int32) (a5 : Int32) (w : Wd) : Option (Int32 × Wd) :=
  if a5 < 0 then (if inb a1 24000 = true then bn2 (RX12_mustBe 1700 1 (gi w 9 (Int32.toNatClampNeg a1)) 0 0 w) fun x3 w4 => if x3 = 0 then (fX12_statementCode_215 rc a4 w4) else (if a3 = 0 then (fX12_statementCode_215 rc a4 w4) else (if x3 = a3 then (fX12_statementCode_215 rc a4 w4) else (if inb a1 24000 = true then if inb (gi w4 9 (Int32.toNatClampNeg a1)) 24000 = true then bn (fX12_found 4 (gi w4 12 (Int32.toNatClampNeg (gi w4 9 (Int32.toNatClampNeg a1)))) w4) fun w10 => fX12_statementCode_215 rc a4 w10 else none else none))) else none) else (bn2 (RX12_mustBe 1700 5 a5 0 0 w) fun x11 w12 => if x11 = 0 then (fX12_statementCode_150 rc k_109 a1 a3 a4 a5 x11 w12) else (if a3 = 0 then (fX12_statementCode_150 rc k_109 a1 a3 a4 a5 x11 w12) else (if x11 = a3 then (fX12_statementCode_150 rc k_109 a1 a3 a4 a5 x11 w12) else (if inb a5 24000 = true then bn (fX12_found 4 (gi w12 12 (Int32.toNatClampNeg a5)) w12) fun w17 => fX12_statementCode_150 rc k_109 a1 a3 a4 a5 x11 w17 else none))))
theorem pX12_statementCode_109 {q : Gq} {l : Launch} {N : Option Value → Wd → Prop} {X : String → Wd → Prop} {rc : TX12_row} {dd : Nat} (hS : HSX12_row q l rc dd) (hK : 1708 ≤ dd) {w : Wd} {R : Int32 × Wd} (hN : N none R.2) {k_109 : Int32 → Int32 → Int32 → Int32 → Wd → Option (Int32 × Wd)} (hk_109 : ∀ (a1 : Int32) (a3 : Int32) (a4 : Int32) (a5 : Int32) (w : Wd), k_109 a1 a3 a4 a5 w = some R → RT (GM q) l (dd + 1) yX12_statementCode cX12_statementCode 7 (none) N X 109 [] [(0, .ref 0), (1, .int a1), (3, .int a3), (4, .int a4), (5, .int a5)] w) {a1 : Int32} {a3 : Int32} {a4 : Int32} {a5 : Int32} (h : fX12_statementCode_109 rc k_109 a1 a3 a4 a5 w = some R) : RT (GM q) l (dd + 1) yX12_statementCode cX12_statementCode 7 (none) N X 109 [] [(0, .ref 0), (1, .int a1), (3, .int a3), (4, .int a4), (5, .int a5)] w := by
  unfold fX12_statementCode_109 at h
  refine r_iload (pc := 109) dX12_statementCode_109 4 rfl ?_
  refine r_if_lt (pc := 111) dX12_statementCode_111 rfl (fun hc1 => ?_) (fun hc1 => ?_)
  · replace h := if_t hc1 h
    refine r_aload_n (pc := 172) dX12_statementCode_172 rfl 0 rfl ?_
    refine r_aload_n (pc := 173) dX12_statementCode_173 rfl 0 rfl ?_
    refine r_get (pc := 174) (j := 18) (v := .ref 9) oM0 cf12 flRX12_105 rfl dX12_statementCode_174 rfl ?_
    refine r_iload_n (pc := 177) dX12_statementCode_177 rfl 1 rfl ?_
    replace h := if_n h; obtain ⟨hb2, h⟩ := h
    refine r_iald (pc := 178) aM9 (inb_in hb2) dX12_statementCode_178 ?_
    replace h := bn2_e h; obtain ⟨x3, w4, ew4, h⟩ := h
    refine r_cVi (pc := 179) wyX12_value oM0 rfl mlRX12_607 iyX12_value syX12_value ⟨Nat.succ_le_succ (Nat.le_trans (Nat.le_of_ble_eq_true rfl) hK), (Nat.le_of_ble_eq_true rfl)⟩ rfl rfl (Nat.le_of_ble_eq_true rfl) dX12_statementCode_179 (mX12_value ew4 (pI.mk ?_))
    refine r_istore (pc := 182) (loc' := [(5, .int x3), (0, .ref 0), (1, .int a1), (3, .int a3), (4, .int a4)]) dX12_statementCode_182 (Nat.le_of_ble_eq_true rfl) rfl ?_
    refine r_iload (pc := 184) dX12_statementCode_184 0 rfl ?_
    refine r_if_eq (pc := 186) dX12_statementCode_186 rfl (fun hc5 => ?_) (fun hc5 => ?_)
    · replace h := if_t hc5 h
      refine r_drop (loc' := [(0, .ref 0), (4, .int a4)]) [1, 4] rfl ?_
      exact pX12_statementCode_215 hS hK hN h
    replace h := if_f hc5 h
    refine r_iload_n (pc := 189) dX12_statementCode_189 rfl 3 rfl ?_
    refine r_if_eq (pc := 190) dX12_statementCode_190 rfl (fun hc6 => ?_) (fun hc6 => ?_)
    · replace h := if_t hc6 h
      refine r_drop (loc' := [(0, .ref 0), (4, .int a4)]) [1, 4] rfl ?_
      exact pX12_statementCode_215 hS hK hN h
    replace h := if_f hc6 h
    refine r_iload (pc := 193) dX12_statementCode_193 0 rfl ?_
    refine r_iload_n (pc := 195) dX12_statementCode_195 rfl 3 rfl ?_
    refine r_icmp_eq (pc := 196) dX12_statementCode_196 rfl (fun hc7 => ?_) (fun hc7 => ?_)
    · replace h := if_t hc7 h
      refine r_drop (loc' := [(0, .ref 0), (4, .int a4)]) [1, 4] rfl ?_
      exact pX12_statementCode_215 hS hK hN h
    replace h := if_f hc7 h
    refine r_aload_n (pc := 199) dX12_statementCode_199 rfl 1 rfl ?_
    refine r_iconst (pc := 200) dX12_statementCode_200 ki_4 ?_
    refine r_aload_n (pc := 201) dX12_statementCode_201 rfl 1 rfl ?_
    refine r_get (pc := 202) (j := 21) (v := .ref 12) oM0 cf12 flRX12_114 rfl dX12_statementCode_202 rfl ?_
    refine r_aload_n (pc := 205) dX12_statementCode_205 rfl 1 rfl ?_
    refine r_get (pc := 206) (j := 18) (v := .ref 9) oM0 cf12 flRX12_105 rfl dX12_statementCode_206 rfl ?_
    refine r_iload_n (pc := 209) dX12_statementCode_209 rfl 2 rfl ?_
    replace h := if_n h; obtain ⟨hb8, h⟩ := h
    refine r_iald (pc := 210) aM9 (inb_in hb8) dX12_statementCode_210 ?_
    replace h := if_n h; obtain ⟨hb9, h⟩ := h
    refine r_iald (pc := 211) aM12 (inb_in hb9) dX12_statementCode_211 ?_
    replace h := bn_e h; obtain ⟨w10, ew10, h⟩ := h
    refine r_cVv (pc := 212) wyX12_found oM0 rfl mlRX12_484 iyX12_found syX12_found ⟨Nat.succ_le_succ (Nat.le_trans (Nat.le_of_ble_eq_true rfl) hK), (Nat.le_of_ble_eq_true rfl)⟩ rfl rfl (Nat.le_of_ble_eq_true rfl) dX12_statementCode_212 (mX12_found ew10 (pV.mk ?_))
    refine r_drop (loc' := [(0, .ref 0), (4, .int a4)]) [1, 4] rfl ?_
    exact pX12_statementCode_215 hS hK hN h
  replace h := if_f hc1 h
  refine r_aload_n (pc := 114) dX12_statementCode_114 rfl 0 rfl ?_
  refine r_iload (pc := 115) dX12_statementCode_115 4 rfl ?_
  refine r_iconst (pc := 117) dX12_statementCode_117 ki_0 ?_
  replace h := bn2_e h; obtain ⟨x11, w12, ew12, h⟩ := h
  refine r_cVi (pc := 118) wyX12_place oM0 rfl mlRX12_694 iyX12_place syX12_place ⟨Nat.succ_le_succ (Nat.le_trans (Nat.le_of_ble_eq_true rfl) hK), (Nat.le_of_ble_eq_true rfl)⟩ rfl rfl (Nat.le_of_ble_eq_true rfl) dX12_statementCode_118 (mX12_place ew12 (pI.mk ?_))
  refine r_istore (pc := 121) (loc' := [(6, .int x11), (0, .ref 0), (1, .int a1), (3, .int a3), (4, .int a4), (5, .int a5)]) dX12_statementCode_121 (Nat.le_of_ble_eq_true rfl) rfl ?_
  refine r_iload (pc := 123) dX12_statementCode_123 0 rfl ?_
  refine r_if_eq (pc := 125) dX12_statementCode_125 rfl (fun hc13 => ?_) (fun hc13 => ?_)
  · replace h := if_t hc13 h
    refine r_drop (loc' := [(0, .ref 0), (1, .int a1), (3, .int a3), (4, .int a4), (5, .int a5), (6, .int x11)]) [1, 2, 3, 4, 5, 0] rfl ?_
    exact pX12_statementCode_150 hS hK hN hk_109 h
  replace h := if_f hc13 h
  refine r_iload_n (pc := 128) dX12_statementCode_128 rfl 3 rfl ?_
  refine r_if_eq (pc := 129) dX12_statementCode_129 rfl (fun hc14 => ?_) (fun hc14 => ?_)
  · replace h := if_t hc14 h
    refine r_drop (loc' := [(0, .ref 0), (1, .int a1), (3, .int a3), (4, .int a4), (5, .int a5), (6, .int x11)]) [1, 2, 3, 4, 5, 0] rfl ?_
    exact pX12_statementCode_150 hS hK hN hk_109 h
  replace h := if_f hc14 h
  refine r_iload (pc := 132) dX12_statementCode_132 0 rfl ?_
  refine r_iload_n (pc := 134) dX12_statementCode_134 rfl 3 rfl ?_
  refine r_icmp_eq (pc := 135) dX12_statementCode_135 rfl (fun hc15 => ?_) (fun hc15 => ?_)
  · replace h := if_t hc15 h
    refine r_drop (loc' := [(0, .ref 0), (1, .int a1), (3, .int a3), (4, .int a4), (5, .int a5), (6, .int x11)]) [1, 2, 3, 4, 5, 0] rfl ?_
    exact pX12_statementCode_150 hS hK hN hk_109 h
  replace h := if_f hc15 h
  refine r_aload_n (pc := 138) dX12_statementCode_138 rfl 1 rfl ?_
  refine r_iconst (pc := 139) dX12_statementCode_139 ki_4 ?_
  refine r_aload_n (pc := 140) dX12_statementCode_140 rfl 1 rfl ?_
  refine r_get (pc := 141) (j := 21) (v := .ref 12) oM0 cf12 flRX12_114 rfl dX12_statementCode_141 rfl ?_
  refine r_iload (pc := 144) dX12_statementCode_144 5 rfl ?_
  replace h := if_n h; obtain ⟨hb16, h⟩ := h
  refine r_iald (pc := 146) aM12 (inb_in hb16) dX12_statementCode_146 ?_
  replace h := bn_e h; obtain ⟨w17, ew17, h⟩ := h
  refine r_cVv (pc := 147) wyX12_found oM0 rfl mlRX12_484 iyX12_found syX12_found ⟨Nat.succ_le_succ (Nat.le_trans (Nat.le_of_ble_eq_true rfl) hK), (Nat.le_of_ble_eq_true rfl)⟩ rfl rfl (Nat.le_of_ble_eq_true rfl) dX12_statementCode_147 (mX12_found ew17 (pV.mk ?_))
  refine r_drop (loc' := [(0, .ref 0), (1, .int a1), (3, .int a3), (4, .int a4), (5, .int a5), (6, .int x11)]) [1, 2, 3, 4, 5, 0] rfl ?_
  exact pX12_statementCode_150 hS hK hN hk_109 h
def oX12_statementCode_109 (rc : TX12_row) : Nat → Int32 → Int32 → Int32 → Int32 → Wd → Option (Int32 × Wd)
  | 0 => fun _ _ _ _ _ => none
  | n + 1 => fX12_statementCode_109 rc (oX12_statementCode_109 rc n)
theorem qX12_statementCode_109 {q : Gq} {l : Launch} {N : Option Value → Wd → Prop} {X : String → Wd → Prop} {rc : TX12_row} {dd : Nat} (hS : HSX12_row q l rc dd) (hK : 1708 ≤ dd) {R : Int32 × Wd} (hN : N none R.2) : ∀ (n : Nat) (a1 : Int32) (a3 : Int32) (a4 : Int32) (a5 : Int32) (w : Wd), oX12_statementCode_109 rc n a1 a3 a4 a5 w = some R → RT (GM q) l (dd + 1) yX12_statementCode cX12_statementCode 7 (none) N X 109 [] [(0, .ref 0), (1, .int a1), (3, .int a3), (4, .int a4), (5, .int a5)] w := by
  intro n
  induction n with
  | zero =>
    intro a1 a3 a4 a5 w h
    exact absurd h (fun q => nomatch q)
  | succ n ih =>
    intro a1 a3 a4 a5 w h
    exact pX12_statementCode_109 hS hK hN ih h
def fX12_statementCode_7 (rc : TX12_row) (k_7 : Int32 → Int32 → Wd → Option (Int32 × Wd)) (a1 : Int32) (a2 : Int32) (w : Wd) : Option (Int32 × Wd) :=
  if a2 < 0 then (if inb a1 24000 = true then if (gi w 7 (Int32.toNatClampNeg a1)) = 20 then (some (0, w)) else (bn2 (fX12_op 12 0 0 0 w) fun x4 w5 => if inb a1 24000 = true then lt ((gi w5 7 (Int32.toNatClampNeg a1))) fun x7 => if x7 = 21 then (if inb a1 24000 = true then lt ((gi w5 8 (Int32.toNatClampNeg a1))) fun x10 => oX12_statementCode_109 rc FU a1 0 0 x10 w5 else none) else if x7 = 22 then (if inb a1 24000 = true then lt ((gi w5 8 (Int32.toNatClampNeg a1))) fun x13 => if inb x13 24000 = true then if (gi w5 7 (Int32.toNatClampNeg x13)) = 5 then (bn2 (RX12_mustBe 1700 7 x13 0 0 w5) fun x16 w17 => some (0, w17)) else (bn2 (fX12_seen x13 w5) fun x18 w19 => if 0 ≤ x18 then (if inb x18 5000 = true then if (gi w19 19 (Int32.toNatClampNeg x18)) = 3 then (bn (fX12_alone x13 x18 0 w19) fun w23 => some (0, w23)) else (bn2 (fX12_isFormal x18 3 w19) fun x24 w25 => if x24 = true then (bn (fX12_alone x13 x18 0 w25) fun w27 => some (0, w27)) else (if inb x18 5000 = true then if (gi w25 19 (Int32.toNatClampNeg x18)) = 6 then (if inb x18 5000 = true then if (gi w25 24 (Int32.toNatClampNeg x18)) = 0 then (some (0, w25)) else (bn2 (fX12_wrongName x13 w25) fun x32 w33 => some (0, w33)) else none) else (bn2 (fX12_wrongName x13 w25) fun x34 w35 => some (0, w35)) else none)) else none) else (some (0, w19))) else none else none) else if x7 = 23 then (if inb a1 24000 = true then bn2 (RX12_mustBe 1700 1 (gi w5 8 (Int32.toNatClampNeg a1)) 0 0 w5) fun x38 w39 => bn2 (fX12_op 13 0 0 0 w39) fun x40 w41 => some (0, w41) else none) else if x7 = 24 then (if inb a1 24000 = true then bn2 (RX12_mustBe 1700 6 (gi w5 8 (Int32.toNatClampNeg a1)) 0 0 w5) fun _ w45 => bn2 (fX12_op 19 0 0 0 w45) fun x46 w47 => some (0, w47) else none) else if x7 = 25 then (if inb a1 24000 = true then bn2 (RX12_mustBe 1700 0 (gi w5 8 (Int32.toNatClampNeg a1)) 2 0 w5) fun _ w51 => bn2 (fX12_op 11 0 0 0 w51) fun x52 w53 => if inb a1 24000 = true then bn2 (rc 1 (gi w53 9 (Int32.toNatClampNeg a1)) 0 0 w53) fun _ w56 => if inb a1 24000 = true then if 0 ≤ (gi w56 10 (Int32.toNatClampNeg a1)) then (bn2 (fX12_op 10 0 0 0 w56) fun x59 w60 => bn (fX12_patch x52 w60) fun w61 => if inb a1 24000 = true then bn2 (rc 1 (gi w61 10 (Int32.toNatClampNeg a1)) 0 0 w61) fun _ w64 => bn (fX12_patch x59 w64) fun w65 => some (0, w65) else none) else (bn (fX12_patch x52 w56) fun w66 => some (0, w66)) else none else none else none) else if x7 = 26 then (bn2 (rc 2 a1 0 0 w5) fun _ w69 => some (0, w69)) else (if inb a1 24000 = true then bn2 (rc 3 (gi w5 8 (Int32.toNatClampNeg a1)) 0 0 w5) fun _ w72 => some (0, w72) else none) else none) else none) else (if inb a2 5000 = true then lt (si w 55 (Int32.toNatClampNeg a2) (gi w 0 64)) fun w74 => if inb a2 5000 = true then lt ((gi w74 43 (Int32.toNatClampNeg a2))) fun x76 => k_7 a1 x76 w74 else none else none)
set_option maxHeartbeats 16000000 in
theorem pX12_statementCode_7 {q : Gq} {l : Launch} {N : Option Value → Wd → Prop} {X : String → Wd → Prop} {rc : TX12_row} {dd : Nat} (hS : HSX12_row q l rc dd) (hK : 1708 ≤ dd) {w : Wd} {R : Int32 × Wd} (hN : N none R.2) {k_7 : Int32 → Int32 → Wd → Option (Int32 × Wd)} (hk_7 : ∀ (a1 : Int32) (a2 : Int32) (w : Wd), k_7 a1 a2 w = some R → RT (GM q) l (dd + 1) yX12_statementCode cX12_statementCode 7 (none) N X 7 [] [(0, .ref 0), (1, .int a1), (2, .int a2)] w) {a1 : Int32} {a2 : Int32} (h : fX12_statementCode_7 rc k_7 a1 a2 w = some R) : RT (GM q) l (dd + 1) yX12_statementCode cX12_statementCode 7 (none) N X 7 [] [(0, .ref 0), (1, .int a1), (2, .int a2)] w := by
  unfold fX12_statementCode_7 at h
  refine r_iload_n (pc := 7) dX12_statementCode_7 rfl 2 rfl ?_
  refine r_if_lt (pc := 8) dX12_statementCode_8 rfl (fun hc1 => ?_) (fun hc1 => ?_)
  · replace h := if_t hc1 h
    refine r_aload_n (pc := 31) dX12_statementCode_31 rfl 0 rfl ?_
    refine r_get (pc := 32) (j := 16) (v := .ref 7) oM0 cf12 flRX12_99 rfl dX12_statementCode_32 rfl ?_
    refine r_iload_n (pc := 35) dX12_statementCode_35 rfl 1 rfl ?_
    replace h := if_n h; obtain ⟨hb2, h⟩ := h
    refine r_iald (pc := 36) aM7 (inb_in hb2) dX12_statementCode_36 ?_
    refine r_bipush (pc := 37) dX12_statementCode_37 kb_20 ?_
    refine r_icmp_ne (pc := 39) dX12_statementCode_39 rfl (fun hc3 => ?_) (fun hc3 => ?_)
    · replace h := if_f hc3 h
      refine r_aload_n (pc := 43) dX12_statementCode_43 rfl 0 rfl ?_
      refine r_bipush (pc := 44) dX12_statementCode_44 kb_12 ?_
      refine r_iconst (pc := 46) dX12_statementCode_46 ki_0 ?_
      refine r_iconst (pc := 47) dX12_statementCode_47 ki_0 ?_
      refine r_iconst (pc := 48) dX12_statementCode_48 ki_0 ?_
      replace h := bn2_e h; obtain ⟨x4, w5, ew5, h⟩ := h
      refine r_cVi (pc := 49) wyX12_op oM0 rfl mlRX12_609 iyX12_op syX12_op ⟨Nat.succ_le_succ (Nat.le_trans (Nat.le_of_ble_eq_true rfl) hK), (Nat.le_of_ble_eq_true rfl)⟩ rfl rfl (Nat.le_of_ble_eq_true rfl) dX12_statementCode_49 (mX12_op ew5 (pI.mk ?_))
      refine r_istore_n (pc := 52) (loc' := [(2, .int x4), (0, .ref 0), (1, .int a1)]) dX12_statementCode_52 rfl (Nat.le_of_ble_eq_true rfl) rfl ?_
      refine r_aload_n (pc := 53) dX12_statementCode_53 rfl 1 rfl ?_
      refine r_get (pc := 54) (j := 16) (v := .ref 7) oM0 cf12 flRX12_99 rfl dX12_statementCode_54 rfl ?_
      refine r_iload_n (pc := 57) dX12_statementCode_57 rfl 2 rfl ?_
      replace h := if_n h; obtain ⟨hb6, h⟩ := h
      refine r_iald (pc := 58) aM7 (inb_in hb6) dX12_statementCode_58 ?_
      replace h := lt_e h; obtain ⟨x7, ex7, h⟩ := h
      refine r_topi ex7 ?_
      by_cases hc8 : x7 = 21
      · refine r_tabC (pc := 59) (off := 37) (tgt := 96) (L := [21]) dX12_statementCode_59 hc8 (by decide) rfl ?_
        replace h := if_t hc8 h
        refine r_iconst (pc := 96) dX12_statementCode_96 ki_0 ?_
        refine r_istore_n (pc := 97) (loc' := [(3, .int 0), (2, .int x4), (0, .ref 0), (1, .int a1)]) dX12_statementCode_97 rfl (Nat.le_of_ble_eq_true rfl) rfl ?_
        refine r_iconst (pc := 98) dX12_statementCode_98 ki_0 ?_
        refine r_istore (pc := 99) (loc' := [(4, .int 0), (3, .int 0), (2, .int x4), (0, .ref 0), (1, .int a1)]) dX12_statementCode_99 (Nat.le_of_ble_eq_true rfl) rfl ?_
        refine r_aload_n (pc := 101) dX12_statementCode_101 rfl 3 rfl ?_
        refine r_get (pc := 102) (j := 17) (v := .ref 8) oM0 cf12 flRX12_102 rfl dX12_statementCode_102 rfl ?_
        refine r_iload_n (pc := 105) dX12_statementCode_105 rfl 4 rfl ?_
        replace h := if_n h; obtain ⟨hb9, h⟩ := h
        refine r_iald (pc := 106) aM8 (inb_in hb9) dX12_statementCode_106 ?_
        replace h := lt_e h; obtain ⟨x10, ex10, h⟩ := h
        refine r_topi ex10 ?_
        refine r_istore (pc := 107) (loc' := [(5, .int x10), (4, .int 0), (3, .int 0), (2, .int x4), (0, .ref 0), (1, .int a1)]) dX12_statementCode_107 (Nat.le_of_ble_eq_true rfl) rfl ?_
        refine r_drop (loc' := [(0, .ref 0), (1, .int a1), (3, .int 0), (4, .int 0), (5, .int x10)]) [4, 5, 2, 1, 0] rfl ?_
        exact qX12_statementCode_109 hS hK hN FU a1 0 0 x10 w5 h
      replace h := if_f hc8 h
      by_cases hc11 : x7 = 22
      · refine r_tabC (pc := 59) (off := 170) (tgt := 229) (L := [22]) dX12_statementCode_59 hc11 (by decide) rfl ?_
        replace h := if_t hc11 h
        refine r_aload_n (pc := 229) dX12_statementCode_229 rfl 1 rfl ?_
        refine r_get (pc := 230) (j := 17) (v := .ref 8) oM0 cf12 flRX12_102 rfl dX12_statementCode_230 rfl ?_
        refine r_iload_n (pc := 233) dX12_statementCode_233 rfl 2 rfl ?_
        replace h := if_n h; obtain ⟨hb12, h⟩ := h
        refine r_iald (pc := 234) aM8 (inb_in hb12) dX12_statementCode_234 ?_
        replace h := lt_e h; obtain ⟨x13, ex13, h⟩ := h
        refine r_topi ex13 ?_
        refine r_istore_n (pc := 235) (loc' := [(3, .int x13), (2, .int x4), (0, .ref 0), (1, .int a1)]) dX12_statementCode_235 rfl (Nat.le_of_ble_eq_true rfl) rfl ?_
        refine r_aload_n (pc := 236) dX12_statementCode_236 rfl 2 rfl ?_
        refine r_get (pc := 237) (j := 16) (v := .ref 7) oM0 cf12 flRX12_99 rfl dX12_statementCode_237 rfl ?_
        refine r_iload_n (pc := 240) dX12_statementCode_240 rfl 0 rfl ?_
        replace h := if_n h; obtain ⟨hb14, h⟩ := h
        refine r_iald (pc := 241) aM7 (inb_in hb14) dX12_statementCode_241 ?_
        refine r_iconst (pc := 242) dX12_statementCode_242 ki_5 ?_
        refine r_icmp_ne (pc := 243) dX12_statementCode_243 rfl (fun hc15 => ?_) (fun hc15 => ?_)
        · replace h := if_f hc15 h
          refine r_aload_n (pc := 256) dX12_statementCode_256 rfl 2 rfl ?_
          refine r_iload_n (pc := 257) dX12_statementCode_257 rfl 0 rfl ?_
          replace h := bn2_e h; obtain ⟨x18, w19, ew19, h⟩ := h
          refine r_cVi (pc := 258) wyX12_seen oM0 rfl mlRX12_638 iyX12_seen syX12_seen ⟨Nat.succ_le_succ (Nat.le_trans (Nat.le_of_ble_eq_true rfl) hK), (Nat.le_of_ble_eq_true rfl)⟩ rfl rfl (Nat.le_of_ble_eq_true rfl) dX12_statementCode_258 (mX12_seen ew19 (pI.mk ?_))
          refine r_istore (pc := 261) (loc' := [(4, .int x18), (3, .int x13), (2, .int x4), (0, .ref 0), (1, .int a1)]) dX12_statementCode_261 (Nat.le_of_ble_eq_true rfl) rfl ?_
          refine r_iload (pc := 263) dX12_statementCode_263 0 rfl ?_
          refine r_if_ge (pc := 265) dX12_statementCode_265 rfl (fun hc20 => ?_) (fun hc20 => ?_)
          · replace h := if_t hc20 h
            refine r_aload_n (pc := 271) dX12_statementCode_271 rfl 3 rfl ?_
            refine r_get (pc := 272) (j := 32) (v := .ref 19) oM0 cf12 flRX12_135 rfl dX12_statementCode_272 rfl ?_
            refine r_iload (pc := 275) dX12_statementCode_275 0 rfl ?_
            replace h := if_n h; obtain ⟨hb21, h⟩ := h
            refine r_iald (pc := 277) aM19 (inb_in hb21) dX12_statementCode_277 ?_
            refine r_iconst (pc := 278) dX12_statementCode_278 ki_3 ?_
            refine r_icmp_eq (pc := 279) dX12_statementCode_279 rfl (fun hc22 => ?_) (fun hc22 => ?_)
            · replace h := if_t hc22 h
              refine r_aload_n (pc := 292) dX12_statementCode_292 rfl 3 rfl ?_
              refine r_iload_n (pc := 293) dX12_statementCode_293 rfl 1 rfl ?_
              refine r_iload (pc := 294) dX12_statementCode_294 0 rfl ?_
              refine r_iconst (pc := 296) dX12_statementCode_296 ki_0 ?_
              replace h := bn_e h; obtain ⟨w23, ew23, h⟩ := h
              refine r_cVv (pc := 297) wyX12_alone oM0 rfl mlRX12_651 iyX12_alone syX12_alone ⟨Nat.succ_le_succ (Nat.le_trans (Nat.le_of_ble_eq_true rfl) hK), (Nat.le_of_ble_eq_true rfl)⟩ rfl rfl (Nat.le_of_ble_eq_true rfl) dX12_statementCode_297 (mX12_alone ew23 (pV.mk ?_))
              refine r_goto (pc := 300) dX12_statementCode_300 rfl ?_
              exact rOR_v (pc := 482) rfl dX12_statementCode_482 h hN
            replace h := if_f hc22 h
            refine r_aload_n (pc := 282) dX12_statementCode_282 rfl 3 rfl ?_
            refine r_iload (pc := 283) dX12_statementCode_283 0 rfl ?_
            refine r_iconst (pc := 285) dX12_statementCode_285 ki_3 ?_
            replace h := bn2_e h; obtain ⟨x24, w25, ew25, h⟩ := h
            refine r_cVi (pc := 286) wyX12_isFormal oM0 rfl mlRX12_644 iyX12_isFormal syX12_isFormal ⟨Nat.succ_le_succ (Nat.le_trans (Nat.le_of_ble_eq_true rfl) hK), (Nat.le_of_ble_eq_true rfl)⟩ rfl rfl (Nat.le_of_ble_eq_true rfl) dX12_statementCode_286 (mX12_isFormal ew25 (pI.mk ?_))
            refine r_z_eq (pc := 289) dX12_statementCode_289 rfl (fun hc26 => ?_) (fun hc26 => ?_)
            · replace h := if_f hc26 h
              refine r_aload_n (pc := 303) dX12_statementCode_303 rfl 3 rfl ?_
              refine r_get (pc := 304) (j := 32) (v := .ref 19) oM0 cf12 flRX12_135 rfl dX12_statementCode_304 rfl ?_
              refine r_iload (pc := 307) dX12_statementCode_307 0 rfl ?_
              replace h := if_n h; obtain ⟨hb28, h⟩ := h
              refine r_iald (pc := 309) aM19 (inb_in hb28) dX12_statementCode_309 ?_
              refine r_bipush (pc := 310) dX12_statementCode_310 kb_6 ?_
              refine r_icmp_ne (pc := 312) dX12_statementCode_312 rfl (fun hc29 => ?_) (fun hc29 => ?_)
              · replace h := if_f hc29 h
                refine r_aload_n (pc := 325) dX12_statementCode_325 rfl 3 rfl ?_
                refine r_iload_n (pc := 326) dX12_statementCode_326 rfl 1 rfl ?_
                replace h := bn2_e h; obtain ⟨x34, w35, ew35, h⟩ := h
                refine r_cVi (pc := 327) wyX12_wrongName oM0 rfl mlRX12_648 iyX12_wrongName syX12_wrongName ⟨Nat.succ_le_succ (Nat.le_trans (Nat.le_of_ble_eq_true rfl) hK), (Nat.le_of_ble_eq_true rfl)⟩ rfl rfl (Nat.le_of_ble_eq_true rfl) dX12_statementCode_327 (mX12_wrongName ew35 (pI.mk ?_))
                refine r_istore_n (pc := 330) (loc' := [(2, .int x34), (4, .int x18), (3, .int x13), (0, .ref 0), (1, .int a1)]) dX12_statementCode_330 rfl (Nat.le_of_ble_eq_true rfl) rfl ?_
                refine r_goto (pc := 331) dX12_statementCode_331 rfl ?_
                exact rOR_v (pc := 482) rfl dX12_statementCode_482 h hN
              replace h := if_t hc29 h
              refine r_aload_n (pc := 315) dX12_statementCode_315 rfl 3 rfl ?_
              refine r_get (pc := 316) (j := 37) (v := .ref 24) oM0 cf12 flRX12_150 rfl dX12_statementCode_316 rfl ?_
              refine r_iload (pc := 319) dX12_statementCode_319 0 rfl ?_
              replace h := if_n h; obtain ⟨hb30, h⟩ := h
              refine r_iald (pc := 321) aM24 (inb_in hb30) dX12_statementCode_321 ?_
              refine r_if_eq (pc := 322) dX12_statementCode_322 rfl (fun hc31 => ?_) (fun hc31 => ?_)
              · replace h := if_t hc31 h
                exact rOR_v (pc := 482) rfl dX12_statementCode_482 h hN
              replace h := if_f hc31 h
              refine r_aload_n (pc := 325) dX12_statementCode_325 rfl 3 rfl ?_
              refine r_iload_n (pc := 326) dX12_statementCode_326 rfl 1 rfl ?_
              replace h := bn2_e h; obtain ⟨x32, w33, ew33, h⟩ := h
              refine r_cVi (pc := 327) wyX12_wrongName oM0 rfl mlRX12_648 iyX12_wrongName syX12_wrongName ⟨Nat.succ_le_succ (Nat.le_trans (Nat.le_of_ble_eq_true rfl) hK), (Nat.le_of_ble_eq_true rfl)⟩ rfl rfl (Nat.le_of_ble_eq_true rfl) dX12_statementCode_327 (mX12_wrongName ew33 (pI.mk ?_))
              refine r_istore_n (pc := 330) (loc' := [(2, .int x32), (4, .int x18), (3, .int x13), (0, .ref 0), (1, .int a1)]) dX12_statementCode_330 rfl (Nat.le_of_ble_eq_true rfl) rfl ?_
              refine r_goto (pc := 331) dX12_statementCode_331 rfl ?_
              exact rOR_v (pc := 482) rfl dX12_statementCode_482 h hN
            replace h := if_t hc26 h
            refine r_aload_n (pc := 292) dX12_statementCode_292 rfl 3 rfl ?_
            refine r_iload_n (pc := 293) dX12_statementCode_293 rfl 1 rfl ?_
            refine r_iload (pc := 294) dX12_statementCode_294 0 rfl ?_
            refine r_iconst (pc := 296) dX12_statementCode_296 ki_0 ?_
            replace h := bn_e h; obtain ⟨w27, ew27, h⟩ := h
            refine r_cVv (pc := 297) wyX12_alone oM0 rfl mlRX12_651 iyX12_alone syX12_alone ⟨Nat.succ_le_succ (Nat.le_trans (Nat.le_of_ble_eq_true rfl) hK), (Nat.le_of_ble_eq_true rfl)⟩ rfl rfl (Nat.le_of_ble_eq_true rfl) dX12_statementCode_297 (mX12_alone ew27 (pV.mk ?_))
            refine r_goto (pc := 300) dX12_statementCode_300 rfl ?_
            exact rOR_v (pc := 482) rfl dX12_statementCode_482 h hN
          replace h := if_f hc20 h
          refine r_goto (pc := 268) dX12_statementCode_268 rfl ?_
          exact rOR_v (pc := 482) rfl dX12_statementCode_482 h hN
        replace h := if_t hc15 h
        refine r_aload_n (pc := 246) dX12_statementCode_246 rfl 2 rfl ?_
        refine r_iload_n (pc := 247) dX12_statementCode_247 rfl 0 rfl ?_
        refine r_iconst (pc := 248) dX12_statementCode_248 ki_0 ?_
        replace h := bn2_e h; obtain ⟨x16, w17, ew17, h⟩ := h
        refine r_cVi (pc := 249) wyX12_called oM0 rfl mlRX12_618 iyX12_called syX12_called ⟨Nat.succ_le_succ (Nat.le_trans (Nat.le_of_ble_eq_true rfl) hK), (Nat.le_of_ble_eq_true rfl)⟩ rfl rfl (Nat.le_of_ble_eq_true rfl) dX12_statementCode_249 (mX12_called ew17 (pI.mk ?_))
        refine r_istore_n (pc := 252) (loc' := [(2, .int x16), (3, .int x13), (0, .ref 0), (1, .int a1)]) dX12_statementCode_252 rfl (Nat.le_of_ble_eq_true rfl) rfl ?_
        refine r_goto (pc := 253) dX12_statementCode_253 rfl ?_
        exact rOR_v (pc := 482) rfl dX12_statementCode_482 h hN
      replace h := if_f hc11 h
      by_cases hc36 : x7 = 23
      · refine r_tabC (pc := 59) (off := 275) (tgt := 334) (L := [23]) dX12_statementCode_59 hc36 (by decide) rfl ?_
        replace h := if_t hc36 h
        refine r_aload_n (pc := 334) dX12_statementCode_334 rfl 1 rfl ?_
        refine r_aload_n (pc := 335) dX12_statementCode_335 rfl 1 rfl ?_
        refine r_get (pc := 336) (j := 17) (v := .ref 8) oM0 cf12 flRX12_102 rfl dX12_statementCode_336 rfl ?_
        refine r_iload_n (pc := 339) dX12_statementCode_339 rfl 2 rfl ?_
        replace h := if_n h; obtain ⟨hb37, h⟩ := h
        refine r_iald (pc := 340) aM8 (inb_in hb37) dX12_statementCode_340 ?_
        replace h := bn2_e h; obtain ⟨x38, w39, ew39, h⟩ := h
        refine r_cVi (pc := 341) wyX12_value oM0 rfl mlRX12_607 iyX12_value syX12_value ⟨Nat.succ_le_succ (Nat.le_trans (Nat.le_of_ble_eq_true rfl) hK), (Nat.le_of_ble_eq_true rfl)⟩ rfl rfl (Nat.le_of_ble_eq_true rfl) dX12_statementCode_341 (mX12_value ew39 (pI.mk ?_))
        refine r_istore_n (pc := 344) (loc' := [(2, .int x38), (0, .ref 0), (1, .int a1)]) dX12_statementCode_344 rfl (Nat.le_of_ble_eq_true rfl) rfl ?_
        refine r_aload_n (pc := 345) dX12_statementCode_345 rfl 1 rfl ?_
        refine r_bipush (pc := 346) dX12_statementCode_346 kb_13 ?_
        refine r_iconst (pc := 348) dX12_statementCode_348 ki_0 ?_
        refine r_iconst (pc := 349) dX12_statementCode_349 ki_0 ?_
        refine r_iconst (pc := 350) dX12_statementCode_350 ki_0 ?_
        replace h := bn2_e h; obtain ⟨x40, w41, ew41, h⟩ := h
        refine r_cVi (pc := 351) wyX12_op oM0 rfl mlRX12_609 iyX12_op syX12_op ⟨Nat.succ_le_succ (Nat.le_trans (Nat.le_of_ble_eq_true rfl) hK), (Nat.le_of_ble_eq_true rfl)⟩ rfl rfl (Nat.le_of_ble_eq_true rfl) dX12_statementCode_351 (mX12_op ew41 (pI.mk ?_))
        refine r_istore_n (pc := 354) (loc' := [(2, .int x40), (0, .ref 0), (1, .int a1)]) dX12_statementCode_354 rfl (Nat.le_of_ble_eq_true rfl) rfl ?_
        refine r_goto (pc := 355) dX12_statementCode_355 rfl ?_
        exact rOR_v (pc := 482) rfl dX12_statementCode_482 h hN
      replace h := if_f hc36 h
      by_cases hc42 : x7 = 24
      · refine r_tabC (pc := 59) (off := 299) (tgt := 358) (L := [24]) dX12_statementCode_59 hc42 (by decide) rfl ?_
        replace h := if_t hc42 h
        refine r_aload_n (pc := 358) dX12_statementCode_358 rfl 1 rfl ?_
        refine r_aload_n (pc := 359) dX12_statementCode_359 rfl 1 rfl ?_
        refine r_get (pc := 360) (j := 17) (v := .ref 8) oM0 cf12 flRX12_102 rfl dX12_statementCode_360 rfl ?_
        refine r_iload_n (pc := 363) dX12_statementCode_363 rfl 2 rfl ?_
        replace h := if_n h; obtain ⟨hb43, h⟩ := h
        refine r_iald (pc := 364) aM8 (inb_in hb43) dX12_statementCode_364 ?_
        replace h := bn2_e h; obtain ⟨x44, w45, ew45, h⟩ := h
        refine r_cVv (pc := 365) wyX12_aimCode oM0 rfl mlRX12_670 iyX12_aimCode syX12_aimCode ⟨Nat.succ_le_succ (Nat.le_trans (Nat.le_of_ble_eq_true rfl) hK), (Nat.le_of_ble_eq_true rfl)⟩ rfl rfl (Nat.le_of_ble_eq_true rfl) dX12_statementCode_365 (mX12_aimCode ew45 (pV.mk ?_))
        refine r_aload_n (pc := 368) dX12_statementCode_368 rfl 1 rfl ?_
        refine r_bipush (pc := 369) dX12_statementCode_369 kb_19 ?_
        refine r_iconst (pc := 371) dX12_statementCode_371 ki_0 ?_
        refine r_iconst (pc := 372) dX12_statementCode_372 ki_0 ?_
        refine r_iconst (pc := 373) dX12_statementCode_373 ki_0 ?_
        replace h := bn2_e h; obtain ⟨x46, w47, ew47, h⟩ := h
        refine r_cVi (pc := 374) wyX12_op oM0 rfl mlRX12_609 iyX12_op syX12_op ⟨Nat.succ_le_succ (Nat.le_trans (Nat.le_of_ble_eq_true rfl) hK), (Nat.le_of_ble_eq_true rfl)⟩ rfl rfl (Nat.le_of_ble_eq_true rfl) dX12_statementCode_374 (mX12_op ew47 (pI.mk ?_))
        refine r_istore_n (pc := 377) (loc' := [(2, .int x46), (0, .ref 0), (1, .int a1)]) dX12_statementCode_377 rfl (Nat.le_of_ble_eq_true rfl) rfl ?_
        refine r_goto (pc := 378) dX12_statementCode_378 rfl ?_
        exact rOR_v (pc := 482) rfl dX12_statementCode_482 h hN
      replace h := if_f hc42 h
      by_cases hc48 : x7 = 25
      · refine r_tabC (pc := 59) (off := 322) (tgt := 381) (L := [25]) dX12_statementCode_59 hc48 (by decide) rfl ?_
        replace h := if_t hc48 h
        refine r_aload_n (pc := 381) dX12_statementCode_381 rfl 1 rfl ?_
        refine r_aload_n (pc := 382) dX12_statementCode_382 rfl 1 rfl ?_
        refine r_get (pc := 383) (j := 17) (v := .ref 8) oM0 cf12 flRX12_102 rfl dX12_statementCode_383 rfl ?_
        refine r_iload_n (pc := 386) dX12_statementCode_386 rfl 2 rfl ?_
        replace h := if_n h; obtain ⟨hb49, h⟩ := h
        refine r_iald (pc := 387) aM8 (inb_in hb49) dX12_statementCode_387 ?_
        refine r_iconst (pc := 388) dX12_statementCode_388 ki_2 ?_
        replace h := bn2_e h; obtain ⟨x50, w51, ew51, h⟩ := h
        refine r_cVv (pc := 389) wyX12_mustBe oM0 rfl mlRX12_622 iyX12_mustBe syX12_mustBe ⟨Nat.succ_le_succ (Nat.le_trans (Nat.le_of_ble_eq_true rfl) hK), (Nat.le_of_ble_eq_true rfl)⟩ rfl rfl (Nat.le_of_ble_eq_true rfl) dX12_statementCode_389 (mX12_mustBe ew51 (pV.mk ?_))
        refine r_aload_n (pc := 392) dX12_statementCode_392 rfl 1 rfl ?_
        refine r_bipush (pc := 393) dX12_statementCode_393 kb_11 ?_
        refine r_iconst (pc := 395) dX12_statementCode_395 ki_0 ?_
        refine r_iconst (pc := 396) dX12_statementCode_396 ki_0 ?_
        refine r_iconst (pc := 397) dX12_statementCode_397 ki_0 ?_
        replace h := bn2_e h; obtain ⟨x52, w53, ew53, h⟩ := h
        refine r_cVi (pc := 398) wyX12_op oM0 rfl mlRX12_609 iyX12_op syX12_op ⟨Nat.succ_le_succ (Nat.le_trans (Nat.le_of_ble_eq_true rfl) hK), (Nat.le_of_ble_eq_true rfl)⟩ rfl rfl (Nat.le_of_ble_eq_true rfl) dX12_statementCode_398 (mX12_op ew53 (pI.mk ?_))
        refine r_istore_n (pc := 401) (loc' := [(3, .int x52), (2, .int x4), (0, .ref 0), (1, .int a1)]) dX12_statementCode_401 rfl (Nat.le_of_ble_eq_true rfl) rfl ?_
        refine r_aload_n (pc := 402) dX12_statementCode_402 rfl 2 rfl ?_
        refine r_aload_n (pc := 403) dX12_statementCode_403 rfl 2 rfl ?_
        refine r_get (pc := 404) (j := 18) (v := .ref 9) oM0 cf12 flRX12_105 rfl dX12_statementCode_404 rfl ?_
        refine r_iload_n (pc := 407) dX12_statementCode_407 rfl 3 rfl ?_
        replace h := if_n h; obtain ⟨hb54, h⟩ := h
        refine r_iald (pc := 408) aM9 (inb_in hb54) dX12_statementCode_408 ?_
        replace h := bn2_e h; obtain ⟨x55, w56, ew56, h⟩ := h
        refine r_cVv (pc := 409) wyX12_statementCode oM0 rfl mlRX12_697 iyX12_statementCode syX12_statementCode ⟨Nat.le_refl _, (Nat.le_of_ble_eq_true rfl)⟩ rfl rfl (Nat.le_of_ble_eq_true rfl) dX12_statementCode_409 ((hS.2.1 _ _ _ _ _ _) ew56 (pV.mk ?_))
        refine r_aload_n (pc := 412) dX12_statementCode_412 rfl 2 rfl ?_
        refine r_get (pc := 413) (j := 19) (v := .ref 10) oM0 cf12 flRX12_108 rfl dX12_statementCode_413 rfl ?_
        refine r_iload_n (pc := 416) dX12_statementCode_416 rfl 3 rfl ?_
        replace h := if_n h; obtain ⟨hb57, h⟩ := h
        refine r_iald (pc := 417) aM10 (inb_in hb57) dX12_statementCode_417 ?_
        refine r_if_ge (pc := 418) dX12_statementCode_418 rfl (fun hc58 => ?_) (fun hc58 => ?_)
        · replace h := if_t hc58 h
          refine r_aload_n (pc := 429) dX12_statementCode_429 rfl 2 rfl ?_
          refine r_bipush (pc := 430) dX12_statementCode_430 kb_10 ?_
          refine r_iconst (pc := 432) dX12_statementCode_432 ki_0 ?_
          refine r_iconst (pc := 433) dX12_statementCode_433 ki_0 ?_
          refine r_iconst (pc := 434) dX12_statementCode_434 ki_0 ?_
          replace h := bn2_e h; obtain ⟨x59, w60, ew60, h⟩ := h
          refine r_cVi (pc := 435) wyX12_op oM0 rfl mlRX12_609 iyX12_op syX12_op ⟨Nat.succ_le_succ (Nat.le_trans (Nat.le_of_ble_eq_true rfl) hK), (Nat.le_of_ble_eq_true rfl)⟩ rfl rfl (Nat.le_of_ble_eq_true rfl) dX12_statementCode_435 (mX12_op ew60 (pI.mk ?_))
          refine r_istore (pc := 438) (loc' := [(4, .int x59), (3, .int x52), (2, .int x4), (0, .ref 0), (1, .int a1)]) dX12_statementCode_438 (Nat.le_of_ble_eq_true rfl) rfl ?_
          refine r_aload_n (pc := 440) dX12_statementCode_440 rfl 3 rfl ?_
          refine r_iload_n (pc := 441) dX12_statementCode_441 rfl 1 rfl ?_
          replace h := bn_e h; obtain ⟨w61, ew61, h⟩ := h
          refine r_cVv (pc := 442) wyX12_patch oM0 rfl mlRX12_625 iyX12_patch syX12_patch ⟨Nat.succ_le_succ (Nat.le_trans (Nat.le_of_ble_eq_true rfl) hK), (Nat.le_of_ble_eq_true rfl)⟩ rfl rfl (Nat.le_of_ble_eq_true rfl) dX12_statementCode_442 (mX12_patch ew61 (pV.mk ?_))
          refine r_aload_n (pc := 445) dX12_statementCode_445 rfl 3 rfl ?_
          refine r_aload_n (pc := 446) dX12_statementCode_446 rfl 3 rfl ?_
          refine r_get (pc := 447) (j := 19) (v := .ref 10) oM0 cf12 flRX12_108 rfl dX12_statementCode_447 rfl ?_
          refine r_iload_n (pc := 450) dX12_statementCode_450 rfl 4 rfl ?_
          replace h := if_n h; obtain ⟨hb62, h⟩ := h
          refine r_iald (pc := 451) aM10 (inb_in hb62) dX12_statementCode_451 ?_
          replace h := bn2_e h; obtain ⟨x63, w64, ew64, h⟩ := h
          refine r_cVv (pc := 452) wyX12_statementCode oM0 rfl mlRX12_697 iyX12_statementCode syX12_statementCode ⟨Nat.le_refl _, (Nat.le_of_ble_eq_true rfl)⟩ rfl rfl (Nat.le_of_ble_eq_true rfl) dX12_statementCode_452 ((hS.2.1 _ _ _ _ _ _) ew64 (pV.mk ?_))
          refine r_aload_n (pc := 455) dX12_statementCode_455 rfl 3 rfl ?_
          refine r_iload (pc := 456) dX12_statementCode_456 0 rfl ?_
          replace h := bn_e h; obtain ⟨w65, ew65, h⟩ := h
          refine r_cVv (pc := 458) wyX12_patch oM0 rfl mlRX12_625 iyX12_patch syX12_patch ⟨Nat.succ_le_succ (Nat.le_trans (Nat.le_of_ble_eq_true rfl) hK), (Nat.le_of_ble_eq_true rfl)⟩ rfl rfl (Nat.le_of_ble_eq_true rfl) dX12_statementCode_458 (mX12_patch ew65 (pV.mk ?_))
          refine r_goto (pc := 461) dX12_statementCode_461 rfl ?_
          exact rOR_v (pc := 482) rfl dX12_statementCode_482 h hN
        replace h := if_f hc58 h
        refine r_aload_n (pc := 421) dX12_statementCode_421 rfl 2 rfl ?_
        refine r_iload_n (pc := 422) dX12_statementCode_422 rfl 0 rfl ?_
        replace h := bn_e h; obtain ⟨w66, ew66, h⟩ := h
        refine r_cVv (pc := 423) wyX12_patch oM0 rfl mlRX12_625 iyX12_patch syX12_patch ⟨Nat.succ_le_succ (Nat.le_trans (Nat.le_of_ble_eq_true rfl) hK), (Nat.le_of_ble_eq_true rfl)⟩ rfl rfl (Nat.le_of_ble_eq_true rfl) dX12_statementCode_423 (mX12_patch ew66 (pV.mk ?_))
        refine r_goto (pc := 426) dX12_statementCode_426 rfl ?_
        exact rOR_v (pc := 482) rfl dX12_statementCode_482 h hN
      replace h := if_f hc48 h
      by_cases hc67 : x7 = 26
      · refine r_tabC (pc := 59) (off := 405) (tgt := 464) (L := [26]) dX12_statementCode_59 hc67 (by decide) rfl ?_
        replace h := if_t hc67 h
        refine r_aload_n (pc := 464) dX12_statementCode_464 rfl 1 rfl ?_
        refine r_iload_n (pc := 465) dX12_statementCode_465 rfl 2 rfl ?_
        replace h := bn2_e h; obtain ⟨x68, w69, ew69, h⟩ := h
        refine r_cVv (pc := 466) wyX12_forCode oM0 rfl mlRX12_700 iyX12_forCode syX12_forCode ⟨Nat.le_refl _, (Nat.le_of_ble_eq_true rfl)⟩ rfl rfl (Nat.le_of_ble_eq_true rfl) dX12_statementCode_466 ((hS.2.2.1 _ _ _ _ _ _) ew69 (pV.mk ?_))
        refine r_goto (pc := 469) dX12_statementCode_469 rfl ?_
        exact rOR_v (pc := 482) rfl dX12_statementCode_482 h hN
      replace h := if_f hc67 h
      refine r_tabD (pc := 59) (tgt := 472) (K := [[21], [22], [23], [24], [25], [26]]) dX12_statementCode_59 ⟨hc8, hc11, hc36, hc42, hc48, hc67, trivial⟩ (by decide) (by decide) rfl ?_
      refine r_aload_n (pc := 472) dX12_statementCode_472 rfl 1 rfl ?_
      refine r_aload_n (pc := 473) dX12_statementCode_473 rfl 1 rfl ?_
      refine r_get (pc := 474) (j := 17) (v := .ref 8) oM0 cf12 flRX12_102 rfl dX12_statementCode_474 rfl ?_
      refine r_iload_n (pc := 477) dX12_statementCode_477 rfl 2 rfl ?_
      replace h := if_n h; obtain ⟨hb70, h⟩ := h
      refine r_iald (pc := 478) aM8 (inb_in hb70) dX12_statementCode_478 ?_
      replace h := bn2_e h; obtain ⟨x71, w72, ew72, h⟩ := h
      refine r_cVv (pc := 479) wyX12_blockCode oM0 rfl mlRX12_703 iyX12_blockCode syX12_blockCode ⟨Nat.le_refl _, (Nat.le_of_ble_eq_true rfl)⟩ rfl rfl (Nat.le_of_ble_eq_true rfl) dX12_statementCode_479 ((hS.2.2.2 _ _ _ _ _ _) ew72 (pV.mk ?_))
      exact rOR_v (pc := 482) rfl dX12_statementCode_482 h hN
    replace h := if_t hc3 h
    exact rOR_v (pc := 42) rfl dX12_statementCode_42 h hN
  replace h := if_f hc1 h
  refine r_aload_n (pc := 11) dX12_statementCode_11 rfl 0 rfl ?_
  refine r_get (pc := 12) (j := 78) (v := .ref 55) oM0 cf12 flRX12_245 rfl dX12_statementCode_12 rfl ?_
  refine r_iload_n (pc := 15) dX12_statementCode_15 rfl 2 rfl ?_
  refine r_aload_n (pc := 16) dX12_statementCode_16 rfl 0 rfl ?_
  refine r_get (pc := 17) (j := 64) (v := .int (gi w 0 64)) oM0 cf12 flRX12_596 rfl dX12_statementCode_17 rfl ?_
  replace h := if_n h; obtain ⟨hb73, h⟩ := h
  replace h := lt_e h; obtain ⟨w74, ew74, h⟩ := h
  refine r_iast (pc := 20) aM55 (inb_in hb73) dX12_statementCode_20 ?_
  refine r_w ew74 ?_
  refine r_aload_n (pc := 21) dX12_statementCode_21 rfl 0 rfl ?_
  refine r_get (pc := 22) (j := 60) (v := .ref 43) oM0 cf12 flRX12_208 rfl dX12_statementCode_22 rfl ?_
  refine r_iload_n (pc := 25) dX12_statementCode_25 rfl 2 rfl ?_
  replace h := if_n h; obtain ⟨hb75, h⟩ := h
  refine r_iald (pc := 26) aM43 (inb_in hb75) dX12_statementCode_26 ?_
  replace h := lt_e h; obtain ⟨x76, ex76, h⟩ := h
  refine r_topi ex76 ?_
  refine r_istore_n (pc := 27) (loc' := [(2, .int x76), (0, .ref 0), (1, .int a1)]) dX12_statementCode_27 rfl (Nat.le_of_ble_eq_true rfl) rfl ?_
  refine r_goto (pc := 28) dX12_statementCode_28 rfl ?_
  refine r_drop (loc' := [(0, .ref 0), (1, .int a1), (2, .int x76)]) [1, 2, 0] rfl ?_
  exact hk_7 a1 x76 w74 h
def oX12_statementCode_7 (rc : TX12_row) : Nat → Int32 → Int32 → Wd → Option (Int32 × Wd)
  | 0 => fun _ _ _ => none
  | n + 1 => fX12_statementCode_7 rc (oX12_statementCode_7 rc n)
theorem qX12_statementCode_7 {q : Gq} {l : Launch} {N : Option Value → Wd → Prop} {X : String → Wd → Prop} {rc : TX12_row} {dd : Nat} (hS : HSX12_row q l rc dd) (hK : 1708 ≤ dd) {R : Int32 × Wd} (hN : N none R.2) : ∀ (n : Nat) (a1 : Int32) (a2 : Int32) (w : Wd), oX12_statementCode_7 rc n a1 a2 w = some R → RT (GM q) l (dd + 1) yX12_statementCode cX12_statementCode 7 (none) N X 7 [] [(0, .ref 0), (1, .int a1), (2, .int a2)] w := by
  intro n
  induction n with
  | zero =>
    intro a1 a2 w h
    exact absurd h (fun q => nomatch q)
  | succ n ih =>
    intro a1 a2 w h
    exact pX12_statementCode_7 hS hK hN ih h
def fX12_statementCode (rc : TX12_row) (a1 : Int32) (w : Wd) : Option (Int32 × Wd) :=
  if inb a1 24000 = true then lt ((gi w 44 (Int32.toNatClampNeg a1))) fun x2 => oX12_statementCode_7 rc FU a1 x2 w else none
theorem pX12_statementCode {q : Gq} {l : Launch} {N : Option Value → Wd → Prop} {X : String → Wd → Prop} {rc : TX12_row} {dd : Nat} (hS : HSX12_row q l rc dd) (hK : 1708 ≤ dd) {w : Wd} {R : Int32 × Wd} (hN : N none R.2) {a1 : Int32} (h : fX12_statementCode rc a1 w = some R) : RT (GM q) l (dd + 1) yX12_statementCode cX12_statementCode 7 (none) N X 0 [] [(0, .ref 0), (1, .int a1)] w := by
  unfold fX12_statementCode at h
  refine r_aload_n (pc := 0) dX12_statementCode_0 rfl 0 rfl ?_
  refine r_get (pc := 1) (j := 61) (v := .ref 44) oM0 cf12 flRX12_211 rfl dX12_statementCode_1 rfl ?_
  refine r_iload_n (pc := 4) dX12_statementCode_4 rfl 1 rfl ?_
  replace h := if_n h; obtain ⟨hb1, h⟩ := h
  refine r_iald (pc := 5) aM44 (inb_in hb1) dX12_statementCode_5 ?_
  replace h := lt_e h; obtain ⟨x2, ex2, h⟩ := h
  refine r_topi ex2 ?_
  refine r_istore_n (pc := 6) (loc' := [(2, .int x2), (0, .ref 0), (1, .int a1)]) dX12_statementCode_6 rfl (Nat.le_of_ble_eq_true rfl) rfl ?_
  refine r_drop (loc' := [(0, .ref 0), (1, .int a1), (2, .int x2)]) [1, 2, 0] rfl ?_
  exact qX12_statementCode_7 hS hK hN FU a1 x2 w h
/-! AlgolMillModel.row (I)V: O, 1908 -/
theorem dX12_row_0 : decode cX12_row 0 = .ok (.iload_n 1, 1) := by decide +kernel
theorem dX12_row_1 : decode cX12_row 1 = .ok (.istore_n 2, 1) := by decide +kernel
theorem dX12_row_2 : decode cX12_row 2 = .ok (.iload_n 2, 1) := by decide +kernel
theorem dX12_row_3 : decode cX12_row 3 = .ok (.ifCond .lt 18, 3) := by decide +kernel
theorem dX12_row_6 : decode cX12_row 6 = .ok (.aload_n 0, 1) := by decide +kernel
theorem dX12_row_7 : decode cX12_row 7 = .ok (.iload_n 2, 1) := by decide +kernel
theorem dX12_row_8 : decode cX12_row 8 = .ok (.invokevirtual 697, 3) := by decide +kernel
theorem dX12_row_11 : decode cX12_row 11 = .ok (.aload_n 0, 1) := by decide +kernel
theorem dX12_row_12 : decode cX12_row 12 = .ok (.getfield 111, 3) := by decide +kernel
theorem dX12_row_15 : decode cX12_row 15 = .ok (.iload_n 2, 1) := by decide +kernel
theorem dX12_row_16 : decode cX12_row 16 = .ok (.iaload, 1) := by decide +kernel
theorem dX12_row_17 : decode cX12_row 17 = .ok (.istore_n 2, 1) := by decide +kernel
theorem dX12_row_18 : decode cX12_row 18 = .ok (.goto (-16), 3) := by decide +kernel
theorem dX12_row_21 : decode cX12_row 21 = .ok (.return_, 1) := by decide +kernel
def fX12_row_2 (rc : TX12_row) (k_2 : Int32 → Wd → Option (Int32 × Wd)) (a2 : Int32) (w : Wd) : Option (Int32 × Wd) :=
  if a2 < 0 then (some (0, w)) else (bn2 (rc 1 a2 0 0 w) fun _ w3 => if inb a2 24000 = true then lt ((gi w3 11 (Int32.toNatClampNeg a2))) fun x5 => k_2 x5 w3 else none)
theorem pX12_row_2 {q : Gq} {l : Launch} {N : Option Value → Wd → Prop} {X : String → Wd → Prop} {rc : TX12_row} {dd : Nat} (hS : HSX12_row q l rc dd) (hK : 1708 ≤ dd) {w : Wd} {R : Int32 × Wd} (hN : N none R.2) {k_2 : Int32 → Wd → Option (Int32 × Wd)} (hk_2 : ∀ (a2 : Int32) (w : Wd), k_2 a2 w = some R → RT (GM q) l (dd + 1) yX12_row cX12_row 3 (none) N X 2 [] [(0, .ref 0), (2, .int a2)] w) {a2 : Int32} (h : fX12_row_2 rc k_2 a2 w = some R) : RT (GM q) l (dd + 1) yX12_row cX12_row 3 (none) N X 2 [] [(0, .ref 0), (2, .int a2)] w := by
  unfold fX12_row_2 at h
  refine r_iload_n (pc := 2) dX12_row_2 rfl 1 rfl ?_
  refine r_if_lt (pc := 3) dX12_row_3 rfl (fun hc1 => ?_) (fun hc1 => ?_)
  · replace h := if_t hc1 h
    exact rOR_v (pc := 21) rfl dX12_row_21 h hN
  replace h := if_f hc1 h
  refine r_aload_n (pc := 6) dX12_row_6 rfl 0 rfl ?_
  refine r_iload_n (pc := 7) dX12_row_7 rfl 1 rfl ?_
  replace h := bn2_e h; obtain ⟨x2, w3, ew3, h⟩ := h
  refine r_cVv (pc := 8) wyX12_statementCode oM0 rfl mlRX12_697 iyX12_statementCode syX12_statementCode ⟨Nat.le_refl _, (Nat.le_of_ble_eq_true rfl)⟩ rfl rfl (Nat.le_of_ble_eq_true rfl) dX12_row_8 ((hS.2.1 _ _ _ _ _ _) ew3 (pV.mk ?_))
  refine r_aload_n (pc := 11) dX12_row_11 rfl 0 rfl ?_
  refine r_get (pc := 12) (j := 20) (v := .ref 11) oM0 cf12 flRX12_111 rfl dX12_row_12 rfl ?_
  refine r_iload_n (pc := 15) dX12_row_15 rfl 1 rfl ?_
  replace h := if_n h; obtain ⟨hb4, h⟩ := h
  refine r_iald (pc := 16) aM11 (inb_in hb4) dX12_row_16 ?_
  replace h := lt_e h; obtain ⟨x5, ex5, h⟩ := h
  refine r_topi ex5 ?_
  refine r_istore_n (pc := 17) (loc' := [(2, .int x5), (0, .ref 0)]) dX12_row_17 rfl (Nat.le_of_ble_eq_true rfl) rfl ?_
  refine r_goto (pc := 18) dX12_row_18 rfl ?_
  refine r_drop (loc' := [(0, .ref 0), (2, .int x5)]) [1, 0] rfl ?_
  exact hk_2 x5 w3 h
def oX12_row_2 (rc : TX12_row) : Nat → Int32 → Wd → Option (Int32 × Wd)
  | 0 => fun _ _ => none
  | n + 1 => fX12_row_2 rc (oX12_row_2 rc n)
theorem qX12_row_2 {q : Gq} {l : Launch} {N : Option Value → Wd → Prop} {X : String → Wd → Prop} {rc : TX12_row} {dd : Nat} (hS : HSX12_row q l rc dd) (hK : 1708 ≤ dd) {R : Int32 × Wd} (hN : N none R.2) : ∀ (n : Nat) (a2 : Int32) (w : Wd), oX12_row_2 rc n a2 w = some R → RT (GM q) l (dd + 1) yX12_row cX12_row 3 (none) N X 2 [] [(0, .ref 0), (2, .int a2)] w := by
  intro n
  induction n with
  | zero =>
    intro a2 w h
    exact absurd h (fun q => nomatch q)
  | succ n ih =>
    intro a2 w h
    exact pX12_row_2 hS hK hN ih h
def fX12_row (rc : TX12_row) (a1 : Int32) (w : Wd) : Option (Int32 × Wd) :=
  oX12_row_2 rc FU a1 w
theorem pX12_row {q : Gq} {l : Launch} {N : Option Value → Wd → Prop} {X : String → Wd → Prop} {rc : TX12_row} {dd : Nat} (hS : HSX12_row q l rc dd) (hK : 1708 ≤ dd) {w : Wd} {R : Int32 × Wd} (hN : N none R.2) {a1 : Int32} (h : fX12_row rc a1 w = some R) : RT (GM q) l (dd + 1) yX12_row cX12_row 3 (none) N X 0 [] [(0, .ref 0), (1, .int a1)] w := by
  unfold fX12_row at h
  refine r_iload_n (pc := 0) dX12_row_0 rfl 1 rfl ?_
  refine r_istore_n (pc := 1) (loc' := [(2, .int a1), (0, .ref 0), (1, .int a1)]) dX12_row_1 rfl (Nat.le_of_ble_eq_true rfl) rfl ?_
  refine r_drop (loc' := [(0, .ref 0), (2, .int a1)]) [1, 0] rfl ?_
  exact qX12_row_2 hS hK hN FU a1 w h
def BX12_row (rc : TX12_row) : TX12_row := fun i a b c w => match i with
  | 0 => fX12_row rc a w
  | 1 => fX12_statementCode rc a w
  | 2 => fX12_forCode rc a w
  | 3 => fX12_blockCode rc a w
  | _ => none
def RX12_row : Nat → TX12_row
  | 0 => fun _ _ _ _ _ => none
  | n + 1 => BX12_row (RX12_row n)
theorem hzX12_row {q : Gq} {l : Launch} (dd : Nat) : HSX12_row q l (RX12_row 0) dd :=
  ⟨fun _ _ _ _ _ _ h => absurd h (fun q => nomatch q),
    fun _ _ _ _ _ _ h => absurd h (fun q => nomatch q),
    fun _ _ _ _ _ _ h => absurd h (fun q => nomatch q),
    fun _ _ _ _ _ _ h => absurd h (fun q => nomatch q)⟩
theorem hnX12_row {q : Gq} {l : Launch} {rc : TX12_row} {dd : Nat} (ih : HSX12_row q l rc dd) (hK : 1708 ≤ dd) : HSX12_row q l (BX12_row rc) (dd + 1) :=
  ⟨fun _ _ _ _ _ _ h hN => Ct.of (by decide) (Nat.le_of_ble_eq_true rfl) (pX12_row ih hK hN h),
    fun _ _ _ _ _ _ h hN => Ct.of (by decide) (Nat.le_of_ble_eq_true rfl) (pX12_statementCode ih hK hN h),
    fun _ _ _ _ _ _ h hN => Ct.of (by decide) (Nat.le_of_ble_eq_true rfl) (pX12_forCode ih hK hN h),
    fun _ _ _ _ _ _ h hN => Ct.of (by decide) (Nat.le_of_ble_eq_true rfl) (pX12_blockCode ih hK hN h)⟩
theorem hsX12_row {q : Gq} {l : Launch} (b9 : Nat) (hb : 1708 ≤ b9) : ∀ n : Nat, HSX12_row q l (RX12_row n) (b9 + n) := by
  intro n
  induction n with
  | zero => exact hzX12_row (b9 + 0)
  | succ n ih => exact hnX12_row (rc := RX12_row n) (dd := b9 + n) ih (Nat.le_trans hb (Nat.le_add_right _ _))
theorem mX12_row {q : Gq} {l : Launch} {N : Option Value → Wd → Prop} {X : String → Wd → Prop} {a1 : Int32} {w : Wd} {x : Int32} {u : Wd} (h : RX12_row 200 0 a1 0 0 w = some (x, u)) (hN : N none u) : Ct (GM q) l 1908 yX12_row cX12_row 3 (none) [.ref 0, .int a1] w N X := (hsX12_row 1708 (Nat.le_refl _) 200).1 _ _ _ _ _ _ h hN
theorem mX12_statementCode {q : Gq} {l : Launch} {N : Option Value → Wd → Prop} {X : String → Wd → Prop} {a1 : Int32} {w : Wd} {x : Int32} {u : Wd} (h : RX12_row 200 1 a1 0 0 w = some (x, u)) (hN : N none u) : Ct (GM q) l 1908 yX12_statementCode cX12_statementCode 7 (none) [.ref 0, .int a1] w N X := (hsX12_row 1708 (Nat.le_refl _) 200).2.1 _ _ _ _ _ _ h hN
theorem mX12_forCode {q : Gq} {l : Launch} {N : Option Value → Wd → Prop} {X : String → Wd → Prop} {a1 : Int32} {w : Wd} {x : Int32} {u : Wd} (h : RX12_row 200 2 a1 0 0 w = some (x, u)) (hN : N none u) : Ct (GM q) l 1908 yX12_forCode cX12_forCode 15 (none) [.ref 0, .int a1] w N X := (hsX12_row 1708 (Nat.le_refl _) 200).2.2.1 _ _ _ _ _ _ h hN
theorem mX12_blockCode {q : Gq} {l : Launch} {N : Option Value → Wd → Prop} {X : String → Wd → Prop} {a1 : Int32} {w : Wd} {x : Int32} {u : Wd} (h : RX12_row 200 3 a1 0 0 w = some (x, u)) (hN : N none u) : Ct (GM q) l 1908 yX12_blockCode cX12_blockCode 6 (none) [.ref 0, .int a1] w N X := (hsX12_row 1708 (Nat.le_refl _) 200).2.2.2 _ _ _ _ _ _ h hN
