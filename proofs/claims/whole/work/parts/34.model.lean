/-! the reference -/
/-! AlgolMillModel.op (IIII)I: O, 0 -/
theorem dX12_op_0 : decode cX12_op 0 = .ok (.aload_n 0, 1) := by decide +kernel
theorem dX12_op_1 : decode cX12_op 1 = .ok (.getfield 218, 3) := by decide +kernel
theorem dX12_op_4 : decode cX12_op 4 = .ok (.iconst 4, 1) := by decide +kernel
theorem dX12_op_5 : decode cX12_op 5 = .ok (.aload_n 0, 1) := by decide +kernel
theorem dX12_op_6 : decode cX12_op 6 = .ok (.getfield 596, 3) := by decide +kernel
theorem dX12_op_9 : decode cX12_op 9 = .ok (.imul, 1) := by decide +kernel
theorem dX12_op_10 : decode cX12_op 10 = .ok (.iload_n 1, 1) := by decide +kernel
theorem dX12_op_11 : decode cX12_op 11 = .ok (.iastore, 1) := by decide +kernel
theorem dX12_op_12 : decode cX12_op 12 = .ok (.aload_n 0, 1) := by decide +kernel
theorem dX12_op_13 : decode cX12_op 13 = .ok (.getfield 218, 3) := by decide +kernel
theorem dX12_op_16 : decode cX12_op 16 = .ok (.iconst 4, 1) := by decide +kernel
theorem dX12_op_17 : decode cX12_op 17 = .ok (.aload_n 0, 1) := by decide +kernel
theorem dX12_op_18 : decode cX12_op 18 = .ok (.getfield 596, 3) := by decide +kernel
theorem dX12_op_21 : decode cX12_op 21 = .ok (.imul, 1) := by decide +kernel
theorem dX12_op_22 : decode cX12_op 22 = .ok (.iconst 1, 1) := by decide +kernel
theorem dX12_op_23 : decode cX12_op 23 = .ok (.iadd, 1) := by decide +kernel
theorem dX12_op_24 : decode cX12_op 24 = .ok (.iload_n 2, 1) := by decide +kernel
theorem dX12_op_25 : decode cX12_op 25 = .ok (.iastore, 1) := by decide +kernel
theorem dX12_op_26 : decode cX12_op 26 = .ok (.aload_n 0, 1) := by decide +kernel
theorem dX12_op_27 : decode cX12_op 27 = .ok (.getfield 218, 3) := by decide +kernel
theorem dX12_op_30 : decode cX12_op 30 = .ok (.iconst 4, 1) := by decide +kernel
theorem dX12_op_31 : decode cX12_op 31 = .ok (.aload_n 0, 1) := by decide +kernel
theorem dX12_op_32 : decode cX12_op 32 = .ok (.getfield 596, 3) := by decide +kernel
theorem dX12_op_35 : decode cX12_op 35 = .ok (.imul, 1) := by decide +kernel
theorem dX12_op_36 : decode cX12_op 36 = .ok (.iconst 2, 1) := by decide +kernel
theorem dX12_op_37 : decode cX12_op 37 = .ok (.iadd, 1) := by decide +kernel
theorem dX12_op_38 : decode cX12_op 38 = .ok (.iload_n 3, 1) := by decide +kernel
theorem dX12_op_39 : decode cX12_op 39 = .ok (.iastore, 1) := by decide +kernel
theorem dX12_op_40 : decode cX12_op 40 = .ok (.aload_n 0, 1) := by decide +kernel
theorem dX12_op_41 : decode cX12_op 41 = .ok (.getfield 218, 3) := by decide +kernel
theorem dX12_op_44 : decode cX12_op 44 = .ok (.iconst 4, 1) := by decide +kernel
theorem dX12_op_45 : decode cX12_op 45 = .ok (.aload_n 0, 1) := by decide +kernel
theorem dX12_op_46 : decode cX12_op 46 = .ok (.getfield 596, 3) := by decide +kernel
theorem dX12_op_49 : decode cX12_op 49 = .ok (.imul, 1) := by decide +kernel
theorem dX12_op_50 : decode cX12_op 50 = .ok (.iconst 3, 1) := by decide +kernel
theorem dX12_op_51 : decode cX12_op 51 = .ok (.iadd, 1) := by decide +kernel
theorem dX12_op_52 : decode cX12_op 52 = .ok (.iload 4, 2) := by decide +kernel
theorem dX12_op_54 : decode cX12_op 54 = .ok (.iastore, 1) := by decide +kernel
theorem dX12_op_55 : decode cX12_op 55 = .ok (.aload_n 0, 1) := by decide +kernel
theorem dX12_op_56 : decode cX12_op 56 = .ok (.dup, 1) := by decide +kernel
theorem dX12_op_57 : decode cX12_op 57 = .ok (.getfield 596, 3) := by decide +kernel
theorem dX12_op_60 : decode cX12_op 60 = .ok (.iconst 1, 1) := by decide +kernel
theorem dX12_op_61 : decode cX12_op 61 = .ok (.iadd, 1) := by decide +kernel
theorem dX12_op_62 : decode cX12_op 62 = .ok (.putfield 596, 3) := by decide +kernel
theorem dX12_op_65 : decode cX12_op 65 = .ok (.aload_n 0, 1) := by decide +kernel
theorem dX12_op_66 : decode cX12_op 66 = .ok (.getfield 596, 3) := by decide +kernel
theorem dX12_op_69 : decode cX12_op 69 = .ok (.iconst 1, 1) := by decide +kernel
theorem dX12_op_70 : decode cX12_op 70 = .ok (.isub, 1) := by decide +kernel
theorem dX12_op_71 : decode cX12_op 71 = .ok (.ireturn, 1) := by decide +kernel
def fX12_op (a1 : Int32) (a2 : Int32) (a3 : Int32) (a4 : Int32) (w : Wd) : Option (Int32 × Wd) :=
  if inb (4 * (gi w 0 64)) 240000 = true then lt (si w 46 (Int32.toNatClampNeg (4 * (gi w 0 64))) a1) fun w2 => if inb ((4 * (gi w2 0 64)) + 1) 240000 = true then lt (si w2 46 (Int32.toNatClampNeg ((4 * (gi w2 0 64)) + 1)) a2) fun w4 => if inb ((4 * (gi w4 0 64)) + 2) 240000 = true then lt (si w4 46 (Int32.toNatClampNeg ((4 * (gi w4 0 64)) + 2)) a3) fun w6 => if inb ((4 * (gi w6 0 64)) + 3) 240000 = true then lt (si w6 46 (Int32.toNatClampNeg ((4 * (gi w6 0 64)) + 3)) a4) fun w8 => lt (si w8 0 64 ((gi w8 0 64) + 1)) fun w9 => some (((gi w9 0 64) - 1), w9) else none else none else none else none
theorem pX12_op {q : Gq} {l : Launch} {N : Option Value → Wd → Prop} {X : String → Wd → Prop} {w : Wd} {R : Int32 × Wd} (hN : N (some (.int R.1)) R.2) {a1 : Int32} {a2 : Int32} {a3 : Int32} {a4 : Int32} (h : fX12_op a1 a2 a3 a4 w = some R) : RT (GM q) l 0 yX12_op cX12_op 5 ((some .int)) N X 0 [] [(0, .ref 0), (1, .int a1), (2, .int a2), (3, .int a3), (4, .int a4)] w := by
  unfold fX12_op at h
  refine r_aload_n (pc := 0) dX12_op_0 rfl 0 rfl ?_
  refine r_get (pc := 1) (j := 63) (v := .ref 46) oM0 cf12 flRX12_218 rfl dX12_op_1 rfl ?_
  refine r_iconst (pc := 4) dX12_op_4 ki_4 ?_
  refine r_aload_n (pc := 5) dX12_op_5 rfl 0 rfl ?_
  refine r_get (pc := 6) (j := 64) (v := .int (gi w 0 64)) oM0 cf12 flRX12_596 rfl dX12_op_6 rfl ?_
  refine r_imul (pc := 9) dX12_op_9 ?_
  refine r_iload_n (pc := 10) dX12_op_10 rfl 1 rfl ?_
  replace h := if_n h; obtain ⟨hb1, h⟩ := h
  replace h := lt_e h; obtain ⟨w2, ew2, h⟩ := h
  refine r_iast (pc := 11) aM46 (inb_in hb1) dX12_op_11 ?_
  refine r_w ew2 ?_
  refine r_aload_n (pc := 12) dX12_op_12 rfl 0 rfl ?_
  refine r_get (pc := 13) (j := 63) (v := .ref 46) oM0 cf12 flRX12_218 rfl dX12_op_13 rfl ?_
  refine r_iconst (pc := 16) dX12_op_16 ki_4 ?_
  refine r_aload_n (pc := 17) dX12_op_17 rfl 0 rfl ?_
  refine r_get (pc := 18) (j := 64) (v := .int (gi w2 0 64)) oM0 cf12 flRX12_596 rfl dX12_op_18 rfl ?_
  refine r_imul (pc := 21) dX12_op_21 ?_
  refine r_iconst (pc := 22) dX12_op_22 ki_1 ?_
  refine r_iadd (pc := 23) dX12_op_23 ?_
  refine r_iload_n (pc := 24) dX12_op_24 rfl 2 rfl ?_
  replace h := if_n h; obtain ⟨hb3, h⟩ := h
  replace h := lt_e h; obtain ⟨w4, ew4, h⟩ := h
  refine r_iast (pc := 25) aM46 (inb_in hb3) dX12_op_25 ?_
  refine r_w ew4 ?_
  refine r_aload_n (pc := 26) dX12_op_26 rfl 0 rfl ?_
  refine r_get (pc := 27) (j := 63) (v := .ref 46) oM0 cf12 flRX12_218 rfl dX12_op_27 rfl ?_
  refine r_iconst (pc := 30) dX12_op_30 ki_4 ?_
  refine r_aload_n (pc := 31) dX12_op_31 rfl 0 rfl ?_
  refine r_get (pc := 32) (j := 64) (v := .int (gi w4 0 64)) oM0 cf12 flRX12_596 rfl dX12_op_32 rfl ?_
  refine r_imul (pc := 35) dX12_op_35 ?_
  refine r_iconst (pc := 36) dX12_op_36 ki_2 ?_
  refine r_iadd (pc := 37) dX12_op_37 ?_
  refine r_iload_n (pc := 38) dX12_op_38 rfl 3 rfl ?_
  replace h := if_n h; obtain ⟨hb5, h⟩ := h
  replace h := lt_e h; obtain ⟨w6, ew6, h⟩ := h
  refine r_iast (pc := 39) aM46 (inb_in hb5) dX12_op_39 ?_
  refine r_w ew6 ?_
  refine r_aload_n (pc := 40) dX12_op_40 rfl 0 rfl ?_
  refine r_get (pc := 41) (j := 63) (v := .ref 46) oM0 cf12 flRX12_218 rfl dX12_op_41 rfl ?_
  refine r_iconst (pc := 44) dX12_op_44 ki_4 ?_
  refine r_aload_n (pc := 45) dX12_op_45 rfl 0 rfl ?_
  refine r_get (pc := 46) (j := 64) (v := .int (gi w6 0 64)) oM0 cf12 flRX12_596 rfl dX12_op_46 rfl ?_
  refine r_imul (pc := 49) dX12_op_49 ?_
  refine r_iconst (pc := 50) dX12_op_50 ki_3 ?_
  refine r_iadd (pc := 51) dX12_op_51 ?_
  refine r_iload (pc := 52) dX12_op_52 4 rfl ?_
  replace h := if_n h; obtain ⟨hb7, h⟩ := h
  replace h := lt_e h; obtain ⟨w8, ew8, h⟩ := h
  refine r_iast (pc := 54) aM46 (inb_in hb7) dX12_op_54 ?_
  refine r_w ew8 ?_
  refine r_aload_n (pc := 55) dX12_op_55 rfl 0 rfl ?_
  refine r_dup (pc := 56) dX12_op_56 rfl ?_
  refine r_get (pc := 57) (j := 64) (v := .int (gi w8 0 64)) oM0 cf12 flRX12_596 rfl dX12_op_57 rfl ?_
  refine r_iconst (pc := 60) dX12_op_60 ki_1 ?_
  refine r_iadd (pc := 61) dX12_op_61 ?_
  replace h := lt_e h; obtain ⟨w9, ew9, h⟩ := h
  refine r_putI (pc := 62) (j := 64) oM0 cf12 flRX12_596 rfl rfl rfl rfl dX12_op_62 ?_
  refine r_w ew9 ?_
  refine r_aload_n (pc := 65) dX12_op_65 rfl 0 rfl ?_
  refine r_get (pc := 66) (j := 64) (v := .int (gi w9 0 64)) oM0 cf12 flRX12_596 rfl dX12_op_66 rfl ?_
  refine r_iconst (pc := 69) dX12_op_69 ki_1 ?_
  refine r_isub (pc := 70) dX12_op_70 ?_
  exact rO_i (pc := 71) rfl dX12_op_71 h hN
theorem mX12_op {q : Gq} {l : Launch} {N : Option Value → Wd → Prop} {X : String → Wd → Prop} {a1 : Int32} {a2 : Int32} {a3 : Int32} {a4 : Int32} {w : Wd} {x : Int32} {u : Wd} (h : fX12_op a1 a2 a3 a4 w = some (x, u)) (hN : N (some (.int x)) u) : Ct (GM q) l 0 yX12_op cX12_op 5 ((some .int)) [.ref 0, .int a1, .int a2, .int a3, .int a4] w N X := Ct.of (by decide) (Nat.le_of_ble_eq_true rfl) (pX12_op hN h)
/-! AlgolMillModel.patch (I)V: O, 0 -/
theorem dX12_patch_0 : decode cX12_patch 0 = .ok (.aload_n 0, 1) := by decide +kernel
theorem dX12_patch_1 : decode cX12_patch 1 = .ok (.getfield 218, 3) := by decide +kernel
theorem dX12_patch_4 : decode cX12_patch 4 = .ok (.iconst 4, 1) := by decide +kernel
theorem dX12_patch_5 : decode cX12_patch 5 = .ok (.iload_n 1, 1) := by decide +kernel
theorem dX12_patch_6 : decode cX12_patch 6 = .ok (.imul, 1) := by decide +kernel
theorem dX12_patch_7 : decode cX12_patch 7 = .ok (.iconst 1, 1) := by decide +kernel
theorem dX12_patch_8 : decode cX12_patch 8 = .ok (.iadd, 1) := by decide +kernel
theorem dX12_patch_9 : decode cX12_patch 9 = .ok (.aload_n 0, 1) := by decide +kernel
theorem dX12_patch_10 : decode cX12_patch 10 = .ok (.getfield 596, 3) := by decide +kernel
theorem dX12_patch_13 : decode cX12_patch 13 = .ok (.iastore, 1) := by decide +kernel
theorem dX12_patch_14 : decode cX12_patch 14 = .ok (.return_, 1) := by decide +kernel
def fX12_patch (a1 : Int32) (w : Wd) : Option Wd :=
  if inb ((4 * a1) + 1) 240000 = true then lt (si w 46 (Int32.toNatClampNeg ((4 * a1) + 1)) (gi w 0 64)) fun w2 => some w2 else none
theorem pX12_patch {q : Gq} {l : Launch} {N : Option Value → Wd → Prop} {X : String → Wd → Prop} {w : Wd} {R : Wd} (hN : N none R) {a1 : Int32} (h : fX12_patch a1 w = some R) : RT (GM q) l 0 yX12_patch cX12_patch 2 (none) N X 0 [] [(0, .ref 0), (1, .int a1)] w := by
  unfold fX12_patch at h
  refine r_aload_n (pc := 0) dX12_patch_0 rfl 0 rfl ?_
  refine r_get (pc := 1) (j := 63) (v := .ref 46) oM0 cf12 flRX12_218 rfl dX12_patch_1 rfl ?_
  refine r_iconst (pc := 4) dX12_patch_4 ki_4 ?_
  refine r_iload_n (pc := 5) dX12_patch_5 rfl 1 rfl ?_
  refine r_imul (pc := 6) dX12_patch_6 ?_
  refine r_iconst (pc := 7) dX12_patch_7 ki_1 ?_
  refine r_iadd (pc := 8) dX12_patch_8 ?_
  refine r_aload_n (pc := 9) dX12_patch_9 rfl 0 rfl ?_
  refine r_get (pc := 10) (j := 64) (v := .int (gi w 0 64)) oM0 cf12 flRX12_596 rfl dX12_patch_10 rfl ?_
  replace h := if_n h; obtain ⟨hb1, h⟩ := h
  replace h := lt_e h; obtain ⟨w2, ew2, h⟩ := h
  refine r_iast (pc := 13) aM46 (inb_in hb1) dX12_patch_13 ?_
  refine r_w ew2 ?_
  exact rO_v (pc := 14) rfl dX12_patch_14 h hN
theorem mX12_patch {q : Gq} {l : Launch} {N : Option Value → Wd → Prop} {X : String → Wd → Prop} {a1 : Int32} {w : Wd} {u : Wd} (h : fX12_patch a1 w = some u) (hN : N none u) : Ct (GM q) l 0 yX12_patch cX12_patch 2 (none) [.ref 0, .int a1] w N X := Ct.of (by decide) (Nat.le_of_ble_eq_true rfl) (pX12_patch hN h)
/-! AlgolMillModel.levelOfSymbol (I)I: O, 0 -/
theorem dX12_levelOfSymbol_0 : decode cX12_levelOfSymbol 0 = .ok (.aload_n 0, 1) := by decide +kernel
theorem dX12_levelOfSymbol_1 : decode cX12_levelOfSymbol 1 = .ok (.getfield 169, 3) := by decide +kernel
theorem dX12_levelOfSymbol_4 : decode cX12_levelOfSymbol 4 = .ok (.aload_n 0, 1) := by decide +kernel
theorem dX12_levelOfSymbol_5 : decode cX12_levelOfSymbol 5 = .ok (.getfield 147, 3) := by decide +kernel
theorem dX12_levelOfSymbol_8 : decode cX12_levelOfSymbol 8 = .ok (.iload_n 1, 1) := by decide +kernel
theorem dX12_levelOfSymbol_9 : decode cX12_levelOfSymbol 9 = .ok (.iaload, 1) := by decide +kernel
theorem dX12_levelOfSymbol_10 : decode cX12_levelOfSymbol 10 = .ok (.iaload, 1) := by decide +kernel
theorem dX12_levelOfSymbol_11 : decode cX12_levelOfSymbol 11 = .ok (.ireturn, 1) := by decide +kernel
def fX12_levelOfSymbol (a1 : Int32) (w : Wd) : Option (Int32 × Wd) :=
  if inb a1 5000 = true then if inb (gi w 23 (Int32.toNatClampNeg a1)) 1200 = true then some ((gi w 30 (Int32.toNatClampNeg (gi w 23 (Int32.toNatClampNeg a1)))), w) else none else none
theorem pX12_levelOfSymbol {q : Gq} {l : Launch} {N : Option Value → Wd → Prop} {X : String → Wd → Prop} {w : Wd} {R : Int32 × Wd} (hN : N (some (.int R.1)) R.2) {a1 : Int32} (h : fX12_levelOfSymbol a1 w = some R) : RT (GM q) l 0 yX12_levelOfSymbol cX12_levelOfSymbol 2 ((some .int)) N X 0 [] [(0, .ref 0), (1, .int a1)] w := by
  unfold fX12_levelOfSymbol at h
  refine r_aload_n (pc := 0) dX12_levelOfSymbol_0 rfl 0 rfl ?_
  refine r_get (pc := 1) (j := 44) (v := .ref 30) oM0 cf12 flRX12_169 rfl dX12_levelOfSymbol_1 rfl ?_
  refine r_aload_n (pc := 4) dX12_levelOfSymbol_4 rfl 0 rfl ?_
  refine r_get (pc := 5) (j := 36) (v := .ref 23) oM0 cf12 flRX12_147 rfl dX12_levelOfSymbol_5 rfl ?_
  refine r_iload_n (pc := 8) dX12_levelOfSymbol_8 rfl 1 rfl ?_
  replace h := if_n h; obtain ⟨hb1, h⟩ := h
  refine r_iald (pc := 9) aM23 (inb_in hb1) dX12_levelOfSymbol_9 ?_
  replace h := if_n h; obtain ⟨hb2, h⟩ := h
  refine r_iald (pc := 10) aM30 (inb_in hb2) dX12_levelOfSymbol_10 ?_
  exact rO_i (pc := 11) rfl dX12_levelOfSymbol_11 h hN
theorem mX12_levelOfSymbol {q : Gq} {l : Launch} {N : Option Value → Wd → Prop} {X : String → Wd → Prop} {a1 : Int32} {w : Wd} {x : Int32} {u : Wd} (h : fX12_levelOfSymbol a1 w = some (x, u)) (hN : N (some (.int x)) u) : Ct (GM q) l 0 yX12_levelOfSymbol cX12_levelOfSymbol 2 ((some .int)) [.ref 0, .int a1] w N X := Ct.of (by decide) (Nat.le_of_ble_eq_true rfl) (pX12_levelOfSymbol hN h)
/-! AlgolMillModel.up (I)I: O, 1 -/
theorem dX12_up_0 : decode cX12_up 0 = .ok (.aload_n 0, 1) := by decide +kernel
theorem dX12_up_1 : decode cX12_up 1 = .ok (.getfield 599, 3) := by decide +kernel
theorem dX12_up_4 : decode cX12_up 4 = .ok (.aload_n 0, 1) := by decide +kernel
theorem dX12_up_5 : decode cX12_up 5 = .ok (.iload_n 1, 1) := by decide +kernel
theorem dX12_up_6 : decode cX12_up 6 = .ok (.invokevirtual 601, 3) := by decide +kernel
theorem dX12_up_9 : decode cX12_up 9 = .ok (.isub, 1) := by decide +kernel
theorem dX12_up_10 : decode cX12_up 10 = .ok (.ireturn, 1) := by decide +kernel
def fX12_up (a1 : Int32) (w : Wd) : Option (Int32 × Wd) :=
  bn2 (fX12_levelOfSymbol a1 w) fun x1 w2 => some (((gi w 0 65) - x1), w2)
theorem pX12_up {q : Gq} {l : Launch} {N : Option Value → Wd → Prop} {X : String → Wd → Prop} {w : Wd} {R : Int32 × Wd} (hN : N (some (.int R.1)) R.2) {a1 : Int32} (h : fX12_up a1 w = some R) : RT (GM q) l 1 yX12_up cX12_up 2 ((some .int)) N X 0 [] [(0, .ref 0), (1, .int a1)] w := by
  unfold fX12_up at h
  refine r_aload_n (pc := 0) dX12_up_0 rfl 0 rfl ?_
  refine r_get (pc := 1) (j := 65) (v := .int (gi w 0 65)) oM0 cf12 flRX12_599 rfl dX12_up_1 rfl ?_
  refine r_aload_n (pc := 4) dX12_up_4 rfl 0 rfl ?_
  refine r_iload_n (pc := 5) dX12_up_5 rfl 1 rfl ?_
  replace h := bn2_e h; obtain ⟨x1, w2, ew2, h⟩ := h
  refine r_cVi (pc := 6) wyX12_levelOfSymbol oM0 rfl mlRX12_601 iyX12_levelOfSymbol syX12_levelOfSymbol ⟨(Nat.le_of_ble_eq_true rfl), (Nat.le_of_ble_eq_true rfl)⟩ rfl rfl (Nat.le_of_ble_eq_true rfl) dX12_up_6 (mX12_levelOfSymbol ew2 (pI.mk ?_))
  refine r_isub (pc := 9) dX12_up_9 ?_
  exact rO_i (pc := 10) rfl dX12_up_10 h hN
theorem mX12_up {q : Gq} {l : Launch} {N : Option Value → Wd → Prop} {X : String → Wd → Prop} {a1 : Int32} {w : Wd} {x : Int32} {u : Wd} (h : fX12_up a1 w = some (x, u)) (hN : N (some (.int x)) u) : Ct (GM q) l 1 yX12_up cX12_up 2 ((some .int)) [.ref 0, .int a1] w N X := Ct.of (by decide) (Nat.le_of_ble_eq_true rfl) (pX12_up hN h)
/-! AlgolMillModel.seen (I)I: O, 2 -/
theorem dX12_seen_0 : decode cX12_seen 0 = .ok (.aload_n 0, 1) := by decide +kernel
theorem dX12_seen_1 : decode cX12_seen 1 = .ok (.aload_n 0, 1) := by decide +kernel
theorem dX12_seen_2 : decode cX12_seen 2 = .ok (.getfield 117, 3) := by decide +kernel
theorem dX12_seen_5 : decode cX12_seen 5 = .ok (.iload_n 1, 1) := by decide +kernel
theorem dX12_seen_6 : decode cX12_seen 6 = .ok (.iaload, 1) := by decide +kernel
theorem dX12_seen_7 : decode cX12_seen 7 = .ok (.aload_n 0, 1) := by decide +kernel
theorem dX12_seen_8 : decode cX12_seen 8 = .ok (.getfield 20, 3) := by decide +kernel
theorem dX12_seen_11 : decode cX12_seen 11 = .ok (.aload_n 0, 1) := by decide +kernel
theorem dX12_seen_12 : decode cX12_seen 12 = .ok (.getfield 114, 3) := by decide +kernel
theorem dX12_seen_15 : decode cX12_seen 15 = .ok (.iload_n 1, 1) := by decide +kernel
theorem dX12_seen_16 : decode cX12_seen 16 = .ok (.iaload, 1) := by decide +kernel
theorem dX12_seen_17 : decode cX12_seen 17 = .ok (.laload, 1) := by decide +kernel
theorem dX12_seen_18 : decode cX12_seen 18 = .ok (.invokevirtual 604, 3) := by decide +kernel
theorem dX12_seen_21 : decode cX12_seen 21 = .ok (.istore_n 2, 1) := by decide +kernel
theorem dX12_seen_22 : decode cX12_seen 22 = .ok (.iload_n 2, 1) := by decide +kernel
theorem dX12_seen_23 : decode cX12_seen 23 = .ok (.ifCond .ge 14, 3) := by decide +kernel
theorem dX12_seen_26 : decode cX12_seen 26 = .ok (.aload_n 0, 1) := by decide +kernel
theorem dX12_seen_27 : decode cX12_seen 27 = .ok (.iconst 2, 1) := by decide +kernel
theorem dX12_seen_28 : decode cX12_seen 28 = .ok (.aload_n 0, 1) := by decide +kernel
theorem dX12_seen_29 : decode cX12_seen 29 = .ok (.getfield 114, 3) := by decide +kernel
theorem dX12_seen_32 : decode cX12_seen 32 = .ok (.iload_n 1, 1) := by decide +kernel
theorem dX12_seen_33 : decode cX12_seen 33 = .ok (.iaload, 1) := by decide +kernel
theorem dX12_seen_34 : decode cX12_seen 34 = .ok (.invokevirtual 484, 3) := by decide +kernel
theorem dX12_seen_37 : decode cX12_seen 37 = .ok (.iload_n 2, 1) := by decide +kernel
theorem dX12_seen_38 : decode cX12_seen 38 = .ok (.ireturn, 1) := by decide +kernel
def fX12_seen (a1 : Int32) (w : Wd) : Option (Int32 × Wd) :=
  if inb a1 24000 = true then if inb a1 24000 = true then if inb (gi w 12 (Int32.toNatClampNeg a1)) 8194 = true then bn2 (fX12_lookUp (gi w 13 (Int32.toNatClampNeg a1)) (gl w 4 (Int32.toNatClampNeg (gi w 12 (Int32.toNatClampNeg a1)))) w) fun x4 w5 => if 0 ≤ x4 then (some (x4, w5)) else (if inb a1 24000 = true then bn (fX12_found 2 (gi w5 12 (Int32.toNatClampNeg a1)) w5) fun w8 => some (x4, w8) else none) else none else none else none
theorem pX12_seen {q : Gq} {l : Launch} {N : Option Value → Wd → Prop} {X : String → Wd → Prop} {w : Wd} {R : Int32 × Wd} (hN : N (some (.int R.1)) R.2) {a1 : Int32} (h : fX12_seen a1 w = some R) : RT (GM q) l 2 yX12_seen cX12_seen 3 ((some .int)) N X 0 [] [(0, .ref 0), (1, .int a1)] w := by
  unfold fX12_seen at h
  refine r_aload_n (pc := 0) dX12_seen_0 rfl 0 rfl ?_
  refine r_aload_n (pc := 1) dX12_seen_1 rfl 0 rfl ?_
  refine r_get (pc := 2) (j := 22) (v := .ref 13) oM0 cf12 flRX12_117 rfl dX12_seen_2 rfl ?_
  refine r_iload_n (pc := 5) dX12_seen_5 rfl 1 rfl ?_
  replace h := if_n h; obtain ⟨hb1, h⟩ := h
  refine r_iald (pc := 6) aM13 (inb_in hb1) dX12_seen_6 ?_
  refine r_aload_n (pc := 7) dX12_seen_7 rfl 0 rfl ?_
  refine r_get (pc := 8) (j := 5) (v := .ref 4) oM0 cf12 flRX12_20 rfl dX12_seen_8 rfl ?_
  refine r_aload_n (pc := 11) dX12_seen_11 rfl 0 rfl ?_
  refine r_get (pc := 12) (j := 21) (v := .ref 12) oM0 cf12 flRX12_114 rfl dX12_seen_12 rfl ?_
  refine r_iload_n (pc := 15) dX12_seen_15 rfl 1 rfl ?_
  replace h := if_n h; obtain ⟨hb2, h⟩ := h
  refine r_iald (pc := 16) aM12 (inb_in hb2) dX12_seen_16 ?_
  replace h := if_n h; obtain ⟨hb3, h⟩ := h
  refine r_lald (pc := 17) aM4 (inb_in hb3) dX12_seen_17 ?_
  replace h := bn2_e h; obtain ⟨x4, w5, ew5, h⟩ := h
  refine r_cVi (pc := 18) wyX12_lookUp oM0 rfl mlRX12_604 iyX12_lookUp syX12_lookUp ⟨(Nat.le_of_ble_eq_true rfl), (Nat.le_of_ble_eq_true rfl)⟩ rfl rfl (Nat.le_of_ble_eq_true rfl) dX12_seen_18 (mX12_lookUp ew5 (pI.mk ?_))
  refine r_istore_n (pc := 21) (loc' := [(2, .int x4), (0, .ref 0), (1, .int a1)]) dX12_seen_21 rfl (Nat.le_of_ble_eq_true rfl) rfl ?_
  refine r_iload_n (pc := 22) dX12_seen_22 rfl 0 rfl ?_
  refine r_if_ge (pc := 23) dX12_seen_23 rfl (fun hc6 => ?_) (fun hc6 => ?_)
  · replace h := if_t hc6 h
    refine r_iload_n (pc := 37) dX12_seen_37 rfl 0 rfl ?_
    exact rO_i (pc := 38) rfl dX12_seen_38 h hN
  replace h := if_f hc6 h
  refine r_aload_n (pc := 26) dX12_seen_26 rfl 1 rfl ?_
  refine r_iconst (pc := 27) dX12_seen_27 ki_2 ?_
  refine r_aload_n (pc := 28) dX12_seen_28 rfl 1 rfl ?_
  refine r_get (pc := 29) (j := 21) (v := .ref 12) oM0 cf12 flRX12_114 rfl dX12_seen_29 rfl ?_
  refine r_iload_n (pc := 32) dX12_seen_32 rfl 2 rfl ?_
  replace h := if_n h; obtain ⟨hb7, h⟩ := h
  refine r_iald (pc := 33) aM12 (inb_in hb7) dX12_seen_33 ?_
  replace h := bn_e h; obtain ⟨w8, ew8, h⟩ := h
  refine r_cVv (pc := 34) wyX12_found oM0 rfl mlRX12_484 iyX12_found syX12_found ⟨(Nat.le_of_ble_eq_true rfl), (Nat.le_of_ble_eq_true rfl)⟩ rfl rfl (Nat.le_of_ble_eq_true rfl) dX12_seen_34 (mX12_found ew8 (pV.mk ?_))
  refine r_iload_n (pc := 37) dX12_seen_37 rfl 0 rfl ?_
  exact rO_i (pc := 38) rfl dX12_seen_38 h hN
theorem mX12_seen {q : Gq} {l : Launch} {N : Option Value → Wd → Prop} {X : String → Wd → Prop} {a1 : Int32} {w : Wd} {x : Int32} {u : Wd} (h : fX12_seen a1 w = some (x, u)) (hN : N (some (.int x)) u) : Ct (GM q) l 2 yX12_seen cX12_seen 3 ((some .int)) [.ref 0, .int a1] w N X := Ct.of (by decide) (Nat.le_of_ble_eq_true rfl) (pX12_seen hN h)
/-! AlgolMillModel.site (I)I: O, 2 -/
theorem dX12_site_0 : decode cX12_site 0 = .ok (.aload_n 0, 1) := by decide +kernel
theorem dX12_site_1 : decode cX12_site 1 = .ok (.getfield 227, 3) := by decide +kernel
theorem dX12_site_4 : decode cX12_site 4 = .ok (.aload_n 0, 1) := by decide +kernel
theorem dX12_site_5 : decode cX12_site 5 = .ok (.getfield 658, 3) := by decide +kernel
theorem dX12_site_8 : decode cX12_site 8 = .ok (.aload_n 0, 1) := by decide +kernel
theorem dX12_site_9 : decode cX12_site 9 = .ok (.getfield 150, 3) := by decide +kernel
theorem dX12_site_12 : decode cX12_site 12 = .ok (.iload_n 1, 1) := by decide +kernel
theorem dX12_site_13 : decode cX12_site 13 = .ok (.iaload, 1) := by decide +kernel
theorem dX12_site_14 : decode cX12_site 14 = .ok (.iastore, 1) := by decide +kernel
theorem dX12_site_15 : decode cX12_site 15 = .ok (.aload_n 0, 1) := by decide +kernel
theorem dX12_site_16 : decode cX12_site 16 = .ok (.getfield 230, 3) := by decide +kernel
theorem dX12_site_19 : decode cX12_site 19 = .ok (.aload_n 0, 1) := by decide +kernel
theorem dX12_site_20 : decode cX12_site 20 = .ok (.getfield 658, 3) := by decide +kernel
theorem dX12_site_23 : decode cX12_site 23 = .ok (.aload_n 0, 1) := by decide +kernel
theorem dX12_site_24 : decode cX12_site 24 = .ok (.iload_n 1, 1) := by decide +kernel
theorem dX12_site_25 : decode cX12_site 25 = .ok (.invokevirtual 641, 3) := by decide +kernel
theorem dX12_site_28 : decode cX12_site 28 = .ok (.iastore, 1) := by decide +kernel
theorem dX12_site_29 : decode cX12_site 29 = .ok (.aload_n 0, 1) := by decide +kernel
theorem dX12_site_30 : decode cX12_site 30 = .ok (.getfield 233, 3) := by decide +kernel
theorem dX12_site_33 : decode cX12_site 33 = .ok (.aload_n 0, 1) := by decide +kernel
theorem dX12_site_34 : decode cX12_site 34 = .ok (.getfield 658, 3) := by decide +kernel
theorem dX12_site_37 : decode cX12_site 37 = .ok (.aload_n 0, 1) := by decide +kernel
theorem dX12_site_38 : decode cX12_site 38 = .ok (.getfield 661, 3) := by decide +kernel
theorem dX12_site_41 : decode cX12_site 41 = .ok (.iastore, 1) := by decide +kernel
theorem dX12_site_42 : decode cX12_site 42 = .ok (.aload_n 0, 1) := by decide +kernel
theorem dX12_site_43 : decode cX12_site 43 = .ok (.dup, 1) := by decide +kernel
theorem dX12_site_44 : decode cX12_site 44 = .ok (.getfield 658, 3) := by decide +kernel
theorem dX12_site_47 : decode cX12_site 47 = .ok (.iconst 1, 1) := by decide +kernel
theorem dX12_site_48 : decode cX12_site 48 = .ok (.iadd, 1) := by decide +kernel
theorem dX12_site_49 : decode cX12_site 49 = .ok (.putfield 658, 3) := by decide +kernel
theorem dX12_site_52 : decode cX12_site 52 = .ok (.aload_n 0, 1) := by decide +kernel
theorem dX12_site_53 : decode cX12_site 53 = .ok (.getfield 658, 3) := by decide +kernel
theorem dX12_site_56 : decode cX12_site 56 = .ok (.iconst 1, 1) := by decide +kernel
theorem dX12_site_57 : decode cX12_site 57 = .ok (.isub, 1) := by decide +kernel
theorem dX12_site_58 : decode cX12_site 58 = .ok (.ireturn, 1) := by decide +kernel
def fX12_site (a1 : Int32) (w : Wd) : Option (Int32 × Wd) :=
  if inb a1 5000 = true then if inb (gi w 0 73) 4300 = true then lt (si w 49 (Int32.toNatClampNeg (gi w 0 73)) (gi w 24 (Int32.toNatClampNeg a1))) fun w3 => bn2 (fX12_up a1 w3) fun x4 w5 => if inb (gi w3 0 73) 4300 = true then lt (si w5 50 (Int32.toNatClampNeg (gi w3 0 73)) x4) fun w7 => if inb (gi w7 0 73) 4300 = true then lt (si w7 51 (Int32.toNatClampNeg (gi w7 0 73)) (gi w7 0 77)) fun w9 => lt (si w9 0 73 ((gi w9 0 73) + 1)) fun w10 => some (((gi w10 0 73) - 1), w10) else none else none else none else none
theorem pX12_site {q : Gq} {l : Launch} {N : Option Value → Wd → Prop} {X : String → Wd → Prop} {w : Wd} {R : Int32 × Wd} (hN : N (some (.int R.1)) R.2) {a1 : Int32} (h : fX12_site a1 w = some R) : RT (GM q) l 2 yX12_site cX12_site 2 ((some .int)) N X 0 [] [(0, .ref 0), (1, .int a1)] w := by
  unfold fX12_site at h
  refine r_aload_n (pc := 0) dX12_site_0 rfl 0 rfl ?_
  refine r_get (pc := 1) (j := 70) (v := .ref 49) oM0 cf12 flRX12_227 rfl dX12_site_1 rfl ?_
  refine r_aload_n (pc := 4) dX12_site_4 rfl 0 rfl ?_
  refine r_get (pc := 5) (j := 73) (v := .int (gi w 0 73)) oM0 cf12 flRX12_658 rfl dX12_site_5 rfl ?_
  refine r_aload_n (pc := 8) dX12_site_8 rfl 0 rfl ?_
  refine r_get (pc := 9) (j := 37) (v := .ref 24) oM0 cf12 flRX12_150 rfl dX12_site_9 rfl ?_
  refine r_iload_n (pc := 12) dX12_site_12 rfl 1 rfl ?_
  replace h := if_n h; obtain ⟨hb1, h⟩ := h
  refine r_iald (pc := 13) aM24 (inb_in hb1) dX12_site_13 ?_
  replace h := if_n h; obtain ⟨hb2, h⟩ := h
  replace h := lt_e h; obtain ⟨w3, ew3, h⟩ := h
  refine r_iast (pc := 14) aM49 (inb_in hb2) dX12_site_14 ?_
  refine r_w ew3 ?_
  refine r_aload_n (pc := 15) dX12_site_15 rfl 0 rfl ?_
  refine r_get (pc := 16) (j := 71) (v := .ref 50) oM0 cf12 flRX12_230 rfl dX12_site_16 rfl ?_
  refine r_aload_n (pc := 19) dX12_site_19 rfl 0 rfl ?_
  refine r_get (pc := 20) (j := 73) (v := .int (gi w3 0 73)) oM0 cf12 flRX12_658 rfl dX12_site_20 rfl ?_
  refine r_aload_n (pc := 23) dX12_site_23 rfl 0 rfl ?_
  refine r_iload_n (pc := 24) dX12_site_24 rfl 1 rfl ?_
  replace h := bn2_e h; obtain ⟨x4, w5, ew5, h⟩ := h
  refine r_cVi (pc := 25) wyX12_up oM0 rfl mlRX12_641 iyX12_up syX12_up ⟨(Nat.le_of_ble_eq_true rfl), (Nat.le_of_ble_eq_true rfl)⟩ rfl rfl (Nat.le_of_ble_eq_true rfl) dX12_site_25 (mX12_up ew5 (pI.mk ?_))
  replace h := if_n h; obtain ⟨hb6, h⟩ := h
  replace h := lt_e h; obtain ⟨w7, ew7, h⟩ := h
  refine r_iast (pc := 28) aM50 (inb_in hb6) dX12_site_28 ?_
  refine r_w ew7 ?_
  refine r_aload_n (pc := 29) dX12_site_29 rfl 0 rfl ?_
  refine r_get (pc := 30) (j := 72) (v := .ref 51) oM0 cf12 flRX12_233 rfl dX12_site_30 rfl ?_
  refine r_aload_n (pc := 33) dX12_site_33 rfl 0 rfl ?_
  refine r_get (pc := 34) (j := 73) (v := .int (gi w7 0 73)) oM0 cf12 flRX12_658 rfl dX12_site_34 rfl ?_
  refine r_aload_n (pc := 37) dX12_site_37 rfl 0 rfl ?_
  refine r_get (pc := 38) (j := 77) (v := .int (gi w7 0 77)) oM0 cf12 flRX12_661 rfl dX12_site_38 rfl ?_
  replace h := if_n h; obtain ⟨hb8, h⟩ := h
  replace h := lt_e h; obtain ⟨w9, ew9, h⟩ := h
  refine r_iast (pc := 41) aM51 (inb_in hb8) dX12_site_41 ?_
  refine r_w ew9 ?_
  refine r_aload_n (pc := 42) dX12_site_42 rfl 0 rfl ?_
  refine r_dup (pc := 43) dX12_site_43 rfl ?_
  refine r_get (pc := 44) (j := 73) (v := .int (gi w9 0 73)) oM0 cf12 flRX12_658 rfl dX12_site_44 rfl ?_
  refine r_iconst (pc := 47) dX12_site_47 ki_1 ?_
  refine r_iadd (pc := 48) dX12_site_48 ?_
  replace h := lt_e h; obtain ⟨w10, ew10, h⟩ := h
  refine r_putI (pc := 49) (j := 73) oM0 cf12 flRX12_658 rfl rfl rfl rfl dX12_site_49 ?_
  refine r_w ew10 ?_
  refine r_aload_n (pc := 52) dX12_site_52 rfl 0 rfl ?_
  refine r_get (pc := 53) (j := 73) (v := .int (gi w10 0 73)) oM0 cf12 flRX12_658 rfl dX12_site_53 rfl ?_
  refine r_iconst (pc := 56) dX12_site_56 ki_1 ?_
  refine r_isub (pc := 57) dX12_site_57 ?_
  exact rO_i (pc := 58) rfl dX12_site_58 h hN
theorem mX12_site {q : Gq} {l : Launch} {N : Option Value → Wd → Prop} {X : String → Wd → Prop} {a1 : Int32} {w : Wd} {x : Int32} {u : Wd} (h : fX12_site a1 w = some (x, u)) (hN : N (some (.int x)) u) : Ct (GM q) l 2 yX12_site cX12_site 2 ((some .int)) [.ref 0, .int a1] w N X := Ct.of (by decide) (Nat.le_of_ble_eq_true rfl) (pX12_site hN h)
/-! AlgolMillModel.alone (III)V: O, 3 -/
theorem dX12_alone_0 : decode cX12_alone 0 = .ok (.aload_n 0, 1) := by decide +kernel
theorem dX12_alone_1 : decode cX12_alone 1 = .ok (.getfield 135, 3) := by decide +kernel
theorem dX12_alone_4 : decode cX12_alone 4 = .ok (.iload_n 2, 1) := by decide +kernel
theorem dX12_alone_5 : decode cX12_alone 5 = .ok (.iaload, 1) := by decide +kernel
theorem dX12_alone_6 : decode cX12_alone 6 = .ok (.bipush 6, 2) := by decide +kernel
theorem dX12_alone_8 : decode cX12_alone 8 = .ok (.if_icmp .ne 24, 3) := by decide +kernel
theorem dX12_alone_11 : decode cX12_alone 11 = .ok (.aload_n 0, 1) := by decide +kernel
theorem dX12_alone_12 : decode cX12_alone 12 = .ok (.bipush 15, 2) := by decide +kernel
theorem dX12_alone_14 : decode cX12_alone 14 = .ok (.aload_n 0, 1) := by decide +kernel
theorem dX12_alone_15 : decode cX12_alone 15 = .ok (.iload_n 2, 1) := by decide +kernel
theorem dX12_alone_16 : decode cX12_alone 16 = .ok (.invokevirtual 641, 3) := by decide +kernel
theorem dX12_alone_19 : decode cX12_alone 19 = .ok (.aload_n 0, 1) := by decide +kernel
theorem dX12_alone_20 : decode cX12_alone 20 = .ok (.getfield 156, 3) := by decide +kernel
theorem dX12_alone_23 : decode cX12_alone 23 = .ok (.iload_n 2, 1) := by decide +kernel
theorem dX12_alone_24 : decode cX12_alone 24 = .ok (.iaload, 1) := by decide +kernel
theorem dX12_alone_25 : decode cX12_alone 25 = .ok (.iload_n 3, 1) := by decide +kernel
theorem dX12_alone_26 : decode cX12_alone 26 = .ok (.invokevirtual 609, 3) := by decide +kernel
theorem dX12_alone_29 : decode cX12_alone 29 = .ok (.istore 4, 2) := by decide +kernel
theorem dX12_alone_31 : decode cX12_alone 31 = .ok (.return_, 1) := by decide +kernel
theorem dX12_alone_32 : decode cX12_alone 32 = .ok (.aload_n 0, 1) := by decide +kernel
theorem dX12_alone_33 : decode cX12_alone 33 = .ok (.getfield 172, 3) := by decide +kernel
theorem dX12_alone_36 : decode cX12_alone 36 = .ok (.aload_n 0, 1) := by decide +kernel
theorem dX12_alone_37 : decode cX12_alone 37 = .ok (.getfield 150, 3) := by decide +kernel
theorem dX12_alone_40 : decode cX12_alone 40 = .ok (.iload_n 2, 1) := by decide +kernel
theorem dX12_alone_41 : decode cX12_alone 41 = .ok (.iaload, 1) := by decide +kernel
theorem dX12_alone_42 : decode cX12_alone 42 = .ok (.iaload, 1) := by decide +kernel
theorem dX12_alone_43 : decode cX12_alone 43 = .ok (.ifCond .le 14, 3) := by decide +kernel
theorem dX12_alone_46 : decode cX12_alone 46 = .ok (.aload_n 0, 1) := by decide +kernel
theorem dX12_alone_47 : decode cX12_alone 47 = .ok (.iconst 5, 1) := by decide +kernel
theorem dX12_alone_48 : decode cX12_alone 48 = .ok (.aload_n 0, 1) := by decide +kernel
theorem dX12_alone_49 : decode cX12_alone 49 = .ok (.getfield 114, 3) := by decide +kernel
theorem dX12_alone_52 : decode cX12_alone 52 = .ok (.iload_n 1, 1) := by decide +kernel
theorem dX12_alone_53 : decode cX12_alone 53 = .ok (.iaload, 1) := by decide +kernel
theorem dX12_alone_54 : decode cX12_alone 54 = .ok (.invokevirtual 484, 3) := by decide +kernel
theorem dX12_alone_57 : decode cX12_alone 57 = .ok (.aload_n 0, 1) := by decide +kernel
theorem dX12_alone_58 : decode cX12_alone 58 = .ok (.bipush 14, 2) := by decide +kernel
theorem dX12_alone_60 : decode cX12_alone 60 = .ok (.aload_n 0, 1) := by decide +kernel
theorem dX12_alone_61 : decode cX12_alone 61 = .ok (.iload_n 2, 1) := by decide +kernel
theorem dX12_alone_62 : decode cX12_alone 62 = .ok (.invokevirtual 655, 3) := by decide +kernel
theorem dX12_alone_65 : decode cX12_alone 65 = .ok (.iload_n 3, 1) := by decide +kernel
theorem dX12_alone_66 : decode cX12_alone 66 = .ok (.iconst 0, 1) := by decide +kernel
theorem dX12_alone_67 : decode cX12_alone 67 = .ok (.invokevirtual 609, 3) := by decide +kernel
theorem dX12_alone_70 : decode cX12_alone 70 = .ok (.istore 4, 2) := by decide +kernel
theorem dX12_alone_72 : decode cX12_alone 72 = .ok (.return_, 1) := by decide +kernel
def fX12_alone_57 (a2 : Int32) (a3 : Int32) (w : Wd) : Option Wd :=
  bn2 (fX12_site a2 w) fun x1 w2 => bn2 (fX12_op 14 x1 a3 0 w2) fun x3 w4 => some w4
theorem pX12_alone_57 {q : Gq} {l : Launch} {N : Option Value → Wd → Prop} {X : String → Wd → Prop} {w : Wd} {R : Wd} (hN : N none R) {a2 : Int32} {a3 : Int32} (h : fX12_alone_57 a2 a3 w = some R) : RT (GM q) l 3 yX12_alone cX12_alone 5 (none) N X 57 [] [(0, .ref 0), (2, .int a2), (3, .int a3)] w := by
  unfold fX12_alone_57 at h
  refine r_aload_n (pc := 57) dX12_alone_57 rfl 0 rfl ?_
  refine r_bipush (pc := 58) dX12_alone_58 kb_14 ?_
  refine r_aload_n (pc := 60) dX12_alone_60 rfl 0 rfl ?_
  refine r_iload_n (pc := 61) dX12_alone_61 rfl 1 rfl ?_
  replace h := bn2_e h; obtain ⟨x1, w2, ew2, h⟩ := h
  refine r_cVi (pc := 62) wyX12_site oM0 rfl mlRX12_655 iyX12_site syX12_site ⟨(Nat.le_of_ble_eq_true rfl), (Nat.le_of_ble_eq_true rfl)⟩ rfl rfl (Nat.le_of_ble_eq_true rfl) dX12_alone_62 (mX12_site ew2 (pI.mk ?_))
  refine r_iload_n (pc := 65) dX12_alone_65 rfl 2 rfl ?_
  refine r_iconst (pc := 66) dX12_alone_66 ki_0 ?_
  replace h := bn2_e h; obtain ⟨x3, w4, ew4, h⟩ := h
  refine r_cVi (pc := 67) wyX12_op oM0 rfl mlRX12_609 iyX12_op syX12_op ⟨(Nat.le_of_ble_eq_true rfl), (Nat.le_of_ble_eq_true rfl)⟩ rfl rfl (Nat.le_of_ble_eq_true rfl) dX12_alone_67 (mX12_op ew4 (pI.mk ?_))
  refine r_istore (pc := 70) (loc' := [(4, .int x3), (0, .ref 0), (2, .int a2), (3, .int a3)]) dX12_alone_70 (Nat.le_of_ble_eq_true rfl) rfl ?_
  exact rO_v (pc := 72) rfl dX12_alone_72 h hN
def fX12_alone (a1 : Int32) (a2 : Int32) (a3 : Int32) (w : Wd) : Option Wd :=
  if inb a2 5000 = true then if (gi w 19 (Int32.toNatClampNeg a2)) = 6 then (bn2 (fX12_up a2 w) fun x3 w4 => if inb a2 5000 = true then bn2 (fX12_op 15 x3 (gi w4 26 (Int32.toNatClampNeg a2)) a3 w4) fun x6 w7 => some w7 else none) else (if inb a2 5000 = true then if inb (gi w 24 (Int32.toNatClampNeg a2)) 1200 = true then if (gi w 31 (Int32.toNatClampNeg (gi w 24 (Int32.toNatClampNeg a2)))) ≤ 0 then (fX12_alone_57 a2 a3 w) else (if inb a1 24000 = true then bn (fX12_found 5 (gi w 12 (Int32.toNatClampNeg a1)) w) fun w12 => fX12_alone_57 a2 a3 w12 else none) else none else none) else none
theorem pX12_alone {q : Gq} {l : Launch} {N : Option Value → Wd → Prop} {X : String → Wd → Prop} {w : Wd} {R : Wd} (hN : N none R) {a1 : Int32} {a2 : Int32} {a3 : Int32} (h : fX12_alone a1 a2 a3 w = some R) : RT (GM q) l 3 yX12_alone cX12_alone 5 (none) N X 0 [] [(0, .ref 0), (1, .int a1), (2, .int a2), (3, .int a3)] w := by
  unfold fX12_alone at h
  refine r_aload_n (pc := 0) dX12_alone_0 rfl 0 rfl ?_
  refine r_get (pc := 1) (j := 32) (v := .ref 19) oM0 cf12 flRX12_135 rfl dX12_alone_1 rfl ?_
  refine r_iload_n (pc := 4) dX12_alone_4 rfl 2 rfl ?_
  replace h := if_n h; obtain ⟨hb1, h⟩ := h
  refine r_iald (pc := 5) aM19 (inb_in hb1) dX12_alone_5 ?_
  refine r_bipush (pc := 6) dX12_alone_6 kb_6 ?_
  refine r_icmp_ne (pc := 8) dX12_alone_8 rfl (fun hc2 => ?_) (fun hc2 => ?_)
  · replace h := if_f hc2 h
    refine r_aload_n (pc := 32) dX12_alone_32 rfl 0 rfl ?_
    refine r_get (pc := 33) (j := 45) (v := .ref 31) oM0 cf12 flRX12_172 rfl dX12_alone_33 rfl ?_
    refine r_aload_n (pc := 36) dX12_alone_36 rfl 0 rfl ?_
    refine r_get (pc := 37) (j := 37) (v := .ref 24) oM0 cf12 flRX12_150 rfl dX12_alone_37 rfl ?_
    refine r_iload_n (pc := 40) dX12_alone_40 rfl 2 rfl ?_
    replace h := if_n h; obtain ⟨hb8, h⟩ := h
    refine r_iald (pc := 41) aM24 (inb_in hb8) dX12_alone_41 ?_
    replace h := if_n h; obtain ⟨hb9, h⟩ := h
    refine r_iald (pc := 42) aM31 (inb_in hb9) dX12_alone_42 ?_
    refine r_if_le (pc := 43) dX12_alone_43 rfl (fun hc10 => ?_) (fun hc10 => ?_)
    · replace h := if_t hc10 h
      refine r_drop (loc' := [(0, .ref 0), (2, .int a2), (3, .int a3)]) [0, 2, 3] rfl ?_
      exact pX12_alone_57 hN h
    replace h := if_f hc10 h
    refine r_aload_n (pc := 46) dX12_alone_46 rfl 0 rfl ?_
    refine r_iconst (pc := 47) dX12_alone_47 ki_5 ?_
    refine r_aload_n (pc := 48) dX12_alone_48 rfl 0 rfl ?_
    refine r_get (pc := 49) (j := 21) (v := .ref 12) oM0 cf12 flRX12_114 rfl dX12_alone_49 rfl ?_
    refine r_iload_n (pc := 52) dX12_alone_52 rfl 1 rfl ?_
    replace h := if_n h; obtain ⟨hb11, h⟩ := h
    refine r_iald (pc := 53) aM12 (inb_in hb11) dX12_alone_53 ?_
    replace h := bn_e h; obtain ⟨w12, ew12, h⟩ := h
    refine r_cVv (pc := 54) wyX12_found oM0 rfl mlRX12_484 iyX12_found syX12_found ⟨(Nat.le_of_ble_eq_true rfl), (Nat.le_of_ble_eq_true rfl)⟩ rfl rfl (Nat.le_of_ble_eq_true rfl) dX12_alone_54 (mX12_found ew12 (pV.mk ?_))
    refine r_drop (loc' := [(0, .ref 0), (2, .int a2), (3, .int a3)]) [0, 2, 3] rfl ?_
    exact pX12_alone_57 hN h
  replace h := if_t hc2 h
  refine r_aload_n (pc := 11) dX12_alone_11 rfl 0 rfl ?_
  refine r_bipush (pc := 12) dX12_alone_12 kb_15 ?_
  refine r_aload_n (pc := 14) dX12_alone_14 rfl 0 rfl ?_
  refine r_iload_n (pc := 15) dX12_alone_15 rfl 2 rfl ?_
  replace h := bn2_e h; obtain ⟨x3, w4, ew4, h⟩ := h
  refine r_cVi (pc := 16) wyX12_up oM0 rfl mlRX12_641 iyX12_up syX12_up ⟨(Nat.le_of_ble_eq_true rfl), (Nat.le_of_ble_eq_true rfl)⟩ rfl rfl (Nat.le_of_ble_eq_true rfl) dX12_alone_16 (mX12_up ew4 (pI.mk ?_))
  refine r_aload_n (pc := 19) dX12_alone_19 rfl 0 rfl ?_
  refine r_get (pc := 20) (j := 39) (v := .ref 26) oM0 cf12 flRX12_156 rfl dX12_alone_20 rfl ?_
  refine r_iload_n (pc := 23) dX12_alone_23 rfl 2 rfl ?_
  replace h := if_n h; obtain ⟨hb5, h⟩ := h
  refine r_iald (pc := 24) aM26 (inb_in hb5) dX12_alone_24 ?_
  refine r_iload_n (pc := 25) dX12_alone_25 rfl 3 rfl ?_
  replace h := bn2_e h; obtain ⟨x6, w7, ew7, h⟩ := h
  refine r_cVi (pc := 26) wyX12_op oM0 rfl mlRX12_609 iyX12_op syX12_op ⟨(Nat.le_of_ble_eq_true rfl), (Nat.le_of_ble_eq_true rfl)⟩ rfl rfl (Nat.le_of_ble_eq_true rfl) dX12_alone_26 (mX12_op ew7 (pI.mk ?_))
  refine r_istore (pc := 29) (loc' := [(4, .int x6), (0, .ref 0), (1, .int a1), (2, .int a2), (3, .int a3)]) dX12_alone_29 (Nat.le_of_ble_eq_true rfl) rfl ?_
  exact rO_v (pc := 31) rfl dX12_alone_31 h hN
theorem mX12_alone {q : Gq} {l : Launch} {N : Option Value → Wd → Prop} {X : String → Wd → Prop} {a1 : Int32} {a2 : Int32} {a3 : Int32} {w : Wd} {u : Wd} (h : fX12_alone a1 a2 a3 w = some u) (hN : N none u) : Ct (GM q) l 3 yX12_alone cX12_alone 5 (none) [.ref 0, .int a1, .int a2, .int a3] w N X := Ct.of (by decide) (Nat.le_of_ble_eq_true rfl) (pX12_alone hN h)
/-! AlgolMillModel.isFormal (II)Z: O, 0 -/
theorem dX12_isFormal_0 : decode cX12_isFormal 0 = .ok (.aload_n 0, 1) := by decide +kernel
theorem dX12_isFormal_1 : decode cX12_isFormal 1 = .ok (.getfield 135, 3) := by decide +kernel
theorem dX12_isFormal_4 : decode cX12_isFormal 4 = .ok (.iload_n 1, 1) := by decide +kernel
theorem dX12_isFormal_5 : decode cX12_isFormal 5 = .ok (.iaload, 1) := by decide +kernel
theorem dX12_isFormal_6 : decode cX12_isFormal 6 = .ok (.bipush 6, 2) := by decide +kernel
theorem dX12_isFormal_8 : decode cX12_isFormal 8 = .ok (.if_icmp .ne 17, 3) := by decide +kernel
theorem dX12_isFormal_11 : decode cX12_isFormal 11 = .ok (.aload_n 0, 1) := by decide +kernel
theorem dX12_isFormal_12 : decode cX12_isFormal 12 = .ok (.getfield 150, 3) := by decide +kernel
theorem dX12_isFormal_15 : decode cX12_isFormal 15 = .ok (.iload_n 1, 1) := by decide +kernel
theorem dX12_isFormal_16 : decode cX12_isFormal 16 = .ok (.iaload, 1) := by decide +kernel
theorem dX12_isFormal_17 : decode cX12_isFormal 17 = .ok (.iload_n 2, 1) := by decide +kernel
theorem dX12_isFormal_18 : decode cX12_isFormal 18 = .ok (.if_icmp .ne 7, 3) := by decide +kernel
theorem dX12_isFormal_21 : decode cX12_isFormal 21 = .ok (.iconst 1, 1) := by decide +kernel
theorem dX12_isFormal_22 : decode cX12_isFormal 22 = .ok (.goto 4, 3) := by decide +kernel
theorem dX12_isFormal_25 : decode cX12_isFormal 25 = .ok (.iconst 0, 1) := by decide +kernel
theorem dX12_isFormal_26 : decode cX12_isFormal 26 = .ok (.ireturn, 1) := by decide +kernel
def fX12_isFormal (a1 : Int32) (a2 : Int32) (w : Wd) : Option (Bool × Wd) :=
  if inb a1 5000 = true then if (gi w 19 (Int32.toNatClampNeg a1)) = 6 then (if inb a1 5000 = true then if (gi w 24 (Int32.toNatClampNeg a1)) = a2 then (some (true, w)) else (some (false, w)) else none) else (some (false, w)) else none
theorem pX12_isFormal {q : Gq} {l : Launch} {N : Option Value → Wd → Prop} {X : String → Wd → Prop} {w : Wd} {R : Bool × Wd} (hN : N (some (.int (b2i R.1))) R.2) {a1 : Int32} {a2 : Int32} (h : fX12_isFormal a1 a2 w = some R) : RT (GM q) l 0 yX12_isFormal cX12_isFormal 3 ((some .boolean)) N X 0 [] [(0, .ref 0), (1, .int a1), (2, .int a2)] w := by
  unfold fX12_isFormal at h
  refine r_aload_n (pc := 0) dX12_isFormal_0 rfl 0 rfl ?_
  refine r_get (pc := 1) (j := 32) (v := .ref 19) oM0 cf12 flRX12_135 rfl dX12_isFormal_1 rfl ?_
  refine r_iload_n (pc := 4) dX12_isFormal_4 rfl 1 rfl ?_
  replace h := if_n h; obtain ⟨hb1, h⟩ := h
  refine r_iald (pc := 5) aM19 (inb_in hb1) dX12_isFormal_5 ?_
  refine r_bipush (pc := 6) dX12_isFormal_6 kb_6 ?_
  refine r_icmp_ne (pc := 8) dX12_isFormal_8 rfl (fun hc2 => ?_) (fun hc2 => ?_)
  · replace h := if_f hc2 h
    refine r_iconst (pc := 25) dX12_isFormal_25 ki_0 ?_
    exact rO_z (pc := 26) (x := false) rfl dX12_isFormal_26 h hN
  replace h := if_t hc2 h
  refine r_aload_n (pc := 11) dX12_isFormal_11 rfl 0 rfl ?_
  refine r_get (pc := 12) (j := 37) (v := .ref 24) oM0 cf12 flRX12_150 rfl dX12_isFormal_12 rfl ?_
  refine r_iload_n (pc := 15) dX12_isFormal_15 rfl 1 rfl ?_
  replace h := if_n h; obtain ⟨hb3, h⟩ := h
  refine r_iald (pc := 16) aM24 (inb_in hb3) dX12_isFormal_16 ?_
  refine r_iload_n (pc := 17) dX12_isFormal_17 rfl 2 rfl ?_
  refine r_icmp_ne (pc := 18) dX12_isFormal_18 rfl (fun hc4 => ?_) (fun hc4 => ?_)
  · replace h := if_f hc4 h
    refine r_iconst (pc := 25) dX12_isFormal_25 ki_0 ?_
    exact rO_z (pc := 26) (x := false) rfl dX12_isFormal_26 h hN
  replace h := if_t hc4 h
  refine r_iconst (pc := 21) dX12_isFormal_21 ki_1 ?_
  refine r_goto (pc := 22) dX12_isFormal_22 rfl ?_
  exact rO_z (pc := 26) (x := true) rfl dX12_isFormal_26 h hN
theorem mX12_isFormal {q : Gq} {l : Launch} {N : Option Value → Wd → Prop} {X : String → Wd → Prop} {a1 : Int32} {a2 : Int32} {w : Wd} {x : Bool} {u : Wd} (h : fX12_isFormal a1 a2 w = some (x, u)) (hN : N (some (.int (b2i x))) u) : Ct (GM q) l 0 yX12_isFormal cX12_isFormal 3 ((some .boolean)) [.ref 0, .int a1, .int a2] w N X := Ct.of (by decide) (Nat.le_of_ble_eq_true rfl) (pX12_isFormal hN h)
/-! AlgolMillModel.wrongName (I)I: O, 1 -/
theorem dX12_wrongName_0 : decode cX12_wrongName 0 = .ok (.aload_n 0, 1) := by decide +kernel
theorem dX12_wrongName_1 : decode cX12_wrongName 1 = .ok (.iconst 4, 1) := by decide +kernel
theorem dX12_wrongName_2 : decode cX12_wrongName 2 = .ok (.aload_n 0, 1) := by decide +kernel
theorem dX12_wrongName_3 : decode cX12_wrongName 3 = .ok (.getfield 114, 3) := by decide +kernel
theorem dX12_wrongName_6 : decode cX12_wrongName 6 = .ok (.iload_n 1, 1) := by decide +kernel
theorem dX12_wrongName_7 : decode cX12_wrongName 7 = .ok (.iaload, 1) := by decide +kernel
theorem dX12_wrongName_8 : decode cX12_wrongName 8 = .ok (.invokevirtual 484, 3) := by decide +kernel
theorem dX12_wrongName_11 : decode cX12_wrongName 11 = .ok (.iconst 0, 1) := by decide +kernel
theorem dX12_wrongName_12 : decode cX12_wrongName 12 = .ok (.ireturn, 1) := by decide +kernel
def fX12_wrongName (a1 : Int32) (w : Wd) : Option (Int32 × Wd) :=
  if inb a1 24000 = true then bn (fX12_found 4 (gi w 12 (Int32.toNatClampNeg a1)) w) fun w2 => some (0, w2) else none
theorem pX12_wrongName {q : Gq} {l : Launch} {N : Option Value → Wd → Prop} {X : String → Wd → Prop} {w : Wd} {R : Int32 × Wd} (hN : N (some (.int R.1)) R.2) {a1 : Int32} (h : fX12_wrongName a1 w = some R) : RT (GM q) l 1 yX12_wrongName cX12_wrongName 2 ((some .int)) N X 0 [] [(0, .ref 0), (1, .int a1)] w := by
  unfold fX12_wrongName at h
  refine r_aload_n (pc := 0) dX12_wrongName_0 rfl 0 rfl ?_
  refine r_iconst (pc := 1) dX12_wrongName_1 ki_4 ?_
  refine r_aload_n (pc := 2) dX12_wrongName_2 rfl 0 rfl ?_
  refine r_get (pc := 3) (j := 21) (v := .ref 12) oM0 cf12 flRX12_114 rfl dX12_wrongName_3 rfl ?_
  refine r_iload_n (pc := 6) dX12_wrongName_6 rfl 1 rfl ?_
  replace h := if_n h; obtain ⟨hb1, h⟩ := h
  refine r_iald (pc := 7) aM12 (inb_in hb1) dX12_wrongName_7 ?_
  replace h := bn_e h; obtain ⟨w2, ew2, h⟩ := h
  refine r_cVv (pc := 8) wyX12_found oM0 rfl mlRX12_484 iyX12_found syX12_found ⟨(Nat.le_of_ble_eq_true rfl), (Nat.le_of_ble_eq_true rfl)⟩ rfl rfl (Nat.le_of_ble_eq_true rfl) dX12_wrongName_8 (mX12_found ew2 (pV.mk ?_))
  refine r_iconst (pc := 11) dX12_wrongName_11 ki_0 ?_
  exact rO_i (pc := 12) rfl dX12_wrongName_12 h hN
theorem mX12_wrongName {q : Gq} {l : Launch} {N : Option Value → Wd → Prop} {X : String → Wd → Prop} {a1 : Int32} {w : Wd} {x : Int32} {u : Wd} (h : fX12_wrongName a1 w = some (x, u)) (hN : N (some (.int x)) u) : Ct (GM q) l 1 yX12_wrongName cX12_wrongName 2 ((some .int)) [.ref 0, .int a1] w N X := Ct.of (by decide) (Nat.le_of_ble_eq_true rfl) (pX12_wrongName hN h)
/-! AlgolMillModel.named (I)I: O, 4 -/
theorem dX12_named_0 : decode cX12_named 0 = .ok (.aload_n 0, 1) := by decide +kernel
theorem dX12_named_1 : decode cX12_named 1 = .ok (.iload_n 1, 1) := by decide +kernel
theorem dX12_named_2 : decode cX12_named 2 = .ok (.invokevirtual 638, 3) := by decide +kernel
theorem dX12_named_5 : decode cX12_named 5 = .ok (.istore_n 2, 1) := by decide +kernel
theorem dX12_named_6 : decode cX12_named 6 = .ok (.iload_n 2, 1) := by decide +kernel
theorem dX12_named_7 : decode cX12_named 7 = .ok (.ifCond .ge 5, 3) := by decide +kernel
theorem dX12_named_10 : decode cX12_named 10 = .ok (.iconst 0, 1) := by decide +kernel
theorem dX12_named_11 : decode cX12_named 11 = .ok (.ireturn, 1) := by decide +kernel
theorem dX12_named_12 : decode cX12_named 12 = .ok (.aload_n 0, 1) := by decide +kernel
theorem dX12_named_13 : decode cX12_named 13 = .ok (.getfield 135, 3) := by decide +kernel
theorem dX12_named_16 : decode cX12_named 16 = .ok (.iload_n 2, 1) := by decide +kernel
theorem dX12_named_17 : decode cX12_named 17 = .ok (.iaload, 1) := by decide +kernel
theorem dX12_named_18 : decode cX12_named 18 = .ok (.iconst 1, 1) := by decide +kernel
theorem dX12_named_19 : decode cX12_named 19 = .ok (.if_icmp .ne 41, 3) := by decide +kernel
theorem dX12_named_22 : decode cX12_named 22 = .ok (.aload_n 0, 1) := by decide +kernel
theorem dX12_named_23 : decode cX12_named 23 = .ok (.iconst 2, 1) := by decide +kernel
theorem dX12_named_24 : decode cX12_named 24 = .ok (.aload_n 0, 1) := by decide +kernel
theorem dX12_named_25 : decode cX12_named 25 = .ok (.getfield 159, 3) := by decide +kernel
theorem dX12_named_28 : decode cX12_named 28 = .ok (.iload_n 2, 1) := by decide +kernel
theorem dX12_named_29 : decode cX12_named 29 = .ok (.baload, 1) := by decide +kernel
theorem dX12_named_30 : decode cX12_named 30 = .ok (.ifCond .eq 7, 3) := by decide +kernel
theorem dX12_named_33 : decode cX12_named 33 = .ok (.iconst (-1), 1) := by decide +kernel
theorem dX12_named_34 : decode cX12_named 34 = .ok (.goto 8, 3) := by decide +kernel
theorem dX12_named_37 : decode cX12_named 37 = .ok (.aload_n 0, 1) := by decide +kernel
theorem dX12_named_38 : decode cX12_named 38 = .ok (.iload_n 2, 1) := by decide +kernel
theorem dX12_named_39 : decode cX12_named 39 = .ok (.invokevirtual 641, 3) := by decide +kernel
theorem dX12_named_42 : decode cX12_named 42 = .ok (.aload_n 0, 1) := by decide +kernel
theorem dX12_named_43 : decode cX12_named 43 = .ok (.getfield 156, 3) := by decide +kernel
theorem dX12_named_46 : decode cX12_named 46 = .ok (.iload_n 2, 1) := by decide +kernel
theorem dX12_named_47 : decode cX12_named 47 = .ok (.iaload, 1) := by decide +kernel
theorem dX12_named_48 : decode cX12_named 48 = .ok (.iconst 0, 1) := by decide +kernel
theorem dX12_named_49 : decode cX12_named 49 = .ok (.invokevirtual 609, 3) := by decide +kernel
theorem dX12_named_52 : decode cX12_named 52 = .ok (.istore_n 3, 1) := by decide +kernel
theorem dX12_named_53 : decode cX12_named 53 = .ok (.aload_n 0, 1) := by decide +kernel
theorem dX12_named_54 : decode cX12_named 54 = .ok (.getfield 138, 3) := by decide +kernel
theorem dX12_named_57 : decode cX12_named 57 = .ok (.iload_n 2, 1) := by decide +kernel
theorem dX12_named_58 : decode cX12_named 58 = .ok (.iaload, 1) := by decide +kernel
theorem dX12_named_59 : decode cX12_named 59 = .ok (.ireturn, 1) := by decide +kernel
theorem dX12_named_60 : decode cX12_named 60 = .ok (.aload_n 0, 1) := by decide +kernel
theorem dX12_named_61 : decode cX12_named 61 = .ok (.iload_n 2, 1) := by decide +kernel
theorem dX12_named_62 : decode cX12_named 62 = .ok (.iconst 1, 1) := by decide +kernel
theorem dX12_named_63 : decode cX12_named 63 = .ok (.invokevirtual 644, 3) := by decide +kernel
theorem dX12_named_66 : decode cX12_named 66 = .ok (.ifCond .eq 58, 3) := by decide +kernel
theorem dX12_named_69 : decode cX12_named 69 = .ok (.aload_n 0, 1) := by decide +kernel
theorem dX12_named_70 : decode cX12_named 70 = .ok (.getfield 163, 3) := by decide +kernel
theorem dX12_named_73 : decode cX12_named 73 = .ok (.iload_n 2, 1) := by decide +kernel
theorem dX12_named_74 : decode cX12_named 74 = .ok (.baload, 1) := by decide +kernel
theorem dX12_named_75 : decode cX12_named 75 = .ok (.ifCond .eq 24, 3) := by decide +kernel
theorem dX12_named_78 : decode cX12_named 78 = .ok (.aload_n 0, 1) := by decide +kernel
theorem dX12_named_79 : decode cX12_named 79 = .ok (.iconst 2, 1) := by decide +kernel
theorem dX12_named_80 : decode cX12_named 80 = .ok (.aload_n 0, 1) := by decide +kernel
theorem dX12_named_81 : decode cX12_named 81 = .ok (.iload_n 2, 1) := by decide +kernel
theorem dX12_named_82 : decode cX12_named 82 = .ok (.invokevirtual 641, 3) := by decide +kernel
theorem dX12_named_85 : decode cX12_named 85 = .ok (.aload_n 0, 1) := by decide +kernel
theorem dX12_named_86 : decode cX12_named 86 = .ok (.getfield 156, 3) := by decide +kernel
theorem dX12_named_89 : decode cX12_named 89 = .ok (.iload_n 2, 1) := by decide +kernel
theorem dX12_named_90 : decode cX12_named 90 = .ok (.iaload, 1) := by decide +kernel
theorem dX12_named_91 : decode cX12_named 91 = .ok (.iconst 0, 1) := by decide +kernel
theorem dX12_named_92 : decode cX12_named 92 = .ok (.invokevirtual 609, 3) := by decide +kernel
theorem dX12_named_95 : decode cX12_named 95 = .ok (.istore_n 3, 1) := by decide +kernel
theorem dX12_named_96 : decode cX12_named 96 = .ok (.goto 21, 3) := by decide +kernel
theorem dX12_named_99 : decode cX12_named 99 = .ok (.aload_n 0, 1) := by decide +kernel
theorem dX12_named_100 : decode cX12_named 100 = .ok (.iconst 4, 1) := by decide +kernel
theorem dX12_named_101 : decode cX12_named 101 = .ok (.aload_n 0, 1) := by decide +kernel
theorem dX12_named_102 : decode cX12_named 102 = .ok (.iload_n 2, 1) := by decide +kernel
theorem dX12_named_103 : decode cX12_named 103 = .ok (.invokevirtual 641, 3) := by decide +kernel
theorem dX12_named_106 : decode cX12_named 106 = .ok (.aload_n 0, 1) := by decide +kernel
theorem dX12_named_107 : decode cX12_named 107 = .ok (.getfield 156, 3) := by decide +kernel
theorem dX12_named_110 : decode cX12_named 110 = .ok (.iload_n 2, 1) := by decide +kernel
theorem dX12_named_111 : decode cX12_named 111 = .ok (.iaload, 1) := by decide +kernel
theorem dX12_named_112 : decode cX12_named 112 = .ok (.iconst 0, 1) := by decide +kernel
theorem dX12_named_113 : decode cX12_named 113 = .ok (.invokevirtual 609, 3) := by decide +kernel
theorem dX12_named_116 : decode cX12_named 116 = .ok (.istore_n 3, 1) := by decide +kernel
theorem dX12_named_117 : decode cX12_named 117 = .ok (.aload_n 0, 1) := by decide +kernel
theorem dX12_named_118 : decode cX12_named 118 = .ok (.getfield 138, 3) := by decide +kernel
theorem dX12_named_121 : decode cX12_named 121 = .ok (.iload_n 2, 1) := by decide +kernel
theorem dX12_named_122 : decode cX12_named 122 = .ok (.iaload, 1) := by decide +kernel
theorem dX12_named_123 : decode cX12_named 123 = .ok (.ireturn, 1) := by decide +kernel
theorem dX12_named_124 : decode cX12_named 124 = .ok (.aload_n 0, 1) := by decide +kernel
theorem dX12_named_125 : decode cX12_named 125 = .ok (.getfield 135, 3) := by decide +kernel
theorem dX12_named_128 : decode cX12_named 128 = .ok (.iload_n 2, 1) := by decide +kernel
theorem dX12_named_129 : decode cX12_named 129 = .ok (.iaload, 1) := by decide +kernel
theorem dX12_named_130 : decode cX12_named 130 = .ok (.iconst 3, 1) := by decide +kernel
theorem dX12_named_131 : decode cX12_named 131 = .ok (.if_icmp .eq 12, 3) := by decide +kernel
theorem dX12_named_134 : decode cX12_named 134 = .ok (.aload_n 0, 1) := by decide +kernel
theorem dX12_named_135 : decode cX12_named 135 = .ok (.iload_n 2, 1) := by decide +kernel
theorem dX12_named_136 : decode cX12_named 136 = .ok (.iconst 3, 1) := by decide +kernel
theorem dX12_named_137 : decode cX12_named 137 = .ok (.invokevirtual 644, 3) := by decide +kernel
theorem dX12_named_140 : decode cX12_named 140 = .ok (.ifCond .eq 32, 3) := by decide +kernel
theorem dX12_named_143 : decode cX12_named 143 = .ok (.aload_n 0, 1) := by decide +kernel
theorem dX12_named_144 : decode cX12_named 144 = .ok (.getfield 138, 3) := by decide +kernel
theorem dX12_named_147 : decode cX12_named 147 = .ok (.iload_n 2, 1) := by decide +kernel
theorem dX12_named_148 : decode cX12_named 148 = .ok (.iaload, 1) := by decide +kernel
theorem dX12_named_149 : decode cX12_named 149 = .ok (.ifCond .ne 9, 3) := by decide +kernel
theorem dX12_named_152 : decode cX12_named 152 = .ok (.aload_n 0, 1) := by decide +kernel
theorem dX12_named_153 : decode cX12_named 153 = .ok (.iload_n 1, 1) := by decide +kernel
theorem dX12_named_154 : decode cX12_named 154 = .ok (.invokevirtual 648, 3) := by decide +kernel
theorem dX12_named_157 : decode cX12_named 157 = .ok (.ireturn, 1) := by decide +kernel
theorem dX12_named_158 : decode cX12_named 158 = .ok (.aload_n 0, 1) := by decide +kernel
theorem dX12_named_159 : decode cX12_named 159 = .ok (.iload_n 1, 1) := by decide +kernel
theorem dX12_named_160 : decode cX12_named 160 = .ok (.iload_n 2, 1) := by decide +kernel
theorem dX12_named_161 : decode cX12_named 161 = .ok (.iconst 1, 1) := by decide +kernel
theorem dX12_named_162 : decode cX12_named 162 = .ok (.invokevirtual 651, 3) := by decide +kernel
theorem dX12_named_165 : decode cX12_named 165 = .ok (.aload_n 0, 1) := by decide +kernel
theorem dX12_named_166 : decode cX12_named 166 = .ok (.getfield 138, 3) := by decide +kernel
theorem dX12_named_169 : decode cX12_named 169 = .ok (.iload_n 2, 1) := by decide +kernel
theorem dX12_named_170 : decode cX12_named 170 = .ok (.iaload, 1) := by decide +kernel
theorem dX12_named_171 : decode cX12_named 171 = .ok (.ireturn, 1) := by decide +kernel
theorem dX12_named_172 : decode cX12_named 172 = .ok (.aload_n 0, 1) := by decide +kernel
theorem dX12_named_173 : decode cX12_named 173 = .ok (.getfield 135, 3) := by decide +kernel
theorem dX12_named_176 : decode cX12_named 176 = .ok (.iload_n 2, 1) := by decide +kernel
theorem dX12_named_177 : decode cX12_named 177 = .ok (.iaload, 1) := by decide +kernel
theorem dX12_named_178 : decode cX12_named 178 = .ok (.bipush 6, 2) := by decide +kernel
theorem dX12_named_180 : decode cX12_named 180 = .ok (.if_icmp .ne 16, 3) := by decide +kernel
theorem dX12_named_183 : decode cX12_named 183 = .ok (.aload_n 0, 1) := by decide +kernel
theorem dX12_named_184 : decode cX12_named 184 = .ok (.getfield 150, 3) := by decide +kernel
theorem dX12_named_187 : decode cX12_named 187 = .ok (.iload_n 2, 1) := by decide +kernel
theorem dX12_named_188 : decode cX12_named 188 = .ok (.iaload, 1) := by decide +kernel
theorem dX12_named_189 : decode cX12_named 189 = .ok (.ifCond .ne 7, 3) := by decide +kernel
theorem dX12_named_192 : decode cX12_named 192 = .ok (.iconst 0, 1) := by decide +kernel
theorem dX12_named_193 : decode cX12_named 193 = .ok (.goto 8, 3) := by decide +kernel
theorem dX12_named_196 : decode cX12_named 196 = .ok (.aload_n 0, 1) := by decide +kernel
theorem dX12_named_197 : decode cX12_named 197 = .ok (.iload_n 1, 1) := by decide +kernel
theorem dX12_named_198 : decode cX12_named 198 = .ok (.invokevirtual 648, 3) := by decide +kernel
theorem dX12_named_201 : decode cX12_named 201 = .ok (.ireturn, 1) := by decide +kernel
def fX12_named_143 (a1 : Int32) (a2 : Int32) (w : Wd) : Option (Int32 × Wd) :=
  if inb a2 5000 = true then if (gi w 20 (Int32.toNatClampNeg a2)) = 0 then (bn2 (fX12_wrongName a1 w) fun x3 w4 => some (x3, w4)) else (bn (fX12_alone a1 a2 1 w) fun w5 => if inb a2 5000 = true then some ((gi w5 20 (Int32.toNatClampNeg a2)), w5) else none) else none
theorem pX12_named_143 {q : Gq} {l : Launch} {N : Option Value → Wd → Prop} {X : String → Wd → Prop} {w : Wd} {R : Int32 × Wd} (hN : N (some (.int R.1)) R.2) {a1 : Int32} {a2 : Int32} (h : fX12_named_143 a1 a2 w = some R) : RT (GM q) l 4 yX12_named cX12_named 4 ((some .int)) N X 143 [] [(0, .ref 0), (1, .int a1), (2, .int a2)] w := by
  unfold fX12_named_143 at h
  refine r_aload_n (pc := 143) dX12_named_143 rfl 0 rfl ?_
  refine r_get (pc := 144) (j := 33) (v := .ref 20) oM0 cf12 flRX12_138 rfl dX12_named_144 rfl ?_
  refine r_iload_n (pc := 147) dX12_named_147 rfl 2 rfl ?_
  replace h := if_n h; obtain ⟨hb1, h⟩ := h
  refine r_iald (pc := 148) aM20 (inb_in hb1) dX12_named_148 ?_
  refine r_if_ne (pc := 149) dX12_named_149 rfl (fun hc2 => ?_) (fun hc2 => ?_)
  · replace h := if_f hc2 h
    refine r_aload_n (pc := 158) dX12_named_158 rfl 0 rfl ?_
    refine r_iload_n (pc := 159) dX12_named_159 rfl 1 rfl ?_
    refine r_iload_n (pc := 160) dX12_named_160 rfl 2 rfl ?_
    refine r_iconst (pc := 161) dX12_named_161 ki_1 ?_
    replace h := bn_e h; obtain ⟨w5, ew5, h⟩ := h
    refine r_cVv (pc := 162) wyX12_alone oM0 rfl mlRX12_651 iyX12_alone syX12_alone ⟨(Nat.le_of_ble_eq_true rfl), (Nat.le_of_ble_eq_true rfl)⟩ rfl rfl (Nat.le_of_ble_eq_true rfl) dX12_named_162 (mX12_alone ew5 (pV.mk ?_))
    refine r_aload_n (pc := 165) dX12_named_165 rfl 0 rfl ?_
    refine r_get (pc := 166) (j := 33) (v := .ref 20) oM0 cf12 flRX12_138 rfl dX12_named_166 rfl ?_
    refine r_iload_n (pc := 169) dX12_named_169 rfl 2 rfl ?_
    replace h := if_n h; obtain ⟨hb6, h⟩ := h
    refine r_iald (pc := 170) aM20 (inb_in hb6) dX12_named_170 ?_
    exact rO_i (pc := 171) rfl dX12_named_171 h hN
  replace h := if_t hc2 h
  refine r_aload_n (pc := 152) dX12_named_152 rfl 0 rfl ?_
  refine r_iload_n (pc := 153) dX12_named_153 rfl 1 rfl ?_
  replace h := bn2_e h; obtain ⟨x3, w4, ew4, h⟩ := h
  refine r_cVi (pc := 154) wyX12_wrongName oM0 rfl mlRX12_648 iyX12_wrongName syX12_wrongName ⟨(Nat.le_of_ble_eq_true rfl), (Nat.le_of_ble_eq_true rfl)⟩ rfl rfl (Nat.le_of_ble_eq_true rfl) dX12_named_154 (mX12_wrongName ew4 (pI.mk ?_))
  exact rO_i (pc := 157) rfl dX12_named_157 h hN
def fX12_named_42 (s1 : Int32) (s2 : Int32) (a2 : Int32) (w : Wd) : Option (Int32 × Wd) :=
  if inb a2 5000 = true then bn2 (fX12_op s1 s2 (gi w 26 (Int32.toNatClampNeg a2)) 0 w) fun x2 w3 => if inb a2 5000 = true then some ((gi w3 20 (Int32.toNatClampNeg a2)), w3) else none else none
theorem pX12_named_42 {q : Gq} {l : Launch} {N : Option Value → Wd → Prop} {X : String → Wd → Prop} {w : Wd} {R : Int32 × Wd} (hN : N (some (.int R.1)) R.2) {s1 : Int32} {s2 : Int32} {a2 : Int32} (h : fX12_named_42 s1 s2 a2 w = some R) : RT (GM q) l 4 yX12_named cX12_named 4 ((some .int)) N X 42 [.int s2, .int s1, .ref 0] [(0, .ref 0), (2, .int a2)] w := by
  unfold fX12_named_42 at h
  refine r_aload_n (pc := 42) dX12_named_42 rfl 0 rfl ?_
  refine r_get (pc := 43) (j := 39) (v := .ref 26) oM0 cf12 flRX12_156 rfl dX12_named_43 rfl ?_
  refine r_iload_n (pc := 46) dX12_named_46 rfl 1 rfl ?_
  replace h := if_n h; obtain ⟨hb1, h⟩ := h
  refine r_iald (pc := 47) aM26 (inb_in hb1) dX12_named_47 ?_
  refine r_iconst (pc := 48) dX12_named_48 ki_0 ?_
  replace h := bn2_e h; obtain ⟨x2, w3, ew3, h⟩ := h
  refine r_cVi (pc := 49) wyX12_op oM0 rfl mlRX12_609 iyX12_op syX12_op ⟨(Nat.le_of_ble_eq_true rfl), (Nat.le_of_ble_eq_true rfl)⟩ rfl rfl (Nat.le_of_ble_eq_true rfl) dX12_named_49 (mX12_op ew3 (pI.mk ?_))
  refine r_istore_n (pc := 52) (loc' := [(3, .int x2), (0, .ref 0), (2, .int a2)]) dX12_named_52 rfl (Nat.le_of_ble_eq_true rfl) rfl ?_
  refine r_aload_n (pc := 53) dX12_named_53 rfl 1 rfl ?_
  refine r_get (pc := 54) (j := 33) (v := .ref 20) oM0 cf12 flRX12_138 rfl dX12_named_54 rfl ?_
  refine r_iload_n (pc := 57) dX12_named_57 rfl 2 rfl ?_
  replace h := if_n h; obtain ⟨hb4, h⟩ := h
  refine r_iald (pc := 58) aM20 (inb_in hb4) dX12_named_58 ?_
  exact rO_i (pc := 59) rfl dX12_named_59 h hN
def fX12_named (a1 : Int32) (w : Wd) : Option (Int32 × Wd) :=
  bn2 (fX12_seen a1 w) fun x1 w2 => if 0 ≤ x1 then (if inb x1 5000 = true then if (gi w2 19 (Int32.toNatClampNeg x1)) = 1 then (if inb x1 5000 = true then if (gi w2 27 (Int32.toNatClampNeg x1)) = 0 then (bn2 (fX12_up x1 w2) fun x8 w9 => fX12_named_42 2 x8 x1 w9) else (fX12_named_42 2 (-1) x1 w2) else none) else (bn2 (fX12_isFormal x1 1 w2) fun x10 w11 => if x10 = true then (if inb x1 5000 = true then if (gi w11 28 (Int32.toNatClampNeg x1)) = 0 then (bn2 (fX12_up x1 w11) fun x15 w16 => if inb x1 5000 = true then bn2 (fX12_op 4 x15 (gi w16 26 (Int32.toNatClampNeg x1)) 0 w16) fun x18 w19 => if inb x1 5000 = true then some ((gi w19 20 (Int32.toNatClampNeg x1)), w19) else none else none) else (bn2 (fX12_up x1 w11) fun x21 w22 => if inb x1 5000 = true then bn2 (fX12_op 2 x21 (gi w22 26 (Int32.toNatClampNeg x1)) 0 w22) fun x24 w25 => if inb x1 5000 = true then some ((gi w25 20 (Int32.toNatClampNeg x1)), w25) else none else none) else none) else (if inb x1 5000 = true then if (gi w11 19 (Int32.toNatClampNeg x1)) = 3 then (fX12_named_143 a1 x1 w11) else (bn2 (fX12_isFormal x1 3 w11) fun x29 w30 => if x29 = true then (fX12_named_143 a1 x1 w30) else (if inb x1 5000 = true then if (gi w30 19 (Int32.toNatClampNeg x1)) = 6 then (if inb x1 5000 = true then if (gi w30 24 (Int32.toNatClampNeg x1)) = 0 then (some (0, w30)) else (bn2 (fX12_wrongName a1 w30) fun x36 w37 => some (x36, w37)) else none) else (bn2 (fX12_wrongName a1 w30) fun x38 w39 => some (x38, w39)) else none)) else none)) else none) else (some (0, w2))
set_option maxHeartbeats 16000000 in
theorem pX12_named {q : Gq} {l : Launch} {N : Option Value → Wd → Prop} {X : String → Wd → Prop} {w : Wd} {R : Int32 × Wd} (hN : N (some (.int R.1)) R.2) {a1 : Int32} (h : fX12_named a1 w = some R) : RT (GM q) l 4 yX12_named cX12_named 4 ((some .int)) N X 0 [] [(0, .ref 0), (1, .int a1)] w := by
  unfold fX12_named at h
  refine r_aload_n (pc := 0) dX12_named_0 rfl 0 rfl ?_
  refine r_iload_n (pc := 1) dX12_named_1 rfl 1 rfl ?_
  replace h := bn2_e h; obtain ⟨x1, w2, ew2, h⟩ := h
  refine r_cVi (pc := 2) wyX12_seen oM0 rfl mlRX12_638 iyX12_seen syX12_seen ⟨(Nat.le_of_ble_eq_true rfl), (Nat.le_of_ble_eq_true rfl)⟩ rfl rfl (Nat.le_of_ble_eq_true rfl) dX12_named_2 (mX12_seen ew2 (pI.mk ?_))
  refine r_istore_n (pc := 5) (loc' := [(2, .int x1), (0, .ref 0), (1, .int a1)]) dX12_named_5 rfl (Nat.le_of_ble_eq_true rfl) rfl ?_
  refine r_iload_n (pc := 6) dX12_named_6 rfl 0 rfl ?_
  refine r_if_ge (pc := 7) dX12_named_7 rfl (fun hc3 => ?_) (fun hc3 => ?_)
  · replace h := if_t hc3 h
    refine r_aload_n (pc := 12) dX12_named_12 rfl 1 rfl ?_
    refine r_get (pc := 13) (j := 32) (v := .ref 19) oM0 cf12 flRX12_135 rfl dX12_named_13 rfl ?_
    refine r_iload_n (pc := 16) dX12_named_16 rfl 0 rfl ?_
    replace h := if_n h; obtain ⟨hb4, h⟩ := h
    refine r_iald (pc := 17) aM19 (inb_in hb4) dX12_named_17 ?_
    refine r_iconst (pc := 18) dX12_named_18 ki_1 ?_
    refine r_icmp_ne (pc := 19) dX12_named_19 rfl (fun hc5 => ?_) (fun hc5 => ?_)
    · replace h := if_f hc5 h
      refine r_aload_n (pc := 60) dX12_named_60 rfl 1 rfl ?_
      refine r_iload_n (pc := 61) dX12_named_61 rfl 0 rfl ?_
      refine r_iconst (pc := 62) dX12_named_62 ki_1 ?_
      replace h := bn2_e h; obtain ⟨x10, w11, ew11, h⟩ := h
      refine r_cVi (pc := 63) wyX12_isFormal oM0 rfl mlRX12_644 iyX12_isFormal syX12_isFormal ⟨(Nat.le_of_ble_eq_true rfl), (Nat.le_of_ble_eq_true rfl)⟩ rfl rfl (Nat.le_of_ble_eq_true rfl) dX12_named_63 (mX12_isFormal ew11 (pI.mk ?_))
      refine r_z_eq (pc := 66) dX12_named_66 rfl (fun hc12 => ?_) (fun hc12 => ?_)
      · replace h := if_f hc12 h
        refine r_aload_n (pc := 124) dX12_named_124 rfl 1 rfl ?_
        refine r_get (pc := 125) (j := 32) (v := .ref 19) oM0 cf12 flRX12_135 rfl dX12_named_125 rfl ?_
        refine r_iload_n (pc := 128) dX12_named_128 rfl 0 rfl ?_
        replace h := if_n h; obtain ⟨hb27, h⟩ := h
        refine r_iald (pc := 129) aM19 (inb_in hb27) dX12_named_129 ?_
        refine r_iconst (pc := 130) dX12_named_130 ki_3 ?_
        refine r_icmp_eq (pc := 131) dX12_named_131 rfl (fun hc28 => ?_) (fun hc28 => ?_)
        · replace h := if_t hc28 h
          refine r_drop (loc' := [(0, .ref 0), (1, .int a1), (2, .int x1)]) [1, 2, 0] rfl ?_
          exact pX12_named_143 hN h
        replace h := if_f hc28 h
        refine r_aload_n (pc := 134) dX12_named_134 rfl 1 rfl ?_
        refine r_iload_n (pc := 135) dX12_named_135 rfl 0 rfl ?_
        refine r_iconst (pc := 136) dX12_named_136 ki_3 ?_
        replace h := bn2_e h; obtain ⟨x29, w30, ew30, h⟩ := h
        refine r_cVi (pc := 137) wyX12_isFormal oM0 rfl mlRX12_644 iyX12_isFormal syX12_isFormal ⟨(Nat.le_of_ble_eq_true rfl), (Nat.le_of_ble_eq_true rfl)⟩ rfl rfl (Nat.le_of_ble_eq_true rfl) dX12_named_137 (mX12_isFormal ew30 (pI.mk ?_))
        refine r_z_eq (pc := 140) dX12_named_140 rfl (fun hc31 => ?_) (fun hc31 => ?_)
        · replace h := if_f hc31 h
          refine r_aload_n (pc := 172) dX12_named_172 rfl 1 rfl ?_
          refine r_get (pc := 173) (j := 32) (v := .ref 19) oM0 cf12 flRX12_135 rfl dX12_named_173 rfl ?_
          refine r_iload_n (pc := 176) dX12_named_176 rfl 0 rfl ?_
          replace h := if_n h; obtain ⟨hb32, h⟩ := h
          refine r_iald (pc := 177) aM19 (inb_in hb32) dX12_named_177 ?_
          refine r_bipush (pc := 178) dX12_named_178 kb_6 ?_
          refine r_icmp_ne (pc := 180) dX12_named_180 rfl (fun hc33 => ?_) (fun hc33 => ?_)
          · replace h := if_f hc33 h
            refine r_aload_n (pc := 196) dX12_named_196 rfl 1 rfl ?_
            refine r_iload_n (pc := 197) dX12_named_197 rfl 2 rfl ?_
            replace h := bn2_e h; obtain ⟨x38, w39, ew39, h⟩ := h
            refine r_cVi (pc := 198) wyX12_wrongName oM0 rfl mlRX12_648 iyX12_wrongName syX12_wrongName ⟨(Nat.le_of_ble_eq_true rfl), (Nat.le_of_ble_eq_true rfl)⟩ rfl rfl (Nat.le_of_ble_eq_true rfl) dX12_named_198 (mX12_wrongName ew39 (pI.mk ?_))
            exact rO_i (pc := 201) rfl dX12_named_201 h hN
          replace h := if_t hc33 h
          refine r_aload_n (pc := 183) dX12_named_183 rfl 1 rfl ?_
          refine r_get (pc := 184) (j := 37) (v := .ref 24) oM0 cf12 flRX12_150 rfl dX12_named_184 rfl ?_
          refine r_iload_n (pc := 187) dX12_named_187 rfl 0 rfl ?_
          replace h := if_n h; obtain ⟨hb34, h⟩ := h
          refine r_iald (pc := 188) aM24 (inb_in hb34) dX12_named_188 ?_
          refine r_if_ne (pc := 189) dX12_named_189 rfl (fun hc35 => ?_) (fun hc35 => ?_)
          · replace h := if_f hc35 h
            refine r_aload_n (pc := 196) dX12_named_196 rfl 1 rfl ?_
            refine r_iload_n (pc := 197) dX12_named_197 rfl 2 rfl ?_
            replace h := bn2_e h; obtain ⟨x36, w37, ew37, h⟩ := h
            refine r_cVi (pc := 198) wyX12_wrongName oM0 rfl mlRX12_648 iyX12_wrongName syX12_wrongName ⟨(Nat.le_of_ble_eq_true rfl), (Nat.le_of_ble_eq_true rfl)⟩ rfl rfl (Nat.le_of_ble_eq_true rfl) dX12_named_198 (mX12_wrongName ew37 (pI.mk ?_))
            exact rO_i (pc := 201) rfl dX12_named_201 h hN
          replace h := if_t hc35 h
          refine r_iconst (pc := 192) dX12_named_192 ki_0 ?_
          refine r_goto (pc := 193) dX12_named_193 rfl ?_
          exact rO_i (pc := 201) rfl dX12_named_201 h hN
        replace h := if_t hc31 h
        refine r_drop (loc' := [(0, .ref 0), (1, .int a1), (2, .int x1)]) [1, 2, 0] rfl ?_
        exact pX12_named_143 hN h
      replace h := if_t hc12 h
      refine r_aload_n (pc := 69) dX12_named_69 rfl 1 rfl ?_
      refine r_get (pc := 70) (j := 41) (v := .ref 28) oM0 cf12 flRX12_163 rfl dX12_named_70 rfl ?_
      refine r_iload_n (pc := 73) dX12_named_73 rfl 0 rfl ?_
      replace h := if_n h; obtain ⟨hb13, h⟩ := h
      refine r_zald (pc := 74) aM28 (inb_in hb13) dX12_named_74 ?_
      refine r_if_eq (pc := 75) dX12_named_75 rfl (fun hc14 => ?_) (fun hc14 => ?_)
      · replace h := if_t hc14 h
        refine r_aload_n (pc := 99) dX12_named_99 rfl 1 rfl ?_
        refine r_iconst (pc := 100) dX12_named_100 ki_4 ?_
        refine r_aload_n (pc := 101) dX12_named_101 rfl 1 rfl ?_
        refine r_iload_n (pc := 102) dX12_named_102 rfl 0 rfl ?_
        replace h := bn2_e h; obtain ⟨x15, w16, ew16, h⟩ := h
        refine r_cVi (pc := 103) wyX12_up oM0 rfl mlRX12_641 iyX12_up syX12_up ⟨(Nat.le_of_ble_eq_true rfl), (Nat.le_of_ble_eq_true rfl)⟩ rfl rfl (Nat.le_of_ble_eq_true rfl) dX12_named_103 (mX12_up ew16 (pI.mk ?_))
        refine r_aload_n (pc := 106) dX12_named_106 rfl 1 rfl ?_
        refine r_get (pc := 107) (j := 39) (v := .ref 26) oM0 cf12 flRX12_156 rfl dX12_named_107 rfl ?_
        refine r_iload_n (pc := 110) dX12_named_110 rfl 0 rfl ?_
        replace h := if_n h; obtain ⟨hb17, h⟩ := h
        refine r_iald (pc := 111) aM26 (inb_in hb17) dX12_named_111 ?_
        refine r_iconst (pc := 112) dX12_named_112 ki_0 ?_
        replace h := bn2_e h; obtain ⟨x18, w19, ew19, h⟩ := h
        refine r_cVi (pc := 113) wyX12_op oM0 rfl mlRX12_609 iyX12_op syX12_op ⟨(Nat.le_of_ble_eq_true rfl), (Nat.le_of_ble_eq_true rfl)⟩ rfl rfl (Nat.le_of_ble_eq_true rfl) dX12_named_113 (mX12_op ew19 (pI.mk ?_))
        refine r_istore_n (pc := 116) (loc' := [(3, .int x18), (2, .int x1), (0, .ref 0), (1, .int a1)]) dX12_named_116 rfl (Nat.le_of_ble_eq_true rfl) rfl ?_
        refine r_aload_n (pc := 117) dX12_named_117 rfl 2 rfl ?_
        refine r_get (pc := 118) (j := 33) (v := .ref 20) oM0 cf12 flRX12_138 rfl dX12_named_118 rfl ?_
        refine r_iload_n (pc := 121) dX12_named_121 rfl 1 rfl ?_
        replace h := if_n h; obtain ⟨hb20, h⟩ := h
        refine r_iald (pc := 122) aM20 (inb_in hb20) dX12_named_122 ?_
        exact rO_i (pc := 123) rfl dX12_named_123 h hN
      replace h := if_f hc14 h
      refine r_aload_n (pc := 78) dX12_named_78 rfl 1 rfl ?_
      refine r_iconst (pc := 79) dX12_named_79 ki_2 ?_
      refine r_aload_n (pc := 80) dX12_named_80 rfl 1 rfl ?_
      refine r_iload_n (pc := 81) dX12_named_81 rfl 0 rfl ?_
      replace h := bn2_e h; obtain ⟨x21, w22, ew22, h⟩ := h
      refine r_cVi (pc := 82) wyX12_up oM0 rfl mlRX12_641 iyX12_up syX12_up ⟨(Nat.le_of_ble_eq_true rfl), (Nat.le_of_ble_eq_true rfl)⟩ rfl rfl (Nat.le_of_ble_eq_true rfl) dX12_named_82 (mX12_up ew22 (pI.mk ?_))
      refine r_aload_n (pc := 85) dX12_named_85 rfl 1 rfl ?_
      refine r_get (pc := 86) (j := 39) (v := .ref 26) oM0 cf12 flRX12_156 rfl dX12_named_86 rfl ?_
      refine r_iload_n (pc := 89) dX12_named_89 rfl 0 rfl ?_
      replace h := if_n h; obtain ⟨hb23, h⟩ := h
      refine r_iald (pc := 90) aM26 (inb_in hb23) dX12_named_90 ?_
      refine r_iconst (pc := 91) dX12_named_91 ki_0 ?_
      replace h := bn2_e h; obtain ⟨x24, w25, ew25, h⟩ := h
      refine r_cVi (pc := 92) wyX12_op oM0 rfl mlRX12_609 iyX12_op syX12_op ⟨(Nat.le_of_ble_eq_true rfl), (Nat.le_of_ble_eq_true rfl)⟩ rfl rfl (Nat.le_of_ble_eq_true rfl) dX12_named_92 (mX12_op ew25 (pI.mk ?_))
      refine r_istore_n (pc := 95) (loc' := [(3, .int x24), (2, .int x1), (0, .ref 0), (1, .int a1)]) dX12_named_95 rfl (Nat.le_of_ble_eq_true rfl) rfl ?_
      refine r_goto (pc := 96) dX12_named_96 rfl ?_
      refine r_aload_n (pc := 117) dX12_named_117 rfl 2 rfl ?_
      refine r_get (pc := 118) (j := 33) (v := .ref 20) oM0 cf12 flRX12_138 rfl dX12_named_118 rfl ?_
      refine r_iload_n (pc := 121) dX12_named_121 rfl 1 rfl ?_
      replace h := if_n h; obtain ⟨hb26, h⟩ := h
      refine r_iald (pc := 122) aM20 (inb_in hb26) dX12_named_122 ?_
      exact rO_i (pc := 123) rfl dX12_named_123 h hN
    replace h := if_t hc5 h
    refine r_aload_n (pc := 22) dX12_named_22 rfl 1 rfl ?_
    refine r_iconst (pc := 23) dX12_named_23 ki_2 ?_
    refine r_aload_n (pc := 24) dX12_named_24 rfl 1 rfl ?_
    refine r_get (pc := 25) (j := 40) (v := .ref 27) oM0 cf12 flRX12_159 rfl dX12_named_25 rfl ?_
    refine r_iload_n (pc := 28) dX12_named_28 rfl 0 rfl ?_
    replace h := if_n h; obtain ⟨hb6, h⟩ := h
    refine r_zald (pc := 29) aM27 (inb_in hb6) dX12_named_29 ?_
    refine r_if_eq (pc := 30) dX12_named_30 rfl (fun hc7 => ?_) (fun hc7 => ?_)
    · replace h := if_t hc7 h
      refine r_aload_n (pc := 37) dX12_named_37 rfl 1 rfl ?_
      refine r_iload_n (pc := 38) dX12_named_38 rfl 0 rfl ?_
      replace h := bn2_e h; obtain ⟨x8, w9, ew9, h⟩ := h
      refine r_cVi (pc := 39) wyX12_up oM0 rfl mlRX12_641 iyX12_up syX12_up ⟨(Nat.le_of_ble_eq_true rfl), (Nat.le_of_ble_eq_true rfl)⟩ rfl rfl (Nat.le_of_ble_eq_true rfl) dX12_named_39 (mX12_up ew9 (pI.mk ?_))
      refine r_drop (loc' := [(0, .ref 0), (2, .int x1)]) [1, 0] rfl ?_
      exact pX12_named_42 hN h
    replace h := if_f hc7 h
    refine r_iconst (pc := 33) dX12_named_33 ki_m1 ?_
    refine r_goto (pc := 34) dX12_named_34 rfl ?_
    refine r_drop (loc' := [(0, .ref 0), (2, .int x1)]) [1, 0] rfl ?_
    exact pX12_named_42 hN h
  replace h := if_f hc3 h
  refine r_iconst (pc := 10) dX12_named_10 ki_0 ?_
  exact rO_i (pc := 11) rfl dX12_named_11 h hN
theorem mX12_named {q : Gq} {l : Launch} {N : Option Value → Wd → Prop} {X : String → Wd → Prop} {a1 : Int32} {w : Wd} {x : Int32} {u : Wd} (h : fX12_named a1 w = some (x, u)) (hN : N (some (.int x)) u) : Ct (GM q) l 4 yX12_named cX12_named 4 ((some .int)) [.ref 0, .int a1] w N X := Ct.of (by decide) (Nat.le_of_ble_eq_true rfl) (pX12_named hN h)
/-! AlgolMillModel.inProcedure (I)Z: O, 0 -/
theorem dX12_inProcedure_0 : decode cX12_inProcedure 0 = .ok (.aload_n 0, 1) := by decide +kernel
theorem dX12_inProcedure_1 : decode cX12_inProcedure 1 = .ok (.getfield 664, 3) := by decide +kernel
theorem dX12_inProcedure_4 : decode cX12_inProcedure 4 = .ok (.istore_n 2, 1) := by decide +kernel
theorem dX12_inProcedure_5 : decode cX12_inProcedure 5 = .ok (.iload_n 2, 1) := by decide +kernel
theorem dX12_inProcedure_6 : decode cX12_inProcedure 6 = .ok (.ifCond .le 20, 3) := by decide +kernel
theorem dX12_inProcedure_9 : decode cX12_inProcedure 9 = .ok (.iload_n 2, 1) := by decide +kernel
theorem dX12_inProcedure_10 : decode cX12_inProcedure 10 = .ok (.iload_n 1, 1) := by decide +kernel
theorem dX12_inProcedure_11 : decode cX12_inProcedure 11 = .ok (.if_icmp .ne 5, 3) := by decide +kernel
theorem dX12_inProcedure_14 : decode cX12_inProcedure 14 = .ok (.iconst 1, 1) := by decide +kernel
theorem dX12_inProcedure_15 : decode cX12_inProcedure 15 = .ok (.ireturn, 1) := by decide +kernel
theorem dX12_inProcedure_16 : decode cX12_inProcedure 16 = .ok (.aload_n 0, 1) := by decide +kernel
theorem dX12_inProcedure_17 : decode cX12_inProcedure 17 = .ok (.getfield 190, 3) := by decide +kernel
theorem dX12_inProcedure_20 : decode cX12_inProcedure 20 = .ok (.iload_n 2, 1) := by decide +kernel
theorem dX12_inProcedure_21 : decode cX12_inProcedure 21 = .ok (.iaload, 1) := by decide +kernel
theorem dX12_inProcedure_22 : decode cX12_inProcedure 22 = .ok (.istore_n 2, 1) := by decide +kernel
theorem dX12_inProcedure_23 : decode cX12_inProcedure 23 = .ok (.goto (-18), 3) := by decide +kernel
theorem dX12_inProcedure_26 : decode cX12_inProcedure 26 = .ok (.iconst 0, 1) := by decide +kernel
theorem dX12_inProcedure_27 : decode cX12_inProcedure 27 = .ok (.ireturn, 1) := by decide +kernel
def fX12_inProcedure_5 (k_5 : Int32 → Int32 → Wd → Option (Bool × Wd)) (a1 : Int32) (a2 : Int32) (w : Wd) : Option (Bool × Wd) :=
  if a2 ≤ 0 then (some (false, w)) else (if a2 = a1 then (some (true, w)) else (if inb a2 1200 = true then lt ((gi w 37 (Int32.toNatClampNeg a2))) fun x4 => k_5 a1 x4 w else none))
theorem pX12_inProcedure_5 {q : Gq} {l : Launch} {N : Option Value → Wd → Prop} {X : String → Wd → Prop} {w : Wd} {R : Bool × Wd} (hN : N (some (.int (b2i R.1))) R.2) {k_5 : Int32 → Int32 → Wd → Option (Bool × Wd)} (hk_5 : ∀ (a1 : Int32) (a2 : Int32) (w : Wd), k_5 a1 a2 w = some R → RT (GM q) l 0 yX12_inProcedure cX12_inProcedure 3 ((some .boolean)) N X 5 [] [(0, .ref 0), (1, .int a1), (2, .int a2)] w) {a1 : Int32} {a2 : Int32} (h : fX12_inProcedure_5 k_5 a1 a2 w = some R) : RT (GM q) l 0 yX12_inProcedure cX12_inProcedure 3 ((some .boolean)) N X 5 [] [(0, .ref 0), (1, .int a1), (2, .int a2)] w := by
  unfold fX12_inProcedure_5 at h
  refine r_iload_n (pc := 5) dX12_inProcedure_5 rfl 2 rfl ?_
  refine r_if_le (pc := 6) dX12_inProcedure_6 rfl (fun hc1 => ?_) (fun hc1 => ?_)
  · replace h := if_t hc1 h
    refine r_iconst (pc := 26) dX12_inProcedure_26 ki_0 ?_
    exact rO_z (pc := 27) (x := false) rfl dX12_inProcedure_27 h hN
  replace h := if_f hc1 h
  refine r_iload_n (pc := 9) dX12_inProcedure_9 rfl 2 rfl ?_
  refine r_iload_n (pc := 10) dX12_inProcedure_10 rfl 1 rfl ?_
  refine r_icmp_ne (pc := 11) dX12_inProcedure_11 rfl (fun hc2 => ?_) (fun hc2 => ?_)
  · replace h := if_f hc2 h
    refine r_aload_n (pc := 16) dX12_inProcedure_16 rfl 0 rfl ?_
    refine r_get (pc := 17) (j := 51) (v := .ref 37) oM0 cf12 flRX12_190 rfl dX12_inProcedure_17 rfl ?_
    refine r_iload_n (pc := 20) dX12_inProcedure_20 rfl 2 rfl ?_
    replace h := if_n h; obtain ⟨hb3, h⟩ := h
    refine r_iald (pc := 21) aM37 (inb_in hb3) dX12_inProcedure_21 ?_
    replace h := lt_e h; obtain ⟨x4, ex4, h⟩ := h
    refine r_topi ex4 ?_
    refine r_istore_n (pc := 22) (loc' := [(2, .int x4), (0, .ref 0), (1, .int a1)]) dX12_inProcedure_22 rfl (Nat.le_of_ble_eq_true rfl) rfl ?_
    refine r_goto (pc := 23) dX12_inProcedure_23 rfl ?_
    refine r_drop (loc' := [(0, .ref 0), (1, .int a1), (2, .int x4)]) [1, 2, 0] rfl ?_
    exact hk_5 a1 x4 w h
  replace h := if_t hc2 h
  refine r_iconst (pc := 14) dX12_inProcedure_14 ki_1 ?_
  exact rO_z (pc := 15) (x := true) rfl dX12_inProcedure_15 h hN
def oX12_inProcedure_5 : Nat → Int32 → Int32 → Wd → Option (Bool × Wd)
  | 0 => fun _ _ _ => none
  | n + 1 => fX12_inProcedure_5 (oX12_inProcedure_5 n)
theorem qX12_inProcedure_5 {q : Gq} {l : Launch} {N : Option Value → Wd → Prop} {X : String → Wd → Prop} {R : Bool × Wd} (hN : N (some (.int (b2i R.1))) R.2) : ∀ (n : Nat) (a1 : Int32) (a2 : Int32) (w : Wd), oX12_inProcedure_5 n a1 a2 w = some R → RT (GM q) l 0 yX12_inProcedure cX12_inProcedure 3 ((some .boolean)) N X 5 [] [(0, .ref 0), (1, .int a1), (2, .int a2)] w := by
  intro n
  induction n with
  | zero =>
    intro a1 a2 w h
    exact absurd h (fun q => nomatch q)
  | succ n ih =>
    intro a1 a2 w h
    exact pX12_inProcedure_5 hN ih h
def fX12_inProcedure (a1 : Int32) (w : Wd) : Option (Bool × Wd) :=
  lt ((gi w 0 66)) fun x1 => oX12_inProcedure_5 FU a1 x1 w
theorem pX12_inProcedure {q : Gq} {l : Launch} {N : Option Value → Wd → Prop} {X : String → Wd → Prop} {w : Wd} {R : Bool × Wd} (hN : N (some (.int (b2i R.1))) R.2) {a1 : Int32} (h : fX12_inProcedure a1 w = some R) : RT (GM q) l 0 yX12_inProcedure cX12_inProcedure 3 ((some .boolean)) N X 0 [] [(0, .ref 0), (1, .int a1)] w := by
  unfold fX12_inProcedure at h
  refine r_aload_n (pc := 0) dX12_inProcedure_0 rfl 0 rfl ?_
  refine r_get (pc := 1) (j := 66) (v := .int (gi w 0 66)) oM0 cf12 flRX12_664 rfl dX12_inProcedure_1 rfl ?_
  replace h := lt_e h; obtain ⟨x1, ex1, h⟩ := h
  refine r_topi ex1 ?_
  refine r_istore_n (pc := 4) (loc' := [(2, .int x1), (0, .ref 0), (1, .int a1)]) dX12_inProcedure_4 rfl (Nat.le_of_ble_eq_true rfl) rfl ?_
  refine r_drop (loc' := [(0, .ref 0), (1, .int a1), (2, .int x1)]) [1, 2, 0] rfl ?_
  exact qX12_inProcedure_5 hN FU a1 x1 w h
theorem mX12_inProcedure {q : Gq} {l : Launch} {N : Option Value → Wd → Prop} {X : String → Wd → Prop} {a1 : Int32} {w : Wd} {x : Bool} {u : Wd} (h : fX12_inProcedure a1 w = some (x, u)) (hN : N (some (.int (b2i x))) u) : Ct (GM q) l 0 yX12_inProcedure cX12_inProcedure 3 ((some .boolean)) [.ref 0, .int a1] w N X := Ct.of (by decide) (Nat.le_of_ble_eq_true rfl) (pX12_inProcedure hN h)
/-! AlgolMillModel.newThunk (I)I: O, 0 -/
theorem dX12_newThunk_0 : decode cX12_newThunk 0 = .ok (.aload_n 0, 1) := by decide +kernel
theorem dX12_newThunk_1 : decode cX12_newThunk 1 = .ok (.getfield 221, 3) := by decide +kernel
theorem dX12_newThunk_4 : decode cX12_newThunk 4 = .ok (.aload_n 0, 1) := by decide +kernel
theorem dX12_newThunk_5 : decode cX12_newThunk 5 = .ok (.getfield 691, 3) := by decide +kernel
theorem dX12_newThunk_8 : decode cX12_newThunk 8 = .ok (.aload_n 0, 1) := by decide +kernel
theorem dX12_newThunk_9 : decode cX12_newThunk 9 = .ok (.getfield 596, 3) := by decide +kernel
theorem dX12_newThunk_12 : decode cX12_newThunk 12 = .ok (.iastore, 1) := by decide +kernel
theorem dX12_newThunk_13 : decode cX12_newThunk 13 = .ok (.aload_n 0, 1) := by decide +kernel
theorem dX12_newThunk_14 : decode cX12_newThunk 14 = .ok (.getfield 224, 3) := by decide +kernel
theorem dX12_newThunk_17 : decode cX12_newThunk 17 = .ok (.aload_n 0, 1) := by decide +kernel
theorem dX12_newThunk_18 : decode cX12_newThunk 18 = .ok (.getfield 691, 3) := by decide +kernel
theorem dX12_newThunk_21 : decode cX12_newThunk 21 = .ok (.iload_n 1, 1) := by decide +kernel
theorem dX12_newThunk_22 : decode cX12_newThunk 22 = .ok (.iastore, 1) := by decide +kernel
theorem dX12_newThunk_23 : decode cX12_newThunk 23 = .ok (.aload_n 0, 1) := by decide +kernel
theorem dX12_newThunk_24 : decode cX12_newThunk 24 = .ok (.dup, 1) := by decide +kernel
theorem dX12_newThunk_25 : decode cX12_newThunk 25 = .ok (.getfield 691, 3) := by decide +kernel
theorem dX12_newThunk_28 : decode cX12_newThunk 28 = .ok (.iconst 1, 1) := by decide +kernel
theorem dX12_newThunk_29 : decode cX12_newThunk 29 = .ok (.iadd, 1) := by decide +kernel
theorem dX12_newThunk_30 : decode cX12_newThunk 30 = .ok (.putfield 691, 3) := by decide +kernel
theorem dX12_newThunk_33 : decode cX12_newThunk 33 = .ok (.aload_n 0, 1) := by decide +kernel
theorem dX12_newThunk_34 : decode cX12_newThunk 34 = .ok (.getfield 691, 3) := by decide +kernel
theorem dX12_newThunk_37 : decode cX12_newThunk 37 = .ok (.iconst 1, 1) := by decide +kernel
theorem dX12_newThunk_38 : decode cX12_newThunk 38 = .ok (.isub, 1) := by decide +kernel
theorem dX12_newThunk_39 : decode cX12_newThunk 39 = .ok (.ireturn, 1) := by decide +kernel
def fX12_newThunk (a1 : Int32) (w : Wd) : Option (Int32 × Wd) :=
  if inb (gi w 0 69) 6000 = true then lt (si w 47 (Int32.toNatClampNeg (gi w 0 69)) (gi w 0 64)) fun w2 => if inb (gi w2 0 69) 6000 = true then lt (si w2 48 (Int32.toNatClampNeg (gi w2 0 69)) a1) fun w4 => lt (si w4 0 69 ((gi w4 0 69) + 1)) fun w5 => some (((gi w5 0 69) - 1), w5) else none else none
theorem pX12_newThunk {q : Gq} {l : Launch} {N : Option Value → Wd → Prop} {X : String → Wd → Prop} {w : Wd} {R : Int32 × Wd} (hN : N (some (.int R.1)) R.2) {a1 : Int32} (h : fX12_newThunk a1 w = some R) : RT (GM q) l 0 yX12_newThunk cX12_newThunk 2 ((some .int)) N X 0 [] [(0, .ref 0), (1, .int a1)] w := by
  unfold fX12_newThunk at h
  refine r_aload_n (pc := 0) dX12_newThunk_0 rfl 0 rfl ?_
  refine r_get (pc := 1) (j := 67) (v := .ref 47) oM0 cf12 flRX12_221 rfl dX12_newThunk_1 rfl ?_
  refine r_aload_n (pc := 4) dX12_newThunk_4 rfl 0 rfl ?_
  refine r_get (pc := 5) (j := 69) (v := .int (gi w 0 69)) oM0 cf12 flRX12_691 rfl dX12_newThunk_5 rfl ?_
  refine r_aload_n (pc := 8) dX12_newThunk_8 rfl 0 rfl ?_
  refine r_get (pc := 9) (j := 64) (v := .int (gi w 0 64)) oM0 cf12 flRX12_596 rfl dX12_newThunk_9 rfl ?_
  replace h := if_n h; obtain ⟨hb1, h⟩ := h
  replace h := lt_e h; obtain ⟨w2, ew2, h⟩ := h
  refine r_iast (pc := 12) aM47 (inb_in hb1) dX12_newThunk_12 ?_
  refine r_w ew2 ?_
  refine r_aload_n (pc := 13) dX12_newThunk_13 rfl 0 rfl ?_
  refine r_get (pc := 14) (j := 68) (v := .ref 48) oM0 cf12 flRX12_224 rfl dX12_newThunk_14 rfl ?_
  refine r_aload_n (pc := 17) dX12_newThunk_17 rfl 0 rfl ?_
  refine r_get (pc := 18) (j := 69) (v := .int (gi w2 0 69)) oM0 cf12 flRX12_691 rfl dX12_newThunk_18 rfl ?_
  refine r_iload_n (pc := 21) dX12_newThunk_21 rfl 1 rfl ?_
  replace h := if_n h; obtain ⟨hb3, h⟩ := h
  replace h := lt_e h; obtain ⟨w4, ew4, h⟩ := h
  refine r_iast (pc := 22) aM48 (inb_in hb3) dX12_newThunk_22 ?_
  refine r_w ew4 ?_
  refine r_aload_n (pc := 23) dX12_newThunk_23 rfl 0 rfl ?_
  refine r_dup (pc := 24) dX12_newThunk_24 rfl ?_
  refine r_get (pc := 25) (j := 69) (v := .int (gi w4 0 69)) oM0 cf12 flRX12_691 rfl dX12_newThunk_25 rfl ?_
  refine r_iconst (pc := 28) dX12_newThunk_28 ki_1 ?_
  refine r_iadd (pc := 29) dX12_newThunk_29 ?_
  replace h := lt_e h; obtain ⟨w5, ew5, h⟩ := h
  refine r_putI (pc := 30) (j := 69) oM0 cf12 flRX12_691 rfl rfl rfl rfl dX12_newThunk_30 ?_
  refine r_w ew5 ?_
  refine r_aload_n (pc := 33) dX12_newThunk_33 rfl 0 rfl ?_
  refine r_get (pc := 34) (j := 69) (v := .int (gi w5 0 69)) oM0 cf12 flRX12_691 rfl dX12_newThunk_34 rfl ?_
  refine r_iconst (pc := 37) dX12_newThunk_37 ki_1 ?_
  refine r_isub (pc := 38) dX12_newThunk_38 ?_
  exact rO_i (pc := 39) rfl dX12_newThunk_39 h hN
theorem mX12_newThunk {q : Gq} {l : Launch} {N : Option Value → Wd → Prop} {X : String → Wd → Prop} {a1 : Int32} {w : Wd} {x : Int32} {u : Wd} (h : fX12_newThunk a1 w = some (x, u)) (hN : N (some (.int x)) u) : Ct (GM q) l 0 yX12_newThunk cX12_newThunk 2 ((some .int)) [.ref 0, .int a1] w N X := Ct.of (by decide) (Nat.le_of_ble_eq_true rfl) (pX12_newThunk hN h)
