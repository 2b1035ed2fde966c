/-! the reference -/
/-! AlgolMillModel.forSlot (I)I: O, 0 -/
theorem dX12_forSlot_0 : decode cX12_forSlot 0 = .ok (.aload_n 0, 1) := by decide +kernel
theorem dX12_forSlot_1 : decode cX12_forSlot 1 = .ok (.getfield 184, 3) := by decide +kernel
theorem dX12_forSlot_4 : decode cX12_forSlot 4 = .ok (.aload_n 0, 1) := by decide +kernel
theorem dX12_forSlot_5 : decode cX12_forSlot 5 = .ok (.getfield 664, 3) := by decide +kernel
theorem dX12_forSlot_8 : decode cX12_forSlot 8 = .ok (.dup2, 1) := by decide +kernel
theorem dX12_forSlot_9 : decode cX12_forSlot 9 = .ok (.iaload, 1) := by decide +kernel
theorem dX12_forSlot_10 : decode cX12_forSlot 10 = .ok (.dup_x2, 1) := by decide +kernel
theorem dX12_forSlot_11 : decode cX12_forSlot 11 = .ok (.iconst 1, 1) := by decide +kernel
theorem dX12_forSlot_12 : decode cX12_forSlot 12 = .ok (.iadd, 1) := by decide +kernel
theorem dX12_forSlot_13 : decode cX12_forSlot 13 = .ok (.iastore, 1) := by decide +kernel
theorem dX12_forSlot_14 : decode cX12_forSlot 14 = .ok (.ireturn, 1) := by decide +kernel
def fX12_forSlot (a1 : Int32) (w : Wd) : Option (Int32 × Wd) :=
  if inb (gi w 0 66) 1200 = true then if inb (gi w 0 66) 1200 = true then lt (si w 35 (Int32.toNatClampNeg (gi w 0 66)) ((gi w 35 (Int32.toNatClampNeg (gi w 0 66))) + 1)) fun w3 => some ((gi w 35 (Int32.toNatClampNeg (gi w 0 66))), w3) else none else none
theorem pX12_forSlot {q : Gq} {l : Launch} {N : Option Value → Wd → Prop} {X : String → Wd → Prop} {w : Wd} {R : Int32 × Wd} (hN : N (some (.int R.1)) R.2) {a1 : Int32} (h : fX12_forSlot a1 w = some R) : RT (GM q) l 0 yX12_forSlot cX12_forSlot 2 ((some .int)) N X 0 [] [(0, .ref 0), (1, .int a1)] w := by
  unfold fX12_forSlot at h
  refine r_aload_n (pc := 0) dX12_forSlot_0 rfl 0 rfl ?_
  refine r_get (pc := 1) (j := 49) (v := .ref 35) oM0 cf12 flRX12_184 rfl dX12_forSlot_1 rfl ?_
  refine r_aload_n (pc := 4) dX12_forSlot_4 rfl 0 rfl ?_
  refine r_get (pc := 5) (j := 66) (v := .int (gi w 0 66)) oM0 cf12 flRX12_664 rfl dX12_forSlot_5 rfl ?_
  refine r_dup2 (pc := 8) dX12_forSlot_8 rfl rfl ?_
  replace h := if_n h; obtain ⟨hb1, h⟩ := h
  refine r_iald (pc := 9) aM35 (inb_in hb1) dX12_forSlot_9 ?_
  refine r_dup_x2 (pc := 10) dX12_forSlot_10 rfl rfl rfl ?_
  refine r_iconst (pc := 11) dX12_forSlot_11 ki_1 ?_
  refine r_iadd (pc := 12) dX12_forSlot_12 ?_
  replace h := if_n h; obtain ⟨hb2, h⟩ := h
  replace h := lt_e h; obtain ⟨w3, ew3, h⟩ := h
  refine r_iast (pc := 13) aM35 (inb_in hb2) dX12_forSlot_13 ?_
  refine r_w ew3 ?_
  exact rO_i (pc := 14) rfl dX12_forSlot_14 h hN
theorem mX12_forSlot {q : Gq} {l : Launch} {N : Option Value → Wd → Prop} {X : String → Wd → Prop} {a1 : Int32} {w : Wd} {x : Int32} {u : Wd} (h : fX12_forSlot a1 w = some (x, u)) (hN : N (some (.int x)) u) : Ct (GM q) l 0 yX12_forSlot cX12_forSlot 2 ((some .int)) [.ref 0, .int a1] w N X := Ct.of (by decide) (Nat.le_of_ble_eq_true rfl) (pX12_forSlot hN h)
/-! AlgolMillModel.target (I)I: O, 1706 -/
theorem dX12_target_0 : decode cX12_target 0 = .ok (.aload_n 0, 1) := by decide +kernel
theorem dX12_target_1 : decode cX12_target 1 = .ok (.getfield 709, 3) := by decide +kernel
theorem dX12_target_4 : decode cX12_target 4 = .ok (.ifCond .ge 10, 3) := by decide +kernel
theorem dX12_target_7 : decode cX12_target 7 = .ok (.aload_n 0, 1) := by decide +kernel
theorem dX12_target_8 : decode cX12_target 8 = .ok (.iload_n 1, 1) := by decide +kernel
theorem dX12_target_9 : decode cX12_target 9 = .ok (.iconst 1, 1) := by decide +kernel
theorem dX12_target_10 : decode cX12_target 10 = .ok (.invokevirtual 694, 3) := by decide +kernel
theorem dX12_target_13 : decode cX12_target 13 = .ok (.ireturn, 1) := by decide +kernel
theorem dX12_target_14 : decode cX12_target 14 = .ok (.aload_n 0, 1) := by decide +kernel
theorem dX12_target_15 : decode cX12_target 15 = .ok (.bipush 31, 2) := by decide +kernel
theorem dX12_target_17 : decode cX12_target 17 = .ok (.aload_n 0, 1) := by decide +kernel
theorem dX12_target_18 : decode cX12_target 18 = .ok (.getfield 709, 3) := by decide +kernel
theorem dX12_target_21 : decode cX12_target 21 = .ok (.iconst 0, 1) := by decide +kernel
theorem dX12_target_22 : decode cX12_target 22 = .ok (.iconst 0, 1) := by decide +kernel
theorem dX12_target_23 : decode cX12_target 23 = .ok (.invokevirtual 609, 3) := by decide +kernel
theorem dX12_target_26 : decode cX12_target 26 = .ok (.istore_n 2, 1) := by decide +kernel
theorem dX12_target_27 : decode cX12_target 27 = .ok (.aload_n 0, 1) := by decide +kernel
theorem dX12_target_28 : decode cX12_target 28 = .ok (.getfield 712, 3) := by decide +kernel
theorem dX12_target_31 : decode cX12_target 31 = .ok (.ireturn, 1) := by decide +kernel
def fX12_target (a1 : Int32) (w : Wd) : Option (Int32 × Wd) :=
  if 0 ≤ (gi w 0 85) then (bn2 (fX12_op 31 (gi w 0 85) 0 0 w) fun x2 w3 => some ((gi w3 0 86), w3)) else (bn2 (RX12_mustBe 1700 5 a1 1 0 w) fun x4 w5 => some (x4, w5))
theorem pX12_target {q : Gq} {l : Launch} {N : Option Value → Wd → Prop} {X : String → Wd → Prop} {w : Wd} {R : Int32 × Wd} (hN : N (some (.int R.1)) R.2) {a1 : Int32} (h : fX12_target a1 w = some R) : RT (GM q) l 1706 yX12_target cX12_target 3 ((some .int)) N X 0 [] [(0, .ref 0), (1, .int a1)] w := by
  unfold fX12_target at h
  refine r_aload_n (pc := 0) dX12_target_0 rfl 0 rfl ?_
  refine r_get (pc := 1) (j := 85) (v := .int (gi w 0 85)) oM0 cf12 flRX12_709 rfl dX12_target_1 rfl ?_
  refine r_if_ge (pc := 4) dX12_target_4 rfl (fun hc1 => ?_) (fun hc1 => ?_)
  · replace h := if_t hc1 h
    refine r_aload_n (pc := 14) dX12_target_14 rfl 0 rfl ?_
    refine r_bipush (pc := 15) dX12_target_15 kb_31 ?_
    refine r_aload_n (pc := 17) dX12_target_17 rfl 0 rfl ?_
    refine r_get (pc := 18) (j := 85) (v := .int (gi w 0 85)) oM0 cf12 flRX12_709 rfl dX12_target_18 rfl ?_
    refine r_iconst (pc := 21) dX12_target_21 ki_0 ?_
    refine r_iconst (pc := 22) dX12_target_22 ki_0 ?_
    replace h := bn2_e h; obtain ⟨x2, w3, ew3, h⟩ := h
    refine r_cVi (pc := 23) wyX12_op oM0 rfl mlRX12_609 iyX12_op syX12_op ⟨(Nat.le_of_ble_eq_true rfl), (Nat.le_of_ble_eq_true rfl)⟩ rfl rfl (Nat.le_of_ble_eq_true rfl) dX12_target_23 (mX12_op ew3 (pI.mk ?_))
    refine r_istore_n (pc := 26) (loc' := [(2, .int x2), (0, .ref 0), (1, .int a1)]) dX12_target_26 rfl (Nat.le_of_ble_eq_true rfl) rfl ?_
    refine r_aload_n (pc := 27) dX12_target_27 rfl 1 rfl ?_
    refine r_get (pc := 28) (j := 86) (v := .int (gi w3 0 86)) oM0 cf12 flRX12_712 rfl dX12_target_28 rfl ?_
    exact rO_i (pc := 31) rfl dX12_target_31 h hN
  replace h := if_f hc1 h
  refine r_aload_n (pc := 7) dX12_target_7 rfl 0 rfl ?_
  refine r_iload_n (pc := 8) dX12_target_8 rfl 1 rfl ?_
  refine r_iconst (pc := 9) dX12_target_9 ki_1 ?_
  replace h := bn2_e h; obtain ⟨x4, w5, ew5, h⟩ := h
  refine r_cVi (pc := 10) wyX12_place oM0 rfl mlRX12_694 iyX12_place syX12_place ⟨(Nat.le_of_ble_eq_true rfl), (Nat.le_of_ble_eq_true rfl)⟩ rfl rfl (Nat.le_of_ble_eq_true rfl) dX12_target_10 (mX12_place ew5 (pI.mk ?_))
  exact rO_i (pc := 13) rfl dX12_target_13 h hN
theorem mX12_target {q : Gq} {l : Launch} {N : Option Value → Wd → Prop} {X : String → Wd → Prop} {a1 : Int32} {w : Wd} {x : Int32} {u : Wd} (h : fX12_target a1 w = some (x, u)) (hN : N (some (.int x)) u) : Ct (GM q) l 1706 yX12_target cX12_target 3 ((some .int)) [.ref 0, .int a1] w N X := Ct.of (by decide) (Nat.le_of_ble_eq_true rfl) (pX12_target hN h)
/-! AlgolMillModel.read (I)I: O, 1707 -/
theorem dX12_read_0 : decode cX12_read 0 = .ok (.aload_n 0, 1) := by decide +kernel
theorem dX12_read_1 : decode cX12_read 1 = .ok (.getfield 709, 3) := by decide +kernel
theorem dX12_read_4 : decode cX12_read 4 = .ok (.ifCond .ge 9, 3) := by decide +kernel
theorem dX12_read_7 : decode cX12_read 7 = .ok (.aload_n 0, 1) := by decide +kernel
theorem dX12_read_8 : decode cX12_read 8 = .ok (.iload_n 1, 1) := by decide +kernel
theorem dX12_read_9 : decode cX12_read 9 = .ok (.invokevirtual 612, 3) := by decide +kernel
theorem dX12_read_12 : decode cX12_read 12 = .ok (.ireturn, 1) := by decide +kernel
theorem dX12_read_13 : decode cX12_read 13 = .ok (.aload_n 0, 1) := by decide +kernel
theorem dX12_read_14 : decode cX12_read 14 = .ok (.iload_n 1, 1) := by decide +kernel
theorem dX12_read_15 : decode cX12_read 15 = .ok (.invokevirtual 718, 3) := by decide +kernel
theorem dX12_read_18 : decode cX12_read 18 = .ok (.istore_n 2, 1) := by decide +kernel
theorem dX12_read_19 : decode cX12_read 19 = .ok (.aload_n 0, 1) := by decide +kernel
theorem dX12_read_20 : decode cX12_read 20 = .ok (.bipush 6, 2) := by decide +kernel
theorem dX12_read_22 : decode cX12_read 22 = .ok (.iconst 0, 1) := by decide +kernel
theorem dX12_read_23 : decode cX12_read 23 = .ok (.iconst 0, 1) := by decide +kernel
theorem dX12_read_24 : decode cX12_read 24 = .ok (.iconst 0, 1) := by decide +kernel
theorem dX12_read_25 : decode cX12_read 25 = .ok (.invokevirtual 609, 3) := by decide +kernel
theorem dX12_read_28 : decode cX12_read 28 = .ok (.istore_n 3, 1) := by decide +kernel
theorem dX12_read_29 : decode cX12_read 29 = .ok (.iload_n 2, 1) := by decide +kernel
theorem dX12_read_30 : decode cX12_read 30 = .ok (.ireturn, 1) := by decide +kernel
def fX12_read (a1 : Int32) (w : Wd) : Option (Int32 × Wd) :=
  if 0 ≤ (gi w 0 85) then (bn2 (fX12_target a1 w) fun x2 w3 => bn2 (fX12_op 6 0 0 0 w3) fun x4 w5 => some (x2, w5)) else (bn2 (fX12_named a1 w) fun x6 w7 => some (x6, w7))
theorem pX12_read {q : Gq} {l : Launch} {N : Option Value → Wd → Prop} {X : String → Wd → Prop} {w : Wd} {R : Int32 × Wd} (hN : N (some (.int R.1)) R.2) {a1 : Int32} (h : fX12_read a1 w = some R) : RT (GM q) l 1707 yX12_read cX12_read 4 ((some .int)) N X 0 [] [(0, .ref 0), (1, .int a1)] w := by
  unfold fX12_read at h
  refine r_aload_n (pc := 0) dX12_read_0 rfl 0 rfl ?_
  refine r_get (pc := 1) (j := 85) (v := .int (gi w 0 85)) oM0 cf12 flRX12_709 rfl dX12_read_1 rfl ?_
  refine r_if_ge (pc := 4) dX12_read_4 rfl (fun hc1 => ?_) (fun hc1 => ?_)
  · replace h := if_t hc1 h
    refine r_aload_n (pc := 13) dX12_read_13 rfl 0 rfl ?_
    refine r_iload_n (pc := 14) dX12_read_14 rfl 1 rfl ?_
    replace h := bn2_e h; obtain ⟨x2, w3, ew3, h⟩ := h
    refine r_cVi (pc := 15) wyX12_target oM0 rfl mlRX12_718 iyX12_target syX12_target ⟨(Nat.le_of_ble_eq_true rfl), (Nat.le_of_ble_eq_true rfl)⟩ rfl rfl (Nat.le_of_ble_eq_true rfl) dX12_read_15 (mX12_target ew3 (pI.mk ?_))
    refine r_istore_n (pc := 18) (loc' := [(2, .int x2), (0, .ref 0), (1, .int a1)]) dX12_read_18 rfl (Nat.le_of_ble_eq_true rfl) rfl ?_
    refine r_aload_n (pc := 19) dX12_read_19 rfl 1 rfl ?_
    refine r_bipush (pc := 20) dX12_read_20 kb_6 ?_
    refine r_iconst (pc := 22) dX12_read_22 ki_0 ?_
    refine r_iconst (pc := 23) dX12_read_23 ki_0 ?_
    refine r_iconst (pc := 24) dX12_read_24 ki_0 ?_
    replace h := bn2_e h; obtain ⟨x4, w5, ew5, h⟩ := h
    refine r_cVi (pc := 25) wyX12_op oM0 rfl mlRX12_609 iyX12_op syX12_op ⟨(Nat.le_of_ble_eq_true rfl), (Nat.le_of_ble_eq_true rfl)⟩ rfl rfl (Nat.le_of_ble_eq_true rfl) dX12_read_25 (mX12_op ew5 (pI.mk ?_))
    refine r_istore_n (pc := 28) (loc' := [(3, .int x4), (2, .int x2), (0, .ref 0), (1, .int a1)]) dX12_read_28 rfl (Nat.le_of_ble_eq_true rfl) rfl ?_
    refine r_iload_n (pc := 29) dX12_read_29 rfl 1 rfl ?_
    exact rO_i (pc := 30) rfl dX12_read_30 h hN
  replace h := if_f hc1 h
  refine r_aload_n (pc := 7) dX12_read_7 rfl 0 rfl ?_
  refine r_iload_n (pc := 8) dX12_read_8 rfl 1 rfl ?_
  replace h := bn2_e h; obtain ⟨x6, w7, ew7, h⟩ := h
  refine r_cVi (pc := 9) wyX12_named oM0 rfl mlRX12_612 iyX12_named syX12_named ⟨(Nat.le_of_ble_eq_true rfl), (Nat.le_of_ble_eq_true rfl)⟩ rfl rfl (Nat.le_of_ble_eq_true rfl) dX12_read_9 (mX12_named ew7 (pI.mk ?_))
  exact rO_i (pc := 12) rfl dX12_read_12 h hN
theorem mX12_read {q : Gq} {l : Launch} {N : Option Value → Wd → Prop} {X : String → Wd → Prop} {a1 : Int32} {w : Wd} {x : Int32} {u : Wd} (h : fX12_read a1 w = some (x, u)) (hN : N (some (.int x)) u) : Ct (GM q) l 1707 yX12_read cX12_read 4 ((some .int)) [.ref 0, .int a1] w N X := Ct.of (by decide) (Nat.le_of_ble_eq_true rfl) (pX12_read hN h)
/-! AlgolMillModel.setTo (II)V: O, 1707 -/
theorem dX12_setTo_0 : decode cX12_setTo 0 = .ok (.aload_n 0, 1) := by decide +kernel
theorem dX12_setTo_1 : decode cX12_setTo 1 = .ok (.bipush 12, 2) := by decide +kernel
theorem dX12_setTo_3 : decode cX12_setTo 3 = .ok (.iconst 0, 1) := by decide +kernel
theorem dX12_setTo_4 : decode cX12_setTo 4 = .ok (.iconst 0, 1) := by decide +kernel
theorem dX12_setTo_5 : decode cX12_setTo 5 = .ok (.iconst 0, 1) := by decide +kernel
theorem dX12_setTo_6 : decode cX12_setTo 6 = .ok (.invokevirtual 609, 3) := by decide +kernel
theorem dX12_setTo_9 : decode cX12_setTo 9 = .ok (.istore_n 3, 1) := by decide +kernel
theorem dX12_setTo_10 : decode cX12_setTo 10 = .ok (.aload_n 0, 1) := by decide +kernel
theorem dX12_setTo_11 : decode cX12_setTo 11 = .ok (.iload_n 1, 1) := by decide +kernel
theorem dX12_setTo_12 : decode cX12_setTo 12 = .ok (.invokevirtual 718, 3) := by decide +kernel
theorem dX12_setTo_15 : decode cX12_setTo 15 = .ok (.istore 4, 2) := by decide +kernel
theorem dX12_setTo_17 : decode cX12_setTo 17 = .ok (.iload 4, 2) := by decide +kernel
theorem dX12_setTo_19 : decode cX12_setTo 19 = .ok (.iconst 2, 1) := by decide +kernel
theorem dX12_setTo_20 : decode cX12_setTo 20 = .ok (.if_icmp .ne 14, 3) := by decide +kernel
theorem dX12_setTo_23 : decode cX12_setTo 23 = .ok (.aload_n 0, 1) := by decide +kernel
theorem dX12_setTo_24 : decode cX12_setTo 24 = .ok (.iconst 4, 1) := by decide +kernel
theorem dX12_setTo_25 : decode cX12_setTo 25 = .ok (.aload_n 0, 1) := by decide +kernel
theorem dX12_setTo_26 : decode cX12_setTo 26 = .ok (.getfield 114, 3) := by decide +kernel
theorem dX12_setTo_29 : decode cX12_setTo 29 = .ok (.iload_n 1, 1) := by decide +kernel
theorem dX12_setTo_30 : decode cX12_setTo 30 = .ok (.iaload, 1) := by decide +kernel
theorem dX12_setTo_31 : decode cX12_setTo 31 = .ok (.invokevirtual 484, 3) := by decide +kernel
theorem dX12_setTo_34 : decode cX12_setTo 34 = .ok (.aload_n 0, 1) := by decide +kernel
theorem dX12_setTo_35 : decode cX12_setTo 35 = .ok (.iload_n 2, 1) := by decide +kernel
theorem dX12_setTo_36 : decode cX12_setTo 36 = .ok (.iconst 1, 1) := by decide +kernel
theorem dX12_setTo_37 : decode cX12_setTo 37 = .ok (.invokevirtual 622, 3) := by decide +kernel
theorem dX12_setTo_40 : decode cX12_setTo 40 = .ok (.aload_n 0, 1) := by decide +kernel
theorem dX12_setTo_41 : decode cX12_setTo 41 = .ok (.bipush 7, 2) := by decide +kernel
theorem dX12_setTo_43 : decode cX12_setTo 43 = .ok (.iconst 1, 1) := by decide +kernel
theorem dX12_setTo_44 : decode cX12_setTo 44 = .ok (.iconst 0, 1) := by decide +kernel
theorem dX12_setTo_45 : decode cX12_setTo 45 = .ok (.iconst 0, 1) := by decide +kernel
theorem dX12_setTo_46 : decode cX12_setTo 46 = .ok (.invokevirtual 609, 3) := by decide +kernel
theorem dX12_setTo_49 : decode cX12_setTo 49 = .ok (.istore_n 3, 1) := by decide +kernel
theorem dX12_setTo_50 : decode cX12_setTo 50 = .ok (.return_, 1) := by decide +kernel
def fX12_setTo_34 (a2 : Int32) (w : Wd) : Option Wd :=
  bn2 (RX12_mustBe 1700 0 a2 1 0 w) fun _ w2 => bn2 (fX12_op 7 1 0 0 w2) fun x3 w4 => some w4
theorem pX12_setTo_34 {q : Gq} {l : Launch} {N : Option Value → Wd → Prop} {X : String → Wd → Prop} {w : Wd} {R : Wd} (hN : N none R) {a2 : Int32} (h : fX12_setTo_34 a2 w = some R) : RT (GM q) l 1707 yX12_setTo cX12_setTo 5 (none) N X 34 [] [(0, .ref 0), (2, .int a2)] w := by
  unfold fX12_setTo_34 at h
  refine r_aload_n (pc := 34) dX12_setTo_34 rfl 0 rfl ?_
  refine r_iload_n (pc := 35) dX12_setTo_35 rfl 1 rfl ?_
  refine r_iconst (pc := 36) dX12_setTo_36 ki_1 ?_
  replace h := bn2_e h; obtain ⟨x1, w2, ew2, h⟩ := h
  refine r_cVv (pc := 37) wyX12_mustBe oM0 rfl mlRX12_622 iyX12_mustBe syX12_mustBe ⟨(Nat.le_of_ble_eq_true rfl), (Nat.le_of_ble_eq_true rfl)⟩ rfl rfl (Nat.le_of_ble_eq_true rfl) dX12_setTo_37 (mX12_mustBe ew2 (pV.mk ?_))
  refine r_aload_n (pc := 40) dX12_setTo_40 rfl 0 rfl ?_
  refine r_bipush (pc := 41) dX12_setTo_41 kb_7 ?_
  refine r_iconst (pc := 43) dX12_setTo_43 ki_1 ?_
  refine r_iconst (pc := 44) dX12_setTo_44 ki_0 ?_
  refine r_iconst (pc := 45) dX12_setTo_45 ki_0 ?_
  replace h := bn2_e h; obtain ⟨x3, w4, ew4, h⟩ := h
  refine r_cVi (pc := 46) wyX12_op oM0 rfl mlRX12_609 iyX12_op syX12_op ⟨(Nat.le_of_ble_eq_true rfl), (Nat.le_of_ble_eq_true rfl)⟩ rfl rfl (Nat.le_of_ble_eq_true rfl) dX12_setTo_46 (mX12_op ew4 (pI.mk ?_))
  refine r_istore_n (pc := 49) (loc' := [(3, .int x3), (0, .ref 0), (2, .int a2)]) dX12_setTo_49 rfl (Nat.le_of_ble_eq_true rfl) rfl ?_
  exact rO_v (pc := 50) rfl dX12_setTo_50 h hN
def fX12_setTo (a1 : Int32) (a2 : Int32) (w : Wd) : Option Wd :=
  bn2 (fX12_op 12 0 0 0 w) fun x1 w2 => bn2 (fX12_target a1 w2) fun x3 w4 => if x3 = 2 then (if inb a1 24000 = true then bn (fX12_found 4 (gi w4 12 (Int32.toNatClampNeg a1)) w4) fun w7 => fX12_setTo_34 a2 w7 else none) else (fX12_setTo_34 a2 w4)
theorem pX12_setTo {q : Gq} {l : Launch} {N : Option Value → Wd → Prop} {X : String → Wd → Prop} {w : Wd} {R : Wd} (hN : N none R) {a1 : Int32} {a2 : Int32} (h : fX12_setTo a1 a2 w = some R) : RT (GM q) l 1707 yX12_setTo cX12_setTo 5 (none) N X 0 [] [(0, .ref 0), (1, .int a1), (2, .int a2)] w := by
  unfold fX12_setTo at h
  refine r_aload_n (pc := 0) dX12_setTo_0 rfl 0 rfl ?_
  refine r_bipush (pc := 1) dX12_setTo_1 kb_12 ?_
  refine r_iconst (pc := 3) dX12_setTo_3 ki_0 ?_
  refine r_iconst (pc := 4) dX12_setTo_4 ki_0 ?_
  refine r_iconst (pc := 5) dX12_setTo_5 ki_0 ?_
  replace h := bn2_e h; obtain ⟨x1, w2, ew2, h⟩ := h
  refine r_cVi (pc := 6) wyX12_op oM0 rfl mlRX12_609 iyX12_op syX12_op ⟨(Nat.le_of_ble_eq_true rfl), (Nat.le_of_ble_eq_true rfl)⟩ rfl rfl (Nat.le_of_ble_eq_true rfl) dX12_setTo_6 (mX12_op ew2 (pI.mk ?_))
  refine r_istore_n (pc := 9) (loc' := [(3, .int x1), (0, .ref 0), (1, .int a1), (2, .int a2)]) dX12_setTo_9 rfl (Nat.le_of_ble_eq_true rfl) rfl ?_
  refine r_aload_n (pc := 10) dX12_setTo_10 rfl 1 rfl ?_
  refine r_iload_n (pc := 11) dX12_setTo_11 rfl 2 rfl ?_
  replace h := bn2_e h; obtain ⟨x3, w4, ew4, h⟩ := h
  refine r_cVi (pc := 12) wyX12_target oM0 rfl mlRX12_718 iyX12_target syX12_target ⟨(Nat.le_of_ble_eq_true rfl), (Nat.le_of_ble_eq_true rfl)⟩ rfl rfl (Nat.le_of_ble_eq_true rfl) dX12_setTo_12 (mX12_target ew4 (pI.mk ?_))
  refine r_istore (pc := 15) (loc' := [(4, .int x3), (3, .int x1), (0, .ref 0), (1, .int a1), (2, .int a2)]) dX12_setTo_15 (Nat.le_of_ble_eq_true rfl) rfl ?_
  refine r_iload (pc := 17) dX12_setTo_17 0 rfl ?_
  refine r_iconst (pc := 19) dX12_setTo_19 ki_2 ?_
  refine r_icmp_ne (pc := 20) dX12_setTo_20 rfl (fun hc5 => ?_) (fun hc5 => ?_)
  · replace h := if_f hc5 h
    refine r_drop (loc' := [(0, .ref 0), (2, .int a2)]) [2, 4] rfl ?_
    exact pX12_setTo_34 hN h
  replace h := if_t hc5 h
  refine r_aload_n (pc := 23) dX12_setTo_23 rfl 2 rfl ?_
  refine r_iconst (pc := 24) dX12_setTo_24 ki_4 ?_
  refine r_aload_n (pc := 25) dX12_setTo_25 rfl 2 rfl ?_
  refine r_get (pc := 26) (j := 21) (v := .ref 12) oM0 cf12 flRX12_114 rfl dX12_setTo_26 rfl ?_
  refine r_iload_n (pc := 29) dX12_setTo_29 rfl 3 rfl ?_
  replace h := if_n h; obtain ⟨hb6, h⟩ := h
  refine r_iald (pc := 30) aM12 (inb_in hb6) dX12_setTo_30 ?_
  replace h := bn_e h; obtain ⟨w7, ew7, h⟩ := h
  refine r_cVv (pc := 31) wyX12_found oM0 rfl mlRX12_484 iyX12_found syX12_found ⟨(Nat.le_of_ble_eq_true rfl), (Nat.le_of_ble_eq_true rfl)⟩ rfl rfl (Nat.le_of_ble_eq_true rfl) dX12_setTo_31 (mX12_found ew7 (pV.mk ?_))
  refine r_drop (loc' := [(0, .ref 0), (2, .int a2)]) [2, 4] rfl ?_
  exact pX12_setTo_34 hN h
theorem mX12_setTo {q : Gq} {l : Launch} {N : Option Value → Wd → Prop} {X : String → Wd → Prop} {a1 : Int32} {a2 : Int32} {w : Wd} {u : Wd} (h : fX12_setTo a1 a2 w = some u) (hN : N none u) : Ct (GM q) l 1707 yX12_setTo cX12_setTo 5 (none) [.ref 0, .int a1, .int a2] w N X := Ct.of (by decide) (Nat.le_of_ble_eq_true rfl) (pX12_setTo hN h)
/-! AlgolMillModel.switchCode (I)V: O, 1706 -/
theorem dX12_switchCode_0 : decode cX12_switchCode 0 = .ok (.aload_n 0, 1) := by decide +kernel
theorem dX12_switchCode_1 : decode cX12_switchCode 1 = .ok (.bipush 10, 2) := by decide +kernel
theorem dX12_switchCode_3 : decode cX12_switchCode 3 = .ok (.iconst 0, 1) := by decide +kernel
theorem dX12_switchCode_4 : decode cX12_switchCode 4 = .ok (.iconst 0, 1) := by decide +kernel
theorem dX12_switchCode_5 : decode cX12_switchCode 5 = .ok (.iconst 0, 1) := by decide +kernel
theorem dX12_switchCode_6 : decode cX12_switchCode 6 = .ok (.invokevirtual 609, 3) := by decide +kernel
theorem dX12_switchCode_9 : decode cX12_switchCode 9 = .ok (.istore_n 2, 1) := by decide +kernel
theorem dX12_switchCode_10 : decode cX12_switchCode 10 = .ok (.iconst 0, 1) := by decide +kernel
theorem dX12_switchCode_11 : decode cX12_switchCode 11 = .ok (.istore_n 3, 1) := by decide +kernel
theorem dX12_switchCode_12 : decode cX12_switchCode 12 = .ok (.aload_n 0, 1) := by decide +kernel
theorem dX12_switchCode_13 : decode cX12_switchCode 13 = .ok (.getfield 153, 3) := by decide +kernel
theorem dX12_switchCode_16 : decode cX12_switchCode 16 = .ok (.iload_n 1, 1) := by decide +kernel
theorem dX12_switchCode_17 : decode cX12_switchCode 17 = .ok (.iaload, 1) := by decide +kernel
theorem dX12_switchCode_18 : decode cX12_switchCode 18 = .ok (.istore 4, 2) := by decide +kernel
theorem dX12_switchCode_20 : decode cX12_switchCode 20 = .ok (.iload 4, 2) := by decide +kernel
theorem dX12_switchCode_22 : decode cX12_switchCode 22 = .ok (.ifCond .lt 18, 3) := by decide +kernel
theorem dX12_switchCode_25 : decode cX12_switchCode 25 = .ok (.iinc 3 1, 3) := by decide +kernel
theorem dX12_switchCode_28 : decode cX12_switchCode 28 = .ok (.aload_n 0, 1) := by decide +kernel
theorem dX12_switchCode_29 : decode cX12_switchCode 29 = .ok (.getfield 111, 3) := by decide +kernel
theorem dX12_switchCode_32 : decode cX12_switchCode 32 = .ok (.iload 4, 2) := by decide +kernel
theorem dX12_switchCode_34 : decode cX12_switchCode 34 = .ok (.iaload, 1) := by decide +kernel
theorem dX12_switchCode_35 : decode cX12_switchCode 35 = .ok (.istore 4, 2) := by decide +kernel
theorem dX12_switchCode_37 : decode cX12_switchCode 37 = .ok (.goto (-17), 3) := by decide +kernel
theorem dX12_switchCode_40 : decode cX12_switchCode 40 = .ok (.aload_n 0, 1) := by decide +kernel
theorem dX12_switchCode_41 : decode cX12_switchCode 41 = .ok (.getfield 248, 3) := by decide +kernel
theorem dX12_switchCode_44 : decode cX12_switchCode 44 = .ok (.iload_n 1, 1) := by decide +kernel
theorem dX12_switchCode_45 : decode cX12_switchCode 45 = .ok (.aload_n 0, 1) := by decide +kernel
theorem dX12_switchCode_46 : decode cX12_switchCode 46 = .ok (.getfield 730, 3) := by decide +kernel
theorem dX12_switchCode_49 : decode cX12_switchCode 49 = .ok (.iastore, 1) := by decide +kernel
theorem dX12_switchCode_50 : decode cX12_switchCode 50 = .ok (.aload_n 0, 1) := by decide +kernel
theorem dX12_switchCode_51 : decode cX12_switchCode 51 = .ok (.getfield 251, 3) := by decide +kernel
theorem dX12_switchCode_54 : decode cX12_switchCode 54 = .ok (.iload_n 1, 1) := by decide +kernel
theorem dX12_switchCode_55 : decode cX12_switchCode 55 = .ok (.iload_n 3, 1) := by decide +kernel
theorem dX12_switchCode_56 : decode cX12_switchCode 56 = .ok (.iastore, 1) := by decide +kernel
theorem dX12_switchCode_57 : decode cX12_switchCode 57 = .ok (.aload_n 0, 1) := by decide +kernel
theorem dX12_switchCode_58 : decode cX12_switchCode 58 = .ok (.dup, 1) := by decide +kernel
theorem dX12_switchCode_59 : decode cX12_switchCode 59 = .ok (.getfield 730, 3) := by decide +kernel
theorem dX12_switchCode_62 : decode cX12_switchCode 62 = .ok (.iload_n 3, 1) := by decide +kernel
theorem dX12_switchCode_63 : decode cX12_switchCode 63 = .ok (.iadd, 1) := by decide +kernel
theorem dX12_switchCode_64 : decode cX12_switchCode 64 = .ok (.putfield 730, 3) := by decide +kernel
theorem dX12_switchCode_67 : decode cX12_switchCode 67 = .ok (.iconst 0, 1) := by decide +kernel
theorem dX12_switchCode_68 : decode cX12_switchCode 68 = .ok (.istore 4, 2) := by decide +kernel
theorem dX12_switchCode_70 : decode cX12_switchCode 70 = .ok (.aload_n 0, 1) := by decide +kernel
theorem dX12_switchCode_71 : decode cX12_switchCode 71 = .ok (.getfield 153, 3) := by decide +kernel
theorem dX12_switchCode_74 : decode cX12_switchCode 74 = .ok (.iload_n 1, 1) := by decide +kernel
theorem dX12_switchCode_75 : decode cX12_switchCode 75 = .ok (.iaload, 1) := by decide +kernel
theorem dX12_switchCode_76 : decode cX12_switchCode 76 = .ok (.istore 5, 2) := by decide +kernel
theorem dX12_switchCode_78 : decode cX12_switchCode 78 = .ok (.iload 5, 2) := by decide +kernel
theorem dX12_switchCode_80 : decode cX12_switchCode 80 = .ok (.ifCond .lt 53, 3) := by decide +kernel
theorem dX12_switchCode_83 : decode cX12_switchCode 83 = .ok (.aload_n 0, 1) := by decide +kernel
theorem dX12_switchCode_84 : decode cX12_switchCode 84 = .ok (.getfield 254, 3) := by decide +kernel
theorem dX12_switchCode_87 : decode cX12_switchCode 87 = .ok (.aload_n 0, 1) := by decide +kernel
theorem dX12_switchCode_88 : decode cX12_switchCode 88 = .ok (.getfield 248, 3) := by decide +kernel
theorem dX12_switchCode_91 : decode cX12_switchCode 91 = .ok (.iload_n 1, 1) := by decide +kernel
theorem dX12_switchCode_92 : decode cX12_switchCode 92 = .ok (.iaload, 1) := by decide +kernel
theorem dX12_switchCode_93 : decode cX12_switchCode 93 = .ok (.iload 4, 2) := by decide +kernel
theorem dX12_switchCode_95 : decode cX12_switchCode 95 = .ok (.iadd, 1) := by decide +kernel
theorem dX12_switchCode_96 : decode cX12_switchCode 96 = .ok (.aload_n 0, 1) := by decide +kernel
theorem dX12_switchCode_97 : decode cX12_switchCode 97 = .ok (.getfield 596, 3) := by decide +kernel
theorem dX12_switchCode_100 : decode cX12_switchCode 100 = .ok (.iastore, 1) := by decide +kernel
theorem dX12_switchCode_101 : decode cX12_switchCode 101 = .ok (.aload_n 0, 1) := by decide +kernel
theorem dX12_switchCode_102 : decode cX12_switchCode 102 = .ok (.iload 5, 2) := by decide +kernel
theorem dX12_switchCode_104 : decode cX12_switchCode 104 = .ok (.invokevirtual 670, 3) := by decide +kernel
theorem dX12_switchCode_107 : decode cX12_switchCode 107 = .ok (.aload_n 0, 1) := by decide +kernel
theorem dX12_switchCode_108 : decode cX12_switchCode 108 = .ok (.bipush 17, 2) := by decide +kernel
theorem dX12_switchCode_110 : decode cX12_switchCode 110 = .ok (.iconst 0, 1) := by decide +kernel
theorem dX12_switchCode_111 : decode cX12_switchCode 111 = .ok (.iconst 0, 1) := by decide +kernel
theorem dX12_switchCode_112 : decode cX12_switchCode 112 = .ok (.iconst 0, 1) := by decide +kernel
theorem dX12_switchCode_113 : decode cX12_switchCode 113 = .ok (.invokevirtual 609, 3) := by decide +kernel
theorem dX12_switchCode_116 : decode cX12_switchCode 116 = .ok (.istore 6, 2) := by decide +kernel
theorem dX12_switchCode_118 : decode cX12_switchCode 118 = .ok (.iinc 4 1, 3) := by decide +kernel
theorem dX12_switchCode_121 : decode cX12_switchCode 121 = .ok (.aload_n 0, 1) := by decide +kernel
theorem dX12_switchCode_122 : decode cX12_switchCode 122 = .ok (.getfield 111, 3) := by decide +kernel
theorem dX12_switchCode_125 : decode cX12_switchCode 125 = .ok (.iload 5, 2) := by decide +kernel
theorem dX12_switchCode_127 : decode cX12_switchCode 127 = .ok (.iaload, 1) := by decide +kernel
theorem dX12_switchCode_128 : decode cX12_switchCode 128 = .ok (.istore 5, 2) := by decide +kernel
theorem dX12_switchCode_130 : decode cX12_switchCode 130 = .ok (.goto (-52), 3) := by decide +kernel
theorem dX12_switchCode_133 : decode cX12_switchCode 133 = .ok (.aload_n 0, 1) := by decide +kernel
theorem dX12_switchCode_134 : decode cX12_switchCode 134 = .ok (.iload_n 2, 1) := by decide +kernel
theorem dX12_switchCode_135 : decode cX12_switchCode 135 = .ok (.invokevirtual 625, 3) := by decide +kernel
theorem dX12_switchCode_138 : decode cX12_switchCode 138 = .ok (.return_, 1) := by decide +kernel
def fX12_switchCode_78 (k_78 : Int32 → Int32 → Int32 → Int32 → Wd → Option Wd) (a1 : Int32) (a2 : Int32) (a4 : Int32) (a5 : Int32) (w : Wd) : Option Wd :=
  if a5 < 0 then (bn (fX12_patch a2 w) fun w2 => some w2) else (if inb a1 5000 = true then if inb ((gi w 56 (Int32.toNatClampNeg a1)) + a4) 24000 = true then lt (si w 58 (Int32.toNatClampNeg ((gi w 56 (Int32.toNatClampNeg a1)) + a4)) (gi w 0 64)) fun w5 => bn2 (RX12_mustBe 1700 6 a5 0 0 w5) fun _ w7 => bn2 (fX12_op 17 0 0 0 w7) fun x8 w9 => lt (a4 + 1) fun x10 => if inb a5 24000 = true then lt ((gi w9 11 (Int32.toNatClampNeg a5))) fun x12 => k_78 a1 a2 x10 x12 w9 else none else none else none)
theorem pX12_switchCode_78 {q : Gq} {l : Launch} {N : Option Value → Wd → Prop} {X : String → Wd → Prop} {w : Wd} {R : Wd} (hN : N none R) {k_78 : Int32 → Int32 → Int32 → Int32 → Wd → Option Wd} (hk_78 : ∀ (a1 : Int32) (a2 : Int32) (a4 : Int32) (a5 : Int32) (w : Wd), k_78 a1 a2 a4 a5 w = some R → RT (GM q) l 1706 yX12_switchCode cX12_switchCode 7 (none) N X 78 [] [(0, .ref 0), (1, .int a1), (2, .int a2), (4, .int a4), (5, .int a5)] w) {a1 : Int32} {a2 : Int32} {a4 : Int32} {a5 : Int32} (h : fX12_switchCode_78 k_78 a1 a2 a4 a5 w = some R) : RT (GM q) l 1706 yX12_switchCode cX12_switchCode 7 (none) N X 78 [] [(0, .ref 0), (1, .int a1), (2, .int a2), (4, .int a4), (5, .int a5)] w := by
  unfold fX12_switchCode_78 at h
  refine r_iload (pc := 78) dX12_switchCode_78 4 rfl ?_
  refine r_if_lt (pc := 80) dX12_switchCode_80 rfl (fun hc1 => ?_) (fun hc1 => ?_)
  · replace h := if_t hc1 h
    refine r_aload_n (pc := 133) dX12_switchCode_133 rfl 0 rfl ?_
    refine r_iload_n (pc := 134) dX12_switchCode_134 rfl 2 rfl ?_
    replace h := bn_e h; obtain ⟨w2, ew2, h⟩ := h
    refine r_cVv (pc := 135) wyX12_patch oM0 rfl mlRX12_625 iyX12_patch syX12_patch ⟨(Nat.le_of_ble_eq_true rfl), (Nat.le_of_ble_eq_true rfl)⟩ rfl rfl (Nat.le_of_ble_eq_true rfl) dX12_switchCode_135 (mX12_patch ew2 (pV.mk ?_))
    exact rO_v (pc := 138) rfl dX12_switchCode_138 h hN
  replace h := if_f hc1 h
  refine r_aload_n (pc := 83) dX12_switchCode_83 rfl 0 rfl ?_
  refine r_get (pc := 84) (j := 81) (v := .ref 58) oM0 cf12 flRX12_254 rfl dX12_switchCode_84 rfl ?_
  refine r_aload_n (pc := 87) dX12_switchCode_87 rfl 0 rfl ?_
  refine r_get (pc := 88) (j := 79) (v := .ref 56) oM0 cf12 flRX12_248 rfl dX12_switchCode_88 rfl ?_
  refine r_iload_n (pc := 91) dX12_switchCode_91 rfl 1 rfl ?_
  replace h := if_n h; obtain ⟨hb3, h⟩ := h
  refine r_iald (pc := 92) aM56 (inb_in hb3) dX12_switchCode_92 ?_
  refine r_iload (pc := 93) dX12_switchCode_93 3 rfl ?_
  refine r_iadd (pc := 95) dX12_switchCode_95 ?_
  refine r_aload_n (pc := 96) dX12_switchCode_96 rfl 0 rfl ?_
  refine r_get (pc := 97) (j := 64) (v := .int (gi w 0 64)) oM0 cf12 flRX12_596 rfl dX12_switchCode_97 rfl ?_
  replace h := if_n h; obtain ⟨hb4, h⟩ := h
  replace h := lt_e h; obtain ⟨w5, ew5, h⟩ := h
  refine r_iast (pc := 100) aM58 (inb_in hb4) dX12_switchCode_100 ?_
  refine r_w ew5 ?_
  refine r_aload_n (pc := 101) dX12_switchCode_101 rfl 0 rfl ?_
  refine r_iload (pc := 102) dX12_switchCode_102 4 rfl ?_
  replace h := bn2_e h; obtain ⟨x6, w7, ew7, h⟩ := h
  refine r_cVv (pc := 104) wyX12_aimCode oM0 rfl mlRX12_670 iyX12_aimCode syX12_aimCode ⟨(Nat.le_of_ble_eq_true rfl), (Nat.le_of_ble_eq_true rfl)⟩ rfl rfl (Nat.le_of_ble_eq_true rfl) dX12_switchCode_104 (mX12_aimCode ew7 (pV.mk ?_))
  refine r_aload_n (pc := 107) dX12_switchCode_107 rfl 0 rfl ?_
  refine r_bipush (pc := 108) dX12_switchCode_108 kb_17 ?_
  refine r_iconst (pc := 110) dX12_switchCode_110 ki_0 ?_
  refine r_iconst (pc := 111) dX12_switchCode_111 ki_0 ?_
  refine r_iconst (pc := 112) dX12_switchCode_112 ki_0 ?_
  replace h := bn2_e h; obtain ⟨x8, w9, ew9, h⟩ := h
  refine r_cVi (pc := 113) wyX12_op oM0 rfl mlRX12_609 iyX12_op syX12_op ⟨(Nat.le_of_ble_eq_true rfl), (Nat.le_of_ble_eq_true rfl)⟩ rfl rfl (Nat.le_of_ble_eq_true rfl) dX12_switchCode_113 (mX12_op ew9 (pI.mk ?_))
  refine r_istore (pc := 116) (loc' := [(6, .int x8), (0, .ref 0), (1, .int a1), (2, .int a2), (4, .int a4), (5, .int a5)]) dX12_switchCode_116 (Nat.le_of_ble_eq_true rfl) rfl ?_
  replace h := lt_e h; obtain ⟨x10, ex10, h⟩ := h
  refine r_inc (pc := 118) (loc' := [(4, .int x10), (6, .int x8), (0, .ref 0), (1, .int a1), (2, .int a2), (5, .int a5)]) dX12_switchCode_118 ki_1 ex10 4 rfl (Nat.le_of_ble_eq_true rfl) rfl ?_
  refine r_aload_n (pc := 121) dX12_switchCode_121 rfl 2 rfl ?_
  refine r_get (pc := 122) (j := 20) (v := .ref 11) oM0 cf12 flRX12_111 rfl dX12_switchCode_122 rfl ?_
  refine r_iload (pc := 125) dX12_switchCode_125 5 rfl ?_
  replace h := if_n h; obtain ⟨hb11, h⟩ := h
  refine r_iald (pc := 127) aM11 (inb_in hb11) dX12_switchCode_127 ?_
  replace h := lt_e h; obtain ⟨x12, ex12, h⟩ := h
  refine r_topi ex12 ?_
  refine r_istore (pc := 128) (loc' := [(5, .int x12), (4, .int x10), (6, .int x8), (0, .ref 0), (1, .int a1), (2, .int a2)]) dX12_switchCode_128 (Nat.le_of_ble_eq_true rfl) rfl ?_
  refine r_goto (pc := 130) dX12_switchCode_130 rfl ?_
  refine r_drop (loc' := [(0, .ref 0), (1, .int a1), (2, .int a2), (4, .int x10), (5, .int x12)]) [3, 4, 5, 1, 0] rfl ?_
  exact hk_78 a1 a2 x10 x12 w9 h
def oX12_switchCode_78 : Nat → Int32 → Int32 → Int32 → Int32 → Wd → Option Wd
  | 0 => fun _ _ _ _ _ => none
  | n + 1 => fX12_switchCode_78 (oX12_switchCode_78 n)
theorem qX12_switchCode_78 {q : Gq} {l : Launch} {N : Option Value → Wd → Prop} {X : String → Wd → Prop} {R : Wd} (hN : N none R) : ∀ (n : Nat) (a1 : Int32) (a2 : Int32) (a4 : Int32) (a5 : Int32) (w : Wd), oX12_switchCode_78 n a1 a2 a4 a5 w = some R → RT (GM q) l 1706 yX12_switchCode cX12_switchCode 7 (none) N X 78 [] [(0, .ref 0), (1, .int a1), (2, .int a2), (4, .int a4), (5, .int a5)] w := by
  intro n
  induction n with
  | zero =>
    intro a1 a2 a4 a5 w h
    exact absurd h (fun q => nomatch q)
  | succ n ih =>
    intro a1 a2 a4 a5 w h
    exact pX12_switchCode_78 hN ih h
def fX12_switchCode_20 (k_20 : Int32 → Int32 → Int32 → Int32 → Wd → Option Wd) (a1 : Int32) (a2 : Int32) (a3 : Int32) (a4 : Int32) (w : Wd) : Option Wd :=
  if a4 < 0 then (if inb a1 5000 = true then lt (si w 56 (Int32.toNatClampNeg a1) (gi w 0 82)) fun w3 => if inb a1 5000 = true then lt (si w3 57 (Int32.toNatClampNeg a1) a3) fun w5 => lt (si w5 0 82 ((gi w5 0 82) + a3)) fun w6 => if inb a1 5000 = true then lt ((gi w6 25 (Int32.toNatClampNeg a1))) fun x8 => oX12_switchCode_78 FU a1 a2 0 x8 w6 else none else none else none) else (lt (a3 + 1) fun x9 => if inb a4 24000 = true then lt ((gi w 11 (Int32.toNatClampNeg a4))) fun x11 => k_20 a1 a2 x9 x11 w else none)
theorem pX12_switchCode_20 {q : Gq} {l : Launch} {N : Option Value → Wd → Prop} {X : String → Wd → Prop} {w : Wd} {R : Wd} (hN : N none R) {k_20 : Int32 → Int32 → Int32 → Int32 → Wd → Option Wd} (hk_20 : ∀ (a1 : Int32) (a2 : Int32) (a3 : Int32) (a4 : Int32) (w : Wd), k_20 a1 a2 a3 a4 w = some R → RT (GM q) l 1706 yX12_switchCode cX12_switchCode 7 (none) N X 20 [] [(0, .ref 0), (1, .int a1), (2, .int a2), (3, .int a3), (4, .int a4)] w) {a1 : Int32} {a2 : Int32} {a3 : Int32} {a4 : Int32} (h : fX12_switchCode_20 k_20 a1 a2 a3 a4 w = some R) : RT (GM q) l 1706 yX12_switchCode cX12_switchCode 7 (none) N X 20 [] [(0, .ref 0), (1, .int a1), (2, .int a2), (3, .int a3), (4, .int a4)] w := by
  unfold fX12_switchCode_20 at h
  refine r_iload (pc := 20) dX12_switchCode_20 4 rfl ?_
  refine r_if_lt (pc := 22) dX12_switchCode_22 rfl (fun hc1 => ?_) (fun hc1 => ?_)
  · replace h := if_t hc1 h
    refine r_aload_n (pc := 40) dX12_switchCode_40 rfl 0 rfl ?_
    refine r_get (pc := 41) (j := 79) (v := .ref 56) oM0 cf12 flRX12_248 rfl dX12_switchCode_41 rfl ?_
    refine r_iload_n (pc := 44) dX12_switchCode_44 rfl 1 rfl ?_
    refine r_aload_n (pc := 45) dX12_switchCode_45 rfl 0 rfl ?_
    refine r_get (pc := 46) (j := 82) (v := .int (gi w 0 82)) oM0 cf12 flRX12_730 rfl dX12_switchCode_46 rfl ?_
    replace h := if_n h; obtain ⟨hb2, h⟩ := h
    replace h := lt_e h; obtain ⟨w3, ew3, h⟩ := h
    refine r_iast (pc := 49) aM56 (inb_in hb2) dX12_switchCode_49 ?_
    refine r_w ew3 ?_
    refine r_aload_n (pc := 50) dX12_switchCode_50 rfl 0 rfl ?_
    refine r_get (pc := 51) (j := 80) (v := .ref 57) oM0 cf12 flRX12_251 rfl dX12_switchCode_51 rfl ?_
    refine r_iload_n (pc := 54) dX12_switchCode_54 rfl 1 rfl ?_
    refine r_iload_n (pc := 55) dX12_switchCode_55 rfl 3 rfl ?_
    replace h := if_n h; obtain ⟨hb4, h⟩ := h
    replace h := lt_e h; obtain ⟨w5, ew5, h⟩ := h
    refine r_iast (pc := 56) aM57 (inb_in hb4) dX12_switchCode_56 ?_
    refine r_w ew5 ?_
    refine r_aload_n (pc := 57) dX12_switchCode_57 rfl 0 rfl ?_
    refine r_dup (pc := 58) dX12_switchCode_58 rfl ?_
    refine r_get (pc := 59) (j := 82) (v := .int (gi w5 0 82)) oM0 cf12 flRX12_730 rfl dX12_switchCode_59 rfl ?_
    refine r_iload_n (pc := 62) dX12_switchCode_62 rfl 3 rfl ?_
    refine r_iadd (pc := 63) dX12_switchCode_63 ?_
    replace h := lt_e h; obtain ⟨w6, ew6, h⟩ := h
    refine r_putI (pc := 64) (j := 82) oM0 cf12 flRX12_730 rfl rfl rfl rfl dX12_switchCode_64 ?_
    refine r_w ew6 ?_
    refine r_iconst (pc := 67) dX12_switchCode_67 ki_0 ?_
    refine r_istore (pc := 68) (loc' := [(4, .int 0), (0, .ref 0), (1, .int a1), (2, .int a2), (3, .int a3)]) dX12_switchCode_68 (Nat.le_of_ble_eq_true rfl) rfl ?_
    refine r_aload_n (pc := 70) dX12_switchCode_70 rfl 1 rfl ?_
    refine r_get (pc := 71) (j := 38) (v := .ref 25) oM0 cf12 flRX12_153 rfl dX12_switchCode_71 rfl ?_
    refine r_iload_n (pc := 74) dX12_switchCode_74 rfl 2 rfl ?_
    replace h := if_n h; obtain ⟨hb7, h⟩ := h
    refine r_iald (pc := 75) aM25 (inb_in hb7) dX12_switchCode_75 ?_
    replace h := lt_e h; obtain ⟨x8, ex8, h⟩ := h
    refine r_topi ex8 ?_
    refine r_istore (pc := 76) (loc' := [(5, .int x8), (4, .int 0), (0, .ref 0), (1, .int a1), (2, .int a2), (3, .int a3)]) dX12_switchCode_76 (Nat.le_of_ble_eq_true rfl) rfl ?_
    refine r_drop (loc' := [(0, .ref 0), (1, .int a1), (2, .int a2), (4, .int 0), (5, .int x8)]) [2, 3, 4, 1, 0] rfl ?_
    exact qX12_switchCode_78 hN FU a1 a2 0 x8 w6 h
  replace h := if_f hc1 h
  replace h := lt_e h; obtain ⟨x9, ex9, h⟩ := h
  refine r_inc (pc := 25) (loc' := [(3, .int x9), (0, .ref 0), (1, .int a1), (2, .int a2), (4, .int a4)]) dX12_switchCode_25 ki_1 ex9 3 rfl (Nat.le_of_ble_eq_true rfl) rfl ?_
  refine r_aload_n (pc := 28) dX12_switchCode_28 rfl 1 rfl ?_
  refine r_get (pc := 29) (j := 20) (v := .ref 11) oM0 cf12 flRX12_111 rfl dX12_switchCode_29 rfl ?_
  refine r_iload (pc := 32) dX12_switchCode_32 4 rfl ?_
  replace h := if_n h; obtain ⟨hb10, h⟩ := h
  refine r_iald (pc := 34) aM11 (inb_in hb10) dX12_switchCode_34 ?_
  replace h := lt_e h; obtain ⟨x11, ex11, h⟩ := h
  refine r_topi ex11 ?_
  refine r_istore (pc := 35) (loc' := [(4, .int x11), (3, .int x9), (0, .ref 0), (1, .int a1), (2, .int a2)]) dX12_switchCode_35 (Nat.le_of_ble_eq_true rfl) rfl ?_
  refine r_goto (pc := 37) dX12_switchCode_37 rfl ?_
  refine r_drop (loc' := [(0, .ref 0), (1, .int a1), (2, .int a2), (3, .int x9), (4, .int x11)]) [2, 3, 4, 1, 0] rfl ?_
  exact hk_20 a1 a2 x9 x11 w h
def oX12_switchCode_20 : Nat → Int32 → Int32 → Int32 → Int32 → Wd → Option Wd
  | 0 => fun _ _ _ _ _ => none
  | n + 1 => fX12_switchCode_20 (oX12_switchCode_20 n)
theorem qX12_switchCode_20 {q : Gq} {l : Launch} {N : Option Value → Wd → Prop} {X : String → Wd → Prop} {R : Wd} (hN : N none R) : ∀ (n : Nat) (a1 : Int32) (a2 : Int32) (a3 : Int32) (a4 : Int32) (w : Wd), oX12_switchCode_20 n a1 a2 a3 a4 w = some R → RT (GM q) l 1706 yX12_switchCode cX12_switchCode 7 (none) N X 20 [] [(0, .ref 0), (1, .int a1), (2, .int a2), (3, .int a3), (4, .int a4)] w := by
  intro n
  induction n with
  | zero =>
    intro a1 a2 a3 a4 w h
    exact absurd h (fun q => nomatch q)
  | succ n ih =>
    intro a1 a2 a3 a4 w h
    exact pX12_switchCode_20 hN ih h
def fX12_switchCode (a1 : Int32) (w : Wd) : Option Wd :=
  bn2 (fX12_op 10 0 0 0 w) fun x1 w2 => if inb a1 5000 = true then lt ((gi w2 25 (Int32.toNatClampNeg a1))) fun x4 => oX12_switchCode_20 FU a1 x1 0 x4 w2 else none
theorem pX12_switchCode {q : Gq} {l : Launch} {N : Option Value → Wd → Prop} {X : String → Wd → Prop} {w : Wd} {R : Wd} (hN : N none R) {a1 : Int32} (h : fX12_switchCode a1 w = some R) : RT (GM q) l 1706 yX12_switchCode cX12_switchCode 7 (none) N X 0 [] [(0, .ref 0), (1, .int a1)] w := by
  unfold fX12_switchCode at h
  refine r_aload_n (pc := 0) dX12_switchCode_0 rfl 0 rfl ?_
  refine r_bipush (pc := 1) dX12_switchCode_1 kb_10 ?_
  refine r_iconst (pc := 3) dX12_switchCode_3 ki_0 ?_
  refine r_iconst (pc := 4) dX12_switchCode_4 ki_0 ?_
  refine r_iconst (pc := 5) dX12_switchCode_5 ki_0 ?_
  replace h := bn2_e h; obtain ⟨x1, w2, ew2, h⟩ := h
  refine r_cVi (pc := 6) wyX12_op oM0 rfl mlRX12_609 iyX12_op syX12_op ⟨(Nat.le_of_ble_eq_true rfl), (Nat.le_of_ble_eq_true rfl)⟩ rfl rfl (Nat.le_of_ble_eq_true rfl) dX12_switchCode_6 (mX12_op ew2 (pI.mk ?_))
  refine r_istore_n (pc := 9) (loc' := [(2, .int x1), (0, .ref 0), (1, .int a1)]) dX12_switchCode_9 rfl (Nat.le_of_ble_eq_true rfl) rfl ?_
  refine r_iconst (pc := 10) dX12_switchCode_10 ki_0 ?_
  refine r_istore_n (pc := 11) (loc' := [(3, .int 0), (2, .int x1), (0, .ref 0), (1, .int a1)]) dX12_switchCode_11 rfl (Nat.le_of_ble_eq_true rfl) rfl ?_
  refine r_aload_n (pc := 12) dX12_switchCode_12 rfl 2 rfl ?_
  refine r_get (pc := 13) (j := 38) (v := .ref 25) oM0 cf12 flRX12_153 rfl dX12_switchCode_13 rfl ?_
  refine r_iload_n (pc := 16) dX12_switchCode_16 rfl 3 rfl ?_
  replace h := if_n h; obtain ⟨hb3, h⟩ := h
  refine r_iald (pc := 17) aM25 (inb_in hb3) dX12_switchCode_17 ?_
  replace h := lt_e h; obtain ⟨x4, ex4, h⟩ := h
  refine r_topi ex4 ?_
  refine r_istore (pc := 18) (loc' := [(4, .int x4), (3, .int 0), (2, .int x1), (0, .ref 0), (1, .int a1)]) dX12_switchCode_18 (Nat.le_of_ble_eq_true rfl) rfl ?_
  refine r_drop (loc' := [(0, .ref 0), (1, .int a1), (2, .int x1), (3, .int 0), (4, .int x4)]) [3, 4, 2, 1, 0] rfl ?_
  exact qX12_switchCode_20 hN FU a1 x1 0 x4 w2 h
theorem mX12_switchCode {q : Gq} {l : Launch} {N : Option Value → Wd → Prop} {X : String → Wd → Prop} {a1 : Int32} {w : Wd} {u : Wd} (h : fX12_switchCode a1 w = some u) (hN : N none u) : Ct (GM q) l 1706 yX12_switchCode cX12_switchCode 7 (none) [.ref 0, .int a1] w N X := Ct.of (by decide) (Nat.le_of_ble_eq_true rfl) (pX12_switchCode hN h)
