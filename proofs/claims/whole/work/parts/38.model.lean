/-! the reference -/
theorem kb_100 : (Int8.ofInt 100).toInt32 = 100 := by decide
theorem kcRX12_777 : Cond.constantLong RX12 777 1048576 ∈ TB := tb1 sg12 197 rfl rfl
theorem kcRX12_779 : Cond.constant RX12 779 1048576 ∈ TB := tb1 sg12 206 rfl rfl
/-! AlgolMillModel.refused (II)I: S, 1 -/
theorem dX12_refused_0 : decode cX12_refused 0 = .ok (.aload_n 0, 1) := by decide +kernel
theorem dX12_refused_1 : decode cX12_refused 1 = .ok (.iload_n 1, 1) := by decide +kernel
theorem dX12_refused_2 : decode cX12_refused 2 = .ok (.putfield 733, 3) := by decide +kernel
theorem dX12_refused_5 : decode cX12_refused 5 = .ok (.aload_n 0, 1) := by decide +kernel
theorem dX12_refused_6 : decode cX12_refused 6 = .ok (.iload_n 2, 1) := by decide +kernel
theorem dX12_refused_7 : decode cX12_refused 7 = .ok (.putfield 24, 3) := by decide +kernel
theorem dX12_refused_10 : decode cX12_refused 10 = .ok (.aload_n 0, 1) := by decide +kernel
theorem dX12_refused_11 : decode cX12_refused 11 = .ok (.iconst 0, 1) := by decide +kernel
theorem dX12_refused_12 : decode cX12_refused 12 = .ok (.putfield 381, 3) := by decide +kernel
theorem dX12_refused_15 : decode cX12_refused 15 = .ok (.aload_n 0, 1) := by decide +kernel
theorem dX12_refused_16 : decode cX12_refused 16 = .ok (.iconst 1, 1) := by decide +kernel
theorem dX12_refused_17 : decode cX12_refused 17 = .ok (.invokevirtual 384, 3) := by decide +kernel
theorem dX12_refused_20 : decode cX12_refused 20 = .ok (.ireturn, 1) := by decide +kernel
def fX12_refused (a1 : Int32) (a2 : Int32) (w : Wd) : Int32 × Wd :=
  lt (si w 0 12 a1) fun w1 => lt (si w1 0 13 a2) fun w2 => lt (si w2 0 2 0) fun w3 => lt2 (fX12_no 1 w3) fun x4 w5 => (x4, w5)
theorem pX12_refused {q : Gq} {l : Launch} {N : Option Value → Wd → Prop} {X : String → Wd → Prop} {w : Wd} {R : Int32 × Wd} (hN : N (some (.int R.1)) R.2) {a1 : Int32} {a2 : Int32} (h : fX12_refused a1 a2 w = R) : RT (GM q) l 1 yX12_refused cX12_refused 3 ((some .int)) N X 0 [] [(0, .ref 0), (1, .int a1), (2, .int a2)] w := by
  unfold fX12_refused at h
  refine r_aload_n (pc := 0) dX12_refused_0 rfl 0 rfl ?_
  refine r_iload_n (pc := 1) dX12_refused_1 rfl 1 rfl ?_
  replace h := lt_e h; obtain ⟨w1, ew1, h⟩ := h
  refine r_putI (pc := 2) (j := 12) oM0 cf12 flRX12_733 rfl rfl rfl rfl dX12_refused_2 ?_
  refine r_w ew1 ?_
  refine r_aload_n (pc := 5) dX12_refused_5 rfl 0 rfl ?_
  refine r_iload_n (pc := 6) dX12_refused_6 rfl 2 rfl ?_
  replace h := lt_e h; obtain ⟨w2, ew2, h⟩ := h
  refine r_putI (pc := 7) (j := 13) oM0 cf12 flRX12_24 rfl rfl rfl rfl dX12_refused_7 ?_
  refine r_w ew2 ?_
  refine r_aload_n (pc := 10) dX12_refused_10 rfl 0 rfl ?_
  refine r_iconst (pc := 11) dX12_refused_11 ki_0 ?_
  replace h := lt_e h; obtain ⟨w3, ew3, h⟩ := h
  refine r_putI (pc := 12) (j := 2) oM0 cf12 flRX12_381 rfl rfl rfl rfl dX12_refused_12 ?_
  refine r_w ew3 ?_
  refine r_aload_n (pc := 15) dX12_refused_15 rfl 0 rfl ?_
  refine r_iconst (pc := 16) dX12_refused_16 ki_1 ?_
  replace h := lt2_e h; obtain ⟨x4, w5, ew5, h⟩ := h
  refine r_cVi (pc := 17) wyX12_no oM0 rfl mlRX12_384 iyX12_no syX12_no ⟨(Nat.le_of_ble_eq_true rfl), (Nat.le_of_ble_eq_true rfl)⟩ rfl rfl (Nat.le_of_ble_eq_true rfl) dX12_refused_17 (mX12_no ew5 (pI.mk ?_))
  exact rS_i (pc := 20) rfl dX12_refused_20 h hN
theorem mX12_refused {q : Gq} {l : Launch} {N : Option Value → Wd → Prop} {X : String → Wd → Prop} {a1 : Int32} {a2 : Int32} {w : Wd} {x : Int32} {u : Wd} (h : fX12_refused a1 a2 w = (x, u)) (hN : N (some (.int x)) u) : Ct (GM q) l 1 yX12_refused cX12_refused 3 ((some .int)) [.ref 0, .int a1, .int a2] w N X := Ct.of (by decide) (Nat.le_of_ble_eq_true rfl) (pX12_refused hN h)
/-! AlgolMillModel.program ()I: E, 1806 -/
theorem dX12_program_0 : decode cX12_program 0 = .ok (.aload_n 0, 1) := by decide +kernel
theorem dX12_program_1 : decode cX12_program 1 = .ok (.iconst 0, 1) := by decide +kernel
theorem dX12_program_2 : decode cX12_program 2 = .ok (.putfield 443, 3) := by decide +kernel
theorem dX12_program_5 : decode cX12_program 5 = .ok (.aload_n 0, 1) := by decide +kernel
theorem dX12_program_6 : decode cX12_program 6 = .ok (.iconst 0, 1) := by decide +kernel
theorem dX12_program_7 : decode cX12_program 7 = .ok (.putfield 449, 3) := by decide +kernel
theorem dX12_program_10 : decode cX12_program 10 = .ok (.aload_n 0, 1) := by decide +kernel
theorem dX12_program_11 : decode cX12_program 11 = .ok (.iconst 0, 1) := by decide +kernel
theorem dX12_program_12 : decode cX12_program 12 = .ok (.putfield 468, 3) := by decide +kernel
theorem dX12_program_15 : decode cX12_program 15 = .ok (.aload_n 0, 1) := by decide +kernel
theorem dX12_program_16 : decode cX12_program 16 = .ok (.iconst 0, 1) := by decide +kernel
theorem dX12_program_17 : decode cX12_program 17 = .ok (.putfield 474, 3) := by decide +kernel
theorem dX12_program_20 : decode cX12_program 20 = .ok (.aload_n 0, 1) := by decide +kernel
theorem dX12_program_21 : decode cX12_program 21 = .ok (.iconst 0, 1) := by decide +kernel
theorem dX12_program_22 : decode cX12_program 22 = .ok (.putfield 488, 3) := by decide +kernel
theorem dX12_program_25 : decode cX12_program 25 = .ok (.aload_n 0, 1) := by decide +kernel
theorem dX12_program_26 : decode cX12_program 26 = .ok (.iconst 0, 1) := by decide +kernel
theorem dX12_program_27 : decode cX12_program 27 = .ok (.putfield 494, 3) := by decide +kernel
theorem dX12_program_30 : decode cX12_program 30 = .ok (.aload_n 0, 1) := by decide +kernel
theorem dX12_program_31 : decode cX12_program 31 = .ok (.iconst 1, 1) := by decide +kernel
theorem dX12_program_32 : decode cX12_program 32 = .ok (.putfield 544, 3) := by decide +kernel
theorem dX12_program_35 : decode cX12_program 35 = .ok (.aload_n 0, 1) := by decide +kernel
theorem dX12_program_36 : decode cX12_program 36 = .ok (.iconst 0, 1) := by decide +kernel
theorem dX12_program_37 : decode cX12_program 37 = .ok (.putfield 477, 3) := by decide +kernel
theorem dX12_program_40 : decode cX12_program 40 = .ok (.aload_n 0, 1) := by decide +kernel
theorem dX12_program_41 : decode cX12_program 41 = .ok (.iconst 0, 1) := by decide +kernel
theorem dX12_program_42 : decode cX12_program 42 = .ok (.putfield 535, 3) := by decide +kernel
theorem dX12_program_45 : decode cX12_program 45 = .ok (.aload_n 0, 1) := by decide +kernel
theorem dX12_program_46 : decode cX12_program 46 = .ok (.iconst 0, 1) := by decide +kernel
theorem dX12_program_47 : decode cX12_program 47 = .ok (.putfield 462, 3) := by decide +kernel
theorem dX12_program_50 : decode cX12_program 50 = .ok (.aload_n 0, 1) := by decide +kernel
theorem dX12_program_51 : decode cX12_program 51 = .ok (.getfield 190, 3) := by decide +kernel
theorem dX12_program_54 : decode cX12_program 54 = .ok (.iconst 0, 1) := by decide +kernel
theorem dX12_program_55 : decode cX12_program 55 = .ok (.iconst (-1), 1) := by decide +kernel
theorem dX12_program_56 : decode cX12_program 56 = .ok (.iastore, 1) := by decide +kernel
theorem dX12_program_57 : decode cX12_program 57 = .ok (.aload_n 0, 1) := by decide +kernel
theorem dX12_program_58 : decode cX12_program 58 = .ok (.getfield 169, 3) := by decide +kernel
theorem dX12_program_61 : decode cX12_program 61 = .ok (.iconst 0, 1) := by decide +kernel
theorem dX12_program_62 : decode cX12_program 62 = .ok (.iconst 0, 1) := by decide +kernel
theorem dX12_program_63 : decode cX12_program 63 = .ok (.iastore, 1) := by decide +kernel
theorem dX12_program_64 : decode cX12_program 64 = .ok (.aload_n 0, 1) := by decide +kernel
theorem dX12_program_65 : decode cX12_program 65 = .ok (.getfield 181, 3) := by decide +kernel
theorem dX12_program_68 : decode cX12_program 68 = .ok (.iconst 0, 1) := by decide +kernel
theorem dX12_program_69 : decode cX12_program 69 = .ok (.iconst 0, 1) := by decide +kernel
theorem dX12_program_70 : decode cX12_program 70 = .ok (.iastore, 1) := by decide +kernel
theorem dX12_program_71 : decode cX12_program 71 = .ok (.aload_n 0, 1) := by decide +kernel
theorem dX12_program_72 : decode cX12_program 72 = .ok (.getfield 184, 3) := by decide +kernel
theorem dX12_program_75 : decode cX12_program 75 = .ok (.iconst 0, 1) := by decide +kernel
theorem dX12_program_76 : decode cX12_program 76 = .ok (.iconst 1, 1) := by decide +kernel
theorem dX12_program_77 : decode cX12_program 77 = .ok (.iastore, 1) := by decide +kernel
theorem dX12_program_78 : decode cX12_program 78 = .ok (.aload_n 0, 1) := by decide +kernel
theorem dX12_program_79 : decode cX12_program 79 = .ok (.iconst (-1), 1) := by decide +kernel
theorem dX12_program_80 : decode cX12_program 80 = .ok (.putfield 471, 3) := by decide +kernel
theorem dX12_program_83 : decode cX12_program 83 = .ok (.aload_n 0, 1) := by decide +kernel
theorem dX12_program_84 : decode cX12_program 84 = .ok (.invokevirtual 566, 3) := by decide +kernel
theorem dX12_program_87 : decode cX12_program 87 = .ok (.istore_n 1, 1) := by decide +kernel
theorem dX12_program_88 : decode cX12_program 88 = .ok (.aload_n 0, 1) := by decide +kernel
theorem dX12_program_89 : decode cX12_program 89 = .ok (.invokevirtual 452, 3) := by decide +kernel
theorem dX12_program_92 : decode cX12_program 92 = .ok (.sipush 291, 3) := by decide +kernel
theorem dX12_program_95 : decode cX12_program 95 = .ok (.if_icmp .eq 8, 3) := by decide +kernel
theorem dX12_program_98 : decode cX12_program 98 = .ok (.aload_n 0, 1) := by decide +kernel
theorem dX12_program_99 : decode cX12_program 99 = .ok (.invokevirtual 455, 3) := by decide +kernel
theorem dX12_program_102 : decode cX12_program 102 = .ok (.athrow, 1) := by decide +kernel
theorem dX12_program_103 : decode cX12_program 103 = .ok (.iload_n 1, 1) := by decide +kernel
theorem dX12_program_104 : decode cX12_program 104 = .ok (.ireturn, 1) := by decide +kernel
def fX12_program (w : Wd) : Option (Option Int32 × Wd) :=
  lt (si w 0 7 0) fun w1 => lt (si w1 0 8 0) fun w2 => lt (si w2 0 23 0) fun w3 => lt (si w3 0 28 0) fun w4 => lt (si w4 0 42 0) fun w5 => lt (si w5 0 59 0) fun w6 => lt (si w6 0 53 1) fun w7 => lt (si w7 0 30 0) fun w8 => lt (si w8 0 54 0) fun w9 => lt (si w9 0 10 0) fun w10 => if inb 0 1200 = true then lt (si w10 37 (Int32.toNatClampNeg 0) (-1)) fun w12 => if inb 0 1200 = true then lt (si w12 30 (Int32.toNatClampNeg 0) 0) fun w14 => if inb 0 1200 = true then lt (si w14 34 (Int32.toNatClampNeg 0) 0) fun w16 => if inb 0 1200 = true then lt (si w16 35 (Int32.toNatClampNeg 0) 1) fun w18 => lt (si w18 0 29 (-1)) fun w19 => be (RX12_block 900 0 0 0 0 w19) fun x20 w21 => bn2 (fX12_kind w21) fun x23 w24 => if x23 = 291 then (some (some x20, w24)) else (bn (fX12_bad w24) fun w26 => some (none, w26)) else none else none else none else none
set_option maxHeartbeats 16000000 in
theorem pX12_program {q : Gq} {l : Launch} {N : Option Value → Wd → Prop} {X : String → Wd → Prop} {w : Wd} {R : Option Int32 × Wd} (hN : ∀ r : Int32, R.1 = some r → N (some (.int r)) R.2) (hX : R.1 = none → X RAE R.2) (h : fX12_program w = some R) : RT (GM q) l 1806 yX12_program cX12_program 2 ((some .int)) N X 0 [] [(0, .ref 0)] w := by
  unfold fX12_program at h
  refine r_aload_n (pc := 0) dX12_program_0 rfl 0 rfl ?_
  refine r_iconst (pc := 1) dX12_program_1 ki_0 ?_
  replace h := lt_e h; obtain ⟨w1, ew1, h⟩ := h
  refine r_putI (pc := 2) (j := 7) oM0 cf12 flRX12_443 rfl rfl rfl rfl dX12_program_2 ?_
  refine r_w ew1 ?_
  refine r_aload_n (pc := 5) dX12_program_5 rfl 0 rfl ?_
  refine r_iconst (pc := 6) dX12_program_6 ki_0 ?_
  replace h := lt_e h; obtain ⟨w2, ew2, h⟩ := h
  refine r_putI (pc := 7) (j := 8) oM0 cf12 flRX12_449 rfl rfl rfl rfl dX12_program_7 ?_
  refine r_w ew2 ?_
  refine r_aload_n (pc := 10) dX12_program_10 rfl 0 rfl ?_
  refine r_iconst (pc := 11) dX12_program_11 ki_0 ?_
  replace h := lt_e h; obtain ⟨w3, ew3, h⟩ := h
  refine r_putI (pc := 12) (j := 23) oM0 cf12 flRX12_468 rfl rfl rfl rfl dX12_program_12 ?_
  refine r_w ew3 ?_
  refine r_aload_n (pc := 15) dX12_program_15 rfl 0 rfl ?_
  refine r_iconst (pc := 16) dX12_program_16 ki_0 ?_
  replace h := lt_e h; obtain ⟨w4, ew4, h⟩ := h
  refine r_putI (pc := 17) (j := 28) oM0 cf12 flRX12_474 rfl rfl rfl rfl dX12_program_17 ?_
  refine r_w ew4 ?_
  refine r_aload_n (pc := 20) dX12_program_20 rfl 0 rfl ?_
  refine r_iconst (pc := 21) dX12_program_21 ki_0 ?_
  replace h := lt_e h; obtain ⟨w5, ew5, h⟩ := h
  refine r_putI (pc := 22) (j := 42) oM0 cf12 flRX12_488 rfl rfl rfl rfl dX12_program_22 ?_
  refine r_w ew5 ?_
  refine r_aload_n (pc := 25) dX12_program_25 rfl 0 rfl ?_
  refine r_iconst (pc := 26) dX12_program_26 ki_0 ?_
  replace h := lt_e h; obtain ⟨w6, ew6, h⟩ := h
  refine r_putI (pc := 27) (j := 59) oM0 cf12 flRX12_494 rfl rfl rfl rfl dX12_program_27 ?_
  refine r_w ew6 ?_
  refine r_aload_n (pc := 30) dX12_program_30 rfl 0 rfl ?_
  refine r_iconst (pc := 31) dX12_program_31 ki_1 ?_
  replace h := lt_e h; obtain ⟨w7, ew7, h⟩ := h
  refine r_putI (pc := 32) (j := 53) oM0 cf12 flRX12_544 rfl rfl rfl rfl dX12_program_32 ?_
  refine r_w ew7 ?_
  refine r_aload_n (pc := 35) dX12_program_35 rfl 0 rfl ?_
  refine r_iconst (pc := 36) dX12_program_36 ki_0 ?_
  replace h := lt_e h; obtain ⟨w8, ew8, h⟩ := h
  refine r_putI (pc := 37) (j := 30) oM0 cf12 flRX12_477 rfl rfl rfl rfl dX12_program_37 ?_
  refine r_w ew8 ?_
  refine r_aload_n (pc := 40) dX12_program_40 rfl 0 rfl ?_
  refine r_iconst (pc := 41) dX12_program_41 ki_0 ?_
  replace h := lt_e h; obtain ⟨w9, ew9, h⟩ := h
  refine r_putI (pc := 42) (j := 54) oM0 cf12 flRX12_535 rfl rfl rfl rfl dX12_program_42 ?_
  refine r_w ew9 ?_
  refine r_aload_n (pc := 45) dX12_program_45 rfl 0 rfl ?_
  refine r_iconst (pc := 46) dX12_program_46 ki_0 ?_
  replace h := lt_e h; obtain ⟨w10, ew10, h⟩ := h
  refine r_putI (pc := 47) (j := 10) oM0 cf12 flRX12_462 rfl rfl rfl rfl dX12_program_47 ?_
  refine r_w ew10 ?_
  refine r_aload_n (pc := 50) dX12_program_50 rfl 0 rfl ?_
  refine r_get (pc := 51) (j := 51) (v := .ref 37) oM0 cf12 flRX12_190 rfl dX12_program_51 rfl ?_
  refine r_iconst (pc := 54) dX12_program_54 ki_0 ?_
  refine r_iconst (pc := 55) dX12_program_55 ki_m1 ?_
  replace h := if_n h; obtain ⟨hb11, h⟩ := h
  replace h := lt_e h; obtain ⟨w12, ew12, h⟩ := h
  refine r_iast (pc := 56) aM37 (inb_in hb11) dX12_program_56 ?_
  refine r_w ew12 ?_
  refine r_aload_n (pc := 57) dX12_program_57 rfl 0 rfl ?_
  refine r_get (pc := 58) (j := 44) (v := .ref 30) oM0 cf12 flRX12_169 rfl dX12_program_58 rfl ?_
  refine r_iconst (pc := 61) dX12_program_61 ki_0 ?_
  refine r_iconst (pc := 62) dX12_program_62 ki_0 ?_
  replace h := if_n h; obtain ⟨hb13, h⟩ := h
  replace h := lt_e h; obtain ⟨w14, ew14, h⟩ := h
  refine r_iast (pc := 63) aM30 (inb_in hb13) dX12_program_63 ?_
  refine r_w ew14 ?_
  refine r_aload_n (pc := 64) dX12_program_64 rfl 0 rfl ?_
  refine r_get (pc := 65) (j := 48) (v := .ref 34) oM0 cf12 flRX12_181 rfl dX12_program_65 rfl ?_
  refine r_iconst (pc := 68) dX12_program_68 ki_0 ?_
  refine r_iconst (pc := 69) dX12_program_69 ki_0 ?_
  replace h := if_n h; obtain ⟨hb15, h⟩ := h
  replace h := lt_e h; obtain ⟨w16, ew16, h⟩ := h
  refine r_iast (pc := 70) aM34 (inb_in hb15) dX12_program_70 ?_
  refine r_w ew16 ?_
  refine r_aload_n (pc := 71) dX12_program_71 rfl 0 rfl ?_
  refine r_get (pc := 72) (j := 49) (v := .ref 35) oM0 cf12 flRX12_184 rfl dX12_program_72 rfl ?_
  refine r_iconst (pc := 75) dX12_program_75 ki_0 ?_
  refine r_iconst (pc := 76) dX12_program_76 ki_1 ?_
  replace h := if_n h; obtain ⟨hb17, h⟩ := h
  replace h := lt_e h; obtain ⟨w18, ew18, h⟩ := h
  refine r_iast (pc := 77) aM35 (inb_in hb17) dX12_program_77 ?_
  refine r_w ew18 ?_
  refine r_aload_n (pc := 78) dX12_program_78 rfl 0 rfl ?_
  refine r_iconst (pc := 79) dX12_program_79 ki_m1 ?_
  replace h := lt_e h; obtain ⟨w19, ew19, h⟩ := h
  refine r_putI (pc := 80) (j := 29) oM0 cf12 flRX12_471 rfl rfl rfl rfl dX12_program_80 ?_
  refine r_w ew19 ?_
  refine r_aload_n (pc := 83) dX12_program_83 rfl 0 rfl ?_
  replace h := be_e h; obtain ⟨o22, w21, ew21, h1, h2⟩ := h
  refine r_cVi (pc := 84) wyX12_block oM0 rfl mlRX12_566 iyX12_block syX12_block ⟨(Nat.le_of_ble_eq_true rfl), (Nat.le_of_ble_eq_true rfl)⟩ rfl rfl (Nat.le_of_ble_eq_true rfl) dX12_program_84 (mX12_block ew21 (fun x20 ex20 => pI.mk ?_) (fun ez => be_x h2 ez hX))
  replace h := h1 _ ex20
  refine r_istore_n (pc := 87) (loc' := [(1, .int x20), (0, .ref 0)]) dX12_program_87 rfl (Nat.le_of_ble_eq_true rfl) rfl ?_
  refine r_aload_n (pc := 88) dX12_program_88 rfl 1 rfl ?_
  replace h := bn2_e h; obtain ⟨x23, w24, ew24, h⟩ := h
  refine r_cVi (pc := 89) wyX12_kind oM0 rfl mlRX12_452 iyX12_kind syX12_kind ⟨(Nat.le_of_ble_eq_true rfl), (Nat.le_of_ble_eq_true rfl)⟩ rfl rfl (Nat.le_of_ble_eq_true rfl) dX12_program_89 (mX12_kind ew24 (pI.mk ?_))
  refine r_sipush (pc := 92) dX12_program_92 ks_291 ?_
  refine r_icmp_eq (pc := 95) dX12_program_95 rfl (fun hc25 => ?_) (fun hc25 => ?_)
  · replace h := if_t hc25 h
    refine r_iload_n (pc := 103) dX12_program_103 rfl 0 rfl ?_
    exact rE_i (pc := 104) rfl dX12_program_104 h hN
  replace h := if_f hc25 h
  refine r_aload_n (pc := 98) dX12_program_98 rfl 1 rfl ?_
  replace h := bn_e h; obtain ⟨w26, ew26, h⟩ := h
  refine r_cVr (pc := 99) wyX12_bad oM0 rfl mlRX12_455 iyX12_bad syX12_bad ⟨(Nat.le_of_ble_eq_true rfl), (Nat.le_of_ble_eq_true rfl)⟩ rfl rfl (Nat.le_of_ble_eq_true rfl) dX12_program_99 (mX12_bad ew26 (pR.mk ?_))
  exact rE_x (pc := 102) oM5 dX12_program_102 h hX
theorem mX12_program {q : Gq} {l : Launch} {N : Option Value → Wd → Prop} {X : String → Wd → Prop} {w : Wd} {o : Option Int32} {u : Wd} (h : fX12_program w = some (o, u)) (hN : ∀ r : Int32, o = some r → N (some (.int r)) u) (hX : o = none → X RAE u) : Ct (GM q) l 1806 yX12_program cX12_program 2 ((some .int)) [.ref 0] w N X := Ct.of (by decide) (Nat.le_of_ble_eq_true rfl) (pX12_program hN hX h)
/-! AlgolMillModel.codeOf (I)V: O, 1909 -/
theorem dX12_codeOf_0 : decode cX12_codeOf 0 = .ok (.aload_n 0, 1) := by decide +kernel
theorem dX12_codeOf_1 : decode cX12_codeOf 1 = .ok (.iconst 0, 1) := by decide +kernel
theorem dX12_codeOf_2 : decode cX12_codeOf 2 = .ok (.putfield 596, 3) := by decide +kernel
theorem dX12_codeOf_5 : decode cX12_codeOf 5 = .ok (.aload_n 0, 1) := by decide +kernel
theorem dX12_codeOf_6 : decode cX12_codeOf 6 = .ok (.iconst 0, 1) := by decide +kernel
theorem dX12_codeOf_7 : decode cX12_codeOf 7 = .ok (.putfield 691, 3) := by decide +kernel
theorem dX12_codeOf_10 : decode cX12_codeOf 10 = .ok (.aload_n 0, 1) := by decide +kernel
theorem dX12_codeOf_11 : decode cX12_codeOf 11 = .ok (.iconst 0, 1) := by decide +kernel
theorem dX12_codeOf_12 : decode cX12_codeOf 12 = .ok (.putfield 658, 3) := by decide +kernel
theorem dX12_codeOf_15 : decode cX12_codeOf 15 = .ok (.aload_n 0, 1) := by decide +kernel
theorem dX12_codeOf_16 : decode cX12_codeOf 16 = .ok (.iconst 0, 1) := by decide +kernel
theorem dX12_codeOf_17 : decode cX12_codeOf 17 = .ok (.putfield 661, 3) := by decide +kernel
theorem dX12_codeOf_20 : decode cX12_codeOf 20 = .ok (.aload_n 0, 1) := by decide +kernel
theorem dX12_codeOf_21 : decode cX12_codeOf 21 = .ok (.iconst 0, 1) := by decide +kernel
theorem dX12_codeOf_22 : decode cX12_codeOf 22 = .ok (.putfield 730, 3) := by decide +kernel
theorem dX12_codeOf_25 : decode cX12_codeOf 25 = .ok (.aload_n 0, 1) := by decide +kernel
theorem dX12_codeOf_26 : decode cX12_codeOf 26 = .ok (.iconst 0, 1) := by decide +kernel
theorem dX12_codeOf_27 : decode cX12_codeOf 27 = .ok (.putfield 664, 3) := by decide +kernel
theorem dX12_codeOf_30 : decode cX12_codeOf 30 = .ok (.aload_n 0, 1) := by decide +kernel
theorem dX12_codeOf_31 : decode cX12_codeOf 31 = .ok (.iconst 0, 1) := by decide +kernel
theorem dX12_codeOf_32 : decode cX12_codeOf 32 = .ok (.putfield 599, 3) := by decide +kernel
theorem dX12_codeOf_35 : decode cX12_codeOf 35 = .ok (.aload_n 0, 1) := by decide +kernel
theorem dX12_codeOf_36 : decode cX12_codeOf 36 = .ok (.aload_n 0, 1) := by decide +kernel
theorem dX12_codeOf_37 : decode cX12_codeOf 37 = .ok (.getfield 102, 3) := by decide +kernel
theorem dX12_codeOf_40 : decode cX12_codeOf 40 = .ok (.iload_n 1, 1) := by decide +kernel
theorem dX12_codeOf_41 : decode cX12_codeOf 41 = .ok (.iaload, 1) := by decide +kernel
theorem dX12_codeOf_42 : decode cX12_codeOf 42 = .ok (.invokevirtual 703, 3) := by decide +kernel
theorem dX12_codeOf_45 : decode cX12_codeOf 45 = .ok (.aload_n 0, 1) := by decide +kernel
theorem dX12_codeOf_46 : decode cX12_codeOf 46 = .ok (.iconst 0, 1) := by decide +kernel
theorem dX12_codeOf_47 : decode cX12_codeOf 47 = .ok (.iconst 0, 1) := by decide +kernel
theorem dX12_codeOf_48 : decode cX12_codeOf 48 = .ok (.iconst 0, 1) := by decide +kernel
theorem dX12_codeOf_49 : decode cX12_codeOf 49 = .ok (.iconst 0, 1) := by decide +kernel
theorem dX12_codeOf_50 : decode cX12_codeOf 50 = .ok (.invokevirtual 609, 3) := by decide +kernel
theorem dX12_codeOf_53 : decode cX12_codeOf 53 = .ok (.istore_n 2, 1) := by decide +kernel
theorem dX12_codeOf_54 : decode cX12_codeOf 54 = .ok (.iconst 1, 1) := by decide +kernel
theorem dX12_codeOf_55 : decode cX12_codeOf 55 = .ok (.istore_n 3, 1) := by decide +kernel
theorem dX12_codeOf_56 : decode cX12_codeOf 56 = .ok (.iload_n 3, 1) := by decide +kernel
theorem dX12_codeOf_57 : decode cX12_codeOf 57 = .ok (.aload_n 0, 1) := by decide +kernel
theorem dX12_codeOf_58 : decode cX12_codeOf 58 = .ok (.getfield 544, 3) := by decide +kernel
theorem dX12_codeOf_61 : decode cX12_codeOf 61 = .ok (.if_icmp .ge 114, 3) := by decide +kernel
theorem dX12_codeOf_64 : decode cX12_codeOf 64 = .ok (.aload_n 0, 1) := by decide +kernel
theorem dX12_codeOf_65 : decode cX12_codeOf 65 = .ok (.iload_n 3, 1) := by decide +kernel
theorem dX12_codeOf_66 : decode cX12_codeOf 66 = .ok (.putfield 664, 3) := by decide +kernel
theorem dX12_codeOf_69 : decode cX12_codeOf 69 = .ok (.aload_n 0, 1) := by decide +kernel
theorem dX12_codeOf_70 : decode cX12_codeOf 70 = .ok (.aload_n 0, 1) := by decide +kernel
theorem dX12_codeOf_71 : decode cX12_codeOf 71 = .ok (.getfield 169, 3) := by decide +kernel
theorem dX12_codeOf_74 : decode cX12_codeOf 74 = .ok (.iload_n 3, 1) := by decide +kernel
theorem dX12_codeOf_75 : decode cX12_codeOf 75 = .ok (.iaload, 1) := by decide +kernel
theorem dX12_codeOf_76 : decode cX12_codeOf 76 = .ok (.putfield 599, 3) := by decide +kernel
theorem dX12_codeOf_79 : decode cX12_codeOf 79 = .ok (.aload_n 0, 1) := by decide +kernel
theorem dX12_codeOf_80 : decode cX12_codeOf 80 = .ok (.getfield 187, 3) := by decide +kernel
theorem dX12_codeOf_83 : decode cX12_codeOf 83 = .ok (.iload_n 3, 1) := by decide +kernel
theorem dX12_codeOf_84 : decode cX12_codeOf 84 = .ok (.aload_n 0, 1) := by decide +kernel
theorem dX12_codeOf_85 : decode cX12_codeOf 85 = .ok (.getfield 596, 3) := by decide +kernel
theorem dX12_codeOf_88 : decode cX12_codeOf 88 = .ok (.iastore, 1) := by decide +kernel
theorem dX12_codeOf_89 : decode cX12_codeOf 89 = .ok (.iconst 0, 1) := by decide +kernel
theorem dX12_codeOf_90 : decode cX12_codeOf 90 = .ok (.istore 4, 2) := by decide +kernel
theorem dX12_codeOf_92 : decode cX12_codeOf 92 = .ok (.iload 4, 2) := by decide +kernel
theorem dX12_codeOf_94 : decode cX12_codeOf 94 = .ok (.aload_n 0, 1) := by decide +kernel
theorem dX12_codeOf_95 : decode cX12_codeOf 95 = .ok (.getfield 172, 3) := by decide +kernel
theorem dX12_codeOf_98 : decode cX12_codeOf 98 = .ok (.iload_n 3, 1) := by decide +kernel
theorem dX12_codeOf_99 : decode cX12_codeOf 99 = .ok (.iaload, 1) := by decide +kernel
theorem dX12_codeOf_100 : decode cX12_codeOf 100 = .ok (.if_icmp .ge 49, 3) := by decide +kernel
theorem dX12_codeOf_103 : decode cX12_codeOf 103 = .ok (.aload_n 0, 1) := by decide +kernel
theorem dX12_codeOf_104 : decode cX12_codeOf 104 = .ok (.getfield 163, 3) := by decide +kernel
theorem dX12_codeOf_107 : decode cX12_codeOf 107 = .ok (.aload_n 0, 1) := by decide +kernel
theorem dX12_codeOf_108 : decode cX12_codeOf 108 = .ok (.getfield 175, 3) := by decide +kernel
theorem dX12_codeOf_111 : decode cX12_codeOf 111 = .ok (.iload_n 3, 1) := by decide +kernel
theorem dX12_codeOf_112 : decode cX12_codeOf 112 = .ok (.iaload, 1) := by decide +kernel
theorem dX12_codeOf_113 : decode cX12_codeOf 113 = .ok (.iload 4, 2) := by decide +kernel
theorem dX12_codeOf_115 : decode cX12_codeOf 115 = .ok (.iadd, 1) := by decide +kernel
theorem dX12_codeOf_116 : decode cX12_codeOf 116 = .ok (.baload, 1) := by decide +kernel
theorem dX12_codeOf_117 : decode cX12_codeOf 117 = .ok (.ifCond .eq 26, 3) := by decide +kernel
theorem dX12_codeOf_120 : decode cX12_codeOf 120 = .ok (.aload_n 0, 1) := by decide +kernel
theorem dX12_codeOf_121 : decode cX12_codeOf 121 = .ok (.bipush 18, 2) := by decide +kernel
theorem dX12_codeOf_123 : decode cX12_codeOf 123 = .ok (.aload_n 0, 1) := by decide +kernel
theorem dX12_codeOf_124 : decode cX12_codeOf 124 = .ok (.getfield 156, 3) := by decide +kernel
theorem dX12_codeOf_127 : decode cX12_codeOf 127 = .ok (.aload_n 0, 1) := by decide +kernel
theorem dX12_codeOf_128 : decode cX12_codeOf 128 = .ok (.getfield 175, 3) := by decide +kernel
theorem dX12_codeOf_131 : decode cX12_codeOf 131 = .ok (.iload_n 3, 1) := by decide +kernel
theorem dX12_codeOf_132 : decode cX12_codeOf 132 = .ok (.iaload, 1) := by decide +kernel
theorem dX12_codeOf_133 : decode cX12_codeOf 133 = .ok (.iload 4, 2) := by decide +kernel
theorem dX12_codeOf_135 : decode cX12_codeOf 135 = .ok (.iadd, 1) := by decide +kernel
theorem dX12_codeOf_136 : decode cX12_codeOf 136 = .ok (.iaload, 1) := by decide +kernel
theorem dX12_codeOf_137 : decode cX12_codeOf 137 = .ok (.iconst 0, 1) := by decide +kernel
theorem dX12_codeOf_138 : decode cX12_codeOf 138 = .ok (.iconst 0, 1) := by decide +kernel
theorem dX12_codeOf_139 : decode cX12_codeOf 139 = .ok (.invokevirtual 609, 3) := by decide +kernel
theorem dX12_codeOf_142 : decode cX12_codeOf 142 = .ok (.istore_n 2, 1) := by decide +kernel
theorem dX12_codeOf_143 : decode cX12_codeOf 143 = .ok (.iinc 4 1, 3) := by decide +kernel
theorem dX12_codeOf_146 : decode cX12_codeOf 146 = .ok (.goto (-54), 3) := by decide +kernel
theorem dX12_codeOf_149 : decode cX12_codeOf 149 = .ok (.aload_n 0, 1) := by decide +kernel
theorem dX12_codeOf_150 : decode cX12_codeOf 150 = .ok (.aload_n 0, 1) := by decide +kernel
theorem dX12_codeOf_151 : decode cX12_codeOf 151 = .ok (.getfield 178, 3) := by decide +kernel
theorem dX12_codeOf_154 : decode cX12_codeOf 154 = .ok (.iload_n 3, 1) := by decide +kernel
theorem dX12_codeOf_155 : decode cX12_codeOf 155 = .ok (.iaload, 1) := by decide +kernel
theorem dX12_codeOf_156 : decode cX12_codeOf 156 = .ok (.invokevirtual 697, 3) := by decide +kernel
theorem dX12_codeOf_159 : decode cX12_codeOf 159 = .ok (.aload_n 0, 1) := by decide +kernel
theorem dX12_codeOf_160 : decode cX12_codeOf 160 = .ok (.bipush 16, 2) := by decide +kernel
theorem dX12_codeOf_162 : decode cX12_codeOf 162 = .ok (.iconst 0, 1) := by decide +kernel
theorem dX12_codeOf_163 : decode cX12_codeOf 163 = .ok (.iconst 0, 1) := by decide +kernel
theorem dX12_codeOf_164 : decode cX12_codeOf 164 = .ok (.iconst 0, 1) := by decide +kernel
theorem dX12_codeOf_165 : decode cX12_codeOf 165 = .ok (.invokevirtual 609, 3) := by decide +kernel
theorem dX12_codeOf_168 : decode cX12_codeOf 168 = .ok (.istore_n 2, 1) := by decide +kernel
theorem dX12_codeOf_169 : decode cX12_codeOf 169 = .ok (.iinc 3 1, 3) := by decide +kernel
theorem dX12_codeOf_172 : decode cX12_codeOf 172 = .ok (.goto (-116), 3) := by decide +kernel
theorem dX12_codeOf_175 : decode cX12_codeOf 175 = .ok (.return_, 1) := by decide +kernel
def fX12_codeOf_92 (k_56 : Int32 → Wd → Option Wd) (k_92 : Int32 → Int32 → Wd → Option Wd) (a3 : Int32) (a4 : Int32) (w : Wd) : Option Wd :=
  if inb a3 1200 = true then if (gi w 31 (Int32.toNatClampNeg a3)) ≤ a4 then (if inb a3 1200 = true then bn2 (RX12_row 200 1 (gi w 33 (Int32.toNatClampNeg a3)) 0 0 w) fun _ w5 => bn2 (fX12_op 16 0 0 0 w5) fun x6 w7 => lt (a3 + 1) fun x8 => k_56 x8 w7 else none) else (if inb a3 1200 = true then if inb ((gi w 32 (Int32.toNatClampNeg a3)) + a4) 5000 = true then if (gi w 28 (Int32.toNatClampNeg ((gi w 32 (Int32.toNatClampNeg a3)) + a4))) = 0 then (lt (a4 + 1) fun x12 => k_92 a3 x12 w) else (if inb a3 1200 = true then if inb ((gi w 32 (Int32.toNatClampNeg a3)) + a4) 5000 = true then bn2 (fX12_op 18 (gi w 26 (Int32.toNatClampNeg ((gi w 32 (Int32.toNatClampNeg a3)) + a4))) 0 0 w) fun x15 w16 => lt (a4 + 1) fun x17 => k_92 a3 x17 w16 else none else none) else none else none) else none
theorem pX12_codeOf_92 {q : Gq} {l : Launch} {N : Option Value → Wd → Prop} {X : String → Wd → Prop} {w : Wd} {R : Wd} (hN : N none R) {k_56 : Int32 → Wd → Option Wd} {k_92 : Int32 → Int32 → Wd → Option Wd} (hk_56 : ∀ (a3 : Int32) (w : Wd), k_56 a3 w = some R → RT (GM q) l 1909 yX12_codeOf cX12_codeOf 5 (none) N X 56 [] [(0, .ref 0), (3, .int a3)] w) (hk_92 : ∀ (a3 : Int32) (a4 : Int32) (w : Wd), k_92 a3 a4 w = some R → RT (GM q) l 1909 yX12_codeOf cX12_codeOf 5 (none) N X 92 [] [(0, .ref 0), (3, .int a3), (4, .int a4)] w) {a3 : Int32} {a4 : Int32} (h : fX12_codeOf_92 k_56 k_92 a3 a4 w = some R) : RT (GM q) l 1909 yX12_codeOf cX12_codeOf 5 (none) N X 92 [] [(0, .ref 0), (3, .int a3), (4, .int a4)] w := by
  unfold fX12_codeOf_92 at h
  refine r_iload (pc := 92) dX12_codeOf_92 2 rfl ?_
  refine r_aload_n (pc := 94) dX12_codeOf_94 rfl 0 rfl ?_
  refine r_get (pc := 95) (j := 45) (v := .ref 31) oM0 cf12 flRX12_172 rfl dX12_codeOf_95 rfl ?_
  refine r_iload_n (pc := 98) dX12_codeOf_98 rfl 1 rfl ?_
  replace h := if_n h; obtain ⟨hb1, h⟩ := h
  refine r_iald (pc := 99) aM31 (inb_in hb1) dX12_codeOf_99 ?_
  refine r_icmp_ge (pc := 100) dX12_codeOf_100 rfl (fun hc2 => ?_) (fun hc2 => ?_)
  · replace h := if_t hc2 h
    refine r_aload_n (pc := 149) dX12_codeOf_149 rfl 0 rfl ?_
    refine r_aload_n (pc := 150) dX12_codeOf_150 rfl 0 rfl ?_
    refine r_get (pc := 151) (j := 47) (v := .ref 33) oM0 cf12 flRX12_178 rfl dX12_codeOf_151 rfl ?_
    refine r_iload_n (pc := 154) dX12_codeOf_154 rfl 1 rfl ?_
    replace h := if_n h; obtain ⟨hb3, h⟩ := h
    refine r_iald (pc := 155) aM33 (inb_in hb3) dX12_codeOf_155 ?_
    replace h := bn2_e h; obtain ⟨x4, w5, ew5, h⟩ := h
    refine r_cVv (pc := 156) wyX12_statementCode oM0 rfl mlRX12_697 iyX12_statementCode syX12_statementCode ⟨(Nat.le_of_ble_eq_true rfl), (Nat.le_of_ble_eq_true rfl)⟩ rfl rfl (Nat.le_of_ble_eq_true rfl) dX12_codeOf_156 (mX12_statementCode ew5 (pV.mk ?_))
    refine r_aload_n (pc := 159) dX12_codeOf_159 rfl 0 rfl ?_
    refine r_bipush (pc := 160) dX12_codeOf_160 kb_16 ?_
    refine r_iconst (pc := 162) dX12_codeOf_162 ki_0 ?_
    refine r_iconst (pc := 163) dX12_codeOf_163 ki_0 ?_
    refine r_iconst (pc := 164) dX12_codeOf_164 ki_0 ?_
    replace h := bn2_e h; obtain ⟨x6, w7, ew7, h⟩ := h
    refine r_cVi (pc := 165) wyX12_op oM0 rfl mlRX12_609 iyX12_op syX12_op ⟨(Nat.le_of_ble_eq_true rfl), (Nat.le_of_ble_eq_true rfl)⟩ rfl rfl (Nat.le_of_ble_eq_true rfl) dX12_codeOf_165 (mX12_op ew7 (pI.mk ?_))
    refine r_istore_n (pc := 168) (loc' := [(2, .int x6), (0, .ref 0), (3, .int a3), (4, .int a4)]) dX12_codeOf_168 rfl (Nat.le_of_ble_eq_true rfl) rfl ?_
    replace h := lt_e h; obtain ⟨x8, ex8, h⟩ := h
    refine r_inc (pc := 169) (loc' := [(3, .int x8), (2, .int x6), (0, .ref 0), (4, .int a4)]) dX12_codeOf_169 ki_1 ex8 2 rfl (Nat.le_of_ble_eq_true rfl) rfl ?_
    refine r_goto (pc := 172) dX12_codeOf_172 rfl ?_
    refine r_drop (loc' := [(0, .ref 0), (3, .int x8)]) [2, 0] rfl ?_
    exact hk_56 x8 w7 h
  replace h := if_f hc2 h
  refine r_aload_n (pc := 103) dX12_codeOf_103 rfl 0 rfl ?_
  refine r_get (pc := 104) (j := 41) (v := .ref 28) oM0 cf12 flRX12_163 rfl dX12_codeOf_104 rfl ?_
  refine r_aload_n (pc := 107) dX12_codeOf_107 rfl 0 rfl ?_
  refine r_get (pc := 108) (j := 46) (v := .ref 32) oM0 cf12 flRX12_175 rfl dX12_codeOf_108 rfl ?_
  refine r_iload_n (pc := 111) dX12_codeOf_111 rfl 1 rfl ?_
  replace h := if_n h; obtain ⟨hb9, h⟩ := h
  refine r_iald (pc := 112) aM32 (inb_in hb9) dX12_codeOf_112 ?_
  refine r_iload (pc := 113) dX12_codeOf_113 2 rfl ?_
  refine r_iadd (pc := 115) dX12_codeOf_115 ?_
  replace h := if_n h; obtain ⟨hb10, h⟩ := h
  refine r_zald (pc := 116) aM28 (inb_in hb10) dX12_codeOf_116 ?_
  refine r_if_eq (pc := 117) dX12_codeOf_117 rfl (fun hc11 => ?_) (fun hc11 => ?_)
  · replace h := if_t hc11 h
    replace h := lt_e h; obtain ⟨x12, ex12, h⟩ := h
    refine r_inc (pc := 143) (loc' := [(4, .int x12), (0, .ref 0), (3, .int a3)]) dX12_codeOf_143 ki_1 ex12 2 rfl (Nat.le_of_ble_eq_true rfl) rfl ?_
    refine r_goto (pc := 146) dX12_codeOf_146 rfl ?_
    refine r_drop (loc' := [(0, .ref 0), (3, .int a3), (4, .int x12)]) [1, 2, 0] rfl ?_
    exact hk_92 a3 x12 w h
  replace h := if_f hc11 h
  refine r_aload_n (pc := 120) dX12_codeOf_120 rfl 0 rfl ?_
  refine r_bipush (pc := 121) dX12_codeOf_121 kb_18 ?_
  refine r_aload_n (pc := 123) dX12_codeOf_123 rfl 0 rfl ?_
  refine r_get (pc := 124) (j := 39) (v := .ref 26) oM0 cf12 flRX12_156 rfl dX12_codeOf_124 rfl ?_
  refine r_aload_n (pc := 127) dX12_codeOf_127 rfl 0 rfl ?_
  refine r_get (pc := 128) (j := 46) (v := .ref 32) oM0 cf12 flRX12_175 rfl dX12_codeOf_128 rfl ?_
  refine r_iload_n (pc := 131) dX12_codeOf_131 rfl 1 rfl ?_
  replace h := if_n h; obtain ⟨hb13, h⟩ := h
  refine r_iald (pc := 132) aM32 (inb_in hb13) dX12_codeOf_132 ?_
  refine r_iload (pc := 133) dX12_codeOf_133 2 rfl ?_
  refine r_iadd (pc := 135) dX12_codeOf_135 ?_
  replace h := if_n h; obtain ⟨hb14, h⟩ := h
  refine r_iald (pc := 136) aM26 (inb_in hb14) dX12_codeOf_136 ?_
  refine r_iconst (pc := 137) dX12_codeOf_137 ki_0 ?_
  refine r_iconst (pc := 138) dX12_codeOf_138 ki_0 ?_
  replace h := bn2_e h; obtain ⟨x15, w16, ew16, h⟩ := h
  refine r_cVi (pc := 139) wyX12_op oM0 rfl mlRX12_609 iyX12_op syX12_op ⟨(Nat.le_of_ble_eq_true rfl), (Nat.le_of_ble_eq_true rfl)⟩ rfl rfl (Nat.le_of_ble_eq_true rfl) dX12_codeOf_139 (mX12_op ew16 (pI.mk ?_))
  refine r_istore_n (pc := 142) (loc' := [(2, .int x15), (0, .ref 0), (3, .int a3), (4, .int a4)]) dX12_codeOf_142 rfl (Nat.le_of_ble_eq_true rfl) rfl ?_
  replace h := lt_e h; obtain ⟨x17, ex17, h⟩ := h
  refine r_inc (pc := 143) (loc' := [(4, .int x17), (2, .int x15), (0, .ref 0), (3, .int a3)]) dX12_codeOf_143 ki_1 ex17 3 rfl (Nat.le_of_ble_eq_true rfl) rfl ?_
  refine r_goto (pc := 146) dX12_codeOf_146 rfl ?_
  refine r_drop (loc' := [(0, .ref 0), (3, .int a3), (4, .int x17)]) [2, 3, 0] rfl ?_
  exact hk_92 a3 x17 w16 h
def oX12_codeOf_92 (k_56 : Int32 → Wd → Option Wd) : Nat → Int32 → Int32 → Wd → Option Wd
  | 0 => fun _ _ _ => none
  | n + 1 => fX12_codeOf_92 k_56 (oX12_codeOf_92 k_56 n)
theorem qX12_codeOf_92 {q : Gq} {l : Launch} {N : Option Value → Wd → Prop} {X : String → Wd → Prop} {R : Wd} (hN : N none R) {k_56 : Int32 → Wd → Option Wd} (hk_56 : ∀ (a3 : Int32) (w : Wd), k_56 a3 w = some R → RT (GM q) l 1909 yX12_codeOf cX12_codeOf 5 (none) N X 56 [] [(0, .ref 0), (3, .int a3)] w) : ∀ (n : Nat) (a3 : Int32) (a4 : Int32) (w : Wd), oX12_codeOf_92 k_56 n a3 a4 w = some R → RT (GM q) l 1909 yX12_codeOf cX12_codeOf 5 (none) N X 92 [] [(0, .ref 0), (3, .int a3), (4, .int a4)] w := by
  intro n
  induction n with
  | zero =>
    intro a3 a4 w h
    exact absurd h (fun q => nomatch q)
  | succ n ih =>
    intro a3 a4 w h
    exact pX12_codeOf_92 hN hk_56 ih h
def fX12_codeOf_56 (k_56 : Int32 → Wd → Option Wd) (a3 : Int32) (w : Wd) : Option Wd :=
  if (gi w 0 53) ≤ a3 then (some w) else (lt (si w 0 66 a3) fun w2 => if inb a3 1200 = true then lt (si w2 0 65 (gi w2 30 (Int32.toNatClampNeg a3))) fun w4 => if inb a3 1200 = true then lt (si w4 36 (Int32.toNatClampNeg a3) (gi w4 0 64)) fun w6 => oX12_codeOf_92 k_56 FU a3 0 w6 else none else none)
theorem pX12_codeOf_56 {q : Gq} {l : Launch} {N : Option Value → Wd → Prop} {X : String → Wd → Prop} {w : Wd} {R : Wd} (hN : N none R) {k_56 : Int32 → Wd → Option Wd} (hk_56 : ∀ (a3 : Int32) (w : Wd), k_56 a3 w = some R → RT (GM q) l 1909 yX12_codeOf cX12_codeOf 5 (none) N X 56 [] [(0, .ref 0), (3, .int a3)] w) {a3 : Int32} (h : fX12_codeOf_56 k_56 a3 w = some R) : RT (GM q) l 1909 yX12_codeOf cX12_codeOf 5 (none) N X 56 [] [(0, .ref 0), (3, .int a3)] w := by
  unfold fX12_codeOf_56 at h
  refine r_iload_n (pc := 56) dX12_codeOf_56 rfl 1 rfl ?_
  refine r_aload_n (pc := 57) dX12_codeOf_57 rfl 0 rfl ?_
  refine r_get (pc := 58) (j := 53) (v := .int (gi w 0 53)) oM0 cf12 flRX12_544 rfl dX12_codeOf_58 rfl ?_
  refine r_icmp_ge (pc := 61) dX12_codeOf_61 rfl (fun hc1 => ?_) (fun hc1 => ?_)
  · replace h := if_t hc1 h
    exact rO_v (pc := 175) rfl dX12_codeOf_175 h hN
  replace h := if_f hc1 h
  refine r_aload_n (pc := 64) dX12_codeOf_64 rfl 0 rfl ?_
  refine r_iload_n (pc := 65) dX12_codeOf_65 rfl 1 rfl ?_
  replace h := lt_e h; obtain ⟨w2, ew2, h⟩ := h
  refine r_putI (pc := 66) (j := 66) oM0 cf12 flRX12_664 rfl rfl rfl rfl dX12_codeOf_66 ?_
  refine r_w ew2 ?_
  refine r_aload_n (pc := 69) dX12_codeOf_69 rfl 0 rfl ?_
  refine r_aload_n (pc := 70) dX12_codeOf_70 rfl 0 rfl ?_
  refine r_get (pc := 71) (j := 44) (v := .ref 30) oM0 cf12 flRX12_169 rfl dX12_codeOf_71 rfl ?_
  refine r_iload_n (pc := 74) dX12_codeOf_74 rfl 1 rfl ?_
  replace h := if_n h; obtain ⟨hb3, h⟩ := h
  refine r_iald (pc := 75) aM30 (inb_in hb3) dX12_codeOf_75 ?_
  replace h := lt_e h; obtain ⟨w4, ew4, h⟩ := h
  refine r_putI (pc := 76) (j := 65) oM0 cf12 flRX12_599 rfl rfl rfl rfl dX12_codeOf_76 ?_
  refine r_w ew4 ?_
  refine r_aload_n (pc := 79) dX12_codeOf_79 rfl 0 rfl ?_
  refine r_get (pc := 80) (j := 50) (v := .ref 36) oM0 cf12 flRX12_187 rfl dX12_codeOf_80 rfl ?_
  refine r_iload_n (pc := 83) dX12_codeOf_83 rfl 1 rfl ?_
  refine r_aload_n (pc := 84) dX12_codeOf_84 rfl 0 rfl ?_
  refine r_get (pc := 85) (j := 64) (v := .int (gi w4 0 64)) oM0 cf12 flRX12_596 rfl dX12_codeOf_85 rfl ?_
  replace h := if_n h; obtain ⟨hb5, h⟩ := h
  replace h := lt_e h; obtain ⟨w6, ew6, h⟩ := h
  refine r_iast (pc := 88) aM36 (inb_in hb5) dX12_codeOf_88 ?_
  refine r_w ew6 ?_
  refine r_iconst (pc := 89) dX12_codeOf_89 ki_0 ?_
  refine r_istore (pc := 90) (loc' := [(4, .int 0), (0, .ref 0), (3, .int a3)]) dX12_codeOf_90 (Nat.le_of_ble_eq_true rfl) rfl ?_
  refine r_drop (loc' := [(0, .ref 0), (3, .int a3), (4, .int 0)]) [1, 2, 0] rfl ?_
  exact qX12_codeOf_92 hN hk_56 FU a3 0 w6 h
def oX12_codeOf_56 : Nat → Int32 → Wd → Option Wd
  | 0 => fun _ _ => none
  | n + 1 => fX12_codeOf_56 (oX12_codeOf_56 n)
theorem qX12_codeOf_56 {q : Gq} {l : Launch} {N : Option Value → Wd → Prop} {X : String → Wd → Prop} {R : Wd} (hN : N none R) : ∀ (n : Nat) (a3 : Int32) (w : Wd), oX12_codeOf_56 n a3 w = some R → RT (GM q) l 1909 yX12_codeOf cX12_codeOf 5 (none) N X 56 [] [(0, .ref 0), (3, .int a3)] w := by
  intro n
  induction n with
  | zero =>
    intro a3 w h
    exact absurd h (fun q => nomatch q)
  | succ n ih =>
    intro a3 w h
    exact pX12_codeOf_56 hN ih h
def fX12_codeOf (a1 : Int32) (w : Wd) : Option Wd :=
  lt (si w 0 64 0) fun w1 => lt (si w1 0 69 0) fun w2 => lt (si w2 0 73 0) fun w3 => lt (si w3 0 77 0) fun w4 => lt (si w4 0 82 0) fun w5 => lt (si w5 0 66 0) fun w6 => lt (si w6 0 65 0) fun w7 => if inb a1 24000 = true then bn2 (RX12_row 200 3 (gi w7 8 (Int32.toNatClampNeg a1)) 0 0 w7) fun _ w10 => bn2 (fX12_op 0 0 0 0 w10) fun x11 w12 => oX12_codeOf_56 FU 1 w12 else none
theorem pX12_codeOf {q : Gq} {l : Launch} {N : Option Value → Wd → Prop} {X : String → Wd → Prop} {w : Wd} {R : Wd} (hN : N none R) {a1 : Int32} (h : fX12_codeOf a1 w = some R) : RT (GM q) l 1909 yX12_codeOf cX12_codeOf 5 (none) N X 0 [] [(0, .ref 0), (1, .int a1)] w := by
  unfold fX12_codeOf at h
  refine r_aload_n (pc := 0) dX12_codeOf_0 rfl 0 rfl ?_
  refine r_iconst (pc := 1) dX12_codeOf_1 ki_0 ?_
  replace h := lt_e h; obtain ⟨w1, ew1, h⟩ := h
  refine r_putI (pc := 2) (j := 64) oM0 cf12 flRX12_596 rfl rfl rfl rfl dX12_codeOf_2 ?_
  refine r_w ew1 ?_
  refine r_aload_n (pc := 5) dX12_codeOf_5 rfl 0 rfl ?_
  refine r_iconst (pc := 6) dX12_codeOf_6 ki_0 ?_
  replace h := lt_e h; obtain ⟨w2, ew2, h⟩ := h
  refine r_putI (pc := 7) (j := 69) oM0 cf12 flRX12_691 rfl rfl rfl rfl dX12_codeOf_7 ?_
  refine r_w ew2 ?_
  refine r_aload_n (pc := 10) dX12_codeOf_10 rfl 0 rfl ?_
  refine r_iconst (pc := 11) dX12_codeOf_11 ki_0 ?_
  replace h := lt_e h; obtain ⟨w3, ew3, h⟩ := h
  refine r_putI (pc := 12) (j := 73) oM0 cf12 flRX12_658 rfl rfl rfl rfl dX12_codeOf_12 ?_
  refine r_w ew3 ?_
  refine r_aload_n (pc := 15) dX12_codeOf_15 rfl 0 rfl ?_
  refine r_iconst (pc := 16) dX12_codeOf_16 ki_0 ?_
  replace h := lt_e h; obtain ⟨w4, ew4, h⟩ := h
  refine r_putI (pc := 17) (j := 77) oM0 cf12 flRX12_661 rfl rfl rfl rfl dX12_codeOf_17 ?_
  refine r_w ew4 ?_
  refine r_aload_n (pc := 20) dX12_codeOf_20 rfl 0 rfl ?_
  refine r_iconst (pc := 21) dX12_codeOf_21 ki_0 ?_
  replace h := lt_e h; obtain ⟨w5, ew5, h⟩ := h
  refine r_putI (pc := 22) (j := 82) oM0 cf12 flRX12_730 rfl rfl rfl rfl dX12_codeOf_22 ?_
  refine r_w ew5 ?_
  refine r_aload_n (pc := 25) dX12_codeOf_25 rfl 0 rfl ?_
  refine r_iconst (pc := 26) dX12_codeOf_26 ki_0 ?_
  replace h := lt_e h; obtain ⟨w6, ew6, h⟩ := h
  refine r_putI (pc := 27) (j := 66) oM0 cf12 flRX12_664 rfl rfl rfl rfl dX12_codeOf_27 ?_
  refine r_w ew6 ?_
  refine r_aload_n (pc := 30) dX12_codeOf_30 rfl 0 rfl ?_
  refine r_iconst (pc := 31) dX12_codeOf_31 ki_0 ?_
  replace h := lt_e h; obtain ⟨w7, ew7, h⟩ := h
  refine r_putI (pc := 32) (j := 65) oM0 cf12 flRX12_599 rfl rfl rfl rfl dX12_codeOf_32 ?_
  refine r_w ew7 ?_
  refine r_aload_n (pc := 35) dX12_codeOf_35 rfl 0 rfl ?_
  refine r_aload_n (pc := 36) dX12_codeOf_36 rfl 0 rfl ?_
  refine r_get (pc := 37) (j := 17) (v := .ref 8) oM0 cf12 flRX12_102 rfl dX12_codeOf_37 rfl ?_
  refine r_iload_n (pc := 40) dX12_codeOf_40 rfl 1 rfl ?_
  replace h := if_n h; obtain ⟨hb8, h⟩ := h
  refine r_iald (pc := 41) aM8 (inb_in hb8) dX12_codeOf_41 ?_
  replace h := bn2_e h; obtain ⟨x9, w10, ew10, h⟩ := h
  refine r_cVv (pc := 42) wyX12_blockCode oM0 rfl mlRX12_703 iyX12_blockCode syX12_blockCode ⟨(Nat.le_of_ble_eq_true rfl), (Nat.le_of_ble_eq_true rfl)⟩ rfl rfl (Nat.le_of_ble_eq_true rfl) dX12_codeOf_42 (mX12_blockCode ew10 (pV.mk ?_))
  refine r_aload_n (pc := 45) dX12_codeOf_45 rfl 0 rfl ?_
  refine r_iconst (pc := 46) dX12_codeOf_46 ki_0 ?_
  refine r_iconst (pc := 47) dX12_codeOf_47 ki_0 ?_
  refine r_iconst (pc := 48) dX12_codeOf_48 ki_0 ?_
  refine r_iconst (pc := 49) dX12_codeOf_49 ki_0 ?_
  replace h := bn2_e h; obtain ⟨x11, w12, ew12, h⟩ := h
  refine r_cVi (pc := 50) wyX12_op oM0 rfl mlRX12_609 iyX12_op syX12_op ⟨(Nat.le_of_ble_eq_true rfl), (Nat.le_of_ble_eq_true rfl)⟩ rfl rfl (Nat.le_of_ble_eq_true rfl) dX12_codeOf_50 (mX12_op ew12 (pI.mk ?_))
  refine r_istore_n (pc := 53) (loc' := [(2, .int x11), (0, .ref 0), (1, .int a1)]) dX12_codeOf_53 rfl (Nat.le_of_ble_eq_true rfl) rfl ?_
  refine r_iconst (pc := 54) dX12_codeOf_54 ki_1 ?_
  refine r_istore_n (pc := 55) (loc' := [(3, .int 1), (2, .int x11), (0, .ref 0), (1, .int a1)]) dX12_codeOf_55 rfl (Nat.le_of_ble_eq_true rfl) rfl ?_
  refine r_drop (loc' := [(0, .ref 0), (3, .int 1)]) [2, 0] rfl ?_
  exact qX12_codeOf_56 hN FU 1 w12 h
theorem mX12_codeOf {q : Gq} {l : Launch} {N : Option Value → Wd → Prop} {X : String → Wd → Prop} {a1 : Int32} {w : Wd} {u : Wd} (h : fX12_codeOf a1 w = some u) (hN : N none u) : Ct (GM q) l 1909 yX12_codeOf cX12_codeOf 5 (none) [.ref 0, .int a1] w N X := Ct.of (by decide) (Nat.le_of_ble_eq_true rfl) (pX12_codeOf hN h)
/-! AlgolMillModel.copy ([I[II)V: O, 0 -/
theorem dX12_copy_0 : decode cX12_copy 0 = .ok (.iconst 0, 1) := by decide +kernel
theorem dX12_copy_1 : decode cX12_copy 1 = .ok (.istore 4, 2) := by decide +kernel
theorem dX12_copy_3 : decode cX12_copy 3 = .ok (.iload 4, 2) := by decide +kernel
theorem dX12_copy_5 : decode cX12_copy 5 = .ok (.iload_n 3, 1) := by decide +kernel
theorem dX12_copy_6 : decode cX12_copy 6 = .ok (.if_icmp .ge 17, 3) := by decide +kernel
theorem dX12_copy_9 : decode cX12_copy 9 = .ok (.aload_n 2, 1) := by decide +kernel
theorem dX12_copy_10 : decode cX12_copy 10 = .ok (.iload 4, 2) := by decide +kernel
theorem dX12_copy_12 : decode cX12_copy 12 = .ok (.aload_n 1, 1) := by decide +kernel
theorem dX12_copy_13 : decode cX12_copy 13 = .ok (.iload 4, 2) := by decide +kernel
theorem dX12_copy_15 : decode cX12_copy 15 = .ok (.iaload, 1) := by decide +kernel
theorem dX12_copy_16 : decode cX12_copy 16 = .ok (.iastore, 1) := by decide +kernel
theorem dX12_copy_17 : decode cX12_copy 17 = .ok (.iinc 4 1, 3) := by decide +kernel
theorem dX12_copy_20 : decode cX12_copy 20 = .ok (.goto (-17), 3) := by decide +kernel
theorem dX12_copy_23 : decode cX12_copy 23 = .ok (.return_, 1) := by decide +kernel
def fX12_copy_3 (k_3 : Int32 → Int32 → Wd → Option Wd) (k1 n1 : Nat) (k2 n2 : Nat) (a3 : Int32) (a4 : Int32) (w : Wd) : Option Wd :=
  if a3 ≤ a4 then (some w) else (if inb a4 n1 = true then if inb a4 n2 = true then lt (si w k2 (Int32.toNatClampNeg a4) (gi w k1 (Int32.toNatClampNeg a4))) fun w4 => lt (a4 + 1) fun x5 => k_3 a3 x5 w4 else none else none)
theorem pX12_copy_3 {q : Gq} {l : Launch} {N : Option Value → Wd → Prop} {X : String → Wd → Prop} {w : Wd} {R : Wd} (hN : N none R) {k1 n1 : Nat} (hA1 : AR (GM q) k1 0 n1 .int) {k2 n2 : Nat} (hA2 : AR (GM q) k2 0 n2 .int) {k_3 : Int32 → Int32 → Wd → Option Wd} (hk_3 : ∀ (a3 : Int32) (a4 : Int32) (w : Wd), k_3 a3 a4 w = some R → RT (GM q) l 0 yX12_copy cX12_copy 5 (none) N X 3 [] [(1, .ref k1), (2, .ref k2), (3, .int a3), (4, .int a4)] w) {a3 : Int32} {a4 : Int32} (h : fX12_copy_3 k_3 k1 n1 k2 n2 a3 a4 w = some R) : RT (GM q) l 0 yX12_copy cX12_copy 5 (none) N X 3 [] [(1, .ref k1), (2, .ref k2), (3, .int a3), (4, .int a4)] w := by
  unfold fX12_copy_3 at h
  refine r_iload (pc := 3) dX12_copy_3 3 rfl ?_
  refine r_iload_n (pc := 5) dX12_copy_5 rfl 2 rfl ?_
  refine r_icmp_ge (pc := 6) dX12_copy_6 rfl (fun hc1 => ?_) (fun hc1 => ?_)
  · replace h := if_t hc1 h
    exact rO_v (pc := 23) rfl dX12_copy_23 h hN
  replace h := if_f hc1 h
  refine r_aload_n (pc := 9) dX12_copy_9 rfl 1 rfl ?_
  refine r_iload (pc := 10) dX12_copy_10 3 rfl ?_
  refine r_aload_n (pc := 12) dX12_copy_12 rfl 0 rfl ?_
  refine r_iload (pc := 13) dX12_copy_13 3 rfl ?_
  replace h := if_n h; obtain ⟨hb2, h⟩ := h
  refine r_iald (pc := 15) hA1 (inb_in hb2) dX12_copy_15 ?_
  replace h := if_n h; obtain ⟨hb3, h⟩ := h
  replace h := lt_e h; obtain ⟨w4, ew4, h⟩ := h
  refine r_iast (pc := 16) hA2 (inb_in hb3) dX12_copy_16 ?_
  refine r_w ew4 ?_
  replace h := lt_e h; obtain ⟨x5, ex5, h⟩ := h
  refine r_inc (pc := 17) (loc' := [(4, .int x5), (1, .ref k1), (2, .ref k2), (3, .int a3)]) dX12_copy_17 ki_1 ex5 3 rfl (Nat.le_of_ble_eq_true rfl) rfl ?_
  refine r_goto (pc := 20) dX12_copy_20 rfl ?_
  refine r_drop (loc' := [(1, .ref k1), (2, .ref k2), (3, .int a3), (4, .int x5)]) [1, 2, 3, 0] rfl ?_
  exact hk_3 a3 x5 w4 h
def oX12_copy_3 (k1 n1 : Nat) (k2 n2 : Nat) : Nat → Int32 → Int32 → Wd → Option Wd
  | 0 => fun _ _ _ => none
  | n + 1 => fX12_copy_3 (oX12_copy_3 k1 n1 k2 n2 n) k1 n1 k2 n2
theorem qX12_copy_3 {q : Gq} {l : Launch} {N : Option Value → Wd → Prop} {X : String → Wd → Prop} {R : Wd} (hN : N none R) {k1 n1 : Nat} (hA1 : AR (GM q) k1 0 n1 .int) {k2 n2 : Nat} (hA2 : AR (GM q) k2 0 n2 .int) : ∀ (n : Nat) (a3 : Int32) (a4 : Int32) (w : Wd), oX12_copy_3 k1 n1 k2 n2 n a3 a4 w = some R → RT (GM q) l 0 yX12_copy cX12_copy 5 (none) N X 3 [] [(1, .ref k1), (2, .ref k2), (3, .int a3), (4, .int a4)] w := by
  intro n
  induction n with
  | zero =>
    intro a3 a4 w h
    exact absurd h (fun q => nomatch q)
  | succ n ih =>
    intro a3 a4 w h
    exact pX12_copy_3 hN hA1 hA2 ih h
def fX12_copy (k1 n1 : Nat) (k2 n2 : Nat) (a3 : Int32) (w : Wd) : Option Wd :=
  oX12_copy_3 k1 n1 k2 n2 FU a3 0 w
theorem pX12_copy {q : Gq} {l : Launch} {N : Option Value → Wd → Prop} {X : String → Wd → Prop} {w : Wd} {R : Wd} (hN : N none R) {k1 n1 : Nat} (hA1 : AR (GM q) k1 0 n1 .int) {k2 n2 : Nat} (hA2 : AR (GM q) k2 0 n2 .int) {a3 : Int32} (h : fX12_copy k1 n1 k2 n2 a3 w = some R) : RT (GM q) l 0 yX12_copy cX12_copy 5 (none) N X 0 [] [(0, .ref 0), (1, .ref k1), (2, .ref k2), (3, .int a3)] w := by
  unfold fX12_copy at h
  refine r_iconst (pc := 0) dX12_copy_0 ki_0 ?_
  refine r_istore (pc := 1) (loc' := [(4, .int 0), (0, .ref 0), (1, .ref k1), (2, .ref k2), (3, .int a3)]) dX12_copy_1 (Nat.le_of_ble_eq_true rfl) rfl ?_
  refine r_drop (loc' := [(1, .ref k1), (2, .ref k2), (3, .int a3), (4, .int 0)]) [2, 3, 4, 0] rfl ?_
  exact qX12_copy_3 hN hA1 hA2 FU a3 0 w h
theorem mX12_copy {q : Gq} {l : Launch} {N : Option Value → Wd → Prop} {X : String → Wd → Prop} {k1 n1 : Nat} (hA1 : AR (GM q) k1 0 n1 .int) {k2 n2 : Nat} (hA2 : AR (GM q) k2 0 n2 .int) {a3 : Int32} {w : Wd} {u : Wd} (h : fX12_copy k1 n1 k2 n2 a3 w = some u) (hN : N none u) : Ct (GM q) l 0 yX12_copy cX12_copy 5 (none) [.ref 0, .ref k1, .ref k2, .int a3] w N X := Ct.of (by decide) (Nat.le_of_ble_eq_true rfl) (pX12_copy hN hA1 hA2 h)
/-! AlgolMillModel.keep ()V: O, 1 -/
theorem dX12_keep_0 : decode cX12_keep 0 = .ok (.aload_n 0, 1) := by decide +kernel
theorem dX12_keep_1 : decode cX12_keep 1 = .ok (.iconst 1, 1) := by decide +kernel
theorem dX12_keep_2 : decode cX12_keep 2 = .ok (.putfield 751, 3) := by decide +kernel
theorem dX12_keep_5 : decode cX12_keep 5 = .ok (.aload_n 0, 1) := by decide +kernel
theorem dX12_keep_6 : decode cX12_keep 6 = .ok (.aload_n 0, 1) := by decide +kernel
theorem dX12_keep_7 : decode cX12_keep 7 = .ok (.getfield 218, 3) := by decide +kernel
theorem dX12_keep_10 : decode cX12_keep 10 = .ok (.aload_n 0, 1) := by decide +kernel
theorem dX12_keep_11 : decode cX12_keep 11 = .ok (.getfield 260, 3) := by decide +kernel
theorem dX12_keep_14 : decode cX12_keep 14 = .ok (.iconst 4, 1) := by decide +kernel
theorem dX12_keep_15 : decode cX12_keep 15 = .ok (.aload_n 0, 1) := by decide +kernel
theorem dX12_keep_16 : decode cX12_keep 16 = .ok (.getfield 596, 3) := by decide +kernel
theorem dX12_keep_19 : decode cX12_keep 19 = .ok (.imul, 1) := by decide +kernel
theorem dX12_keep_20 : decode cX12_keep 20 = .ok (.invokevirtual 755, 3) := by decide +kernel
theorem dX12_keep_23 : decode cX12_keep 23 = .ok (.aload_n 0, 1) := by decide +kernel
theorem dX12_keep_24 : decode cX12_keep 24 = .ok (.aload_n 0, 1) := by decide +kernel
theorem dX12_keep_25 : decode cX12_keep 25 = .ok (.getfield 221, 3) := by decide +kernel
theorem dX12_keep_28 : decode cX12_keep 28 = .ok (.aload_n 0, 1) := by decide +kernel
theorem dX12_keep_29 : decode cX12_keep 29 = .ok (.getfield 263, 3) := by decide +kernel
theorem dX12_keep_32 : decode cX12_keep 32 = .ok (.aload_n 0, 1) := by decide +kernel
theorem dX12_keep_33 : decode cX12_keep 33 = .ok (.getfield 691, 3) := by decide +kernel
theorem dX12_keep_36 : decode cX12_keep 36 = .ok (.invokevirtual 755, 3) := by decide +kernel
theorem dX12_keep_39 : decode cX12_keep 39 = .ok (.aload_n 0, 1) := by decide +kernel
theorem dX12_keep_40 : decode cX12_keep 40 = .ok (.aload_n 0, 1) := by decide +kernel
theorem dX12_keep_41 : decode cX12_keep 41 = .ok (.getfield 224, 3) := by decide +kernel
theorem dX12_keep_44 : decode cX12_keep 44 = .ok (.aload_n 0, 1) := by decide +kernel
theorem dX12_keep_45 : decode cX12_keep 45 = .ok (.getfield 266, 3) := by decide +kernel
theorem dX12_keep_48 : decode cX12_keep 48 = .ok (.aload_n 0, 1) := by decide +kernel
theorem dX12_keep_49 : decode cX12_keep 49 = .ok (.getfield 691, 3) := by decide +kernel
theorem dX12_keep_52 : decode cX12_keep 52 = .ok (.invokevirtual 755, 3) := by decide +kernel
theorem dX12_keep_55 : decode cX12_keep 55 = .ok (.aload_n 0, 1) := by decide +kernel
theorem dX12_keep_56 : decode cX12_keep 56 = .ok (.aload_n 0, 1) := by decide +kernel
theorem dX12_keep_57 : decode cX12_keep 57 = .ok (.getfield 227, 3) := by decide +kernel
theorem dX12_keep_60 : decode cX12_keep 60 = .ok (.aload_n 0, 1) := by decide +kernel
theorem dX12_keep_61 : decode cX12_keep 61 = .ok (.getfield 269, 3) := by decide +kernel
theorem dX12_keep_64 : decode cX12_keep 64 = .ok (.aload_n 0, 1) := by decide +kernel
theorem dX12_keep_65 : decode cX12_keep 65 = .ok (.getfield 658, 3) := by decide +kernel
theorem dX12_keep_68 : decode cX12_keep 68 = .ok (.invokevirtual 755, 3) := by decide +kernel
theorem dX12_keep_71 : decode cX12_keep 71 = .ok (.aload_n 0, 1) := by decide +kernel
theorem dX12_keep_72 : decode cX12_keep 72 = .ok (.aload_n 0, 1) := by decide +kernel
theorem dX12_keep_73 : decode cX12_keep 73 = .ok (.getfield 230, 3) := by decide +kernel
theorem dX12_keep_76 : decode cX12_keep 76 = .ok (.aload_n 0, 1) := by decide +kernel
theorem dX12_keep_77 : decode cX12_keep 77 = .ok (.getfield 272, 3) := by decide +kernel
theorem dX12_keep_80 : decode cX12_keep 80 = .ok (.aload_n 0, 1) := by decide +kernel
theorem dX12_keep_81 : decode cX12_keep 81 = .ok (.getfield 658, 3) := by decide +kernel
theorem dX12_keep_84 : decode cX12_keep 84 = .ok (.invokevirtual 755, 3) := by decide +kernel
theorem dX12_keep_87 : decode cX12_keep 87 = .ok (.aload_n 0, 1) := by decide +kernel
theorem dX12_keep_88 : decode cX12_keep 88 = .ok (.aload_n 0, 1) := by decide +kernel
theorem dX12_keep_89 : decode cX12_keep 89 = .ok (.getfield 233, 3) := by decide +kernel
theorem dX12_keep_92 : decode cX12_keep 92 = .ok (.aload_n 0, 1) := by decide +kernel
theorem dX12_keep_93 : decode cX12_keep 93 = .ok (.getfield 275, 3) := by decide +kernel
theorem dX12_keep_96 : decode cX12_keep 96 = .ok (.aload_n 0, 1) := by decide +kernel
theorem dX12_keep_97 : decode cX12_keep 97 = .ok (.getfield 658, 3) := by decide +kernel
theorem dX12_keep_100 : decode cX12_keep 100 = .ok (.invokevirtual 755, 3) := by decide +kernel
theorem dX12_keep_103 : decode cX12_keep 103 = .ok (.aload_n 0, 1) := by decide +kernel
theorem dX12_keep_104 : decode cX12_keep 104 = .ok (.aload_n 0, 1) := by decide +kernel
theorem dX12_keep_105 : decode cX12_keep 105 = .ok (.getfield 236, 3) := by decide +kernel
theorem dX12_keep_108 : decode cX12_keep 108 = .ok (.aload_n 0, 1) := by decide +kernel
theorem dX12_keep_109 : decode cX12_keep 109 = .ok (.getfield 278, 3) := by decide +kernel
theorem dX12_keep_112 : decode cX12_keep 112 = .ok (.aload_n 0, 1) := by decide +kernel
theorem dX12_keep_113 : decode cX12_keep 113 = .ok (.getfield 661, 3) := by decide +kernel
theorem dX12_keep_116 : decode cX12_keep 116 = .ok (.invokevirtual 755, 3) := by decide +kernel
theorem dX12_keep_119 : decode cX12_keep 119 = .ok (.aload_n 0, 1) := by decide +kernel
theorem dX12_keep_120 : decode cX12_keep 120 = .ok (.aload_n 0, 1) := by decide +kernel
theorem dX12_keep_121 : decode cX12_keep 121 = .ok (.getfield 239, 3) := by decide +kernel
theorem dX12_keep_124 : decode cX12_keep 124 = .ok (.aload_n 0, 1) := by decide +kernel
theorem dX12_keep_125 : decode cX12_keep 125 = .ok (.getfield 281, 3) := by decide +kernel
theorem dX12_keep_128 : decode cX12_keep 128 = .ok (.aload_n 0, 1) := by decide +kernel
theorem dX12_keep_129 : decode cX12_keep 129 = .ok (.getfield 661, 3) := by decide +kernel
theorem dX12_keep_132 : decode cX12_keep 132 = .ok (.invokevirtual 755, 3) := by decide +kernel
theorem dX12_keep_135 : decode cX12_keep 135 = .ok (.aload_n 0, 1) := by decide +kernel
theorem dX12_keep_136 : decode cX12_keep 136 = .ok (.aload_n 0, 1) := by decide +kernel
theorem dX12_keep_137 : decode cX12_keep 137 = .ok (.getfield 242, 3) := by decide +kernel
theorem dX12_keep_140 : decode cX12_keep 140 = .ok (.aload_n 0, 1) := by decide +kernel
theorem dX12_keep_141 : decode cX12_keep 141 = .ok (.getfield 284, 3) := by decide +kernel
theorem dX12_keep_144 : decode cX12_keep 144 = .ok (.aload_n 0, 1) := by decide +kernel
theorem dX12_keep_145 : decode cX12_keep 145 = .ok (.getfield 661, 3) := by decide +kernel
theorem dX12_keep_148 : decode cX12_keep 148 = .ok (.invokevirtual 755, 3) := by decide +kernel
theorem dX12_keep_151 : decode cX12_keep 151 = .ok (.iconst 0, 1) := by decide +kernel
theorem dX12_keep_152 : decode cX12_keep 152 = .ok (.istore_n 1, 1) := by decide +kernel
theorem dX12_keep_153 : decode cX12_keep 153 = .ok (.iload_n 1, 1) := by decide +kernel
theorem dX12_keep_154 : decode cX12_keep 154 = .ok (.aload_n 0, 1) := by decide +kernel
theorem dX12_keep_155 : decode cX12_keep 155 = .ok (.getfield 392, 3) := by decide +kernel
theorem dX12_keep_158 : decode cX12_keep 158 = .ok (.if_icmp .ge 21, 3) := by decide +kernel
theorem dX12_keep_161 : decode cX12_keep 161 = .ok (.aload_n 0, 1) := by decide +kernel
theorem dX12_keep_162 : decode cX12_keep 162 = .ok (.getfield 287, 3) := by decide +kernel
theorem dX12_keep_165 : decode cX12_keep 165 = .ok (.iload_n 1, 1) := by decide +kernel
theorem dX12_keep_166 : decode cX12_keep 166 = .ok (.aload_n 0, 1) := by decide +kernel
theorem dX12_keep_167 : decode cX12_keep 167 = .ok (.getfield 20, 3) := by decide +kernel
theorem dX12_keep_170 : decode cX12_keep 170 = .ok (.iload_n 1, 1) := by decide +kernel
theorem dX12_keep_171 : decode cX12_keep 171 = .ok (.laload, 1) := by decide +kernel
theorem dX12_keep_172 : decode cX12_keep 172 = .ok (.lastore, 1) := by decide +kernel
theorem dX12_keep_173 : decode cX12_keep 173 = .ok (.iinc 1 1, 3) := by decide +kernel
theorem dX12_keep_176 : decode cX12_keep 176 = .ok (.goto (-23), 3) := by decide +kernel
theorem dX12_keep_179 : decode cX12_keep 179 = .ok (.aload_n 0, 1) := by decide +kernel
theorem dX12_keep_180 : decode cX12_keep 180 = .ok (.aload_n 0, 1) := by decide +kernel
theorem dX12_keep_181 : decode cX12_keep 181 = .ok (.getfield 187, 3) := by decide +kernel
theorem dX12_keep_184 : decode cX12_keep 184 = .ok (.aload_n 0, 1) := by decide +kernel
theorem dX12_keep_185 : decode cX12_keep 185 = .ok (.getfield 290, 3) := by decide +kernel
theorem dX12_keep_188 : decode cX12_keep 188 = .ok (.aload_n 0, 1) := by decide +kernel
theorem dX12_keep_189 : decode cX12_keep 189 = .ok (.getfield 544, 3) := by decide +kernel
theorem dX12_keep_192 : decode cX12_keep 192 = .ok (.invokevirtual 755, 3) := by decide +kernel
theorem dX12_keep_195 : decode cX12_keep 195 = .ok (.aload_n 0, 1) := by decide +kernel
theorem dX12_keep_196 : decode cX12_keep 196 = .ok (.aload_n 0, 1) := by decide +kernel
theorem dX12_keep_197 : decode cX12_keep 197 = .ok (.getfield 184, 3) := by decide +kernel
theorem dX12_keep_200 : decode cX12_keep 200 = .ok (.aload_n 0, 1) := by decide +kernel
theorem dX12_keep_201 : decode cX12_keep 201 = .ok (.getfield 293, 3) := by decide +kernel
theorem dX12_keep_204 : decode cX12_keep 204 = .ok (.aload_n 0, 1) := by decide +kernel
theorem dX12_keep_205 : decode cX12_keep 205 = .ok (.getfield 544, 3) := by decide +kernel
theorem dX12_keep_208 : decode cX12_keep 208 = .ok (.invokevirtual 755, 3) := by decide +kernel
theorem dX12_keep_211 : decode cX12_keep 211 = .ok (.aload_n 0, 1) := by decide +kernel
theorem dX12_keep_212 : decode cX12_keep 212 = .ok (.aload_n 0, 1) := by decide +kernel
theorem dX12_keep_213 : decode cX12_keep 213 = .ok (.getfield 175, 3) := by decide +kernel
theorem dX12_keep_216 : decode cX12_keep 216 = .ok (.aload_n 0, 1) := by decide +kernel
theorem dX12_keep_217 : decode cX12_keep 217 = .ok (.getfield 296, 3) := by decide +kernel
theorem dX12_keep_220 : decode cX12_keep 220 = .ok (.aload_n 0, 1) := by decide +kernel
theorem dX12_keep_221 : decode cX12_keep 221 = .ok (.getfield 544, 3) := by decide +kernel
theorem dX12_keep_224 : decode cX12_keep 224 = .ok (.invokevirtual 755, 3) := by decide +kernel
theorem dX12_keep_227 : decode cX12_keep 227 = .ok (.aload_n 0, 1) := by decide +kernel
theorem dX12_keep_228 : decode cX12_keep 228 = .ok (.aload_n 0, 1) := by decide +kernel
theorem dX12_keep_229 : decode cX12_keep 229 = .ok (.getfield 172, 3) := by decide +kernel
theorem dX12_keep_232 : decode cX12_keep 232 = .ok (.aload_n 0, 1) := by decide +kernel
theorem dX12_keep_233 : decode cX12_keep 233 = .ok (.getfield 299, 3) := by decide +kernel
theorem dX12_keep_236 : decode cX12_keep 236 = .ok (.aload_n 0, 1) := by decide +kernel
theorem dX12_keep_237 : decode cX12_keep 237 = .ok (.getfield 544, 3) := by decide +kernel
theorem dX12_keep_240 : decode cX12_keep 240 = .ok (.invokevirtual 755, 3) := by decide +kernel
theorem dX12_keep_243 : decode cX12_keep 243 = .ok (.aload_n 0, 1) := by decide +kernel
theorem dX12_keep_244 : decode cX12_keep 244 = .ok (.aload_n 0, 1) := by decide +kernel
theorem dX12_keep_245 : decode cX12_keep 245 = .ok (.getfield 156, 3) := by decide +kernel
theorem dX12_keep_248 : decode cX12_keep 248 = .ok (.aload_n 0, 1) := by decide +kernel
theorem dX12_keep_249 : decode cX12_keep 249 = .ok (.getfield 302, 3) := by decide +kernel
theorem dX12_keep_252 : decode cX12_keep 252 = .ok (.aload_n 0, 1) := by decide +kernel
theorem dX12_keep_253 : decode cX12_keep 253 = .ok (.getfield 488, 3) := by decide +kernel
theorem dX12_keep_256 : decode cX12_keep 256 = .ok (.invokevirtual 755, 3) := by decide +kernel
theorem dX12_keep_259 : decode cX12_keep 259 = .ok (.aload_n 0, 1) := by decide +kernel
theorem dX12_keep_260 : decode cX12_keep 260 = .ok (.aload_n 0, 1) := by decide +kernel
theorem dX12_keep_261 : decode cX12_keep 261 = .ok (.getfield 245, 3) := by decide +kernel
theorem dX12_keep_264 : decode cX12_keep 264 = .ok (.aload_n 0, 1) := by decide +kernel
theorem dX12_keep_265 : decode cX12_keep 265 = .ok (.getfield 305, 3) := by decide +kernel
theorem dX12_keep_268 : decode cX12_keep 268 = .ok (.aload_n 0, 1) := by decide +kernel
theorem dX12_keep_269 : decode cX12_keep 269 = .ok (.getfield 488, 3) := by decide +kernel
theorem dX12_keep_272 : decode cX12_keep 272 = .ok (.invokevirtual 755, 3) := by decide +kernel
theorem dX12_keep_275 : decode cX12_keep 275 = .ok (.aload_n 0, 1) := by decide +kernel
theorem dX12_keep_276 : decode cX12_keep 276 = .ok (.aload_n 0, 1) := by decide +kernel
theorem dX12_keep_277 : decode cX12_keep 277 = .ok (.getfield 248, 3) := by decide +kernel
theorem dX12_keep_280 : decode cX12_keep 280 = .ok (.aload_n 0, 1) := by decide +kernel
theorem dX12_keep_281 : decode cX12_keep 281 = .ok (.getfield 311, 3) := by decide +kernel
theorem dX12_keep_284 : decode cX12_keep 284 = .ok (.aload_n 0, 1) := by decide +kernel
theorem dX12_keep_285 : decode cX12_keep 285 = .ok (.getfield 488, 3) := by decide +kernel
theorem dX12_keep_288 : decode cX12_keep 288 = .ok (.invokevirtual 755, 3) := by decide +kernel
theorem dX12_keep_291 : decode cX12_keep 291 = .ok (.aload_n 0, 1) := by decide +kernel
theorem dX12_keep_292 : decode cX12_keep 292 = .ok (.aload_n 0, 1) := by decide +kernel
theorem dX12_keep_293 : decode cX12_keep 293 = .ok (.getfield 251, 3) := by decide +kernel
theorem dX12_keep_296 : decode cX12_keep 296 = .ok (.aload_n 0, 1) := by decide +kernel
theorem dX12_keep_297 : decode cX12_keep 297 = .ok (.getfield 314, 3) := by decide +kernel
theorem dX12_keep_300 : decode cX12_keep 300 = .ok (.aload_n 0, 1) := by decide +kernel
theorem dX12_keep_301 : decode cX12_keep 301 = .ok (.getfield 488, 3) := by decide +kernel
theorem dX12_keep_304 : decode cX12_keep 304 = .ok (.invokevirtual 755, 3) := by decide +kernel
theorem dX12_keep_307 : decode cX12_keep 307 = .ok (.aload_n 0, 1) := by decide +kernel
theorem dX12_keep_308 : decode cX12_keep 308 = .ok (.aload_n 0, 1) := by decide +kernel
theorem dX12_keep_309 : decode cX12_keep 309 = .ok (.getfield 254, 3) := by decide +kernel
theorem dX12_keep_312 : decode cX12_keep 312 = .ok (.aload_n 0, 1) := by decide +kernel
theorem dX12_keep_313 : decode cX12_keep 313 = .ok (.getfield 317, 3) := by decide +kernel
theorem dX12_keep_316 : decode cX12_keep 316 = .ok (.aload_n 0, 1) := by decide +kernel
theorem dX12_keep_317 : decode cX12_keep 317 = .ok (.getfield 730, 3) := by decide +kernel
theorem dX12_keep_320 : decode cX12_keep 320 = .ok (.invokevirtual 755, 3) := by decide +kernel
theorem dX12_keep_323 : decode cX12_keep 323 = .ok (.aload_n 0, 1) := by decide +kernel
theorem dX12_keep_324 : decode cX12_keep 324 = .ok (.aload_n 0, 1) := by decide +kernel
theorem dX12_keep_325 : decode cX12_keep 325 = .ok (.getfield 202, 3) := by decide +kernel
theorem dX12_keep_328 : decode cX12_keep 328 = .ok (.aload_n 0, 1) := by decide +kernel
theorem dX12_keep_329 : decode cX12_keep 329 = .ok (.getfield 320, 3) := by decide +kernel
theorem dX12_keep_332 : decode cX12_keep 332 = .ok (.aload_n 0, 1) := by decide +kernel
theorem dX12_keep_333 : decode cX12_keep 333 = .ok (.getfield 494, 3) := by decide +kernel
theorem dX12_keep_336 : decode cX12_keep 336 = .ok (.invokevirtual 755, 3) := by decide +kernel
theorem dX12_keep_339 : decode cX12_keep 339 = .ok (.aload_n 0, 1) := by decide +kernel
theorem dX12_keep_340 : decode cX12_keep 340 = .ok (.aload_n 0, 1) := by decide +kernel
theorem dX12_keep_341 : decode cX12_keep 341 = .ok (.getfield 535, 3) := by decide +kernel
theorem dX12_keep_344 : decode cX12_keep 344 = .ok (.putfield 759, 3) := by decide +kernel
theorem dX12_keep_347 : decode cX12_keep 347 = .ok (.iconst 0, 1) := by decide +kernel
theorem dX12_keep_348 : decode cX12_keep 348 = .ok (.istore_n 1, 1) := by decide +kernel
theorem dX12_keep_349 : decode cX12_keep 349 = .ok (.iload_n 1, 1) := by decide +kernel
theorem dX12_keep_350 : decode cX12_keep 350 = .ok (.aload_n 0, 1) := by decide +kernel
theorem dX12_keep_351 : decode cX12_keep 351 = .ok (.getfield 494, 3) := by decide +kernel
theorem dX12_keep_354 : decode cX12_keep 354 = .ok (.if_icmp .ge 83, 3) := by decide +kernel
theorem dX12_keep_357 : decode cX12_keep 357 = .ok (.aload_n 0, 1) := by decide +kernel
theorem dX12_keep_358 : decode cX12_keep 358 = .ok (.getfield 323, 3) := by decide +kernel
theorem dX12_keep_361 : decode cX12_keep 361 = .ok (.iload_n 1, 1) := by decide +kernel
theorem dX12_keep_362 : decode cX12_keep 362 = .ok (.iconst (-1), 1) := by decide +kernel
theorem dX12_keep_363 : decode cX12_keep 363 = .ok (.iastore, 1) := by decide +kernel
theorem dX12_keep_364 : decode cX12_keep 364 = .ok (.aload_n 0, 1) := by decide +kernel
theorem dX12_keep_365 : decode cX12_keep 365 = .ok (.getfield 126, 3) := by decide +kernel
theorem dX12_keep_368 : decode cX12_keep 368 = .ok (.aload_n 0, 1) := by decide +kernel
theorem dX12_keep_369 : decode cX12_keep 369 = .ok (.getfield 205, 3) := by decide +kernel
theorem dX12_keep_372 : decode cX12_keep 372 = .ok (.iload_n 1, 1) := by decide +kernel
theorem dX12_keep_373 : decode cX12_keep 373 = .ok (.iaload, 1) := by decide +kernel
theorem dX12_keep_374 : decode cX12_keep 374 = .ok (.iaload, 1) := by decide +kernel
theorem dX12_keep_375 : decode cX12_keep 375 = .ok (.istore_n 2, 1) := by decide +kernel
theorem dX12_keep_376 : decode cX12_keep 376 = .ok (.iload_n 2, 1) := by decide +kernel
theorem dX12_keep_377 : decode cX12_keep 377 = .ok (.ifCond .lt 54, 3) := by decide +kernel
theorem dX12_keep_380 : decode cX12_keep 380 = .ok (.aload_n 0, 1) := by decide +kernel
theorem dX12_keep_381 : decode cX12_keep 381 = .ok (.getfield 135, 3) := by decide +kernel
theorem dX12_keep_384 : decode cX12_keep 384 = .ok (.iload_n 2, 1) := by decide +kernel
theorem dX12_keep_385 : decode cX12_keep 385 = .ok (.iaload, 1) := by decide +kernel
theorem dX12_keep_386 : decode cX12_keep 386 = .ok (.iconst 1, 1) := by decide +kernel
theorem dX12_keep_387 : decode cX12_keep 387 = .ok (.if_icmp .ne 34, 3) := by decide +kernel
theorem dX12_keep_390 : decode cX12_keep 390 = .ok (.aload_n 0, 1) := by decide +kernel
theorem dX12_keep_391 : decode cX12_keep 391 = .ok (.getfield 159, 3) := by decide +kernel
theorem dX12_keep_394 : decode cX12_keep 394 = .ok (.iload_n 2, 1) := by decide +kernel
theorem dX12_keep_395 : decode cX12_keep 395 = .ok (.baload, 1) := by decide +kernel
theorem dX12_keep_396 : decode cX12_keep 396 = .ok (.ifCond .eq 6, 3) := by decide +kernel
theorem dX12_keep_399 : decode cX12_keep 399 = .ok (.goto 22, 3) := by decide +kernel
theorem dX12_keep_402 : decode cX12_keep 402 = .ok (.aload_n 0, 1) := by decide +kernel
theorem dX12_keep_403 : decode cX12_keep 403 = .ok (.getfield 326, 3) := by decide +kernel
theorem dX12_keep_406 : decode cX12_keep 406 = .ok (.iload_n 2, 1) := by decide +kernel
theorem dX12_keep_407 : decode cX12_keep 407 = .ok (.aload_n 0, 1) := by decide +kernel
theorem dX12_keep_408 : decode cX12_keep 408 = .ok (.getfield 323, 3) := by decide +kernel
theorem dX12_keep_411 : decode cX12_keep 411 = .ok (.iload_n 1, 1) := by decide +kernel
theorem dX12_keep_412 : decode cX12_keep 412 = .ok (.iaload, 1) := by decide +kernel
theorem dX12_keep_413 : decode cX12_keep 413 = .ok (.iastore, 1) := by decide +kernel
theorem dX12_keep_414 : decode cX12_keep 414 = .ok (.aload_n 0, 1) := by decide +kernel
theorem dX12_keep_415 : decode cX12_keep 415 = .ok (.getfield 323, 3) := by decide +kernel
theorem dX12_keep_418 : decode cX12_keep 418 = .ok (.iload_n 1, 1) := by decide +kernel
theorem dX12_keep_419 : decode cX12_keep 419 = .ok (.iload_n 2, 1) := by decide +kernel
theorem dX12_keep_420 : decode cX12_keep 420 = .ok (.iastore, 1) := by decide +kernel
theorem dX12_keep_421 : decode cX12_keep 421 = .ok (.aload_n 0, 1) := by decide +kernel
theorem dX12_keep_422 : decode cX12_keep 422 = .ok (.getfield 141, 3) := by decide +kernel
theorem dX12_keep_425 : decode cX12_keep 425 = .ok (.iload_n 2, 1) := by decide +kernel
theorem dX12_keep_426 : decode cX12_keep 426 = .ok (.iaload, 1) := by decide +kernel
theorem dX12_keep_427 : decode cX12_keep 427 = .ok (.istore_n 2, 1) := by decide +kernel
theorem dX12_keep_428 : decode cX12_keep 428 = .ok (.goto (-52), 3) := by decide +kernel
theorem dX12_keep_431 : decode cX12_keep 431 = .ok (.iinc 1 1, 3) := by decide +kernel
theorem dX12_keep_434 : decode cX12_keep 434 = .ok (.goto (-85), 3) := by decide +kernel
theorem dX12_keep_437 : decode cX12_keep 437 = .ok (.iconst 0, 1) := by decide +kernel
theorem dX12_keep_438 : decode cX12_keep 438 = .ok (.istore_n 1, 1) := by decide +kernel
theorem dX12_keep_439 : decode cX12_keep 439 = .ok (.iload_n 1, 1) := by decide +kernel
theorem dX12_keep_440 : decode cX12_keep 440 = .ok (.aload_n 0, 1) := by decide +kernel
theorem dX12_keep_441 : decode cX12_keep 441 = .ok (.getfield 474, 3) := by decide +kernel
theorem dX12_keep_444 : decode cX12_keep 444 = .ok (.if_icmp .ge 81, 3) := by decide +kernel
theorem dX12_keep_447 : decode cX12_keep 447 = .ok (.iconst (-1), 1) := by decide +kernel
theorem dX12_keep_448 : decode cX12_keep 448 = .ok (.istore_n 2, 1) := by decide +kernel
theorem dX12_keep_449 : decode cX12_keep 449 = .ok (.iload_n 1, 1) := by decide +kernel
theorem dX12_keep_450 : decode cX12_keep 450 = .ok (.istore_n 3, 1) := by decide +kernel
theorem dX12_keep_451 : decode cX12_keep 451 = .ok (.iload_n 3, 1) := by decide +kernel
theorem dX12_keep_452 : decode cX12_keep 452 = .ok (.ifCond .lt 39, 3) := by decide +kernel
theorem dX12_keep_455 : decode cX12_keep 455 = .ok (.iload_n 2, 1) := by decide +kernel
theorem dX12_keep_456 : decode cX12_keep 456 = .ok (.ifCond .ge 35, 3) := by decide +kernel
theorem dX12_keep_459 : decode cX12_keep 459 = .ok (.aload_n 0, 1) := by decide +kernel
theorem dX12_keep_460 : decode cX12_keep 460 = .ok (.getfield 123, 3) := by decide +kernel
theorem dX12_keep_463 : decode cX12_keep 463 = .ok (.iload_n 3, 1) := by decide +kernel
theorem dX12_keep_464 : decode cX12_keep 464 = .ok (.iaload, 1) := by decide +kernel
theorem dX12_keep_465 : decode cX12_keep 465 = .ok (.aload_n 0, 1) := by decide +kernel
theorem dX12_keep_466 : decode cX12_keep 466 = .ok (.getfield 123, 3) := by decide +kernel
theorem dX12_keep_469 : decode cX12_keep 469 = .ok (.iload_n 1, 1) := by decide +kernel
theorem dX12_keep_470 : decode cX12_keep 470 = .ok (.iaload, 1) := by decide +kernel
theorem dX12_keep_471 : decode cX12_keep 471 = .ok (.if_icmp .ne 20, 3) := by decide +kernel
theorem dX12_keep_474 : decode cX12_keep 474 = .ok (.aload_n 0, 1) := by decide +kernel
theorem dX12_keep_475 : decode cX12_keep 475 = .ok (.getfield 129, 3) := by decide +kernel
theorem dX12_keep_478 : decode cX12_keep 478 = .ok (.iload_n 3, 1) := by decide +kernel
theorem dX12_keep_479 : decode cX12_keep 479 = .ok (.iaload, 1) := by decide +kernel
theorem dX12_keep_480 : decode cX12_keep 480 = .ok (.istore_n 2, 1) := by decide +kernel
theorem dX12_keep_481 : decode cX12_keep 481 = .ok (.aload_n 0, 1) := by decide +kernel
theorem dX12_keep_482 : decode cX12_keep 482 = .ok (.getfield 120, 3) := by decide +kernel
theorem dX12_keep_485 : decode cX12_keep 485 = .ok (.iload_n 3, 1) := by decide +kernel
theorem dX12_keep_486 : decode cX12_keep 486 = .ok (.iaload, 1) := by decide +kernel
theorem dX12_keep_487 : decode cX12_keep 487 = .ok (.istore_n 3, 1) := by decide +kernel
theorem dX12_keep_488 : decode cX12_keep 488 = .ok (.goto (-37), 3) := by decide +kernel
theorem dX12_keep_491 : decode cX12_keep 491 = .ok (.aload_n 0, 1) := by decide +kernel
theorem dX12_keep_492 : decode cX12_keep 492 = .ok (.getfield 126, 3) := by decide +kernel
theorem dX12_keep_495 : decode cX12_keep 495 = .ok (.iload_n 1, 1) := by decide +kernel
theorem dX12_keep_496 : decode cX12_keep 496 = .ok (.iaload, 1) := by decide +kernel
theorem dX12_keep_497 : decode cX12_keep 497 = .ok (.istore_n 3, 1) := by decide +kernel
theorem dX12_keep_498 : decode cX12_keep 498 = .ok (.iload_n 3, 1) := by decide +kernel
theorem dX12_keep_499 : decode cX12_keep 499 = .ok (.ifCond .lt 20, 3) := by decide +kernel
theorem dX12_keep_502 : decode cX12_keep 502 = .ok (.aload_n 0, 1) := by decide +kernel
theorem dX12_keep_503 : decode cX12_keep 503 = .ok (.getfield 308, 3) := by decide +kernel
theorem dX12_keep_506 : decode cX12_keep 506 = .ok (.iload_n 3, 1) := by decide +kernel
theorem dX12_keep_507 : decode cX12_keep 507 = .ok (.iload_n 2, 1) := by decide +kernel
theorem dX12_keep_508 : decode cX12_keep 508 = .ok (.iastore, 1) := by decide +kernel
theorem dX12_keep_509 : decode cX12_keep 509 = .ok (.aload_n 0, 1) := by decide +kernel
theorem dX12_keep_510 : decode cX12_keep 510 = .ok (.getfield 141, 3) := by decide +kernel
theorem dX12_keep_513 : decode cX12_keep 513 = .ok (.iload_n 3, 1) := by decide +kernel
theorem dX12_keep_514 : decode cX12_keep 514 = .ok (.iaload, 1) := by decide +kernel
theorem dX12_keep_515 : decode cX12_keep 515 = .ok (.istore_n 3, 1) := by decide +kernel
theorem dX12_keep_516 : decode cX12_keep 516 = .ok (.goto (-18), 3) := by decide +kernel
theorem dX12_keep_519 : decode cX12_keep 519 = .ok (.iinc 1 1, 3) := by decide +kernel
theorem dX12_keep_522 : decode cX12_keep 522 = .ok (.goto (-83), 3) := by decide +kernel
theorem dX12_keep_525 : decode cX12_keep 525 = .ok (.return_, 1) := by decide +kernel
def fX12_keep_498 (k_439 : Int32 → Wd → Option Wd) (k_498 : Int32 → Int32 → Int32 → Wd → Option Wd) (a1 : Int32) (a2 : Int32) (a3 : Int32) (w : Wd) : Option Wd :=
  if a3 < 0 then (lt (a1 + 1) fun x2 => k_439 x2 w) else (if inb a3 5000 = true then lt (si w 76 (Int32.toNatClampNeg a3) a2) fun w4 => if inb a3 5000 = true then lt ((gi w4 21 (Int32.toNatClampNeg a3))) fun x6 => k_498 a1 a2 x6 w4 else none else none)
theorem pX12_keep_498 {q : Gq} {l : Launch} {N : Option Value → Wd → Prop} {X : String → Wd → Prop} {w : Wd} {R : Wd} (hN : N none R) {k_439 : Int32 → Wd → Option Wd} {k_498 : Int32 → Int32 → Int32 → Wd → Option Wd} (hk_439 : ∀ (a1 : Int32) (w : Wd), k_439 a1 w = some R → RT (GM q) l 1 yX12_keep cX12_keep 4 (none) N X 439 [] [(0, .ref 0), (1, .int a1)] w) (hk_498 : ∀ (a1 : Int32) (a2 : Int32) (a3 : Int32) (w : Wd), k_498 a1 a2 a3 w = some R → RT (GM q) l 1 yX12_keep cX12_keep 4 (none) N X 498 [] [(0, .ref 0), (1, .int a1), (2, .int a2), (3, .int a3)] w) {a1 : Int32} {a2 : Int32} {a3 : Int32} (h : fX12_keep_498 k_439 k_498 a1 a2 a3 w = some R) : RT (GM q) l 1 yX12_keep cX12_keep 4 (none) N X 498 [] [(0, .ref 0), (1, .int a1), (2, .int a2), (3, .int a3)] w := by
  unfold fX12_keep_498 at h
  refine r_iload_n (pc := 498) dX12_keep_498 rfl 3 rfl ?_
  refine r_if_lt (pc := 499) dX12_keep_499 rfl (fun hc1 => ?_) (fun hc1 => ?_)
  · replace h := if_t hc1 h
    replace h := lt_e h; obtain ⟨x2, ex2, h⟩ := h
    refine r_inc (pc := 519) (loc' := [(1, .int x2), (0, .ref 0), (2, .int a2), (3, .int a3)]) dX12_keep_519 ki_1 ex2 1 rfl (Nat.le_of_ble_eq_true rfl) rfl ?_
    refine r_goto (pc := 522) dX12_keep_522 rfl ?_
    refine r_drop (loc' := [(0, .ref 0), (1, .int x2)]) [1, 0] rfl ?_
    exact hk_439 x2 w h
  replace h := if_f hc1 h
  refine r_aload_n (pc := 502) dX12_keep_502 rfl 0 rfl ?_
  refine r_get (pc := 503) (j := 104) (v := .ref 76) oM0 cf12 flRX12_308 rfl dX12_keep_503 rfl ?_
  refine r_iload_n (pc := 506) dX12_keep_506 rfl 3 rfl ?_
  refine r_iload_n (pc := 507) dX12_keep_507 rfl 2 rfl ?_
  replace h := if_n h; obtain ⟨hb3, h⟩ := h
  replace h := lt_e h; obtain ⟨w4, ew4, h⟩ := h
  refine r_iast (pc := 508) aM76 (inb_in hb3) dX12_keep_508 ?_
  refine r_w ew4 ?_
  refine r_aload_n (pc := 509) dX12_keep_509 rfl 0 rfl ?_
  refine r_get (pc := 510) (j := 34) (v := .ref 21) oM0 cf12 flRX12_141 rfl dX12_keep_510 rfl ?_
  refine r_iload_n (pc := 513) dX12_keep_513 rfl 3 rfl ?_
  replace h := if_n h; obtain ⟨hb5, h⟩ := h
  refine r_iald (pc := 514) aM21 (inb_in hb5) dX12_keep_514 ?_
  replace h := lt_e h; obtain ⟨x6, ex6, h⟩ := h
  refine r_topi ex6 ?_
  refine r_istore_n (pc := 515) (loc' := [(3, .int x6), (0, .ref 0), (1, .int a1), (2, .int a2)]) dX12_keep_515 rfl (Nat.le_of_ble_eq_true rfl) rfl ?_
  refine r_goto (pc := 516) dX12_keep_516 rfl ?_
  refine r_drop (loc' := [(0, .ref 0), (1, .int a1), (2, .int a2), (3, .int x6)]) [1, 2, 3, 0] rfl ?_
  exact hk_498 a1 a2 x6 w4 h
def oX12_keep_498 (k_439 : Int32 → Wd → Option Wd) : Nat → Int32 → Int32 → Int32 → Wd → Option Wd
  | 0 => fun _ _ _ _ => none
  | n + 1 => fX12_keep_498 k_439 (oX12_keep_498 k_439 n)
theorem qX12_keep_498 {q : Gq} {l : Launch} {N : Option Value → Wd → Prop} {X : String → Wd → Prop} {R : Wd} (hN : N none R) {k_439 : Int32 → Wd → Option Wd} (hk_439 : ∀ (a1 : Int32) (w : Wd), k_439 a1 w = some R → RT (GM q) l 1 yX12_keep cX12_keep 4 (none) N X 439 [] [(0, .ref 0), (1, .int a1)] w) : ∀ (n : Nat) (a1 : Int32) (a2 : Int32) (a3 : Int32) (w : Wd), oX12_keep_498 k_439 n a1 a2 a3 w = some R → RT (GM q) l 1 yX12_keep cX12_keep 4 (none) N X 498 [] [(0, .ref 0), (1, .int a1), (2, .int a2), (3, .int a3)] w := by
  intro n
  induction n with
  | zero =>
    intro a1 a2 a3 w h
    exact absurd h (fun q => nomatch q)
  | succ n ih =>
    intro a1 a2 a3 w h
    exact pX12_keep_498 hN hk_439 ih h
def fX12_keep_451 (k_439 : Int32 → Wd → Option Wd) (k_451 : Int32 → Int32 → Int32 → Wd → Option Wd) (a1 : Int32) (a2 : Int32) (a3 : Int32) (w : Wd) : Option Wd :=
  if a3 < 0 then (if inb a1 9000 = true then lt ((gi w 16 (Int32.toNatClampNeg a1))) fun x3 => oX12_keep_498 k_439 FU a1 a2 x3 w else none) else (if 0 ≤ a2 then (if inb a1 9000 = true then lt ((gi w 16 (Int32.toNatClampNeg a1))) fun x6 => oX12_keep_498 k_439 FU a1 a2 x6 w else none) else (if inb a3 9000 = true then if inb a1 9000 = true then if (gi w 15 (Int32.toNatClampNeg a3)) = (gi w 15 (Int32.toNatClampNeg a1)) then (if inb a3 9000 = true then lt ((gi w 17 (Int32.toNatClampNeg a3))) fun x11 => if inb a3 9000 = true then lt ((gi w 14 (Int32.toNatClampNeg a3))) fun x13 => k_451 a1 x11 x13 w else none else none) else (if inb a1 9000 = true then lt ((gi w 16 (Int32.toNatClampNeg a1))) fun x15 => oX12_keep_498 k_439 FU a1 a2 x15 w else none) else none else none))
theorem pX12_keep_451 {q : Gq} {l : Launch} {N : Option Value → Wd → Prop} {X : String → Wd → Prop} {w : Wd} {R : Wd} (hN : N none R) {k_439 : Int32 → Wd → Option Wd} {k_451 : Int32 → Int32 → Int32 → Wd → Option Wd} (hk_439 : ∀ (a1 : Int32) (w : Wd), k_439 a1 w = some R → RT (GM q) l 1 yX12_keep cX12_keep 4 (none) N X 439 [] [(0, .ref 0), (1, .int a1)] w) (hk_451 : ∀ (a1 : Int32) (a2 : Int32) (a3 : Int32) (w : Wd), k_451 a1 a2 a3 w = some R → RT (GM q) l 1 yX12_keep cX12_keep 4 (none) N X 451 [] [(0, .ref 0), (1, .int a1), (2, .int a2), (3, .int a3)] w) {a1 : Int32} {a2 : Int32} {a3 : Int32} (h : fX12_keep_451 k_439 k_451 a1 a2 a3 w = some R) : RT (GM q) l 1 yX12_keep cX12_keep 4 (none) N X 451 [] [(0, .ref 0), (1, .int a1), (2, .int a2), (3, .int a3)] w := by
  unfold fX12_keep_451 at h
  refine r_iload_n (pc := 451) dX12_keep_451 rfl 3 rfl ?_
  refine r_if_lt (pc := 452) dX12_keep_452 rfl (fun hc1 => ?_) (fun hc1 => ?_)
  · replace h := if_t hc1 h
    refine r_aload_n (pc := 491) dX12_keep_491 rfl 0 rfl ?_
    refine r_get (pc := 492) (j := 26) (v := .ref 16) oM0 cf12 flRX12_126 rfl dX12_keep_492 rfl ?_
    refine r_iload_n (pc := 495) dX12_keep_495 rfl 1 rfl ?_
    replace h := if_n h; obtain ⟨hb2, h⟩ := h
    refine r_iald (pc := 496) aM16 (inb_in hb2) dX12_keep_496 ?_
    replace h := lt_e h; obtain ⟨x3, ex3, h⟩ := h
    refine r_topi ex3 ?_
    refine r_istore_n (pc := 497) (loc' := [(3, .int x3), (0, .ref 0), (1, .int a1), (2, .int a2)]) dX12_keep_497 rfl (Nat.le_of_ble_eq_true rfl) rfl ?_
    refine r_drop (loc' := [(0, .ref 0), (1, .int a1), (2, .int a2), (3, .int x3)]) [1, 2, 3, 0] rfl ?_
    exact qX12_keep_498 hN hk_439 FU a1 a2 x3 w h
  replace h := if_f hc1 h
  refine r_iload_n (pc := 455) dX12_keep_455 rfl 2 rfl ?_
  refine r_if_ge (pc := 456) dX12_keep_456 rfl (fun hc4 => ?_) (fun hc4 => ?_)
  · replace h := if_t hc4 h
    refine r_aload_n (pc := 491) dX12_keep_491 rfl 0 rfl ?_
    refine r_get (pc := 492) (j := 26) (v := .ref 16) oM0 cf12 flRX12_126 rfl dX12_keep_492 rfl ?_
    refine r_iload_n (pc := 495) dX12_keep_495 rfl 1 rfl ?_
    replace h := if_n h; obtain ⟨hb5, h⟩ := h
    refine r_iald (pc := 496) aM16 (inb_in hb5) dX12_keep_496 ?_
    replace h := lt_e h; obtain ⟨x6, ex6, h⟩ := h
    refine r_topi ex6 ?_
    refine r_istore_n (pc := 497) (loc' := [(3, .int x6), (0, .ref 0), (1, .int a1), (2, .int a2)]) dX12_keep_497 rfl (Nat.le_of_ble_eq_true rfl) rfl ?_
    refine r_drop (loc' := [(0, .ref 0), (1, .int a1), (2, .int a2), (3, .int x6)]) [1, 2, 3, 0] rfl ?_
    exact qX12_keep_498 hN hk_439 FU a1 a2 x6 w h
  replace h := if_f hc4 h
  refine r_aload_n (pc := 459) dX12_keep_459 rfl 0 rfl ?_
  refine r_get (pc := 460) (j := 25) (v := .ref 15) oM0 cf12 flRX12_123 rfl dX12_keep_460 rfl ?_
  refine r_iload_n (pc := 463) dX12_keep_463 rfl 3 rfl ?_
  replace h := if_n h; obtain ⟨hb7, h⟩ := h
  refine r_iald (pc := 464) aM15 (inb_in hb7) dX12_keep_464 ?_
  refine r_aload_n (pc := 465) dX12_keep_465 rfl 0 rfl ?_
  refine r_get (pc := 466) (j := 25) (v := .ref 15) oM0 cf12 flRX12_123 rfl dX12_keep_466 rfl ?_
  refine r_iload_n (pc := 469) dX12_keep_469 rfl 1 rfl ?_
  replace h := if_n h; obtain ⟨hb8, h⟩ := h
  refine r_iald (pc := 470) aM15 (inb_in hb8) dX12_keep_470 ?_
  refine r_icmp_ne (pc := 471) dX12_keep_471 rfl (fun hc9 => ?_) (fun hc9 => ?_)
  · replace h := if_f hc9 h
    refine r_aload_n (pc := 491) dX12_keep_491 rfl 0 rfl ?_
    refine r_get (pc := 492) (j := 26) (v := .ref 16) oM0 cf12 flRX12_126 rfl dX12_keep_492 rfl ?_
    refine r_iload_n (pc := 495) dX12_keep_495 rfl 1 rfl ?_
    replace h := if_n h; obtain ⟨hb14, h⟩ := h
    refine r_iald (pc := 496) aM16 (inb_in hb14) dX12_keep_496 ?_
    replace h := lt_e h; obtain ⟨x15, ex15, h⟩ := h
    refine r_topi ex15 ?_
    refine r_istore_n (pc := 497) (loc' := [(3, .int x15), (0, .ref 0), (1, .int a1), (2, .int a2)]) dX12_keep_497 rfl (Nat.le_of_ble_eq_true rfl) rfl ?_
    refine r_drop (loc' := [(0, .ref 0), (1, .int a1), (2, .int a2), (3, .int x15)]) [1, 2, 3, 0] rfl ?_
    exact qX12_keep_498 hN hk_439 FU a1 a2 x15 w h
  replace h := if_t hc9 h
  refine r_aload_n (pc := 474) dX12_keep_474 rfl 0 rfl ?_
  refine r_get (pc := 475) (j := 27) (v := .ref 17) oM0 cf12 flRX12_129 rfl dX12_keep_475 rfl ?_
  refine r_iload_n (pc := 478) dX12_keep_478 rfl 3 rfl ?_
  replace h := if_n h; obtain ⟨hb10, h⟩ := h
  refine r_iald (pc := 479) aM17 (inb_in hb10) dX12_keep_479 ?_
  replace h := lt_e h; obtain ⟨x11, ex11, h⟩ := h
  refine r_topi ex11 ?_
  refine r_istore_n (pc := 480) (loc' := [(2, .int x11), (0, .ref 0), (1, .int a1), (3, .int a3)]) dX12_keep_480 rfl (Nat.le_of_ble_eq_true rfl) rfl ?_
  refine r_aload_n (pc := 481) dX12_keep_481 rfl 1 rfl ?_
  refine r_get (pc := 482) (j := 24) (v := .ref 14) oM0 cf12 flRX12_120 rfl dX12_keep_482 rfl ?_
  refine r_iload_n (pc := 485) dX12_keep_485 rfl 3 rfl ?_
  replace h := if_n h; obtain ⟨hb12, h⟩ := h
  refine r_iald (pc := 486) aM14 (inb_in hb12) dX12_keep_486 ?_
  replace h := lt_e h; obtain ⟨x13, ex13, h⟩ := h
  refine r_topi ex13 ?_
  refine r_istore_n (pc := 487) (loc' := [(3, .int x13), (2, .int x11), (0, .ref 0), (1, .int a1)]) dX12_keep_487 rfl (Nat.le_of_ble_eq_true rfl) rfl ?_
  refine r_goto (pc := 488) dX12_keep_488 rfl ?_
  refine r_drop (loc' := [(0, .ref 0), (1, .int a1), (2, .int x11), (3, .int x13)]) [2, 3, 1, 0] rfl ?_
  exact hk_451 a1 x11 x13 w h
def oX12_keep_451 (k_439 : Int32 → Wd → Option Wd) : Nat → Int32 → Int32 → Int32 → Wd → Option Wd
  | 0 => fun _ _ _ _ => none
  | n + 1 => fX12_keep_451 k_439 (oX12_keep_451 k_439 n)
theorem qX12_keep_451 {q : Gq} {l : Launch} {N : Option Value → Wd → Prop} {X : String → Wd → Prop} {R : Wd} (hN : N none R) {k_439 : Int32 → Wd → Option Wd} (hk_439 : ∀ (a1 : Int32) (w : Wd), k_439 a1 w = some R → RT (GM q) l 1 yX12_keep cX12_keep 4 (none) N X 439 [] [(0, .ref 0), (1, .int a1)] w) : ∀ (n : Nat) (a1 : Int32) (a2 : Int32) (a3 : Int32) (w : Wd), oX12_keep_451 k_439 n a1 a2 a3 w = some R → RT (GM q) l 1 yX12_keep cX12_keep 4 (none) N X 451 [] [(0, .ref 0), (1, .int a1), (2, .int a2), (3, .int a3)] w := by
  intro n
  induction n with
  | zero =>
    intro a1 a2 a3 w h
    exact absurd h (fun q => nomatch q)
  | succ n ih =>
    intro a1 a2 a3 w h
    exact pX12_keep_451 hN hk_439 ih h
def fX12_keep_439 (k_439 : Int32 → Wd → Option Wd) (a1 : Int32) (w : Wd) : Option Wd :=
  if (gi w 0 28) ≤ a1 then (some w) else (oX12_keep_451 k_439 FU a1 (-1) a1 w)
theorem pX12_keep_439 {q : Gq} {l : Launch} {N : Option Value → Wd → Prop} {X : String → Wd → Prop} {w : Wd} {R : Wd} (hN : N none R) {k_439 : Int32 → Wd → Option Wd} (hk_439 : ∀ (a1 : Int32) (w : Wd), k_439 a1 w = some R → RT (GM q) l 1 yX12_keep cX12_keep 4 (none) N X 439 [] [(0, .ref 0), (1, .int a1)] w) {a1 : Int32} (h : fX12_keep_439 k_439 a1 w = some R) : RT (GM q) l 1 yX12_keep cX12_keep 4 (none) N X 439 [] [(0, .ref 0), (1, .int a1)] w := by
  unfold fX12_keep_439 at h
  refine r_iload_n (pc := 439) dX12_keep_439 rfl 1 rfl ?_
  refine r_aload_n (pc := 440) dX12_keep_440 rfl 0 rfl ?_
  refine r_get (pc := 441) (j := 28) (v := .int (gi w 0 28)) oM0 cf12 flRX12_474 rfl dX12_keep_441 rfl ?_
  refine r_icmp_ge (pc := 444) dX12_keep_444 rfl (fun hc1 => ?_) (fun hc1 => ?_)
  · replace h := if_t hc1 h
    exact rO_v (pc := 525) rfl dX12_keep_525 h hN
  replace h := if_f hc1 h
  refine r_iconst (pc := 447) dX12_keep_447 ki_m1 ?_
  refine r_istore_n (pc := 448) (loc' := [(2, .int (-1)), (0, .ref 0), (1, .int a1)]) dX12_keep_448 rfl (Nat.le_of_ble_eq_true rfl) rfl ?_
  refine r_iload_n (pc := 449) dX12_keep_449 rfl 2 rfl ?_
  refine r_istore_n (pc := 450) (loc' := [(3, .int a1), (2, .int (-1)), (0, .ref 0), (1, .int a1)]) dX12_keep_450 rfl (Nat.le_of_ble_eq_true rfl) rfl ?_
  refine r_drop (loc' := [(0, .ref 0), (1, .int a1), (2, .int (-1)), (3, .int a1)]) [2, 3, 1, 0] rfl ?_
  exact qX12_keep_451 hN hk_439 FU a1 (-1) a1 w h
def oX12_keep_439 : Nat → Int32 → Wd → Option Wd
  | 0 => fun _ _ => none
  | n + 1 => fX12_keep_439 (oX12_keep_439 n)
theorem qX12_keep_439 {q : Gq} {l : Launch} {N : Option Value → Wd → Prop} {X : String → Wd → Prop} {R : Wd} (hN : N none R) : ∀ (n : Nat) (a1 : Int32) (w : Wd), oX12_keep_439 n a1 w = some R → RT (GM q) l 1 yX12_keep cX12_keep 4 (none) N X 439 [] [(0, .ref 0), (1, .int a1)] w := by
  intro n
  induction n with
  | zero =>
    intro a1 w h
    exact absurd h (fun q => nomatch q)
  | succ n ih =>
    intro a1 w h
    exact pX12_keep_439 hN ih h
def fX12_keep_376 (k_349 : Int32 → Wd → Option Wd) (k_376 : Int32 → Int32 → Wd → Option Wd) (a1 : Int32) (a2 : Int32) (w : Wd) : Option Wd :=
  if a2 < 0 then (lt (a1 + 1) fun x2 => k_349 x2 w) else (if inb a2 5000 = true then if (gi w 19 (Int32.toNatClampNeg a2)) = 1 then (if inb a2 5000 = true then if (gi w 27 (Int32.toNatClampNeg a2)) = 0 then (if inb a1 9000 = true then if inb a2 5000 = true then lt (si w 82 (Int32.toNatClampNeg a2) (gi w 81 (Int32.toNatClampNeg a1))) fun w9 => if inb a1 9000 = true then lt (si w9 81 (Int32.toNatClampNeg a1) a2) fun w11 => if inb a2 5000 = true then lt ((gi w11 21 (Int32.toNatClampNeg a2))) fun x13 => k_376 a1 x13 w11 else none else none else none else none) else (if inb a2 5000 = true then lt ((gi w 21 (Int32.toNatClampNeg a2))) fun x15 => k_376 a1 x15 w else none) else none) else (if inb a2 5000 = true then lt ((gi w 21 (Int32.toNatClampNeg a2))) fun x17 => k_376 a1 x17 w else none) else none)
theorem pX12_keep_376 {q : Gq} {l : Launch} {N : Option Value → Wd → Prop} {X : String → Wd → Prop} {w : Wd} {R : Wd} (hN : N none R) {k_349 : Int32 → Wd → Option Wd} {k_376 : Int32 → Int32 → Wd → Option Wd} (hk_349 : ∀ (a1 : Int32) (w : Wd), k_349 a1 w = some R → RT (GM q) l 1 yX12_keep cX12_keep 4 (none) N X 349 [] [(0, .ref 0), (1, .int a1)] w) (hk_376 : ∀ (a1 : Int32) (a2 : Int32) (w : Wd), k_376 a1 a2 w = some R → RT (GM q) l 1 yX12_keep cX12_keep 4 (none) N X 376 [] [(0, .ref 0), (1, .int a1), (2, .int a2)] w) {a1 : Int32} {a2 : Int32} (h : fX12_keep_376 k_349 k_376 a1 a2 w = some R) : RT (GM q) l 1 yX12_keep cX12_keep 4 (none) N X 376 [] [(0, .ref 0), (1, .int a1), (2, .int a2)] w := by
  unfold fX12_keep_376 at h
  refine r_iload_n (pc := 376) dX12_keep_376 rfl 2 rfl ?_
  refine r_if_lt (pc := 377) dX12_keep_377 rfl (fun hc1 => ?_) (fun hc1 => ?_)
  · replace h := if_t hc1 h
    replace h := lt_e h; obtain ⟨x2, ex2, h⟩ := h
    refine r_inc (pc := 431) (loc' := [(1, .int x2), (0, .ref 0), (2, .int a2)]) dX12_keep_431 ki_1 ex2 1 rfl (Nat.le_of_ble_eq_true rfl) rfl ?_
    refine r_goto (pc := 434) dX12_keep_434 rfl ?_
    refine r_drop (loc' := [(0, .ref 0), (1, .int x2)]) [1, 0] rfl ?_
    exact hk_349 x2 w h
  replace h := if_f hc1 h
  refine r_aload_n (pc := 380) dX12_keep_380 rfl 0 rfl ?_
  refine r_get (pc := 381) (j := 32) (v := .ref 19) oM0 cf12 flRX12_135 rfl dX12_keep_381 rfl ?_
  refine r_iload_n (pc := 384) dX12_keep_384 rfl 2 rfl ?_
  replace h := if_n h; obtain ⟨hb3, h⟩ := h
  refine r_iald (pc := 385) aM19 (inb_in hb3) dX12_keep_385 ?_
  refine r_iconst (pc := 386) dX12_keep_386 ki_1 ?_
  refine r_icmp_ne (pc := 387) dX12_keep_387 rfl (fun hc4 => ?_) (fun hc4 => ?_)
  · replace h := if_f hc4 h
    refine r_aload_n (pc := 421) dX12_keep_421 rfl 0 rfl ?_
    refine r_get (pc := 422) (j := 34) (v := .ref 21) oM0 cf12 flRX12_141 rfl dX12_keep_422 rfl ?_
    refine r_iload_n (pc := 425) dX12_keep_425 rfl 2 rfl ?_
    replace h := if_n h; obtain ⟨hb16, h⟩ := h
    refine r_iald (pc := 426) aM21 (inb_in hb16) dX12_keep_426 ?_
    replace h := lt_e h; obtain ⟨x17, ex17, h⟩ := h
    refine r_topi ex17 ?_
    refine r_istore_n (pc := 427) (loc' := [(2, .int x17), (0, .ref 0), (1, .int a1)]) dX12_keep_427 rfl (Nat.le_of_ble_eq_true rfl) rfl ?_
    refine r_goto (pc := 428) dX12_keep_428 rfl ?_
    refine r_drop (loc' := [(0, .ref 0), (1, .int a1), (2, .int x17)]) [1, 2, 0] rfl ?_
    exact hk_376 a1 x17 w h
  replace h := if_t hc4 h
  refine r_aload_n (pc := 390) dX12_keep_390 rfl 0 rfl ?_
  refine r_get (pc := 391) (j := 40) (v := .ref 27) oM0 cf12 flRX12_159 rfl dX12_keep_391 rfl ?_
  refine r_iload_n (pc := 394) dX12_keep_394 rfl 2 rfl ?_
  replace h := if_n h; obtain ⟨hb5, h⟩ := h
  refine r_zald (pc := 395) aM27 (inb_in hb5) dX12_keep_395 ?_
  refine r_if_eq (pc := 396) dX12_keep_396 rfl (fun hc6 => ?_) (fun hc6 => ?_)
  · replace h := if_t hc6 h
    refine r_aload_n (pc := 402) dX12_keep_402 rfl 0 rfl ?_
    refine r_get (pc := 403) (j := 110) (v := .ref 82) oM0 cf12 flRX12_326 rfl dX12_keep_403 rfl ?_
    refine r_iload_n (pc := 406) dX12_keep_406 rfl 2 rfl ?_
    refine r_aload_n (pc := 407) dX12_keep_407 rfl 0 rfl ?_
    refine r_get (pc := 408) (j := 109) (v := .ref 81) oM0 cf12 flRX12_323 rfl dX12_keep_408 rfl ?_
    refine r_iload_n (pc := 411) dX12_keep_411 rfl 1 rfl ?_
    replace h := if_n h; obtain ⟨hb7, h⟩ := h
    refine r_iald (pc := 412) aM81 (inb_in hb7) dX12_keep_412 ?_
    replace h := if_n h; obtain ⟨hb8, h⟩ := h
    replace h := lt_e h; obtain ⟨w9, ew9, h⟩ := h
    refine r_iast (pc := 413) aM82 (inb_in hb8) dX12_keep_413 ?_
    refine r_w ew9 ?_
    refine r_aload_n (pc := 414) dX12_keep_414 rfl 0 rfl ?_
    refine r_get (pc := 415) (j := 109) (v := .ref 81) oM0 cf12 flRX12_323 rfl dX12_keep_415 rfl ?_
    refine r_iload_n (pc := 418) dX12_keep_418 rfl 1 rfl ?_
    refine r_iload_n (pc := 419) dX12_keep_419 rfl 2 rfl ?_
    replace h := if_n h; obtain ⟨hb10, h⟩ := h
    replace h := lt_e h; obtain ⟨w11, ew11, h⟩ := h
    refine r_iast (pc := 420) aM81 (inb_in hb10) dX12_keep_420 ?_
    refine r_w ew11 ?_
    refine r_aload_n (pc := 421) dX12_keep_421 rfl 0 rfl ?_
    refine r_get (pc := 422) (j := 34) (v := .ref 21) oM0 cf12 flRX12_141 rfl dX12_keep_422 rfl ?_
    refine r_iload_n (pc := 425) dX12_keep_425 rfl 2 rfl ?_
    replace h := if_n h; obtain ⟨hb12, h⟩ := h
    refine r_iald (pc := 426) aM21 (inb_in hb12) dX12_keep_426 ?_
    replace h := lt_e h; obtain ⟨x13, ex13, h⟩ := h
    refine r_topi ex13 ?_
    refine r_istore_n (pc := 427) (loc' := [(2, .int x13), (0, .ref 0), (1, .int a1)]) dX12_keep_427 rfl (Nat.le_of_ble_eq_true rfl) rfl ?_
    refine r_goto (pc := 428) dX12_keep_428 rfl ?_
    refine r_drop (loc' := [(0, .ref 0), (1, .int a1), (2, .int x13)]) [1, 2, 0] rfl ?_
    exact hk_376 a1 x13 w11 h
  replace h := if_f hc6 h
  refine r_goto (pc := 399) dX12_keep_399 rfl ?_
  refine r_aload_n (pc := 421) dX12_keep_421 rfl 0 rfl ?_
  refine r_get (pc := 422) (j := 34) (v := .ref 21) oM0 cf12 flRX12_141 rfl dX12_keep_422 rfl ?_
  refine r_iload_n (pc := 425) dX12_keep_425 rfl 2 rfl ?_
  replace h := if_n h; obtain ⟨hb14, h⟩ := h
  refine r_iald (pc := 426) aM21 (inb_in hb14) dX12_keep_426 ?_
  replace h := lt_e h; obtain ⟨x15, ex15, h⟩ := h
  refine r_topi ex15 ?_
  refine r_istore_n (pc := 427) (loc' := [(2, .int x15), (0, .ref 0), (1, .int a1)]) dX12_keep_427 rfl (Nat.le_of_ble_eq_true rfl) rfl ?_
  refine r_goto (pc := 428) dX12_keep_428 rfl ?_
  refine r_drop (loc' := [(0, .ref 0), (1, .int a1), (2, .int x15)]) [1, 2, 0] rfl ?_
  exact hk_376 a1 x15 w h
def oX12_keep_376 (k_349 : Int32 → Wd → Option Wd) : Nat → Int32 → Int32 → Wd → Option Wd
  | 0 => fun _ _ _ => none
  | n + 1 => fX12_keep_376 k_349 (oX12_keep_376 k_349 n)
theorem qX12_keep_376 {q : Gq} {l : Launch} {N : Option Value → Wd → Prop} {X : String → Wd → Prop} {R : Wd} (hN : N none R) {k_349 : Int32 → Wd → Option Wd} (hk_349 : ∀ (a1 : Int32) (w : Wd), k_349 a1 w = some R → RT (GM q) l 1 yX12_keep cX12_keep 4 (none) N X 349 [] [(0, .ref 0), (1, .int a1)] w) : ∀ (n : Nat) (a1 : Int32) (a2 : Int32) (w : Wd), oX12_keep_376 k_349 n a1 a2 w = some R → RT (GM q) l 1 yX12_keep cX12_keep 4 (none) N X 376 [] [(0, .ref 0), (1, .int a1), (2, .int a2)] w := by
  intro n
  induction n with
  | zero =>
    intro a1 a2 w h
    exact absurd h (fun q => nomatch q)
  | succ n ih =>
    intro a1 a2 w h
    exact pX12_keep_376 hN hk_349 ih h
def fX12_keep_349 (k_349 : Int32 → Wd → Option Wd) (a1 : Int32) (w : Wd) : Option Wd :=
  if (gi w 0 59) ≤ a1 then (oX12_keep_439 FU 0 w) else (if inb a1 9000 = true then lt (si w 81 (Int32.toNatClampNeg a1) (-1)) fun w3 => if inb a1 9000 = true then if inb (gi w3 42 (Int32.toNatClampNeg a1)) 9000 = true then lt ((gi w3 16 (Int32.toNatClampNeg (gi w3 42 (Int32.toNatClampNeg a1))))) fun x6 => oX12_keep_376 k_349 FU a1 x6 w3 else none else none else none)
theorem pX12_keep_349 {q : Gq} {l : Launch} {N : Option Value → Wd → Prop} {X : String → Wd → Prop} {w : Wd} {R : Wd} (hN : N none R) {k_349 : Int32 → Wd → Option Wd} (hk_349 : ∀ (a1 : Int32) (w : Wd), k_349 a1 w = some R → RT (GM q) l 1 yX12_keep cX12_keep 4 (none) N X 349 [] [(0, .ref 0), (1, .int a1)] w) {a1 : Int32} (h : fX12_keep_349 k_349 a1 w = some R) : RT (GM q) l 1 yX12_keep cX12_keep 4 (none) N X 349 [] [(0, .ref 0), (1, .int a1)] w := by
  unfold fX12_keep_349 at h
  refine r_iload_n (pc := 349) dX12_keep_349 rfl 1 rfl ?_
  refine r_aload_n (pc := 350) dX12_keep_350 rfl 0 rfl ?_
  refine r_get (pc := 351) (j := 59) (v := .int (gi w 0 59)) oM0 cf12 flRX12_494 rfl dX12_keep_351 rfl ?_
  refine r_icmp_ge (pc := 354) dX12_keep_354 rfl (fun hc1 => ?_) (fun hc1 => ?_)
  · replace h := if_t hc1 h
    refine r_iconst (pc := 437) dX12_keep_437 ki_0 ?_
    refine r_istore_n (pc := 438) (loc' := [(1, .int 0), (0, .ref 0)]) dX12_keep_438 rfl (Nat.le_of_ble_eq_true rfl) rfl ?_
    refine r_drop (loc' := [(0, .ref 0), (1, .int 0)]) [1, 0] rfl ?_
    exact qX12_keep_439 hN FU 0 w h
  replace h := if_f hc1 h
  refine r_aload_n (pc := 357) dX12_keep_357 rfl 0 rfl ?_
  refine r_get (pc := 358) (j := 109) (v := .ref 81) oM0 cf12 flRX12_323 rfl dX12_keep_358 rfl ?_
  refine r_iload_n (pc := 361) dX12_keep_361 rfl 1 rfl ?_
  refine r_iconst (pc := 362) dX12_keep_362 ki_m1 ?_
  replace h := if_n h; obtain ⟨hb2, h⟩ := h
  replace h := lt_e h; obtain ⟨w3, ew3, h⟩ := h
  refine r_iast (pc := 363) aM81 (inb_in hb2) dX12_keep_363 ?_
  refine r_w ew3 ?_
  refine r_aload_n (pc := 364) dX12_keep_364 rfl 0 rfl ?_
  refine r_get (pc := 365) (j := 26) (v := .ref 16) oM0 cf12 flRX12_126 rfl dX12_keep_365 rfl ?_
  refine r_aload_n (pc := 368) dX12_keep_368 rfl 0 rfl ?_
  refine r_get (pc := 369) (j := 58) (v := .ref 42) oM0 cf12 flRX12_205 rfl dX12_keep_369 rfl ?_
  refine r_iload_n (pc := 372) dX12_keep_372 rfl 1 rfl ?_
  replace h := if_n h; obtain ⟨hb4, h⟩ := h
  refine r_iald (pc := 373) aM42 (inb_in hb4) dX12_keep_373 ?_
  replace h := if_n h; obtain ⟨hb5, h⟩ := h
  refine r_iald (pc := 374) aM16 (inb_in hb5) dX12_keep_374 ?_
  replace h := lt_e h; obtain ⟨x6, ex6, h⟩ := h
  refine r_topi ex6 ?_
  refine r_istore_n (pc := 375) (loc' := [(2, .int x6), (0, .ref 0), (1, .int a1)]) dX12_keep_375 rfl (Nat.le_of_ble_eq_true rfl) rfl ?_
  refine r_drop (loc' := [(0, .ref 0), (1, .int a1), (2, .int x6)]) [1, 2, 0] rfl ?_
  exact qX12_keep_376 hN hk_349 FU a1 x6 w3 h
def oX12_keep_349 : Nat → Int32 → Wd → Option Wd
  | 0 => fun _ _ => none
  | n + 1 => fX12_keep_349 (oX12_keep_349 n)
theorem qX12_keep_349 {q : Gq} {l : Launch} {N : Option Value → Wd → Prop} {X : String → Wd → Prop} {R : Wd} (hN : N none R) : ∀ (n : Nat) (a1 : Int32) (w : Wd), oX12_keep_349 n a1 w = some R → RT (GM q) l 1 yX12_keep cX12_keep 4 (none) N X 349 [] [(0, .ref 0), (1, .int a1)] w := by
  intro n
  induction n with
  | zero =>
    intro a1 w h
    exact absurd h (fun q => nomatch q)
  | succ n ih =>
    intro a1 w h
    exact pX12_keep_349 hN ih h
def fX12_keep_153 (k_153 : Int32 → Wd → Option Wd) (a1 : Int32) (w : Wd) : Option Wd :=
  if (gi w 0 6) ≤ a1 then (bn (fX12_copy 36 1200 70 1200 (gi w 0 53) w) fun w2 => bn (fX12_copy 35 1200 71 1200 (gi w2 0 53) w2) fun w3 => bn (fX12_copy 32 1200 72 1200 (gi w3 0 53) w3) fun w4 => bn (fX12_copy 31 1200 73 1200 (gi w4 0 53) w4) fun w5 => bn (fX12_copy 26 5000 74 5000 (gi w5 0 42) w5) fun w6 => bn (fX12_copy 55 5000 75 5000 (gi w6 0 42) w6) fun w7 => bn (fX12_copy 56 5000 77 5000 (gi w7 0 42) w7) fun w8 => bn (fX12_copy 57 5000 78 5000 (gi w8 0 42) w8) fun w9 => bn (fX12_copy 58 24000 79 24000 (gi w9 0 82) w9) fun w10 => bn (fX12_copy 41 9000 80 9000 (gi w10 0 59) w10) fun w11 => lt (si w11 0 111 (gi w11 0 54)) fun w12 => oX12_keep_349 FU 0 w12) else (if inb a1 8194 = true then if inb a1 8194 = true then lt (sl w 69 (Int32.toNatClampNeg a1) (gl w 4 (Int32.toNatClampNeg a1))) fun w15 => lt (a1 + 1) fun x16 => k_153 x16 w15 else none else none)
set_option maxHeartbeats 16000000 in
theorem pX12_keep_153 {q : Gq} {l : Launch} {N : Option Value → Wd → Prop} {X : String → Wd → Prop} {w : Wd} {R : Wd} (hN : N none R) {k_153 : Int32 → Wd → Option Wd} (hk_153 : ∀ (a1 : Int32) (w : Wd), k_153 a1 w = some R → RT (GM q) l 1 yX12_keep cX12_keep 4 (none) N X 153 [] [(0, .ref 0), (1, .int a1)] w) {a1 : Int32} (h : fX12_keep_153 k_153 a1 w = some R) : RT (GM q) l 1 yX12_keep cX12_keep 4 (none) N X 153 [] [(0, .ref 0), (1, .int a1)] w := by
  unfold fX12_keep_153 at h
  refine r_iload_n (pc := 153) dX12_keep_153 rfl 1 rfl ?_
  refine r_aload_n (pc := 154) dX12_keep_154 rfl 0 rfl ?_
  refine r_get (pc := 155) (j := 6) (v := .int (gi w 0 6)) oM0 cf12 flRX12_392 rfl dX12_keep_155 rfl ?_
  refine r_icmp_ge (pc := 158) dX12_keep_158 rfl (fun hc1 => ?_) (fun hc1 => ?_)
  · replace h := if_t hc1 h
    refine r_aload_n (pc := 179) dX12_keep_179 rfl 0 rfl ?_
    refine r_aload_n (pc := 180) dX12_keep_180 rfl 0 rfl ?_
    refine r_get (pc := 181) (j := 50) (v := .ref 36) oM0 cf12 flRX12_187 rfl dX12_keep_181 rfl ?_
    refine r_aload_n (pc := 184) dX12_keep_184 rfl 0 rfl ?_
    refine r_get (pc := 185) (j := 98) (v := .ref 70) oM0 cf12 flRX12_290 rfl dX12_keep_185 rfl ?_
    refine r_aload_n (pc := 188) dX12_keep_188 rfl 0 rfl ?_
    refine r_get (pc := 189) (j := 53) (v := .int (gi w 0 53)) oM0 cf12 flRX12_544 rfl dX12_keep_189 rfl ?_
    replace h := bn_e h; obtain ⟨w2, ew2, h⟩ := h
    refine r_cVv (pc := 192) wyX12_copy oM0 rfl mlRX12_755 iyX12_copy syX12_copy ⟨(Nat.le_of_ble_eq_true rfl), (Nat.le_of_ble_eq_true rfl)⟩ rfl rfl (Nat.le_of_ble_eq_true rfl) dX12_keep_192 (mX12_copy aM36 aM70 ew2 (pV.mk ?_))
    refine r_aload_n (pc := 195) dX12_keep_195 rfl 0 rfl ?_
    refine r_aload_n (pc := 196) dX12_keep_196 rfl 0 rfl ?_
    refine r_get (pc := 197) (j := 49) (v := .ref 35) oM0 cf12 flRX12_184 rfl dX12_keep_197 rfl ?_
    refine r_aload_n (pc := 200) dX12_keep_200 rfl 0 rfl ?_
    refine r_get (pc := 201) (j := 99) (v := .ref 71) oM0 cf12 flRX12_293 rfl dX12_keep_201 rfl ?_
    refine r_aload_n (pc := 204) dX12_keep_204 rfl 0 rfl ?_
    refine r_get (pc := 205) (j := 53) (v := .int (gi w2 0 53)) oM0 cf12 flRX12_544 rfl dX12_keep_205 rfl ?_
    replace h := bn_e h; obtain ⟨w3, ew3, h⟩ := h
    refine r_cVv (pc := 208) wyX12_copy oM0 rfl mlRX12_755 iyX12_copy syX12_copy ⟨(Nat.le_of_ble_eq_true rfl), (Nat.le_of_ble_eq_true rfl)⟩ rfl rfl (Nat.le_of_ble_eq_true rfl) dX12_keep_208 (mX12_copy aM35 aM71 ew3 (pV.mk ?_))
    refine r_aload_n (pc := 211) dX12_keep_211 rfl 0 rfl ?_
    refine r_aload_n (pc := 212) dX12_keep_212 rfl 0 rfl ?_
    refine r_get (pc := 213) (j := 46) (v := .ref 32) oM0 cf12 flRX12_175 rfl dX12_keep_213 rfl ?_
    refine r_aload_n (pc := 216) dX12_keep_216 rfl 0 rfl ?_
    refine r_get (pc := 217) (j := 100) (v := .ref 72) oM0 cf12 flRX12_296 rfl dX12_keep_217 rfl ?_
    refine r_aload_n (pc := 220) dX12_keep_220 rfl 0 rfl ?_
    refine r_get (pc := 221) (j := 53) (v := .int (gi w3 0 53)) oM0 cf12 flRX12_544 rfl dX12_keep_221 rfl ?_
    replace h := bn_e h; obtain ⟨w4, ew4, h⟩ := h
    refine r_cVv (pc := 224) wyX12_copy oM0 rfl mlRX12_755 iyX12_copy syX12_copy ⟨(Nat.le_of_ble_eq_true rfl), (Nat.le_of_ble_eq_true rfl)⟩ rfl rfl (Nat.le_of_ble_eq_true rfl) dX12_keep_224 (mX12_copy aM32 aM72 ew4 (pV.mk ?_))
    refine r_aload_n (pc := 227) dX12_keep_227 rfl 0 rfl ?_
    refine r_aload_n (pc := 228) dX12_keep_228 rfl 0 rfl ?_
    refine r_get (pc := 229) (j := 45) (v := .ref 31) oM0 cf12 flRX12_172 rfl dX12_keep_229 rfl ?_
    refine r_aload_n (pc := 232) dX12_keep_232 rfl 0 rfl ?_
    refine r_get (pc := 233) (j := 101) (v := .ref 73) oM0 cf12 flRX12_299 rfl dX12_keep_233 rfl ?_
    refine r_aload_n (pc := 236) dX12_keep_236 rfl 0 rfl ?_
    refine r_get (pc := 237) (j := 53) (v := .int (gi w4 0 53)) oM0 cf12 flRX12_544 rfl dX12_keep_237 rfl ?_
    replace h := bn_e h; obtain ⟨w5, ew5, h⟩ := h
    refine r_cVv (pc := 240) wyX12_copy oM0 rfl mlRX12_755 iyX12_copy syX12_copy ⟨(Nat.le_of_ble_eq_true rfl), (Nat.le_of_ble_eq_true rfl)⟩ rfl rfl (Nat.le_of_ble_eq_true rfl) dX12_keep_240 (mX12_copy aM31 aM73 ew5 (pV.mk ?_))
    refine r_aload_n (pc := 243) dX12_keep_243 rfl 0 rfl ?_
    refine r_aload_n (pc := 244) dX12_keep_244 rfl 0 rfl ?_
    refine r_get (pc := 245) (j := 39) (v := .ref 26) oM0 cf12 flRX12_156 rfl dX12_keep_245 rfl ?_
    refine r_aload_n (pc := 248) dX12_keep_248 rfl 0 rfl ?_
    refine r_get (pc := 249) (j := 102) (v := .ref 74) oM0 cf12 flRX12_302 rfl dX12_keep_249 rfl ?_
    refine r_aload_n (pc := 252) dX12_keep_252 rfl 0 rfl ?_
    refine r_get (pc := 253) (j := 42) (v := .int (gi w5 0 42)) oM0 cf12 flRX12_488 rfl dX12_keep_253 rfl ?_
    replace h := bn_e h; obtain ⟨w6, ew6, h⟩ := h
    refine r_cVv (pc := 256) wyX12_copy oM0 rfl mlRX12_755 iyX12_copy syX12_copy ⟨(Nat.le_of_ble_eq_true rfl), (Nat.le_of_ble_eq_true rfl)⟩ rfl rfl (Nat.le_of_ble_eq_true rfl) dX12_keep_256 (mX12_copy aM26 aM74 ew6 (pV.mk ?_))
    refine r_aload_n (pc := 259) dX12_keep_259 rfl 0 rfl ?_
    refine r_aload_n (pc := 260) dX12_keep_260 rfl 0 rfl ?_
    refine r_get (pc := 261) (j := 78) (v := .ref 55) oM0 cf12 flRX12_245 rfl dX12_keep_261 rfl ?_
    refine r_aload_n (pc := 264) dX12_keep_264 rfl 0 rfl ?_
    refine r_get (pc := 265) (j := 103) (v := .ref 75) oM0 cf12 flRX12_305 rfl dX12_keep_265 rfl ?_
    refine r_aload_n (pc := 268) dX12_keep_268 rfl 0 rfl ?_
    refine r_get (pc := 269) (j := 42) (v := .int (gi w6 0 42)) oM0 cf12 flRX12_488 rfl dX12_keep_269 rfl ?_
    replace h := bn_e h; obtain ⟨w7, ew7, h⟩ := h
    refine r_cVv (pc := 272) wyX12_copy oM0 rfl mlRX12_755 iyX12_copy syX12_copy ⟨(Nat.le_of_ble_eq_true rfl), (Nat.le_of_ble_eq_true rfl)⟩ rfl rfl (Nat.le_of_ble_eq_true rfl) dX12_keep_272 (mX12_copy aM55 aM75 ew7 (pV.mk ?_))
    refine r_aload_n (pc := 275) dX12_keep_275 rfl 0 rfl ?_
    refine r_aload_n (pc := 276) dX12_keep_276 rfl 0 rfl ?_
    refine r_get (pc := 277) (j := 79) (v := .ref 56) oM0 cf12 flRX12_248 rfl dX12_keep_277 rfl ?_
    refine r_aload_n (pc := 280) dX12_keep_280 rfl 0 rfl ?_
    refine r_get (pc := 281) (j := 105) (v := .ref 77) oM0 cf12 flRX12_311 rfl dX12_keep_281 rfl ?_
    refine r_aload_n (pc := 284) dX12_keep_284 rfl 0 rfl ?_
    refine r_get (pc := 285) (j := 42) (v := .int (gi w7 0 42)) oM0 cf12 flRX12_488 rfl dX12_keep_285 rfl ?_
    replace h := bn_e h; obtain ⟨w8, ew8, h⟩ := h
    refine r_cVv (pc := 288) wyX12_copy oM0 rfl mlRX12_755 iyX12_copy syX12_copy ⟨(Nat.le_of_ble_eq_true rfl), (Nat.le_of_ble_eq_true rfl)⟩ rfl rfl (Nat.le_of_ble_eq_true rfl) dX12_keep_288 (mX12_copy aM56 aM77 ew8 (pV.mk ?_))
    refine r_aload_n (pc := 291) dX12_keep_291 rfl 0 rfl ?_
    refine r_aload_n (pc := 292) dX12_keep_292 rfl 0 rfl ?_
    refine r_get (pc := 293) (j := 80) (v := .ref 57) oM0 cf12 flRX12_251 rfl dX12_keep_293 rfl ?_
    refine r_aload_n (pc := 296) dX12_keep_296 rfl 0 rfl ?_
    refine r_get (pc := 297) (j := 106) (v := .ref 78) oM0 cf12 flRX12_314 rfl dX12_keep_297 rfl ?_
    refine r_aload_n (pc := 300) dX12_keep_300 rfl 0 rfl ?_
    refine r_get (pc := 301) (j := 42) (v := .int (gi w8 0 42)) oM0 cf12 flRX12_488 rfl dX12_keep_301 rfl ?_
    replace h := bn_e h; obtain ⟨w9, ew9, h⟩ := h
    refine r_cVv (pc := 304) wyX12_copy oM0 rfl mlRX12_755 iyX12_copy syX12_copy ⟨(Nat.le_of_ble_eq_true rfl), (Nat.le_of_ble_eq_true rfl)⟩ rfl rfl (Nat.le_of_ble_eq_true rfl) dX12_keep_304 (mX12_copy aM57 aM78 ew9 (pV.mk ?_))
    refine r_aload_n (pc := 307) dX12_keep_307 rfl 0 rfl ?_
    refine r_aload_n (pc := 308) dX12_keep_308 rfl 0 rfl ?_
    refine r_get (pc := 309) (j := 81) (v := .ref 58) oM0 cf12 flRX12_254 rfl dX12_keep_309 rfl ?_
    refine r_aload_n (pc := 312) dX12_keep_312 rfl 0 rfl ?_
    refine r_get (pc := 313) (j := 107) (v := .ref 79) oM0 cf12 flRX12_317 rfl dX12_keep_313 rfl ?_
    refine r_aload_n (pc := 316) dX12_keep_316 rfl 0 rfl ?_
    refine r_get (pc := 317) (j := 82) (v := .int (gi w9 0 82)) oM0 cf12 flRX12_730 rfl dX12_keep_317 rfl ?_
    replace h := bn_e h; obtain ⟨w10, ew10, h⟩ := h
    refine r_cVv (pc := 320) wyX12_copy oM0 rfl mlRX12_755 iyX12_copy syX12_copy ⟨(Nat.le_of_ble_eq_true rfl), (Nat.le_of_ble_eq_true rfl)⟩ rfl rfl (Nat.le_of_ble_eq_true rfl) dX12_keep_320 (mX12_copy aM58 aM79 ew10 (pV.mk ?_))
    refine r_aload_n (pc := 323) dX12_keep_323 rfl 0 rfl ?_
    refine r_aload_n (pc := 324) dX12_keep_324 rfl 0 rfl ?_
    refine r_get (pc := 325) (j := 57) (v := .ref 41) oM0 cf12 flRX12_202 rfl dX12_keep_325 rfl ?_
    refine r_aload_n (pc := 328) dX12_keep_328 rfl 0 rfl ?_
    refine r_get (pc := 329) (j := 108) (v := .ref 80) oM0 cf12 flRX12_320 rfl dX12_keep_329 rfl ?_
    refine r_aload_n (pc := 332) dX12_keep_332 rfl 0 rfl ?_
    refine r_get (pc := 333) (j := 59) (v := .int (gi w10 0 59)) oM0 cf12 flRX12_494 rfl dX12_keep_333 rfl ?_
    replace h := bn_e h; obtain ⟨w11, ew11, h⟩ := h
    refine r_cVv (pc := 336) wyX12_copy oM0 rfl mlRX12_755 iyX12_copy syX12_copy ⟨(Nat.le_of_ble_eq_true rfl), (Nat.le_of_ble_eq_true rfl)⟩ rfl rfl (Nat.le_of_ble_eq_true rfl) dX12_keep_336 (mX12_copy aM41 aM80 ew11 (pV.mk ?_))
    refine r_aload_n (pc := 339) dX12_keep_339 rfl 0 rfl ?_
    refine r_aload_n (pc := 340) dX12_keep_340 rfl 0 rfl ?_
    refine r_get (pc := 341) (j := 54) (v := .int (gi w11 0 54)) oM0 cf12 flRX12_535 rfl dX12_keep_341 rfl ?_
    replace h := lt_e h; obtain ⟨w12, ew12, h⟩ := h
    refine r_putI (pc := 344) (j := 111) oM0 cf12 flRX12_759 rfl rfl rfl rfl dX12_keep_344 ?_
    refine r_w ew12 ?_
    refine r_iconst (pc := 347) dX12_keep_347 ki_0 ?_
    refine r_istore_n (pc := 348) (loc' := [(1, .int 0), (0, .ref 0)]) dX12_keep_348 rfl (Nat.le_of_ble_eq_true rfl) rfl ?_
    refine r_drop (loc' := [(0, .ref 0), (1, .int 0)]) [1, 0] rfl ?_
    exact qX12_keep_349 hN FU 0 w12 h
  replace h := if_f hc1 h
  refine r_aload_n (pc := 161) dX12_keep_161 rfl 0 rfl ?_
  refine r_get (pc := 162) (j := 97) (v := .ref 69) oM0 cf12 flRX12_287 rfl dX12_keep_162 rfl ?_
  refine r_iload_n (pc := 165) dX12_keep_165 rfl 1 rfl ?_
  refine r_aload_n (pc := 166) dX12_keep_166 rfl 0 rfl ?_
  refine r_get (pc := 167) (j := 5) (v := .ref 4) oM0 cf12 flRX12_20 rfl dX12_keep_167 rfl ?_
  refine r_iload_n (pc := 170) dX12_keep_170 rfl 1 rfl ?_
  replace h := if_n h; obtain ⟨hb13, h⟩ := h
  refine r_lald (pc := 171) aM4 (inb_in hb13) dX12_keep_171 ?_
  replace h := if_n h; obtain ⟨hb14, h⟩ := h
  replace h := lt_e h; obtain ⟨w15, ew15, h⟩ := h
  refine r_last (pc := 172) aM69 (inb_in hb14) dX12_keep_172 ?_
  refine r_w ew15 ?_
  replace h := lt_e h; obtain ⟨x16, ex16, h⟩ := h
  refine r_inc (pc := 173) (loc' := [(1, .int x16), (0, .ref 0)]) dX12_keep_173 ki_1 ex16 1 rfl (Nat.le_of_ble_eq_true rfl) rfl ?_
  refine r_goto (pc := 176) dX12_keep_176 rfl ?_
  refine r_drop (loc' := [(0, .ref 0), (1, .int x16)]) [1, 0] rfl ?_
  exact hk_153 x16 w15 h
def oX12_keep_153 : Nat → Int32 → Wd → Option Wd
  | 0 => fun _ _ => none
  | n + 1 => fX12_keep_153 (oX12_keep_153 n)
theorem qX12_keep_153 {q : Gq} {l : Launch} {N : Option Value → Wd → Prop} {X : String → Wd → Prop} {R : Wd} (hN : N none R) : ∀ (n : Nat) (a1 : Int32) (w : Wd), oX12_keep_153 n a1 w = some R → RT (GM q) l 1 yX12_keep cX12_keep 4 (none) N X 153 [] [(0, .ref 0), (1, .int a1)] w := by
  intro n
  induction n with
  | zero =>
    intro a1 w h
    exact absurd h (fun q => nomatch q)
  | succ n ih =>
    intro a1 w h
    exact pX12_keep_153 hN ih h
def fX12_keep (w : Wd) : Option Wd :=
  lt (si w 0 87 1) fun w1 => bn (fX12_copy 46 240000 60 240000 (4 * (gi w1 0 64)) w1) fun w2 => bn (fX12_copy 47 6000 61 6000 (gi w2 0 69) w2) fun w3 => bn (fX12_copy 48 6000 62 6000 (gi w3 0 69) w3) fun w4 => bn (fX12_copy 49 4300 63 4300 (gi w4 0 73) w4) fun w5 => bn (fX12_copy 50 4300 64 4300 (gi w5 0 73) w5) fun w6 => bn (fX12_copy 51 4300 65 4300 (gi w6 0 73) w6) fun w7 => bn (fX12_copy 52 6000 66 6000 (gi w7 0 77) w7) fun w8 => bn (fX12_copy 53 6000 67 6000 (gi w8 0 77) w8) fun w9 => bn (fX12_copy 54 6000 68 6000 (gi w9 0 77) w9) fun w10 => oX12_keep_153 FU 0 w10
set_option maxHeartbeats 16000000 in
theorem pX12_keep {q : Gq} {l : Launch} {N : Option Value → Wd → Prop} {X : String → Wd → Prop} {w : Wd} {R : Wd} (hN : N none R) (h : fX12_keep w = some R) : RT (GM q) l 1 yX12_keep cX12_keep 4 (none) N X 0 [] [(0, .ref 0)] w := by
  unfold fX12_keep at h
  refine r_aload_n (pc := 0) dX12_keep_0 rfl 0 rfl ?_
  refine r_iconst (pc := 1) dX12_keep_1 ki_1 ?_
  replace h := lt_e h; obtain ⟨w1, ew1, h⟩ := h
  refine r_putI (pc := 2) (j := 87) oM0 cf12 flRX12_751 rfl rfl rfl rfl dX12_keep_2 ?_
  refine r_w ew1 ?_
  refine r_aload_n (pc := 5) dX12_keep_5 rfl 0 rfl ?_
  refine r_aload_n (pc := 6) dX12_keep_6 rfl 0 rfl ?_
  refine r_get (pc := 7) (j := 63) (v := .ref 46) oM0 cf12 flRX12_218 rfl dX12_keep_7 rfl ?_
  refine r_aload_n (pc := 10) dX12_keep_10 rfl 0 rfl ?_
  refine r_get (pc := 11) (j := 88) (v := .ref 60) oM0 cf12 flRX12_260 rfl dX12_keep_11 rfl ?_
  refine r_iconst (pc := 14) dX12_keep_14 ki_4 ?_
  refine r_aload_n (pc := 15) dX12_keep_15 rfl 0 rfl ?_
  refine r_get (pc := 16) (j := 64) (v := .int (gi w1 0 64)) oM0 cf12 flRX12_596 rfl dX12_keep_16 rfl ?_
  refine r_imul (pc := 19) dX12_keep_19 ?_
  replace h := bn_e h; obtain ⟨w2, ew2, h⟩ := h
  refine r_cVv (pc := 20) wyX12_copy oM0 rfl mlRX12_755 iyX12_copy syX12_copy ⟨(Nat.le_of_ble_eq_true rfl), (Nat.le_of_ble_eq_true rfl)⟩ rfl rfl (Nat.le_of_ble_eq_true rfl) dX12_keep_20 (mX12_copy aM46 aM60 ew2 (pV.mk ?_))
  refine r_aload_n (pc := 23) dX12_keep_23 rfl 0 rfl ?_
  refine r_aload_n (pc := 24) dX12_keep_24 rfl 0 rfl ?_
  refine r_get (pc := 25) (j := 67) (v := .ref 47) oM0 cf12 flRX12_221 rfl dX12_keep_25 rfl ?_
  refine r_aload_n (pc := 28) dX12_keep_28 rfl 0 rfl ?_
  refine r_get (pc := 29) (j := 89) (v := .ref 61) oM0 cf12 flRX12_263 rfl dX12_keep_29 rfl ?_
  refine r_aload_n (pc := 32) dX12_keep_32 rfl 0 rfl ?_
  refine r_get (pc := 33) (j := 69) (v := .int (gi w2 0 69)) oM0 cf12 flRX12_691 rfl dX12_keep_33 rfl ?_
  replace h := bn_e h; obtain ⟨w3, ew3, h⟩ := h
  refine r_cVv (pc := 36) wyX12_copy oM0 rfl mlRX12_755 iyX12_copy syX12_copy ⟨(Nat.le_of_ble_eq_true rfl), (Nat.le_of_ble_eq_true rfl)⟩ rfl rfl (Nat.le_of_ble_eq_true rfl) dX12_keep_36 (mX12_copy aM47 aM61 ew3 (pV.mk ?_))
  refine r_aload_n (pc := 39) dX12_keep_39 rfl 0 rfl ?_
  refine r_aload_n (pc := 40) dX12_keep_40 rfl 0 rfl ?_
  refine r_get (pc := 41) (j := 68) (v := .ref 48) oM0 cf12 flRX12_224 rfl dX12_keep_41 rfl ?_
  refine r_aload_n (pc := 44) dX12_keep_44 rfl 0 rfl ?_
  refine r_get (pc := 45) (j := 90) (v := .ref 62) oM0 cf12 flRX12_266 rfl dX12_keep_45 rfl ?_
  refine r_aload_n (pc := 48) dX12_keep_48 rfl 0 rfl ?_
  refine r_get (pc := 49) (j := 69) (v := .int (gi w3 0 69)) oM0 cf12 flRX12_691 rfl dX12_keep_49 rfl ?_
  replace h := bn_e h; obtain ⟨w4, ew4, h⟩ := h
  refine r_cVv (pc := 52) wyX12_copy oM0 rfl mlRX12_755 iyX12_copy syX12_copy ⟨(Nat.le_of_ble_eq_true rfl), (Nat.le_of_ble_eq_true rfl)⟩ rfl rfl (Nat.le_of_ble_eq_true rfl) dX12_keep_52 (mX12_copy aM48 aM62 ew4 (pV.mk ?_))
  refine r_aload_n (pc := 55) dX12_keep_55 rfl 0 rfl ?_
  refine r_aload_n (pc := 56) dX12_keep_56 rfl 0 rfl ?_
  refine r_get (pc := 57) (j := 70) (v := .ref 49) oM0 cf12 flRX12_227 rfl dX12_keep_57 rfl ?_
  refine r_aload_n (pc := 60) dX12_keep_60 rfl 0 rfl ?_
  refine r_get (pc := 61) (j := 91) (v := .ref 63) oM0 cf12 flRX12_269 rfl dX12_keep_61 rfl ?_
  refine r_aload_n (pc := 64) dX12_keep_64 rfl 0 rfl ?_
  refine r_get (pc := 65) (j := 73) (v := .int (gi w4 0 73)) oM0 cf12 flRX12_658 rfl dX12_keep_65 rfl ?_
  replace h := bn_e h; obtain ⟨w5, ew5, h⟩ := h
  refine r_cVv (pc := 68) wyX12_copy oM0 rfl mlRX12_755 iyX12_copy syX12_copy ⟨(Nat.le_of_ble_eq_true rfl), (Nat.le_of_ble_eq_true rfl)⟩ rfl rfl (Nat.le_of_ble_eq_true rfl) dX12_keep_68 (mX12_copy aM49 aM63 ew5 (pV.mk ?_))
  refine r_aload_n (pc := 71) dX12_keep_71 rfl 0 rfl ?_
  refine r_aload_n (pc := 72) dX12_keep_72 rfl 0 rfl ?_
  refine r_get (pc := 73) (j := 71) (v := .ref 50) oM0 cf12 flRX12_230 rfl dX12_keep_73 rfl ?_
  refine r_aload_n (pc := 76) dX12_keep_76 rfl 0 rfl ?_
  refine r_get (pc := 77) (j := 92) (v := .ref 64) oM0 cf12 flRX12_272 rfl dX12_keep_77 rfl ?_
  refine r_aload_n (pc := 80) dX12_keep_80 rfl 0 rfl ?_
  refine r_get (pc := 81) (j := 73) (v := .int (gi w5 0 73)) oM0 cf12 flRX12_658 rfl dX12_keep_81 rfl ?_
  replace h := bn_e h; obtain ⟨w6, ew6, h⟩ := h
  refine r_cVv (pc := 84) wyX12_copy oM0 rfl mlRX12_755 iyX12_copy syX12_copy ⟨(Nat.le_of_ble_eq_true rfl), (Nat.le_of_ble_eq_true rfl)⟩ rfl rfl (Nat.le_of_ble_eq_true rfl) dX12_keep_84 (mX12_copy aM50 aM64 ew6 (pV.mk ?_))
  refine r_aload_n (pc := 87) dX12_keep_87 rfl 0 rfl ?_
  refine r_aload_n (pc := 88) dX12_keep_88 rfl 0 rfl ?_
  refine r_get (pc := 89) (j := 72) (v := .ref 51) oM0 cf12 flRX12_233 rfl dX12_keep_89 rfl ?_
  refine r_aload_n (pc := 92) dX12_keep_92 rfl 0 rfl ?_
  refine r_get (pc := 93) (j := 93) (v := .ref 65) oM0 cf12 flRX12_275 rfl dX12_keep_93 rfl ?_
  refine r_aload_n (pc := 96) dX12_keep_96 rfl 0 rfl ?_
  refine r_get (pc := 97) (j := 73) (v := .int (gi w6 0 73)) oM0 cf12 flRX12_658 rfl dX12_keep_97 rfl ?_
  replace h := bn_e h; obtain ⟨w7, ew7, h⟩ := h
  refine r_cVv (pc := 100) wyX12_copy oM0 rfl mlRX12_755 iyX12_copy syX12_copy ⟨(Nat.le_of_ble_eq_true rfl), (Nat.le_of_ble_eq_true rfl)⟩ rfl rfl (Nat.le_of_ble_eq_true rfl) dX12_keep_100 (mX12_copy aM51 aM65 ew7 (pV.mk ?_))
  refine r_aload_n (pc := 103) dX12_keep_103 rfl 0 rfl ?_
  refine r_aload_n (pc := 104) dX12_keep_104 rfl 0 rfl ?_
  refine r_get (pc := 105) (j := 74) (v := .ref 52) oM0 cf12 flRX12_236 rfl dX12_keep_105 rfl ?_
  refine r_aload_n (pc := 108) dX12_keep_108 rfl 0 rfl ?_
  refine r_get (pc := 109) (j := 94) (v := .ref 66) oM0 cf12 flRX12_278 rfl dX12_keep_109 rfl ?_
  refine r_aload_n (pc := 112) dX12_keep_112 rfl 0 rfl ?_
  refine r_get (pc := 113) (j := 77) (v := .int (gi w7 0 77)) oM0 cf12 flRX12_661 rfl dX12_keep_113 rfl ?_
  replace h := bn_e h; obtain ⟨w8, ew8, h⟩ := h
  refine r_cVv (pc := 116) wyX12_copy oM0 rfl mlRX12_755 iyX12_copy syX12_copy ⟨(Nat.le_of_ble_eq_true rfl), (Nat.le_of_ble_eq_true rfl)⟩ rfl rfl (Nat.le_of_ble_eq_true rfl) dX12_keep_116 (mX12_copy aM52 aM66 ew8 (pV.mk ?_))
  refine r_aload_n (pc := 119) dX12_keep_119 rfl 0 rfl ?_
  refine r_aload_n (pc := 120) dX12_keep_120 rfl 0 rfl ?_
  refine r_get (pc := 121) (j := 75) (v := .ref 53) oM0 cf12 flRX12_239 rfl dX12_keep_121 rfl ?_
  refine r_aload_n (pc := 124) dX12_keep_124 rfl 0 rfl ?_
  refine r_get (pc := 125) (j := 95) (v := .ref 67) oM0 cf12 flRX12_281 rfl dX12_keep_125 rfl ?_
  refine r_aload_n (pc := 128) dX12_keep_128 rfl 0 rfl ?_
  refine r_get (pc := 129) (j := 77) (v := .int (gi w8 0 77)) oM0 cf12 flRX12_661 rfl dX12_keep_129 rfl ?_
  replace h := bn_e h; obtain ⟨w9, ew9, h⟩ := h
  refine r_cVv (pc := 132) wyX12_copy oM0 rfl mlRX12_755 iyX12_copy syX12_copy ⟨(Nat.le_of_ble_eq_true rfl), (Nat.le_of_ble_eq_true rfl)⟩ rfl rfl (Nat.le_of_ble_eq_true rfl) dX12_keep_132 (mX12_copy aM53 aM67 ew9 (pV.mk ?_))
  refine r_aload_n (pc := 135) dX12_keep_135 rfl 0 rfl ?_
  refine r_aload_n (pc := 136) dX12_keep_136 rfl 0 rfl ?_
  refine r_get (pc := 137) (j := 76) (v := .ref 54) oM0 cf12 flRX12_242 rfl dX12_keep_137 rfl ?_
  refine r_aload_n (pc := 140) dX12_keep_140 rfl 0 rfl ?_
  refine r_get (pc := 141) (j := 96) (v := .ref 68) oM0 cf12 flRX12_284 rfl dX12_keep_141 rfl ?_
  refine r_aload_n (pc := 144) dX12_keep_144 rfl 0 rfl ?_
  refine r_get (pc := 145) (j := 77) (v := .int (gi w9 0 77)) oM0 cf12 flRX12_661 rfl dX12_keep_145 rfl ?_
  replace h := bn_e h; obtain ⟨w10, ew10, h⟩ := h
  refine r_cVv (pc := 148) wyX12_copy oM0 rfl mlRX12_755 iyX12_copy syX12_copy ⟨(Nat.le_of_ble_eq_true rfl), (Nat.le_of_ble_eq_true rfl)⟩ rfl rfl (Nat.le_of_ble_eq_true rfl) dX12_keep_148 (mX12_copy aM54 aM68 ew10 (pV.mk ?_))
  refine r_iconst (pc := 151) dX12_keep_151 ki_0 ?_
  refine r_istore_n (pc := 152) (loc' := [(1, .int 0), (0, .ref 0)]) dX12_keep_152 rfl (Nat.le_of_ble_eq_true rfl) rfl ?_
  refine r_drop (loc' := [(0, .ref 0), (1, .int 0)]) [1, 0] rfl ?_
  exact qX12_keep_153 hN FU 0 w10 h
theorem mX12_keep {q : Gq} {l : Launch} {N : Option Value → Wd → Prop} {X : String → Wd → Prop} {w : Wd} {u : Wd} (h : fX12_keep w = some u) (hN : N none u) : Ct (GM q) l 1 yX12_keep cX12_keep 4 (none) [.ref 0] w N X := Ct.of (by decide) (Nat.le_of_ble_eq_true rfl) (pX12_keep hN h)
/-! AlgolMillModel.fail (I)V: S, 0 -/
theorem dX12_fail_0 : decode cX12_fail 0 = .ok (.aload_n 0, 1) := by decide +kernel
theorem dX12_fail_1 : decode cX12_fail 1 = .ok (.getfield 762, 3) := by decide +kernel
theorem dX12_fail_4 : decode cX12_fail 4 = .ok (.ifCond .ne 8, 3) := by decide +kernel
theorem dX12_fail_7 : decode cX12_fail 7 = .ok (.aload_n 0, 1) := by decide +kernel
theorem dX12_fail_8 : decode cX12_fail 8 = .ok (.iload_n 1, 1) := by decide +kernel
theorem dX12_fail_9 : decode cX12_fail 9 = .ok (.putfield 762, 3) := by decide +kernel
theorem dX12_fail_12 : decode cX12_fail 12 = .ok (.return_, 1) := by decide +kernel
def fX12_fail (a1 : Int32) (w : Wd) : Wd :=
  if (gi w 0 140) = 0 then (lt (si w 0 140 a1) fun w2 => w2) else (w)
theorem pX12_fail {q : Gq} {l : Launch} {N : Option Value → Wd → Prop} {X : String → Wd → Prop} {w : Wd} {R : Wd} (hN : N none R) {a1 : Int32} (h : fX12_fail a1 w = R) : RT (GM q) l 0 yX12_fail cX12_fail 2 (none) N X 0 [] [(0, .ref 0), (1, .int a1)] w := by
  unfold fX12_fail at h
  refine r_aload_n (pc := 0) dX12_fail_0 rfl 0 rfl ?_
  refine r_get (pc := 1) (j := 140) (v := .int (gi w 0 140)) oM0 cf12 flRX12_762 rfl dX12_fail_1 rfl ?_
  refine r_if_ne (pc := 4) dX12_fail_4 rfl (fun hc1 => ?_) (fun hc1 => ?_)
  · replace h := if_f hc1 h
    exact rS_v (pc := 12) rfl dX12_fail_12 h hN
  replace h := if_t hc1 h
  refine r_aload_n (pc := 7) dX12_fail_7 rfl 0 rfl ?_
  refine r_iload_n (pc := 8) dX12_fail_8 rfl 1 rfl ?_
  replace h := lt_e h; obtain ⟨w2, ew2, h⟩ := h
  refine r_putI (pc := 9) (j := 140) oM0 cf12 flRX12_762 rfl rfl rfl rfl dX12_fail_9 ?_
  refine r_w ew2 ?_
  exact rS_v (pc := 12) rfl dX12_fail_12 h hN
theorem mX12_fail {q : Gq} {l : Launch} {N : Option Value → Wd → Prop} {X : String → Wd → Prop} {a1 : Int32} {w : Wd} {u : Wd} (h : fX12_fail a1 w = u) (hN : N none u) : Ct (GM q) l 0 yX12_fail cX12_fail 2 (none) [.ref 0, .int a1] w N X := Ct.of (by decide) (Nat.le_of_ble_eq_true rfl) (pX12_fail hN h)
/-! AlgolMillModel.pay ()Z: S, 0 -/
theorem dX12_pay_0 : decode cX12_pay 0 = .ok (.aload_n 0, 1) := by decide +kernel
theorem dX12_pay_1 : decode cX12_pay 1 = .ok (.getfield 765, 3) := by decide +kernel
theorem dX12_pay_4 : decode cX12_pay 4 = .ok (.aload_n 0, 1) := by decide +kernel
theorem dX12_pay_5 : decode cX12_pay 5 = .ok (.getfield 768, 3) := by decide +kernel
theorem dX12_pay_8 : decode cX12_pay 8 = .ok (.if_icmp .ne 11, 3) := by decide +kernel
theorem dX12_pay_11 : decode cX12_pay 11 = .ok (.aload_n 0, 1) := by decide +kernel
theorem dX12_pay_12 : decode cX12_pay 12 = .ok (.bipush 100, 2) := by decide +kernel
theorem dX12_pay_14 : decode cX12_pay 14 = .ok (.putfield 762, 3) := by decide +kernel
theorem dX12_pay_17 : decode cX12_pay 17 = .ok (.iconst 0, 1) := by decide +kernel
theorem dX12_pay_18 : decode cX12_pay 18 = .ok (.ireturn, 1) := by decide +kernel
theorem dX12_pay_19 : decode cX12_pay 19 = .ok (.aload_n 0, 1) := by decide +kernel
theorem dX12_pay_20 : decode cX12_pay 20 = .ok (.dup, 1) := by decide +kernel
theorem dX12_pay_21 : decode cX12_pay 21 = .ok (.getfield 765, 3) := by decide +kernel
theorem dX12_pay_24 : decode cX12_pay 24 = .ok (.iconst 1, 1) := by decide +kernel
theorem dX12_pay_25 : decode cX12_pay 25 = .ok (.iadd, 1) := by decide +kernel
theorem dX12_pay_26 : decode cX12_pay 26 = .ok (.putfield 765, 3) := by decide +kernel
theorem dX12_pay_29 : decode cX12_pay 29 = .ok (.iconst 1, 1) := by decide +kernel
theorem dX12_pay_30 : decode cX12_pay 30 = .ok (.ireturn, 1) := by decide +kernel
def fX12_pay (w : Wd) : Bool × Wd :=
  if (gi w 0 137) = (gi w 0 138) then (lt (si w 0 140 100) fun w2 => (false, w2)) else (lt (si w 0 137 ((gi w 0 137) + 1)) fun w3 => (true, w3))
theorem pX12_pay {q : Gq} {l : Launch} {N : Option Value → Wd → Prop} {X : String → Wd → Prop} {w : Wd} {R : Bool × Wd} (hN : N (some (.int (b2i R.1))) R.2) (h : fX12_pay w = R) : RT (GM q) l 0 yX12_pay cX12_pay 1 ((some .boolean)) N X 0 [] [(0, .ref 0)] w := by
  unfold fX12_pay at h
  refine r_aload_n (pc := 0) dX12_pay_0 rfl 0 rfl ?_
  refine r_get (pc := 1) (j := 137) (v := .int (gi w 0 137)) oM0 cf12 flRX12_765 rfl dX12_pay_1 rfl ?_
  refine r_aload_n (pc := 4) dX12_pay_4 rfl 0 rfl ?_
  refine r_get (pc := 5) (j := 138) (v := .int (gi w 0 138)) oM0 cf12 flRX12_768 rfl dX12_pay_5 rfl ?_
  refine r_icmp_ne (pc := 8) dX12_pay_8 rfl (fun hc1 => ?_) (fun hc1 => ?_)
  · replace h := if_f hc1 h
    refine r_aload_n (pc := 19) dX12_pay_19 rfl 0 rfl ?_
    refine r_dup (pc := 20) dX12_pay_20 rfl ?_
    refine r_get (pc := 21) (j := 137) (v := .int (gi w 0 137)) oM0 cf12 flRX12_765 rfl dX12_pay_21 rfl ?_
    refine r_iconst (pc := 24) dX12_pay_24 ki_1 ?_
    refine r_iadd (pc := 25) dX12_pay_25 ?_
    replace h := lt_e h; obtain ⟨w3, ew3, h⟩ := h
    refine r_putI (pc := 26) (j := 137) oM0 cf12 flRX12_765 rfl rfl rfl rfl dX12_pay_26 ?_
    refine r_w ew3 ?_
    refine r_iconst (pc := 29) dX12_pay_29 ki_1 ?_
    exact rS_z (pc := 30) (x := true) rfl dX12_pay_30 h hN
  replace h := if_t hc1 h
  refine r_aload_n (pc := 11) dX12_pay_11 rfl 0 rfl ?_
  refine r_bipush (pc := 12) dX12_pay_12 kb_100 ?_
  replace h := lt_e h; obtain ⟨w2, ew2, h⟩ := h
  refine r_putI (pc := 14) (j := 140) oM0 cf12 flRX12_762 rfl rfl rfl rfl dX12_pay_14 ?_
  refine r_w ew2 ?_
  refine r_iconst (pc := 17) dX12_pay_17 ki_0 ?_
  exact rS_z (pc := 18) (x := false) rfl dX12_pay_18 h hN
theorem mX12_pay {q : Gq} {l : Launch} {N : Option Value → Wd → Prop} {X : String → Wd → Prop} {w : Wd} {x : Bool} {u : Wd} (h : fX12_pay w = (x, u)) (hN : N (some (.int (b2i x))) u) : Ct (GM q) l 0 yX12_pay cX12_pay 1 ((some .boolean)) [.ref 0] w N X := Ct.of (by decide) (Nat.le_of_ble_eq_true rfl) (pX12_pay hN h)
/-! AlgolMillModel.envUp (I)I: O, 0 -/
theorem dX12_envUp_0 : decode cX12_envUp 0 = .ok (.aload_n 0, 1) := by decide +kernel
theorem dX12_envUp_1 : decode cX12_envUp 1 = .ok (.getfield 771, 3) := by decide +kernel
theorem dX12_envUp_4 : decode cX12_envUp 4 = .ok (.istore_n 2, 1) := by decide +kernel
theorem dX12_envUp_5 : decode cX12_envUp 5 = .ok (.iconst 0, 1) := by decide +kernel
theorem dX12_envUp_6 : decode cX12_envUp 6 = .ok (.istore_n 3, 1) := by decide +kernel
theorem dX12_envUp_7 : decode cX12_envUp 7 = .ok (.iload_n 3, 1) := by decide +kernel
theorem dX12_envUp_8 : decode cX12_envUp 8 = .ok (.iload_n 1, 1) := by decide +kernel
theorem dX12_envUp_9 : decode cX12_envUp 9 = .ok (.if_icmp .ge 16, 3) := by decide +kernel
theorem dX12_envUp_12 : decode cX12_envUp 12 = .ok (.aload_n 0, 1) := by decide +kernel
theorem dX12_envUp_13 : decode cX12_envUp 13 = .ok (.getfield 345, 3) := by decide +kernel
theorem dX12_envUp_16 : decode cX12_envUp 16 = .ok (.iload_n 2, 1) := by decide +kernel
theorem dX12_envUp_17 : decode cX12_envUp 17 = .ok (.iaload, 1) := by decide +kernel
theorem dX12_envUp_18 : decode cX12_envUp 18 = .ok (.istore_n 2, 1) := by decide +kernel
theorem dX12_envUp_19 : decode cX12_envUp 19 = .ok (.iinc 3 1, 3) := by decide +kernel
theorem dX12_envUp_22 : decode cX12_envUp 22 = .ok (.goto (-15), 3) := by decide +kernel
theorem dX12_envUp_25 : decode cX12_envUp 25 = .ok (.iload_n 2, 1) := by decide +kernel
theorem dX12_envUp_26 : decode cX12_envUp 26 = .ok (.ireturn, 1) := by decide +kernel
def fX12_envUp_7 (k_7 : Int32 → Int32 → Int32 → Wd → Option (Int32 × Wd)) (a1 : Int32) (a2 : Int32) (a3 : Int32) (w : Wd) : Option (Int32 × Wd) :=
  if a1 ≤ a3 then (some (a2, w)) else (if inb a2 64 = true then lt ((gi w 88 (Int32.toNatClampNeg a2))) fun x3 => lt (a3 + 1) fun x4 => k_7 a1 x3 x4 w else none)
theorem pX12_envUp_7 {q : Gq} {l : Launch} {N : Option Value → Wd → Prop} {X : String → Wd → Prop} {w : Wd} {R : Int32 × Wd} (hN : N (some (.int R.1)) R.2) {k_7 : Int32 → Int32 → Int32 → Wd → Option (Int32 × Wd)} (hk_7 : ∀ (a1 : Int32) (a2 : Int32) (a3 : Int32) (w : Wd), k_7 a1 a2 a3 w = some R → RT (GM q) l 0 yX12_envUp cX12_envUp 4 ((some .int)) N X 7 [] [(0, .ref 0), (1, .int a1), (2, .int a2), (3, .int a3)] w) {a1 : Int32} {a2 : Int32} {a3 : Int32} (h : fX12_envUp_7 k_7 a1 a2 a3 w = some R) : RT (GM q) l 0 yX12_envUp cX12_envUp 4 ((some .int)) N X 7 [] [(0, .ref 0), (1, .int a1), (2, .int a2), (3, .int a3)] w := by
  unfold fX12_envUp_7 at h
  refine r_iload_n (pc := 7) dX12_envUp_7 rfl 3 rfl ?_
  refine r_iload_n (pc := 8) dX12_envUp_8 rfl 1 rfl ?_
  refine r_icmp_ge (pc := 9) dX12_envUp_9 rfl (fun hc1 => ?_) (fun hc1 => ?_)
  · replace h := if_t hc1 h
    refine r_iload_n (pc := 25) dX12_envUp_25 rfl 2 rfl ?_
    exact rO_i (pc := 26) rfl dX12_envUp_26 h hN
  replace h := if_f hc1 h
  refine r_aload_n (pc := 12) dX12_envUp_12 rfl 0 rfl ?_
  refine r_get (pc := 13) (j := 117) (v := .ref 88) oM0 cf12 flRX12_345 rfl dX12_envUp_13 rfl ?_
  refine r_iload_n (pc := 16) dX12_envUp_16 rfl 2 rfl ?_
  replace h := if_n h; obtain ⟨hb2, h⟩ := h
  refine r_iald (pc := 17) aM88 (inb_in hb2) dX12_envUp_17 ?_
  replace h := lt_e h; obtain ⟨x3, ex3, h⟩ := h
  refine r_topi ex3 ?_
  refine r_istore_n (pc := 18) (loc' := [(2, .int x3), (0, .ref 0), (1, .int a1), (3, .int a3)]) dX12_envUp_18 rfl (Nat.le_of_ble_eq_true rfl) rfl ?_
  replace h := lt_e h; obtain ⟨x4, ex4, h⟩ := h
  refine r_inc (pc := 19) (loc' := [(3, .int x4), (2, .int x3), (0, .ref 0), (1, .int a1)]) dX12_envUp_19 ki_1 ex4 3 rfl (Nat.le_of_ble_eq_true rfl) rfl ?_
  refine r_goto (pc := 22) dX12_envUp_22 rfl ?_
  refine r_drop (loc' := [(0, .ref 0), (1, .int a1), (2, .int x3), (3, .int x4)]) [2, 3, 1, 0] rfl ?_
  exact hk_7 a1 x3 x4 w h
def oX12_envUp_7 : Nat → Int32 → Int32 → Int32 → Wd → Option (Int32 × Wd)
  | 0 => fun _ _ _ _ => none
  | n + 1 => fX12_envUp_7 (oX12_envUp_7 n)
theorem qX12_envUp_7 {q : Gq} {l : Launch} {N : Option Value → Wd → Prop} {X : String → Wd → Prop} {R : Int32 × Wd} (hN : N (some (.int R.1)) R.2) : ∀ (n : Nat) (a1 : Int32) (a2 : Int32) (a3 : Int32) (w : Wd), oX12_envUp_7 n a1 a2 a3 w = some R → RT (GM q) l 0 yX12_envUp cX12_envUp 4 ((some .int)) N X 7 [] [(0, .ref 0), (1, .int a1), (2, .int a2), (3, .int a3)] w := by
  intro n
  induction n with
  | zero =>
    intro a1 a2 a3 w h
    exact absurd h (fun q => nomatch q)
  | succ n ih =>
    intro a1 a2 a3 w h
    exact pX12_envUp_7 hN ih h
def fX12_envUp (a1 : Int32) (w : Wd) : Option (Int32 × Wd) :=
  lt ((gi w 0 129)) fun x1 => oX12_envUp_7 FU a1 x1 0 w
theorem pX12_envUp {q : Gq} {l : Launch} {N : Option Value → Wd → Prop} {X : String → Wd → Prop} {w : Wd} {R : Int32 × Wd} (hN : N (some (.int R.1)) R.2) {a1 : Int32} (h : fX12_envUp a1 w = some R) : RT (GM q) l 0 yX12_envUp cX12_envUp 4 ((some .int)) N X 0 [] [(0, .ref 0), (1, .int a1)] w := by
  unfold fX12_envUp at h
  refine r_aload_n (pc := 0) dX12_envUp_0 rfl 0 rfl ?_
  refine r_get (pc := 1) (j := 129) (v := .int (gi w 0 129)) oM0 cf12 flRX12_771 rfl dX12_envUp_1 rfl ?_
  replace h := lt_e h; obtain ⟨x1, ex1, h⟩ := h
  refine r_topi ex1 ?_
  refine r_istore_n (pc := 4) (loc' := [(2, .int x1), (0, .ref 0), (1, .int a1)]) dX12_envUp_4 rfl (Nat.le_of_ble_eq_true rfl) rfl ?_
  refine r_iconst (pc := 5) dX12_envUp_5 ki_0 ?_
  refine r_istore_n (pc := 6) (loc' := [(3, .int 0), (2, .int x1), (0, .ref 0), (1, .int a1)]) dX12_envUp_6 rfl (Nat.le_of_ble_eq_true rfl) rfl ?_
  refine r_drop (loc' := [(0, .ref 0), (1, .int a1), (2, .int x1), (3, .int 0)]) [2, 3, 1, 0] rfl ?_
  exact qX12_envUp_7 hN FU a1 x1 0 w h
theorem mX12_envUp {q : Gq} {l : Launch} {N : Option Value → Wd → Prop} {X : String → Wd → Prop} {a1 : Int32} {w : Wd} {x : Int32} {u : Wd} (h : fX12_envUp a1 w = some (x, u)) (hN : N (some (.int x)) u) : Ct (GM q) l 0 yX12_envUp cX12_envUp 4 ((some .int)) [.ref 0, .int a1] w N X := Ct.of (by decide) (Nat.le_of_ble_eq_true rfl) (pX12_envUp hN h)
/-! AlgolMillModel.address (II)I: O, 1 -/
theorem dX12_address_0 : decode cX12_address 0 = .ok (.iload_n 1, 1) := by decide +kernel
theorem dX12_address_1 : decode cX12_address 1 = .ok (.ifCond .ge 7, 3) := by decide +kernel
theorem dX12_address_4 : decode cX12_address 4 = .ok (.iload_n 2, 1) := by decide +kernel
theorem dX12_address_5 : decode cX12_address 5 = .ok (.goto 15, 3) := by decide +kernel
theorem dX12_address_8 : decode cX12_address 8 = .ok (.aload_n 0, 1) := by decide +kernel
theorem dX12_address_9 : decode cX12_address 9 = .ok (.getfield 342, 3) := by decide +kernel
theorem dX12_address_12 : decode cX12_address 12 = .ok (.aload_n 0, 1) := by decide +kernel
theorem dX12_address_13 : decode cX12_address 13 = .ok (.iload_n 1, 1) := by decide +kernel
theorem dX12_address_14 : decode cX12_address 14 = .ok (.invokevirtual 774, 3) := by decide +kernel
theorem dX12_address_17 : decode cX12_address 17 = .ok (.iaload, 1) := by decide +kernel
theorem dX12_address_18 : decode cX12_address 18 = .ok (.iload_n 2, 1) := by decide +kernel
theorem dX12_address_19 : decode cX12_address 19 = .ok (.iadd, 1) := by decide +kernel
theorem dX12_address_20 : decode cX12_address 20 = .ok (.ireturn, 1) := by decide +kernel
def fX12_address (a1 : Int32) (a2 : Int32) (w : Wd) : Option (Int32 × Wd) :=
  if 0 ≤ a1 then (bn2 (fX12_envUp a1 w) fun x2 w3 => if inb x2 64 = true then some (((gi w3 87 (Int32.toNatClampNeg x2)) + a2), w3) else none) else (some (a2, w))
theorem pX12_address {q : Gq} {l : Launch} {N : Option Value → Wd → Prop} {X : String → Wd → Prop} {w : Wd} {R : Int32 × Wd} (hN : N (some (.int R.1)) R.2) {a1 : Int32} {a2 : Int32} (h : fX12_address a1 a2 w = some R) : RT (GM q) l 1 yX12_address cX12_address 3 ((some .int)) N X 0 [] [(0, .ref 0), (1, .int a1), (2, .int a2)] w := by
  unfold fX12_address at h
  refine r_iload_n (pc := 0) dX12_address_0 rfl 1 rfl ?_
  refine r_if_ge (pc := 1) dX12_address_1 rfl (fun hc1 => ?_) (fun hc1 => ?_)
  · replace h := if_t hc1 h
    refine r_aload_n (pc := 8) dX12_address_8 rfl 0 rfl ?_
    refine r_get (pc := 9) (j := 116) (v := .ref 87) oM0 cf12 flRX12_342 rfl dX12_address_9 rfl ?_
    refine r_aload_n (pc := 12) dX12_address_12 rfl 0 rfl ?_
    refine r_iload_n (pc := 13) dX12_address_13 rfl 1 rfl ?_
    replace h := bn2_e h; obtain ⟨x2, w3, ew3, h⟩ := h
    refine r_cVi (pc := 14) wyX12_envUp oM0 rfl mlRX12_774 iyX12_envUp syX12_envUp ⟨(Nat.le_of_ble_eq_true rfl), (Nat.le_of_ble_eq_true rfl)⟩ rfl rfl (Nat.le_of_ble_eq_true rfl) dX12_address_14 (mX12_envUp ew3 (pI.mk ?_))
    replace h := if_n h; obtain ⟨hb4, h⟩ := h
    refine r_iald (pc := 17) aM87 (inb_in hb4) dX12_address_17 ?_
    refine r_iload_n (pc := 18) dX12_address_18 rfl 2 rfl ?_
    refine r_iadd (pc := 19) dX12_address_19 ?_
    exact rO_i (pc := 20) rfl dX12_address_20 h hN
  replace h := if_f hc1 h
  refine r_iload_n (pc := 4) dX12_address_4 rfl 2 rfl ?_
  refine r_goto (pc := 5) dX12_address_5 rfl ?_
  exact rO_i (pc := 20) rfl dX12_address_20 h hN
theorem mX12_address {q : Gq} {l : Launch} {N : Option Value → Wd → Prop} {X : String → Wd → Prop} {a1 : Int32} {a2 : Int32} {w : Wd} {x : Int32} {u : Wd} (h : fX12_address a1 a2 w = some (x, u)) (hN : N (some (.int x)) u) : Ct (GM q) l 1 yX12_address cX12_address 3 ((some .int)) [.ref 0, .int a1, .int a2] w N X := Ct.of (by decide) (Nat.le_of_ble_eq_true rfl) (pX12_address hN h)
/-! AlgolMillModel.read (J)J: O, 0 -/
theorem dX12_read__0 : decode cX12_read_ 0 = .ok (.lload_n 1, 1) := by decide +kernel
theorem dX12_read__1 : decode cX12_read_ 1 = .ok (.ldc2_w 777, 3) := by decide +kernel
theorem dX12_read__4 : decode cX12_read_ 4 = .ok (.lcmp, 1) := by decide +kernel
theorem dX12_read__5 : decode cX12_read_ 5 = .ok (.ifCond .lt 17, 3) := by decide +kernel
theorem dX12_read__8 : decode cX12_read_ 8 = .ok (.aload_n 0, 1) := by decide +kernel
theorem dX12_read__9 : decode cX12_read_ 9 = .ok (.getfield 333, 3) := by decide +kernel
theorem dX12_read__12 : decode cX12_read_ 12 = .ok (.lload_n 1, 1) := by decide +kernel
theorem dX12_read__13 : decode cX12_read_ 13 = .ok (.l2i, 1) := by decide +kernel
theorem dX12_read__14 : decode cX12_read_ 14 = .ok (.ldc_w 779, 3) := by decide +kernel
theorem dX12_read__17 : decode cX12_read_ 17 = .ok (.isub, 1) := by decide +kernel
theorem dX12_read__18 : decode cX12_read_ 18 = .ok (.laload, 1) := by decide +kernel
theorem dX12_read__19 : decode cX12_read_ 19 = .ok (.goto 10, 3) := by decide +kernel
theorem dX12_read__22 : decode cX12_read_ 22 = .ok (.aload_n 0, 1) := by decide +kernel
theorem dX12_read__23 : decode cX12_read_ 23 = .ok (.getfield 330, 3) := by decide +kernel
theorem dX12_read__26 : decode cX12_read_ 26 = .ok (.lload_n 1, 1) := by decide +kernel
theorem dX12_read__27 : decode cX12_read_ 27 = .ok (.l2i, 1) := by decide +kernel
theorem dX12_read__28 : decode cX12_read_ 28 = .ok (.laload, 1) := by decide +kernel
theorem dX12_read__29 : decode cX12_read_ 29 = .ok (.lreturn, 1) := by decide +kernel
def fX12_read_ (a1 : Int64) (w : Wd) : Option (Int64 × Wd) :=
  if a1 < 1048576 then (if inb (Int64.toInt32 a1) 200000 = true then some ((gl w 83 (Int32.toNatClampNeg (Int64.toInt32 a1))), w) else none) else (if inb ((Int64.toInt32 a1) - 1048576) 2000 = true then some ((gl w 84 (Int32.toNatClampNeg ((Int64.toInt32 a1) - 1048576))), w) else none)
theorem pX12_read_ {q : Gq} {l : Launch} {N : Option Value → Wd → Prop} {X : String → Wd → Prop} {w : Wd} {R : Int64 × Wd} (hN : N (some (.long R.1)) R.2) {a1 : Int64} (h : fX12_read_ a1 w = some R) : RT (GM q) l 0 yX12_read_ cX12_read_ 3 ((some .long)) N X 0 [] [(0, .ref 0), (1, .long a1)] w := by
  unfold fX12_read_ at h
  refine r_lload_n (pc := 0) dX12_read__0 rfl 1 rfl ?_
  refine r_ldc2 (pc := 1) dX12_read__1 kcRX12_777 ?_
  refine r_l_lt (pc := 4) dX12_read__4 dX12_read__5 rfl (fun hc1 => ?_) (fun hc1 => ?_)
  · replace h := if_t hc1 h
    refine r_aload_n (pc := 22) dX12_read__22 rfl 0 rfl ?_
    refine r_get (pc := 23) (j := 112) (v := .ref 83) oM0 cf12 flRX12_330 rfl dX12_read__23 rfl ?_
    refine r_lload_n (pc := 26) dX12_read__26 rfl 1 rfl ?_
    refine r_l2i (pc := 27) dX12_read__27 ?_
    replace h := if_n h; obtain ⟨hb2, h⟩ := h
    refine r_lald (pc := 28) aM83 (inb_in hb2) dX12_read__28 ?_
    exact rO_l (pc := 29) rfl dX12_read__29 h hN
  replace h := if_f hc1 h
  refine r_aload_n (pc := 8) dX12_read__8 rfl 0 rfl ?_
  refine r_get (pc := 9) (j := 113) (v := .ref 84) oM0 cf12 flRX12_333 rfl dX12_read__9 rfl ?_
  refine r_lload_n (pc := 12) dX12_read__12 rfl 1 rfl ?_
  refine r_l2i (pc := 13) dX12_read__13 ?_
  refine r_ldcw (pc := 14) dX12_read__14 kcRX12_779 ?_
  refine r_isub (pc := 17) dX12_read__17 ?_
  replace h := if_n h; obtain ⟨hb3, h⟩ := h
  refine r_lald (pc := 18) aM84 (inb_in hb3) dX12_read__18 ?_
  refine r_goto (pc := 19) dX12_read__19 rfl ?_
  exact rO_l (pc := 29) rfl dX12_read__29 h hN
theorem mX12_read_ {q : Gq} {l : Launch} {N : Option Value → Wd → Prop} {X : String → Wd → Prop} {a1 : Int64} {w : Wd} {x : Int64} {u : Wd} (h : fX12_read_ a1 w = some (x, u)) (hN : N (some (.long x)) u) : Ct (GM q) l 0 yX12_read_ cX12_read_ 3 ((some .long)) [.ref 0, .long a1] w N X := Ct.of (by decide) (Nat.le_of_ble_eq_true rfl) (pX12_read_ hN h)
/-! AlgolMillModel.write (JJ)V: O, 0 -/
theorem dX12_write_0 : decode cX12_write 0 = .ok (.lload_n 1, 1) := by decide +kernel
theorem dX12_write_1 : decode cX12_write 1 = .ok (.ldc2_w 777, 3) := by decide +kernel
theorem dX12_write_4 : decode cX12_write 4 = .ok (.lcmp, 1) := by decide +kernel
theorem dX12_write_5 : decode cX12_write 5 = .ok (.ifCond .lt 18, 3) := by decide +kernel
theorem dX12_write_8 : decode cX12_write 8 = .ok (.aload_n 0, 1) := by decide +kernel
theorem dX12_write_9 : decode cX12_write 9 = .ok (.getfield 333, 3) := by decide +kernel
theorem dX12_write_12 : decode cX12_write 12 = .ok (.lload_n 1, 1) := by decide +kernel
theorem dX12_write_13 : decode cX12_write 13 = .ok (.l2i, 1) := by decide +kernel
theorem dX12_write_14 : decode cX12_write 14 = .ok (.ldc_w 779, 3) := by decide +kernel
theorem dX12_write_17 : decode cX12_write 17 = .ok (.isub, 1) := by decide +kernel
theorem dX12_write_18 : decode cX12_write 18 = .ok (.lload_n 3, 1) := by decide +kernel
theorem dX12_write_19 : decode cX12_write 19 = .ok (.lastore, 1) := by decide +kernel
theorem dX12_write_20 : decode cX12_write 20 = .ok (.goto 11, 3) := by decide +kernel
theorem dX12_write_23 : decode cX12_write 23 = .ok (.aload_n 0, 1) := by decide +kernel
theorem dX12_write_24 : decode cX12_write 24 = .ok (.getfield 330, 3) := by decide +kernel
theorem dX12_write_27 : decode cX12_write 27 = .ok (.lload_n 1, 1) := by decide +kernel
theorem dX12_write_28 : decode cX12_write 28 = .ok (.l2i, 1) := by decide +kernel
theorem dX12_write_29 : decode cX12_write 29 = .ok (.lload_n 3, 1) := by decide +kernel
theorem dX12_write_30 : decode cX12_write 30 = .ok (.lastore, 1) := by decide +kernel
theorem dX12_write_31 : decode cX12_write 31 = .ok (.return_, 1) := by decide +kernel
def fX12_write (a1 : Int64) (a3 : Int64) (w : Wd) : Option Wd :=
  if a1 < 1048576 then (if inb (Int64.toInt32 a1) 200000 = true then lt (sl w 83 (Int32.toNatClampNeg (Int64.toInt32 a1)) a3) fun w3 => some w3 else none) else (if inb ((Int64.toInt32 a1) - 1048576) 2000 = true then lt (sl w 84 (Int32.toNatClampNeg ((Int64.toInt32 a1) - 1048576)) a3) fun w5 => some w5 else none)
theorem pX12_write {q : Gq} {l : Launch} {N : Option Value → Wd → Prop} {X : String → Wd → Prop} {w : Wd} {R : Wd} (hN : N none R) {a1 : Int64} {a3 : Int64} (h : fX12_write a1 a3 w = some R) : RT (GM q) l 0 yX12_write cX12_write 5 (none) N X 0 [] [(0, .ref 0), (1, .long a1), (3, .long a3)] w := by
  unfold fX12_write at h
  refine r_lload_n (pc := 0) dX12_write_0 rfl 1 rfl ?_
  refine r_ldc2 (pc := 1) dX12_write_1 kcRX12_777 ?_
  refine r_l_lt (pc := 4) dX12_write_4 dX12_write_5 rfl (fun hc1 => ?_) (fun hc1 => ?_)
  · replace h := if_t hc1 h
    refine r_aload_n (pc := 23) dX12_write_23 rfl 0 rfl ?_
    refine r_get (pc := 24) (j := 112) (v := .ref 83) oM0 cf12 flRX12_330 rfl dX12_write_24 rfl ?_
    refine r_lload_n (pc := 27) dX12_write_27 rfl 1 rfl ?_
    refine r_l2i (pc := 28) dX12_write_28 ?_
    refine r_lload_n (pc := 29) dX12_write_29 rfl 2 rfl ?_
    replace h := if_n h; obtain ⟨hb2, h⟩ := h
    replace h := lt_e h; obtain ⟨w3, ew3, h⟩ := h
    refine r_last (pc := 30) aM83 (inb_in hb2) dX12_write_30 ?_
    refine r_w ew3 ?_
    exact rO_v (pc := 31) rfl dX12_write_31 h hN
  replace h := if_f hc1 h
  refine r_aload_n (pc := 8) dX12_write_8 rfl 0 rfl ?_
  refine r_get (pc := 9) (j := 113) (v := .ref 84) oM0 cf12 flRX12_333 rfl dX12_write_9 rfl ?_
  refine r_lload_n (pc := 12) dX12_write_12 rfl 1 rfl ?_
  refine r_l2i (pc := 13) dX12_write_13 ?_
  refine r_ldcw (pc := 14) dX12_write_14 kcRX12_779 ?_
  refine r_isub (pc := 17) dX12_write_17 ?_
  refine r_lload_n (pc := 18) dX12_write_18 rfl 2 rfl ?_
  replace h := if_n h; obtain ⟨hb4, h⟩ := h
  replace h := lt_e h; obtain ⟨w5, ew5, h⟩ := h
  refine r_last (pc := 19) aM84 (inb_in hb4) dX12_write_19 ?_
  refine r_w ew5 ?_
  refine r_goto (pc := 20) dX12_write_20 rfl ?_
  exact rO_v (pc := 31) rfl dX12_write_31 h hN
theorem mX12_write {q : Gq} {l : Launch} {N : Option Value → Wd → Prop} {X : String → Wd → Prop} {a1 : Int64} {a3 : Int64} {w : Wd} {u : Wd} (h : fX12_write a1 a3 w = some u) (hN : N none u) : Ct (GM q) l 0 yX12_write cX12_write 5 (none) [.ref 0, .long a1, .long a3] w N X := Ct.of (by decide) (Nat.le_of_ble_eq_true rfl) (pX12_write hN h)
/-! AlgolMillModel.push (J)V: O, 0 -/
theorem dX12_push_0 : decode cX12_push 0 = .ok (.aload_n 0, 1) := by decide +kernel
theorem dX12_push_1 : decode cX12_push 1 = .ok (.getfield 336, 3) := by decide +kernel
theorem dX12_push_4 : decode cX12_push 4 = .ok (.aload_n 0, 1) := by decide +kernel
theorem dX12_push_5 : decode cX12_push 5 = .ok (.getfield 780, 3) := by decide +kernel
theorem dX12_push_8 : decode cX12_push 8 = .ok (.lload_n 1, 1) := by decide +kernel
theorem dX12_push_9 : decode cX12_push 9 = .ok (.lastore, 1) := by decide +kernel
theorem dX12_push_10 : decode cX12_push 10 = .ok (.aload_n 0, 1) := by decide +kernel
theorem dX12_push_11 : decode cX12_push 11 = .ok (.dup, 1) := by decide +kernel
theorem dX12_push_12 : decode cX12_push 12 = .ok (.getfield 780, 3) := by decide +kernel
theorem dX12_push_15 : decode cX12_push 15 = .ok (.iconst 1, 1) := by decide +kernel
theorem dX12_push_16 : decode cX12_push 16 = .ok (.iadd, 1) := by decide +kernel
theorem dX12_push_17 : decode cX12_push 17 = .ok (.putfield 780, 3) := by decide +kernel
theorem dX12_push_20 : decode cX12_push 20 = .ok (.return_, 1) := by decide +kernel
def fX12_push (a1 : Int64) (w : Wd) : Option Wd :=
  if inb (gi w 0 130) 200000 = true then lt (sl w 85 (Int32.toNatClampNeg (gi w 0 130)) a1) fun w2 => lt (si w2 0 130 ((gi w2 0 130) + 1)) fun w3 => some w3 else none
theorem pX12_push {q : Gq} {l : Launch} {N : Option Value → Wd → Prop} {X : String → Wd → Prop} {w : Wd} {R : Wd} (hN : N none R) {a1 : Int64} (h : fX12_push a1 w = some R) : RT (GM q) l 0 yX12_push cX12_push 3 (none) N X 0 [] [(0, .ref 0), (1, .long a1)] w := by
  unfold fX12_push at h
  refine r_aload_n (pc := 0) dX12_push_0 rfl 0 rfl ?_
  refine r_get (pc := 1) (j := 114) (v := .ref 85) oM0 cf12 flRX12_336 rfl dX12_push_1 rfl ?_
  refine r_aload_n (pc := 4) dX12_push_4 rfl 0 rfl ?_
  refine r_get (pc := 5) (j := 130) (v := .int (gi w 0 130)) oM0 cf12 flRX12_780 rfl dX12_push_5 rfl ?_
  refine r_lload_n (pc := 8) dX12_push_8 rfl 1 rfl ?_
  replace h := if_n h; obtain ⟨hb1, h⟩ := h
  replace h := lt_e h; obtain ⟨w2, ew2, h⟩ := h
  refine r_last (pc := 9) aM85 (inb_in hb1) dX12_push_9 ?_
  refine r_w ew2 ?_
  refine r_aload_n (pc := 10) dX12_push_10 rfl 0 rfl ?_
  refine r_dup (pc := 11) dX12_push_11 rfl ?_
  refine r_get (pc := 12) (j := 130) (v := .int (gi w2 0 130)) oM0 cf12 flRX12_780 rfl dX12_push_12 rfl ?_
  refine r_iconst (pc := 15) dX12_push_15 ki_1 ?_
  refine r_iadd (pc := 16) dX12_push_16 ?_
  replace h := lt_e h; obtain ⟨w3, ew3, h⟩ := h
  refine r_putI (pc := 17) (j := 130) oM0 cf12 flRX12_780 rfl rfl rfl rfl dX12_push_17 ?_
  refine r_w ew3 ?_
  exact rO_v (pc := 20) rfl dX12_push_20 h hN
theorem mX12_push {q : Gq} {l : Launch} {N : Option Value → Wd → Prop} {X : String → Wd → Prop} {a1 : Int64} {w : Wd} {u : Wd} (h : fX12_push a1 w = some u) (hN : N none u) : Ct (GM q) l 0 yX12_push cX12_push 3 (none) [.ref 0, .long a1] w N X := Ct.of (by decide) (Nat.le_of_ble_eq_true rfl) (pX12_push hN h)
/-! AlgolMillModel.pop ()J: O, 0 -/
theorem dX12_pop_0 : decode cX12_pop 0 = .ok (.aload_n 0, 1) := by decide +kernel
theorem dX12_pop_1 : decode cX12_pop 1 = .ok (.dup, 1) := by decide +kernel
theorem dX12_pop_2 : decode cX12_pop 2 = .ok (.getfield 780, 3) := by decide +kernel
theorem dX12_pop_5 : decode cX12_pop 5 = .ok (.iconst 1, 1) := by decide +kernel
theorem dX12_pop_6 : decode cX12_pop 6 = .ok (.isub, 1) := by decide +kernel
theorem dX12_pop_7 : decode cX12_pop 7 = .ok (.putfield 780, 3) := by decide +kernel
theorem dX12_pop_10 : decode cX12_pop 10 = .ok (.aload_n 0, 1) := by decide +kernel
theorem dX12_pop_11 : decode cX12_pop 11 = .ok (.getfield 336, 3) := by decide +kernel
theorem dX12_pop_14 : decode cX12_pop 14 = .ok (.aload_n 0, 1) := by decide +kernel
theorem dX12_pop_15 : decode cX12_pop 15 = .ok (.getfield 780, 3) := by decide +kernel
theorem dX12_pop_18 : decode cX12_pop 18 = .ok (.laload, 1) := by decide +kernel
theorem dX12_pop_19 : decode cX12_pop 19 = .ok (.lreturn, 1) := by decide +kernel
def fX12_pop (w : Wd) : Option (Int64 × Wd) :=
  lt (si w 0 130 ((gi w 0 130) - 1)) fun w1 => if inb (gi w1 0 130) 200000 = true then some ((gl w1 85 (Int32.toNatClampNeg (gi w1 0 130))), w1) else none
theorem pX12_pop {q : Gq} {l : Launch} {N : Option Value → Wd → Prop} {X : String → Wd → Prop} {w : Wd} {R : Int64 × Wd} (hN : N (some (.long R.1)) R.2) (h : fX12_pop w = some R) : RT (GM q) l 0 yX12_pop cX12_pop 1 ((some .long)) N X 0 [] [(0, .ref 0)] w := by
  unfold fX12_pop at h
  refine r_aload_n (pc := 0) dX12_pop_0 rfl 0 rfl ?_
  refine r_dup (pc := 1) dX12_pop_1 rfl ?_
  refine r_get (pc := 2) (j := 130) (v := .int (gi w 0 130)) oM0 cf12 flRX12_780 rfl dX12_pop_2 rfl ?_
  refine r_iconst (pc := 5) dX12_pop_5 ki_1 ?_
  refine r_isub (pc := 6) dX12_pop_6 ?_
  replace h := lt_e h; obtain ⟨w1, ew1, h⟩ := h
  refine r_putI (pc := 7) (j := 130) oM0 cf12 flRX12_780 rfl rfl rfl rfl dX12_pop_7 ?_
  refine r_w ew1 ?_
  refine r_aload_n (pc := 10) dX12_pop_10 rfl 0 rfl ?_
  refine r_get (pc := 11) (j := 114) (v := .ref 85) oM0 cf12 flRX12_336 rfl dX12_pop_11 rfl ?_
  refine r_aload_n (pc := 14) dX12_pop_14 rfl 0 rfl ?_
  refine r_get (pc := 15) (j := 130) (v := .int (gi w1 0 130)) oM0 cf12 flRX12_780 rfl dX12_pop_15 rfl ?_
  replace h := if_n h; obtain ⟨hb2, h⟩ := h
  refine r_lald (pc := 18) aM85 (inb_in hb2) dX12_pop_18 ?_
  exact rO_l (pc := 19) rfl dX12_pop_19 h hN
theorem mX12_pop {q : Gq} {l : Launch} {N : Option Value → Wd → Prop} {X : String → Wd → Prop} {w : Wd} {x : Int64} {u : Wd} (h : fX12_pop w = some (x, u)) (hN : N (some (.long x)) u) : Ct (GM q) l 0 yX12_pop cX12_pop 1 ((some .long)) [.ref 0] w N X := Ct.of (by decide) (Nat.le_of_ble_eq_true rfl) (pX12_pop hN h)
/-! AlgolMillModel.wrap (J)J: P, 0 -/
theorem dX12_wrap_0 : decode cX12_wrap 0 = .ok (.lload_n 0, 1) := by decide +kernel
theorem dX12_wrap_1 : decode cX12_wrap 1 = .ok (.bipush 28, 2) := by decide +kernel
theorem dX12_wrap_3 : decode cX12_wrap 3 = .ok (.lshl, 1) := by decide +kernel
theorem dX12_wrap_4 : decode cX12_wrap 4 = .ok (.bipush 28, 2) := by decide +kernel
theorem dX12_wrap_6 : decode cX12_wrap 6 = .ok (.lshr, 1) := by decide +kernel
theorem dX12_wrap_7 : decode cX12_wrap 7 = .ok (.lreturn, 1) := by decide +kernel
def fX12_wrap (a0 : Int64) (w : Wd) : Int64 :=
  ((a0 <<< (Int32.toInt64 28 &&& 63)) >>> (Int32.toInt64 28 &&& 63))
theorem pX12_wrap {q : Gq} {l : Launch} {N : Option Value → Wd → Prop} {X : String → Wd → Prop} {w : Wd} {R : Int64} (hN : N (some (.long R)) w) {a0 : Int64} (h : fX12_wrap a0 w = R) : RT (GM q) l 0 yX12_wrap cX12_wrap 2 ((some .long)) N X 0 [] [(0, .long a0)] w := by
  unfold fX12_wrap at h
  refine r_lload_n (pc := 0) dX12_wrap_0 rfl 0 rfl ?_
  refine r_bipush (pc := 1) dX12_wrap_1 kb_28 ?_
  refine r_lshl (pc := 3) dX12_wrap_3 ?_
  refine r_bipush (pc := 4) dX12_wrap_4 kb_28 ?_
  refine r_lshr (pc := 6) dX12_wrap_6 ?_
  exact rP_l (pc := 7) rfl dX12_wrap_7 h hN
theorem mX12_wrap {q : Gq} {l : Launch} {N : Option Value → Wd → Prop} {X : String → Wd → Prop} {a0 : Int64} {w : Wd} {x : Int64} (h : fX12_wrap a0 w = x) (hN : N (some (.long x)) w) : Ct (GM q) l 0 yX12_wrap cX12_wrap 2 ((some .long)) [.long a0] w N X := Ct.of (by decide) (Nat.le_of_ble_eq_true rfl) (pX12_wrap hN h)
/-! AlgolMillModel.control (III)V: O, 0 -/
theorem dX12_control_0 : decode cX12_control 0 = .ok (.aload_n 0, 1) := by decide +kernel
theorem dX12_control_1 : decode cX12_control 1 = .ok (.getfield 357, 3) := by decide +kernel
theorem dX12_control_4 : decode cX12_control 4 = .ok (.aload_n 0, 1) := by decide +kernel
theorem dX12_control_5 : decode cX12_control 5 = .ok (.getfield 783, 3) := by decide +kernel
theorem dX12_control_8 : decode cX12_control 8 = .ok (.iload_n 1, 1) := by decide +kernel
theorem dX12_control_9 : decode cX12_control 9 = .ok (.iastore, 1) := by decide +kernel
theorem dX12_control_10 : decode cX12_control 10 = .ok (.aload_n 0, 1) := by decide +kernel
theorem dX12_control_11 : decode cX12_control 11 = .ok (.getfield 360, 3) := by decide +kernel
theorem dX12_control_14 : decode cX12_control 14 = .ok (.aload_n 0, 1) := by decide +kernel
theorem dX12_control_15 : decode cX12_control 15 = .ok (.getfield 783, 3) := by decide +kernel
theorem dX12_control_18 : decode cX12_control 18 = .ok (.aload_n 0, 1) := by decide +kernel
theorem dX12_control_19 : decode cX12_control 19 = .ok (.getfield 786, 3) := by decide +kernel
theorem dX12_control_22 : decode cX12_control 22 = .ok (.iastore, 1) := by decide +kernel
theorem dX12_control_23 : decode cX12_control 23 = .ok (.aload_n 0, 1) := by decide +kernel
theorem dX12_control_24 : decode cX12_control 24 = .ok (.getfield 363, 3) := by decide +kernel
theorem dX12_control_27 : decode cX12_control 27 = .ok (.aload_n 0, 1) := by decide +kernel
theorem dX12_control_28 : decode cX12_control 28 = .ok (.getfield 783, 3) := by decide +kernel
theorem dX12_control_31 : decode cX12_control 31 = .ok (.aload_n 0, 1) := by decide +kernel
theorem dX12_control_32 : decode cX12_control 32 = .ok (.getfield 771, 3) := by decide +kernel
theorem dX12_control_35 : decode cX12_control 35 = .ok (.iastore, 1) := by decide +kernel
theorem dX12_control_36 : decode cX12_control 36 = .ok (.aload_n 0, 1) := by decide +kernel
theorem dX12_control_37 : decode cX12_control 37 = .ok (.getfield 366, 3) := by decide +kernel
theorem dX12_control_40 : decode cX12_control 40 = .ok (.aload_n 0, 1) := by decide +kernel
theorem dX12_control_41 : decode cX12_control 41 = .ok (.getfield 783, 3) := by decide +kernel
theorem dX12_control_44 : decode cX12_control 44 = .ok (.iload_n 2, 1) := by decide +kernel
theorem dX12_control_45 : decode cX12_control 45 = .ok (.iastore, 1) := by decide +kernel
theorem dX12_control_46 : decode cX12_control 46 = .ok (.aload_n 0, 1) := by decide +kernel
theorem dX12_control_47 : decode cX12_control 47 = .ok (.getfield 372, 3) := by decide +kernel
theorem dX12_control_50 : decode cX12_control 50 = .ok (.aload_n 0, 1) := by decide +kernel
theorem dX12_control_51 : decode cX12_control 51 = .ok (.getfield 783, 3) := by decide +kernel
theorem dX12_control_54 : decode cX12_control 54 = .ok (.iload_n 3, 1) := by decide +kernel
theorem dX12_control_55 : decode cX12_control 55 = .ok (.iastore, 1) := by decide +kernel
theorem dX12_control_56 : decode cX12_control 56 = .ok (.aload_n 0, 1) := by decide +kernel
theorem dX12_control_57 : decode cX12_control 57 = .ok (.getfield 369, 3) := by decide +kernel
theorem dX12_control_60 : decode cX12_control 60 = .ok (.aload_n 0, 1) := by decide +kernel
theorem dX12_control_61 : decode cX12_control 61 = .ok (.getfield 783, 3) := by decide +kernel
theorem dX12_control_64 : decode cX12_control 64 = .ok (.aload_n 0, 1) := by decide +kernel
theorem dX12_control_65 : decode cX12_control 65 = .ok (.getfield 789, 3) := by decide +kernel
theorem dX12_control_68 : decode cX12_control 68 = .ok (.iastore, 1) := by decide +kernel
theorem dX12_control_69 : decode cX12_control 69 = .ok (.aload_n 0, 1) := by decide +kernel
theorem dX12_control_70 : decode cX12_control 70 = .ok (.dup, 1) := by decide +kernel
theorem dX12_control_71 : decode cX12_control 71 = .ok (.getfield 783, 3) := by decide +kernel
theorem dX12_control_74 : decode cX12_control 74 = .ok (.iconst 1, 1) := by decide +kernel
theorem dX12_control_75 : decode cX12_control 75 = .ok (.iadd, 1) := by decide +kernel
theorem dX12_control_76 : decode cX12_control 76 = .ok (.putfield 783, 3) := by decide +kernel
theorem dX12_control_79 : decode cX12_control 79 = .ok (.return_, 1) := by decide +kernel
def fX12_control (a1 : Int32) (a2 : Int32) (a3 : Int32) (w : Wd) : Option Wd :=
  if inb (gi w 0 127) 1000 = true then lt (si w 92 (Int32.toNatClampNeg (gi w 0 127)) a1) fun w2 => if inb (gi w2 0 127) 1000 = true then lt (si w2 93 (Int32.toNatClampNeg (gi w2 0 127)) (gi w2 0 128)) fun w4 => if inb (gi w4 0 127) 1000 = true then lt (si w4 94 (Int32.toNatClampNeg (gi w4 0 127)) (gi w4 0 129)) fun w6 => if inb (gi w6 0 127) 1000 = true then lt (si w6 95 (Int32.toNatClampNeg (gi w6 0 127)) a2) fun w8 => if inb (gi w8 0 127) 1000 = true then lt (si w8 97 (Int32.toNatClampNeg (gi w8 0 127)) a3) fun w10 => if inb (gi w10 0 127) 1000 = true then lt (si w10 96 (Int32.toNatClampNeg (gi w10 0 127)) (gi w10 0 134)) fun w12 => lt (si w12 0 127 ((gi w12 0 127) + 1)) fun w13 => some w13 else none else none else none else none else none else none
theorem pX12_control {q : Gq} {l : Launch} {N : Option Value → Wd → Prop} {X : String → Wd → Prop} {w : Wd} {R : Wd} (hN : N none R) {a1 : Int32} {a2 : Int32} {a3 : Int32} (h : fX12_control a1 a2 a3 w = some R) : RT (GM q) l 0 yX12_control cX12_control 4 (none) N X 0 [] [(0, .ref 0), (1, .int a1), (2, .int a2), (3, .int a3)] w := by
  unfold fX12_control at h
  refine r_aload_n (pc := 0) dX12_control_0 rfl 0 rfl ?_
  refine r_get (pc := 1) (j := 121) (v := .ref 92) oM0 cf12 flRX12_357 rfl dX12_control_1 rfl ?_
  refine r_aload_n (pc := 4) dX12_control_4 rfl 0 rfl ?_
  refine r_get (pc := 5) (j := 127) (v := .int (gi w 0 127)) oM0 cf12 flRX12_783 rfl dX12_control_5 rfl ?_
  refine r_iload_n (pc := 8) dX12_control_8 rfl 1 rfl ?_
  replace h := if_n h; obtain ⟨hb1, h⟩ := h
  replace h := lt_e h; obtain ⟨w2, ew2, h⟩ := h
  refine r_iast (pc := 9) aM92 (inb_in hb1) dX12_control_9 ?_
  refine r_w ew2 ?_
  refine r_aload_n (pc := 10) dX12_control_10 rfl 0 rfl ?_
  refine r_get (pc := 11) (j := 122) (v := .ref 93) oM0 cf12 flRX12_360 rfl dX12_control_11 rfl ?_
  refine r_aload_n (pc := 14) dX12_control_14 rfl 0 rfl ?_
  refine r_get (pc := 15) (j := 127) (v := .int (gi w2 0 127)) oM0 cf12 flRX12_783 rfl dX12_control_15 rfl ?_
  refine r_aload_n (pc := 18) dX12_control_18 rfl 0 rfl ?_
  refine r_get (pc := 19) (j := 128) (v := .int (gi w2 0 128)) oM0 cf12 flRX12_786 rfl dX12_control_19 rfl ?_
  replace h := if_n h; obtain ⟨hb3, h⟩ := h
  replace h := lt_e h; obtain ⟨w4, ew4, h⟩ := h
  refine r_iast (pc := 22) aM93 (inb_in hb3) dX12_control_22 ?_
  refine r_w ew4 ?_
  refine r_aload_n (pc := 23) dX12_control_23 rfl 0 rfl ?_
  refine r_get (pc := 24) (j := 123) (v := .ref 94) oM0 cf12 flRX12_363 rfl dX12_control_24 rfl ?_
  refine r_aload_n (pc := 27) dX12_control_27 rfl 0 rfl ?_
  refine r_get (pc := 28) (j := 127) (v := .int (gi w4 0 127)) oM0 cf12 flRX12_783 rfl dX12_control_28 rfl ?_
  refine r_aload_n (pc := 31) dX12_control_31 rfl 0 rfl ?_
  refine r_get (pc := 32) (j := 129) (v := .int (gi w4 0 129)) oM0 cf12 flRX12_771 rfl dX12_control_32 rfl ?_
  replace h := if_n h; obtain ⟨hb5, h⟩ := h
  replace h := lt_e h; obtain ⟨w6, ew6, h⟩ := h
  refine r_iast (pc := 35) aM94 (inb_in hb5) dX12_control_35 ?_
  refine r_w ew6 ?_
  refine r_aload_n (pc := 36) dX12_control_36 rfl 0 rfl ?_
  refine r_get (pc := 37) (j := 124) (v := .ref 95) oM0 cf12 flRX12_366 rfl dX12_control_37 rfl ?_
  refine r_aload_n (pc := 40) dX12_control_40 rfl 0 rfl ?_
  refine r_get (pc := 41) (j := 127) (v := .int (gi w6 0 127)) oM0 cf12 flRX12_783 rfl dX12_control_41 rfl ?_
  refine r_iload_n (pc := 44) dX12_control_44 rfl 2 rfl ?_
  replace h := if_n h; obtain ⟨hb7, h⟩ := h
  replace h := lt_e h; obtain ⟨w8, ew8, h⟩ := h
  refine r_iast (pc := 45) aM95 (inb_in hb7) dX12_control_45 ?_
  refine r_w ew8 ?_
  refine r_aload_n (pc := 46) dX12_control_46 rfl 0 rfl ?_
  refine r_get (pc := 47) (j := 126) (v := .ref 97) oM0 cf12 flRX12_372 rfl dX12_control_47 rfl ?_
  refine r_aload_n (pc := 50) dX12_control_50 rfl 0 rfl ?_
  refine r_get (pc := 51) (j := 127) (v := .int (gi w8 0 127)) oM0 cf12 flRX12_783 rfl dX12_control_51 rfl ?_
  refine r_iload_n (pc := 54) dX12_control_54 rfl 3 rfl ?_
  replace h := if_n h; obtain ⟨hb9, h⟩ := h
  replace h := lt_e h; obtain ⟨w10, ew10, h⟩ := h
  refine r_iast (pc := 55) aM97 (inb_in hb9) dX12_control_55 ?_
  refine r_w ew10 ?_
  refine r_aload_n (pc := 56) dX12_control_56 rfl 0 rfl ?_
  refine r_get (pc := 57) (j := 125) (v := .ref 96) oM0 cf12 flRX12_369 rfl dX12_control_57 rfl ?_
  refine r_aload_n (pc := 60) dX12_control_60 rfl 0 rfl ?_
  refine r_get (pc := 61) (j := 127) (v := .int (gi w10 0 127)) oM0 cf12 flRX12_783 rfl dX12_control_61 rfl ?_
  refine r_aload_n (pc := 64) dX12_control_64 rfl 0 rfl ?_
  refine r_get (pc := 65) (j := 134) (v := .int (gi w10 0 134)) oM0 cf12 flRX12_789 rfl dX12_control_65 rfl ?_
  replace h := if_n h; obtain ⟨hb11, h⟩ := h
  replace h := lt_e h; obtain ⟨w12, ew12, h⟩ := h
  refine r_iast (pc := 68) aM96 (inb_in hb11) dX12_control_68 ?_
  refine r_w ew12 ?_
  refine r_aload_n (pc := 69) dX12_control_69 rfl 0 rfl ?_
  refine r_dup (pc := 70) dX12_control_70 rfl ?_
  refine r_get (pc := 71) (j := 127) (v := .int (gi w12 0 127)) oM0 cf12 flRX12_783 rfl dX12_control_71 rfl ?_
  refine r_iconst (pc := 74) dX12_control_74 ki_1 ?_
  refine r_iadd (pc := 75) dX12_control_75 ?_
  replace h := lt_e h; obtain ⟨w13, ew13, h⟩ := h
  refine r_putI (pc := 76) (j := 127) oM0 cf12 flRX12_783 rfl rfl rfl rfl dX12_control_76 ?_
  refine r_w ew13 ?_
  exact rO_v (pc := 79) rfl dX12_control_79 h hN
theorem mX12_control {q : Gq} {l : Launch} {N : Option Value → Wd → Prop} {X : String → Wd → Prop} {a1 : Int32} {a2 : Int32} {a3 : Int32} {w : Wd} {u : Wd} (h : fX12_control a1 a2 a3 w = some u) (hN : N none u) : Ct (GM q) l 0 yX12_control cX12_control 4 (none) [.ref 0, .int a1, .int a2, .int a3] w N X := Ct.of (by decide) (Nat.le_of_ble_eq_true rfl) (pX12_control hN h)
/-! AlgolMillModel.deeper ()Z: S, 1 -/
theorem dX12_deeper_0 : decode cX12_deeper 0 = .ok (.aload_n 0, 1) := by decide +kernel
theorem dX12_deeper_1 : decode cX12_deeper 1 = .ok (.getfield 789, 3) := by decide +kernel
theorem dX12_deeper_4 : decode cX12_deeper 4 = .ok (.bipush 60, 2) := by decide +kernel
theorem dX12_deeper_6 : decode cX12_deeper 6 = .ok (.if_icmp .ne 11, 3) := by decide +kernel
theorem dX12_deeper_9 : decode cX12_deeper 9 = .ok (.aload_n 0, 1) := by decide +kernel
theorem dX12_deeper_10 : decode cX12_deeper 10 = .ok (.bipush 6, 2) := by decide +kernel
theorem dX12_deeper_12 : decode cX12_deeper 12 = .ok (.invokevirtual 792, 3) := by decide +kernel
theorem dX12_deeper_15 : decode cX12_deeper 15 = .ok (.iconst 0, 1) := by decide +kernel
theorem dX12_deeper_16 : decode cX12_deeper 16 = .ok (.ireturn, 1) := by decide +kernel
theorem dX12_deeper_17 : decode cX12_deeper 17 = .ok (.iconst 1, 1) := by decide +kernel
theorem dX12_deeper_18 : decode cX12_deeper 18 = .ok (.ireturn, 1) := by decide +kernel
def fX12_deeper (w : Wd) : Bool × Wd :=
  if (gi w 0 134) = 60 then (lt (fX12_fail 6 w) fun w2 => (false, w2)) else ((true, w))
theorem pX12_deeper {q : Gq} {l : Launch} {N : Option Value → Wd → Prop} {X : String → Wd → Prop} {w : Wd} {R : Bool × Wd} (hN : N (some (.int (b2i R.1))) R.2) (h : fX12_deeper w = R) : RT (GM q) l 1 yX12_deeper cX12_deeper 1 ((some .boolean)) N X 0 [] [(0, .ref 0)] w := by
  unfold fX12_deeper at h
  refine r_aload_n (pc := 0) dX12_deeper_0 rfl 0 rfl ?_
  refine r_get (pc := 1) (j := 134) (v := .int (gi w 0 134)) oM0 cf12 flRX12_789 rfl dX12_deeper_1 rfl ?_
  refine r_bipush (pc := 4) dX12_deeper_4 kb_60 ?_
  refine r_icmp_ne (pc := 6) dX12_deeper_6 rfl (fun hc1 => ?_) (fun hc1 => ?_)
  · replace h := if_f hc1 h
    refine r_iconst (pc := 17) dX12_deeper_17 ki_1 ?_
    exact rS_z (pc := 18) (x := true) rfl dX12_deeper_18 h hN
  replace h := if_t hc1 h
  refine r_aload_n (pc := 9) dX12_deeper_9 rfl 0 rfl ?_
  refine r_bipush (pc := 10) dX12_deeper_10 kb_6 ?_
  replace h := lt_e h; obtain ⟨w2, ew2, h⟩ := h
  refine r_cVv (pc := 12) wyX12_fail oM0 rfl mlRX12_792 iyX12_fail syX12_fail ⟨(Nat.le_of_ble_eq_true rfl), (Nat.le_of_ble_eq_true rfl)⟩ rfl rfl (Nat.le_of_ble_eq_true rfl) dX12_deeper_12 (mX12_fail ew2 (pV.mk ?_))
  refine r_iconst (pc := 15) dX12_deeper_15 ki_0 ?_
  exact rS_z (pc := 16) (x := false) rfl dX12_deeper_16 h hN
theorem mX12_deeper {q : Gq} {l : Launch} {N : Option Value → Wd → Prop} {X : String → Wd → Prop} {w : Wd} {x : Bool} {u : Wd} (h : fX12_deeper w = (x, u)) (hN : N (some (.int (b2i x))) u) : Ct (GM q) l 1 yX12_deeper cX12_deeper 1 ((some .boolean)) [.ref 0] w N X := Ct.of (by decide) (Nat.le_of_ble_eq_true rfl) (pX12_deeper hN h)
/-! AlgolMillModel.use (II)V: O, 2 -/
theorem dX12_use_0 : decode cX12_use 0 = .ok (.aload_n 0, 1) := by decide +kernel
theorem dX12_use_1 : decode cX12_use 1 = .ok (.invokevirtual 795, 3) := by decide +kernel
theorem dX12_use_4 : decode cX12_use 4 = .ok (.ifCond .eq 10, 3) := by decide +kernel
theorem dX12_use_7 : decode cX12_use 7 = .ok (.aload_n 0, 1) := by decide +kernel
theorem dX12_use_8 : decode cX12_use 8 = .ok (.invokevirtual 798, 3) := by decide +kernel
theorem dX12_use_11 : decode cX12_use 11 = .ok (.ifCond .ne 4, 3) := by decide +kernel
theorem dX12_use_14 : decode cX12_use 14 = .ok (.return_, 1) := by decide +kernel
theorem dX12_use_15 : decode cX12_use 15 = .ok (.aload_n 0, 1) := by decide +kernel
theorem dX12_use_16 : decode cX12_use 16 = .ok (.getfield 330, 3) := by decide +kernel
theorem dX12_use_19 : decode cX12_use 19 = .ok (.iload_n 1, 1) := by decide +kernel
theorem dX12_use_20 : decode cX12_use 20 = .ok (.laload, 1) := by decide +kernel
theorem dX12_use_21 : decode cX12_use 21 = .ok (.l2i, 1) := by decide +kernel
theorem dX12_use_22 : decode cX12_use 22 = .ok (.istore_n 3, 1) := by decide +kernel
theorem dX12_use_23 : decode cX12_use 23 = .ok (.iload_n 2, 1) := by decide +kernel
theorem dX12_use_24 : decode cX12_use 24 = .ok (.iconst 1, 1) := by decide +kernel
theorem dX12_use_25 : decode cX12_use 25 = .ok (.if_icmp .ne 35, 3) := by decide +kernel
theorem dX12_use_28 : decode cX12_use 28 = .ok (.aload_n 0, 1) := by decide +kernel
theorem dX12_use_29 : decode cX12_use 29 = .ok (.getfield 266, 3) := by decide +kernel
theorem dX12_use_32 : decode cX12_use 32 = .ok (.iload_n 3, 1) := by decide +kernel
theorem dX12_use_33 : decode cX12_use 33 = .ok (.iaload, 1) := by decide +kernel
theorem dX12_use_34 : decode cX12_use 34 = .ok (.ifCond .ne 26, 3) := by decide +kernel
theorem dX12_use_37 : decode cX12_use 37 = .ok (.aload_n 0, 1) := by decide +kernel
theorem dX12_use_38 : decode cX12_use 38 = .ok (.aload_n 0, 1) := by decide +kernel
theorem dX12_use_39 : decode cX12_use 39 = .ok (.getfield 801, 3) := by decide +kernel
theorem dX12_use_42 : decode cX12_use 42 = .ok (.aload_n 0, 1) := by decide +kernel
theorem dX12_use_43 : decode cX12_use 43 = .ok (.getfield 789, 3) := by decide +kernel
theorem dX12_use_46 : decode cX12_use 46 = .ok (.iconst 1, 1) := by decide +kernel
theorem dX12_use_47 : decode cX12_use 47 = .ok (.iadd, 1) := by decide +kernel
theorem dX12_use_48 : decode cX12_use 48 = .ok (.invokestatic 804, 3) := by decide +kernel
theorem dX12_use_51 : decode cX12_use 51 = .ok (.putfield 801, 3) := by decide +kernel
theorem dX12_use_54 : decode cX12_use 54 = .ok (.aload_n 0, 1) := by decide +kernel
theorem dX12_use_55 : decode cX12_use 55 = .ok (.iconst 4, 1) := by decide +kernel
theorem dX12_use_56 : decode cX12_use 56 = .ok (.invokevirtual 792, 3) := by decide +kernel
theorem dX12_use_59 : decode cX12_use 59 = .ok (.return_, 1) := by decide +kernel
theorem dX12_use_60 : decode cX12_use 60 = .ok (.aload_n 0, 1) := by decide +kernel
theorem dX12_use_61 : decode cX12_use 61 = .ok (.iconst 1, 1) := by decide +kernel
theorem dX12_use_62 : decode cX12_use 62 = .ok (.iload_n 2, 1) := by decide +kernel
theorem dX12_use_63 : decode cX12_use 63 = .ok (.iconst (-1), 1) := by decide +kernel
theorem dX12_use_64 : decode cX12_use 64 = .ok (.invokevirtual 807, 3) := by decide +kernel
theorem dX12_use_67 : decode cX12_use 67 = .ok (.aload_n 0, 1) := by decide +kernel
theorem dX12_use_68 : decode cX12_use 68 = .ok (.dup, 1) := by decide +kernel
theorem dX12_use_69 : decode cX12_use 69 = .ok (.getfield 789, 3) := by decide +kernel
theorem dX12_use_72 : decode cX12_use 72 = .ok (.iconst 1, 1) := by decide +kernel
theorem dX12_use_73 : decode cX12_use 73 = .ok (.iadd, 1) := by decide +kernel
theorem dX12_use_74 : decode cX12_use 74 = .ok (.putfield 789, 3) := by decide +kernel
theorem dX12_use_77 : decode cX12_use 77 = .ok (.aload_n 0, 1) := by decide +kernel
theorem dX12_use_78 : decode cX12_use 78 = .ok (.aload_n 0, 1) := by decide +kernel
theorem dX12_use_79 : decode cX12_use 79 = .ok (.getfield 801, 3) := by decide +kernel
theorem dX12_use_82 : decode cX12_use 82 = .ok (.aload_n 0, 1) := by decide +kernel
theorem dX12_use_83 : decode cX12_use 83 = .ok (.getfield 789, 3) := by decide +kernel
theorem dX12_use_86 : decode cX12_use 86 = .ok (.invokestatic 804, 3) := by decide +kernel
theorem dX12_use_89 : decode cX12_use 89 = .ok (.putfield 801, 3) := by decide +kernel
theorem dX12_use_92 : decode cX12_use 92 = .ok (.aload_n 0, 1) := by decide +kernel
theorem dX12_use_93 : decode cX12_use 93 = .ok (.aload_n 0, 1) := by decide +kernel
theorem dX12_use_94 : decode cX12_use 94 = .ok (.getfield 330, 3) := by decide +kernel
theorem dX12_use_97 : decode cX12_use 97 = .ok (.iload_n 1, 1) := by decide +kernel
theorem dX12_use_98 : decode cX12_use 98 = .ok (.iconst 1, 1) := by decide +kernel
theorem dX12_use_99 : decode cX12_use 99 = .ok (.iadd, 1) := by decide +kernel
theorem dX12_use_100 : decode cX12_use 100 = .ok (.laload, 1) := by decide +kernel
theorem dX12_use_101 : decode cX12_use 101 = .ok (.l2i, 1) := by decide +kernel
theorem dX12_use_102 : decode cX12_use 102 = .ok (.putfield 771, 3) := by decide +kernel
theorem dX12_use_105 : decode cX12_use 105 = .ok (.aload_n 0, 1) := by decide +kernel
theorem dX12_use_106 : decode cX12_use 106 = .ok (.aload_n 0, 1) := by decide +kernel
theorem dX12_use_107 : decode cX12_use 107 = .ok (.getfield 263, 3) := by decide +kernel
theorem dX12_use_110 : decode cX12_use 110 = .ok (.iload_n 3, 1) := by decide +kernel
theorem dX12_use_111 : decode cX12_use 111 = .ok (.iaload, 1) := by decide +kernel
theorem dX12_use_112 : decode cX12_use 112 = .ok (.putfield 786, 3) := by decide +kernel
theorem dX12_use_115 : decode cX12_use 115 = .ok (.return_, 1) := by decide +kernel
def fX12_use_60 (a1 : Int32) (a2 : Int32) (a3 : Int32) (w : Wd) : Option Wd :=
  bn (fX12_control 1 a2 (-1) w) fun w1 => lt (si w1 0 134 ((gi w1 0 134) + 1)) fun w2 => lt (fJ9_max_7cf53 (gi w2 0 135) (gi w2 0 134)) fun x3 => lt (si w2 0 135 x3) fun w4 => if inb (a1 + 1) 200000 = true then lt (si w4 0 129 (Int64.toInt32 (gl w4 83 (Int32.toNatClampNeg (a1 + 1))))) fun w6 => if inb a3 6000 = true then lt (si w6 0 128 (gi w6 61 (Int32.toNatClampNeg a3))) fun w8 => some w8 else none else none
theorem pX12_use_60 {q : Gq} {l : Launch} {N : Option Value → Wd → Prop} {X : String → Wd → Prop} {w : Wd} {R : Wd} (hN : N none R) {a1 : Int32} {a2 : Int32} {a3 : Int32} (h : fX12_use_60 a1 a2 a3 w = some R) : RT (GM q) l 2 yX12_use cX12_use 4 (none) N X 60 [] [(0, .ref 0), (1, .int a1), (2, .int a2), (3, .int a3)] w := by
  unfold fX12_use_60 at h
  refine r_aload_n (pc := 60) dX12_use_60 rfl 0 rfl ?_
  refine r_iconst (pc := 61) dX12_use_61 ki_1 ?_
  refine r_iload_n (pc := 62) dX12_use_62 rfl 2 rfl ?_
  refine r_iconst (pc := 63) dX12_use_63 ki_m1 ?_
  replace h := bn_e h; obtain ⟨w1, ew1, h⟩ := h
  refine r_cVv (pc := 64) wyX12_control oM0 rfl mlRX12_807 iyX12_control syX12_control ⟨(Nat.le_of_ble_eq_true rfl), (Nat.le_of_ble_eq_true rfl)⟩ rfl rfl (Nat.le_of_ble_eq_true rfl) dX12_use_64 (mX12_control ew1 (pV.mk ?_))
  refine r_aload_n (pc := 67) dX12_use_67 rfl 0 rfl ?_
  refine r_dup (pc := 68) dX12_use_68 rfl ?_
  refine r_get (pc := 69) (j := 134) (v := .int (gi w1 0 134)) oM0 cf12 flRX12_789 rfl dX12_use_69 rfl ?_
  refine r_iconst (pc := 72) dX12_use_72 ki_1 ?_
  refine r_iadd (pc := 73) dX12_use_73 ?_
  replace h := lt_e h; obtain ⟨w2, ew2, h⟩ := h
  refine r_putI (pc := 74) (j := 134) oM0 cf12 flRX12_789 rfl rfl rfl rfl dX12_use_74 ?_
  refine r_w ew2 ?_
  refine r_aload_n (pc := 77) dX12_use_77 rfl 0 rfl ?_
  refine r_aload_n (pc := 78) dX12_use_78 rfl 0 rfl ?_
  refine r_get (pc := 79) (j := 135) (v := .int (gi w2 0 135)) oM0 cf12 flRX12_801 rfl dX12_use_79 rfl ?_
  refine r_aload_n (pc := 82) dX12_use_82 rfl 0 rfl ?_
  refine r_get (pc := 83) (j := 134) (v := .int (gi w2 0 134)) oM0 cf12 flRX12_789 rfl dX12_use_83 rfl ?_
  replace h := lt_e h; obtain ⟨x3, ex3, h⟩ := h
  refine r_cSi (pc := 86) wyJ9_max_7cf53 mlRX12_804 tyJ9_max_7cf53 ⟨(Nat.le_of_ble_eq_true rfl), (Nat.le_of_ble_eq_true rfl)⟩ rfl rfl (Nat.le_of_ble_eq_true rfl) dX12_use_86 (mJ9_max_7cf53 ex3 (pI.mk ?_))
  replace h := lt_e h; obtain ⟨w4, ew4, h⟩ := h
  refine r_putI (pc := 89) (j := 135) oM0 cf12 flRX12_801 rfl rfl rfl rfl dX12_use_89 ?_
  refine r_w ew4 ?_
  refine r_aload_n (pc := 92) dX12_use_92 rfl 0 rfl ?_
  refine r_aload_n (pc := 93) dX12_use_93 rfl 0 rfl ?_
  refine r_get (pc := 94) (j := 112) (v := .ref 83) oM0 cf12 flRX12_330 rfl dX12_use_94 rfl ?_
  refine r_iload_n (pc := 97) dX12_use_97 rfl 1 rfl ?_
  refine r_iconst (pc := 98) dX12_use_98 ki_1 ?_
  refine r_iadd (pc := 99) dX12_use_99 ?_
  replace h := if_n h; obtain ⟨hb5, h⟩ := h
  refine r_lald (pc := 100) aM83 (inb_in hb5) dX12_use_100 ?_
  refine r_l2i (pc := 101) dX12_use_101 ?_
  replace h := lt_e h; obtain ⟨w6, ew6, h⟩ := h
  refine r_putI (pc := 102) (j := 129) oM0 cf12 flRX12_771 rfl rfl rfl rfl dX12_use_102 ?_
  refine r_w ew6 ?_
  refine r_aload_n (pc := 105) dX12_use_105 rfl 0 rfl ?_
  refine r_aload_n (pc := 106) dX12_use_106 rfl 0 rfl ?_
  refine r_get (pc := 107) (j := 89) (v := .ref 61) oM0 cf12 flRX12_263 rfl dX12_use_107 rfl ?_
  refine r_iload_n (pc := 110) dX12_use_110 rfl 3 rfl ?_
  replace h := if_n h; obtain ⟨hb7, h⟩ := h
  refine r_iald (pc := 111) aM61 (inb_in hb7) dX12_use_111 ?_
  replace h := lt_e h; obtain ⟨w8, ew8, h⟩ := h
  refine r_putI (pc := 112) (j := 128) oM0 cf12 flRX12_786 rfl rfl rfl rfl dX12_use_112 ?_
  refine r_w ew8 ?_
  exact rO_v (pc := 115) rfl dX12_use_115 h hN
def fX12_use (a1 : Int32) (a2 : Int32) (w : Wd) : Option Wd :=
  lt2 (fX12_pay w) fun x1 w2 => if x1 = true then (lt2 (fX12_deeper w2) fun x4 w5 => if x4 = true then (if inb a1 200000 = true then lt ((Int64.toInt32 (gl w5 83 (Int32.toNatClampNeg a1)))) fun x8 => if a2 = 1 then (if inb x8 6000 = true then if (gi w5 62 (Int32.toNatClampNeg x8)) = 0 then (lt (fJ9_max_7cf53 (gi w5 0 135) ((gi w5 0 134) + 1)) fun x12 => lt (si w5 0 135 x12) fun w13 => lt (fX12_fail 4 w13) fun w14 => some w14) else (fX12_use_60 a1 a2 x8 w5) else none) else (fX12_use_60 a1 a2 x8 w5) else none) else (some w5)) else (some w2)
theorem pX12_use {q : Gq} {l : Launch} {N : Option Value → Wd → Prop} {X : String → Wd → Prop} {w : Wd} {R : Wd} (hN : N none R) {a1 : Int32} {a2 : Int32} (h : fX12_use a1 a2 w = some R) : RT (GM q) l 2 yX12_use cX12_use 4 (none) N X 0 [] [(0, .ref 0), (1, .int a1), (2, .int a2)] w := by
  unfold fX12_use at h
  refine r_aload_n (pc := 0) dX12_use_0 rfl 0 rfl ?_
  replace h := lt2_e h; obtain ⟨x1, w2, ew2, h⟩ := h
  refine r_cVi (pc := 1) wyX12_pay oM0 rfl mlRX12_795 iyX12_pay syX12_pay ⟨(Nat.le_of_ble_eq_true rfl), (Nat.le_of_ble_eq_true rfl)⟩ rfl rfl (Nat.le_of_ble_eq_true rfl) dX12_use_1 (mX12_pay ew2 (pI.mk ?_))
  refine r_z_eq (pc := 4) dX12_use_4 rfl (fun hc3 => ?_) (fun hc3 => ?_)
  · replace h := if_f hc3 h
    exact rO_v (pc := 14) rfl dX12_use_14 h hN
  replace h := if_t hc3 h
  refine r_aload_n (pc := 7) dX12_use_7 rfl 0 rfl ?_
  replace h := lt2_e h; obtain ⟨x4, w5, ew5, h⟩ := h
  refine r_cVi (pc := 8) wyX12_deeper oM0 rfl mlRX12_798 iyX12_deeper syX12_deeper ⟨(Nat.le_of_ble_eq_true rfl), (Nat.le_of_ble_eq_true rfl)⟩ rfl rfl (Nat.le_of_ble_eq_true rfl) dX12_use_8 (mX12_deeper ew5 (pI.mk ?_))
  refine r_z_ne (pc := 11) dX12_use_11 rfl (fun hc6 => ?_) (fun hc6 => ?_)
  · replace h := if_t hc6 h
    refine r_aload_n (pc := 15) dX12_use_15 rfl 0 rfl ?_
    refine r_get (pc := 16) (j := 112) (v := .ref 83) oM0 cf12 flRX12_330 rfl dX12_use_16 rfl ?_
    refine r_iload_n (pc := 19) dX12_use_19 rfl 1 rfl ?_
    replace h := if_n h; obtain ⟨hb7, h⟩ := h
    refine r_lald (pc := 20) aM83 (inb_in hb7) dX12_use_20 ?_
    refine r_l2i (pc := 21) dX12_use_21 ?_
    replace h := lt_e h; obtain ⟨x8, ex8, h⟩ := h
    refine r_topi ex8 ?_
    refine r_istore_n (pc := 22) (loc' := [(3, .int x8), (0, .ref 0), (1, .int a1), (2, .int a2)]) dX12_use_22 rfl (Nat.le_of_ble_eq_true rfl) rfl ?_
    refine r_iload_n (pc := 23) dX12_use_23 rfl 3 rfl ?_
    refine r_iconst (pc := 24) dX12_use_24 ki_1 ?_
    refine r_icmp_ne (pc := 25) dX12_use_25 rfl (fun hc9 => ?_) (fun hc9 => ?_)
    · replace h := if_f hc9 h
      refine r_drop (loc' := [(0, .ref 0), (1, .int a1), (2, .int a2), (3, .int x8)]) [1, 2, 3, 0] rfl ?_
      exact pX12_use_60 hN h
    replace h := if_t hc9 h
    refine r_aload_n (pc := 28) dX12_use_28 rfl 1 rfl ?_
    refine r_get (pc := 29) (j := 90) (v := .ref 62) oM0 cf12 flRX12_266 rfl dX12_use_29 rfl ?_
    refine r_iload_n (pc := 32) dX12_use_32 rfl 0 rfl ?_
    replace h := if_n h; obtain ⟨hb10, h⟩ := h
    refine r_iald (pc := 33) aM62 (inb_in hb10) dX12_use_33 ?_
    refine r_if_ne (pc := 34) dX12_use_34 rfl (fun hc11 => ?_) (fun hc11 => ?_)
    · replace h := if_f hc11 h
      refine r_drop (loc' := [(0, .ref 0), (1, .int a1), (2, .int a2), (3, .int x8)]) [1, 2, 3, 0] rfl ?_
      exact pX12_use_60 hN h
    replace h := if_t hc11 h
    refine r_aload_n (pc := 37) dX12_use_37 rfl 1 rfl ?_
    refine r_aload_n (pc := 38) dX12_use_38 rfl 1 rfl ?_
    refine r_get (pc := 39) (j := 135) (v := .int (gi w5 0 135)) oM0 cf12 flRX12_801 rfl dX12_use_39 rfl ?_
    refine r_aload_n (pc := 42) dX12_use_42 rfl 1 rfl ?_
    refine r_get (pc := 43) (j := 134) (v := .int (gi w5 0 134)) oM0 cf12 flRX12_789 rfl dX12_use_43 rfl ?_
    refine r_iconst (pc := 46) dX12_use_46 ki_1 ?_
    refine r_iadd (pc := 47) dX12_use_47 ?_
    replace h := lt_e h; obtain ⟨x12, ex12, h⟩ := h
    refine r_cSi (pc := 48) wyJ9_max_7cf53 mlRX12_804 tyJ9_max_7cf53 ⟨(Nat.le_of_ble_eq_true rfl), (Nat.le_of_ble_eq_true rfl)⟩ rfl rfl (Nat.le_of_ble_eq_true rfl) dX12_use_48 (mJ9_max_7cf53 ex12 (pI.mk ?_))
    replace h := lt_e h; obtain ⟨w13, ew13, h⟩ := h
    refine r_putI (pc := 51) (j := 135) oM0 cf12 flRX12_801 rfl rfl rfl rfl dX12_use_51 ?_
    refine r_w ew13 ?_
    refine r_aload_n (pc := 54) dX12_use_54 rfl 1 rfl ?_
    refine r_iconst (pc := 55) dX12_use_55 ki_4 ?_
    replace h := lt_e h; obtain ⟨w14, ew14, h⟩ := h
    refine r_cVv (pc := 56) wyX12_fail oM0 rfl mlRX12_792 iyX12_fail syX12_fail ⟨(Nat.le_of_ble_eq_true rfl), (Nat.le_of_ble_eq_true rfl)⟩ rfl rfl (Nat.le_of_ble_eq_true rfl) dX12_use_56 (mX12_fail ew14 (pV.mk ?_))
    exact rO_v (pc := 59) rfl dX12_use_59 h hN
  replace h := if_f hc6 h
  exact rO_v (pc := 14) rfl dX12_use_14 h hN
theorem mX12_use {q : Gq} {l : Launch} {N : Option Value → Wd → Prop} {X : String → Wd → Prop} {a1 : Int32} {a2 : Int32} {w : Wd} {u : Wd} (h : fX12_use a1 a2 w = some u) (hN : N none u) : Ct (GM q) l 2 yX12_use cX12_use 4 (none) [.ref 0, .int a1, .int a2] w N X := Ct.of (by decide) (Nat.le_of_ble_eq_true rfl) (pX12_use hN h)
/-! AlgolMillModel.finish (Z)V: O, 1 -/
theorem dX12_finish_0 : decode cX12_finish 0 = .ok (.aload_n 0, 1) := by decide +kernel
theorem dX12_finish_1 : decode cX12_finish 1 = .ok (.dup, 1) := by decide +kernel
theorem dX12_finish_2 : decode cX12_finish 2 = .ok (.getfield 783, 3) := by decide +kernel
theorem dX12_finish_5 : decode cX12_finish 5 = .ok (.iconst 1, 1) := by decide +kernel
theorem dX12_finish_6 : decode cX12_finish 6 = .ok (.isub, 1) := by decide +kernel
theorem dX12_finish_7 : decode cX12_finish 7 = .ok (.putfield 783, 3) := by decide +kernel
theorem dX12_finish_10 : decode cX12_finish 10 = .ok (.iload_n 1, 1) := by decide +kernel
theorem dX12_finish_11 : decode cX12_finish 11 = .ok (.ifCond .eq 27, 3) := by decide +kernel
theorem dX12_finish_14 : decode cX12_finish 14 = .ok (.aload_n 0, 1) := by decide +kernel
theorem dX12_finish_15 : decode cX12_finish 15 = .ok (.getfield 366, 3) := by decide +kernel
theorem dX12_finish_18 : decode cX12_finish 18 = .ok (.aload_n 0, 1) := by decide +kernel
theorem dX12_finish_19 : decode cX12_finish 19 = .ok (.getfield 783, 3) := by decide +kernel
theorem dX12_finish_22 : decode cX12_finish 22 = .ok (.iaload, 1) := by decide +kernel
theorem dX12_finish_23 : decode cX12_finish 23 = .ok (.ifCond .ne 15, 3) := by decide +kernel
theorem dX12_finish_26 : decode cX12_finish 26 = .ok (.aload_n 0, 1) := by decide +kernel
theorem dX12_finish_27 : decode cX12_finish 27 = .ok (.aload_n 0, 1) := by decide +kernel
theorem dX12_finish_28 : decode cX12_finish 28 = .ok (.aload_n 0, 1) := by decide +kernel
theorem dX12_finish_29 : decode cX12_finish 29 = .ok (.invokevirtual 810, 3) := by decide +kernel
theorem dX12_finish_32 : decode cX12_finish 32 = .ok (.invokevirtual 814, 3) := by decide +kernel
theorem dX12_finish_35 : decode cX12_finish 35 = .ok (.invokevirtual 817, 3) := by decide +kernel
theorem dX12_finish_38 : decode cX12_finish 38 = .ok (.aload_n 0, 1) := by decide +kernel
theorem dX12_finish_39 : decode cX12_finish 39 = .ok (.aload_n 0, 1) := by decide +kernel
theorem dX12_finish_40 : decode cX12_finish 40 = .ok (.getfield 360, 3) := by decide +kernel
theorem dX12_finish_43 : decode cX12_finish 43 = .ok (.aload_n 0, 1) := by decide +kernel
theorem dX12_finish_44 : decode cX12_finish 44 = .ok (.getfield 783, 3) := by decide +kernel
theorem dX12_finish_47 : decode cX12_finish 47 = .ok (.iaload, 1) := by decide +kernel
theorem dX12_finish_48 : decode cX12_finish 48 = .ok (.putfield 786, 3) := by decide +kernel
theorem dX12_finish_51 : decode cX12_finish 51 = .ok (.aload_n 0, 1) := by decide +kernel
theorem dX12_finish_52 : decode cX12_finish 52 = .ok (.aload_n 0, 1) := by decide +kernel
theorem dX12_finish_53 : decode cX12_finish 53 = .ok (.getfield 363, 3) := by decide +kernel
theorem dX12_finish_56 : decode cX12_finish 56 = .ok (.aload_n 0, 1) := by decide +kernel
theorem dX12_finish_57 : decode cX12_finish 57 = .ok (.getfield 783, 3) := by decide +kernel
theorem dX12_finish_60 : decode cX12_finish 60 = .ok (.iaload, 1) := by decide +kernel
theorem dX12_finish_61 : decode cX12_finish 61 = .ok (.putfield 771, 3) := by decide +kernel
theorem dX12_finish_64 : decode cX12_finish 64 = .ok (.aload_n 0, 1) := by decide +kernel
theorem dX12_finish_65 : decode cX12_finish 65 = .ok (.aload_n 0, 1) := by decide +kernel
theorem dX12_finish_66 : decode cX12_finish 66 = .ok (.getfield 369, 3) := by decide +kernel
theorem dX12_finish_69 : decode cX12_finish 69 = .ok (.aload_n 0, 1) := by decide +kernel
theorem dX12_finish_70 : decode cX12_finish 70 = .ok (.getfield 783, 3) := by decide +kernel
theorem dX12_finish_73 : decode cX12_finish 73 = .ok (.iaload, 1) := by decide +kernel
theorem dX12_finish_74 : decode cX12_finish 74 = .ok (.putfield 789, 3) := by decide +kernel
theorem dX12_finish_77 : decode cX12_finish 77 = .ok (.aload_n 0, 1) := by decide +kernel
theorem dX12_finish_78 : decode cX12_finish 78 = .ok (.getfield 372, 3) := by decide +kernel
theorem dX12_finish_81 : decode cX12_finish 81 = .ok (.aload_n 0, 1) := by decide +kernel
theorem dX12_finish_82 : decode cX12_finish 82 = .ok (.getfield 783, 3) := by decide +kernel
theorem dX12_finish_85 : decode cX12_finish 85 = .ok (.iaload, 1) := by decide +kernel
theorem dX12_finish_86 : decode cX12_finish 86 = .ok (.ifCond .lt 21, 3) := by decide +kernel
theorem dX12_finish_89 : decode cX12_finish 89 = .ok (.aload_n 0, 1) := by decide +kernel
theorem dX12_finish_90 : decode cX12_finish 90 = .ok (.getfield 330, 3) := by decide +kernel
theorem dX12_finish_93 : decode cX12_finish 93 = .ok (.aload_n 0, 1) := by decide +kernel
theorem dX12_finish_94 : decode cX12_finish 94 = .ok (.getfield 372, 3) := by decide +kernel
theorem dX12_finish_97 : decode cX12_finish 97 = .ok (.aload_n 0, 1) := by decide +kernel
theorem dX12_finish_98 : decode cX12_finish 98 = .ok (.getfield 783, 3) := by decide +kernel
theorem dX12_finish_101 : decode cX12_finish 101 = .ok (.iaload, 1) := by decide +kernel
theorem dX12_finish_102 : decode cX12_finish 102 = .ok (.aload_n 0, 1) := by decide +kernel
theorem dX12_finish_103 : decode cX12_finish 103 = .ok (.invokevirtual 810, 3) := by decide +kernel
theorem dX12_finish_106 : decode cX12_finish 106 = .ok (.lastore, 1) := by decide +kernel
theorem dX12_finish_107 : decode cX12_finish 107 = .ok (.return_, 1) := by decide +kernel
def fX12_finish_38 (w : Wd) : Option Wd :=
  if inb (gi w 0 127) 1000 = true then lt (si w 0 128 (gi w 93 (Int32.toNatClampNeg (gi w 0 127)))) fun w2 => if inb (gi w2 0 127) 1000 = true then lt (si w2 0 129 (gi w2 94 (Int32.toNatClampNeg (gi w2 0 127)))) fun w4 => if inb (gi w4 0 127) 1000 = true then lt (si w4 0 134 (gi w4 96 (Int32.toNatClampNeg (gi w4 0 127)))) fun w6 => if inb (gi w6 0 127) 1000 = true then if (gi w6 97 (Int32.toNatClampNeg (gi w6 0 127))) < 0 then (some w6) else (if inb (gi w6 0 127) 1000 = true then bn2 (fX12_pop w6) fun x10 w11 => if inb (gi w6 97 (Int32.toNatClampNeg (gi w6 0 127))) 200000 = true then lt (sl w11 83 (Int32.toNatClampNeg (gi w6 97 (Int32.toNatClampNeg (gi w6 0 127)))) x10) fun w13 => some w13 else none else none) else none else none else none else none
theorem pX12_finish_38 {q : Gq} {l : Launch} {N : Option Value → Wd → Prop} {X : String → Wd → Prop} {w : Wd} {R : Wd} (hN : N none R) (h : fX12_finish_38 w = some R) : RT (GM q) l 1 yX12_finish cX12_finish 2 (none) N X 38 [] [(0, .ref 0)] w := by
  unfold fX12_finish_38 at h
  refine r_aload_n (pc := 38) dX12_finish_38 rfl 0 rfl ?_
  refine r_aload_n (pc := 39) dX12_finish_39 rfl 0 rfl ?_
  refine r_get (pc := 40) (j := 122) (v := .ref 93) oM0 cf12 flRX12_360 rfl dX12_finish_40 rfl ?_
  refine r_aload_n (pc := 43) dX12_finish_43 rfl 0 rfl ?_
  refine r_get (pc := 44) (j := 127) (v := .int (gi w 0 127)) oM0 cf12 flRX12_783 rfl dX12_finish_44 rfl ?_
  replace h := if_n h; obtain ⟨hb1, h⟩ := h
  refine r_iald (pc := 47) aM93 (inb_in hb1) dX12_finish_47 ?_
  replace h := lt_e h; obtain ⟨w2, ew2, h⟩ := h
  refine r_putI (pc := 48) (j := 128) oM0 cf12 flRX12_786 rfl rfl rfl rfl dX12_finish_48 ?_
  refine r_w ew2 ?_
  refine r_aload_n (pc := 51) dX12_finish_51 rfl 0 rfl ?_
  refine r_aload_n (pc := 52) dX12_finish_52 rfl 0 rfl ?_
  refine r_get (pc := 53) (j := 123) (v := .ref 94) oM0 cf12 flRX12_363 rfl dX12_finish_53 rfl ?_
  refine r_aload_n (pc := 56) dX12_finish_56 rfl 0 rfl ?_
  refine r_get (pc := 57) (j := 127) (v := .int (gi w2 0 127)) oM0 cf12 flRX12_783 rfl dX12_finish_57 rfl ?_
  replace h := if_n h; obtain ⟨hb3, h⟩ := h
  refine r_iald (pc := 60) aM94 (inb_in hb3) dX12_finish_60 ?_
  replace h := lt_e h; obtain ⟨w4, ew4, h⟩ := h
  refine r_putI (pc := 61) (j := 129) oM0 cf12 flRX12_771 rfl rfl rfl rfl dX12_finish_61 ?_
  refine r_w ew4 ?_
  refine r_aload_n (pc := 64) dX12_finish_64 rfl 0 rfl ?_
  refine r_aload_n (pc := 65) dX12_finish_65 rfl 0 rfl ?_
  refine r_get (pc := 66) (j := 125) (v := .ref 96) oM0 cf12 flRX12_369 rfl dX12_finish_66 rfl ?_
  refine r_aload_n (pc := 69) dX12_finish_69 rfl 0 rfl ?_
  refine r_get (pc := 70) (j := 127) (v := .int (gi w4 0 127)) oM0 cf12 flRX12_783 rfl dX12_finish_70 rfl ?_
  replace h := if_n h; obtain ⟨hb5, h⟩ := h
  refine r_iald (pc := 73) aM96 (inb_in hb5) dX12_finish_73 ?_
  replace h := lt_e h; obtain ⟨w6, ew6, h⟩ := h
  refine r_putI (pc := 74) (j := 134) oM0 cf12 flRX12_789 rfl rfl rfl rfl dX12_finish_74 ?_
  refine r_w ew6 ?_
  refine r_aload_n (pc := 77) dX12_finish_77 rfl 0 rfl ?_
  refine r_get (pc := 78) (j := 126) (v := .ref 97) oM0 cf12 flRX12_372 rfl dX12_finish_78 rfl ?_
  refine r_aload_n (pc := 81) dX12_finish_81 rfl 0 rfl ?_
  refine r_get (pc := 82) (j := 127) (v := .int (gi w6 0 127)) oM0 cf12 flRX12_783 rfl dX12_finish_82 rfl ?_
  replace h := if_n h; obtain ⟨hb7, h⟩ := h
  refine r_iald (pc := 85) aM97 (inb_in hb7) dX12_finish_85 ?_
  refine r_if_lt (pc := 86) dX12_finish_86 rfl (fun hc8 => ?_) (fun hc8 => ?_)
  · replace h := if_t hc8 h
    exact rO_v (pc := 107) rfl dX12_finish_107 h hN
  replace h := if_f hc8 h
  refine r_aload_n (pc := 89) dX12_finish_89 rfl 0 rfl ?_
  refine r_get (pc := 90) (j := 112) (v := .ref 83) oM0 cf12 flRX12_330 rfl dX12_finish_90 rfl ?_
  refine r_aload_n (pc := 93) dX12_finish_93 rfl 0 rfl ?_
  refine r_get (pc := 94) (j := 126) (v := .ref 97) oM0 cf12 flRX12_372 rfl dX12_finish_94 rfl ?_
  refine r_aload_n (pc := 97) dX12_finish_97 rfl 0 rfl ?_
  refine r_get (pc := 98) (j := 127) (v := .int (gi w6 0 127)) oM0 cf12 flRX12_783 rfl dX12_finish_98 rfl ?_
  replace h := if_n h; obtain ⟨hb9, h⟩ := h
  refine r_iald (pc := 101) aM97 (inb_in hb9) dX12_finish_101 ?_
  refine r_aload_n (pc := 102) dX12_finish_102 rfl 0 rfl ?_
  replace h := bn2_e h; obtain ⟨x10, w11, ew11, h⟩ := h
  refine r_cVl (pc := 103) wyX12_pop oM0 rfl mlRX12_810 iyX12_pop syX12_pop ⟨(Nat.le_of_ble_eq_true rfl), (Nat.le_of_ble_eq_true rfl)⟩ rfl rfl (Nat.le_of_ble_eq_true rfl) dX12_finish_103 (mX12_pop ew11 (pL.mk ?_))
  replace h := if_n h; obtain ⟨hb12, h⟩ := h
  replace h := lt_e h; obtain ⟨w13, ew13, h⟩ := h
  refine r_last (pc := 106) aM83 (inb_in hb12) dX12_finish_106 ?_
  refine r_w ew13 ?_
  exact rO_v (pc := 107) rfl dX12_finish_107 h hN
def fX12_finish (a1 : Bool) (w : Wd) : Option Wd :=
  lt (si w 0 127 ((gi w 0 127) - 1)) fun w1 => if a1 = true then (if inb (gi w1 0 127) 1000 = true then if (gi w1 95 (Int32.toNatClampNeg (gi w1 0 127))) = 0 then (bn2 (fX12_pop w1) fun x5 w6 => bn2 (fX12_read_ x5 w6) fun x7 w8 => bn (fX12_push x7 w8) fun w9 => fX12_finish_38 w9) else (fX12_finish_38 w1) else none) else (fX12_finish_38 w1)
theorem pX12_finish {q : Gq} {l : Launch} {N : Option Value → Wd → Prop} {X : String → Wd → Prop} {w : Wd} {R : Wd} (hN : N none R) {a1 : Bool} (h : fX12_finish a1 w = some R) : RT (GM q) l 1 yX12_finish cX12_finish 2 (none) N X 0 [] [(0, .ref 0), (1, .int (b2i a1))] w := by
  unfold fX12_finish at h
  refine r_aload_n (pc := 0) dX12_finish_0 rfl 0 rfl ?_
  refine r_dup (pc := 1) dX12_finish_1 rfl ?_
  refine r_get (pc := 2) (j := 127) (v := .int (gi w 0 127)) oM0 cf12 flRX12_783 rfl dX12_finish_2 rfl ?_
  refine r_iconst (pc := 5) dX12_finish_5 ki_1 ?_
  refine r_isub (pc := 6) dX12_finish_6 ?_
  replace h := lt_e h; obtain ⟨w1, ew1, h⟩ := h
  refine r_putI (pc := 7) (j := 127) oM0 cf12 flRX12_783 rfl rfl rfl rfl dX12_finish_7 ?_
  refine r_w ew1 ?_
  refine r_iload_n (pc := 10) dX12_finish_10 rfl 1 rfl ?_
  refine r_z_eq (pc := 11) dX12_finish_11 rfl (fun hc2 => ?_) (fun hc2 => ?_)
  · replace h := if_f hc2 h
    refine r_drop (loc' := [(0, .ref 0)]) [0] rfl ?_
    exact pX12_finish_38 hN h
  replace h := if_t hc2 h
  refine r_aload_n (pc := 14) dX12_finish_14 rfl 0 rfl ?_
  refine r_get (pc := 15) (j := 124) (v := .ref 95) oM0 cf12 flRX12_366 rfl dX12_finish_15 rfl ?_
  refine r_aload_n (pc := 18) dX12_finish_18 rfl 0 rfl ?_
  refine r_get (pc := 19) (j := 127) (v := .int (gi w1 0 127)) oM0 cf12 flRX12_783 rfl dX12_finish_19 rfl ?_
  replace h := if_n h; obtain ⟨hb3, h⟩ := h
  refine r_iald (pc := 22) aM95 (inb_in hb3) dX12_finish_22 ?_
  refine r_if_ne (pc := 23) dX12_finish_23 rfl (fun hc4 => ?_) (fun hc4 => ?_)
  · replace h := if_f hc4 h
    refine r_drop (loc' := [(0, .ref 0)]) [0] rfl ?_
    exact pX12_finish_38 hN h
  replace h := if_t hc4 h
  refine r_aload_n (pc := 26) dX12_finish_26 rfl 0 rfl ?_
  refine r_aload_n (pc := 27) dX12_finish_27 rfl 0 rfl ?_
  refine r_aload_n (pc := 28) dX12_finish_28 rfl 0 rfl ?_
  replace h := bn2_e h; obtain ⟨x5, w6, ew6, h⟩ := h
  refine r_cVl (pc := 29) wyX12_pop oM0 rfl mlRX12_810 iyX12_pop syX12_pop ⟨(Nat.le_of_ble_eq_true rfl), (Nat.le_of_ble_eq_true rfl)⟩ rfl rfl (Nat.le_of_ble_eq_true rfl) dX12_finish_29 (mX12_pop ew6 (pL.mk ?_))
  replace h := bn2_e h; obtain ⟨x7, w8, ew8, h⟩ := h
  refine r_cVl (pc := 32) wyX12_read_ oM0 rfl mlRX12_814 iyX12_read_ syX12_read_ ⟨(Nat.le_of_ble_eq_true rfl), (Nat.le_of_ble_eq_true rfl)⟩ rfl rfl (Nat.le_of_ble_eq_true rfl) dX12_finish_32 (mX12_read_ ew8 (pL.mk ?_))
  replace h := bn_e h; obtain ⟨w9, ew9, h⟩ := h
  refine r_cVv (pc := 35) wyX12_push oM0 rfl mlRX12_817 iyX12_push syX12_push ⟨(Nat.le_of_ble_eq_true rfl), (Nat.le_of_ble_eq_true rfl)⟩ rfl rfl (Nat.le_of_ble_eq_true rfl) dX12_finish_35 (mX12_push ew9 (pV.mk ?_))
  refine r_drop (loc' := [(0, .ref 0)]) [0] rfl ?_
  exact pX12_finish_38 hN h
theorem mX12_finish {q : Gq} {l : Launch} {N : Option Value → Wd → Prop} {X : String → Wd → Prop} {a1 : Bool} {w : Wd} {u : Wd} (h : fX12_finish a1 w = some u) (hN : N none u) : Ct (GM q) l 1 yX12_finish cX12_finish 2 (none) [.ref 0, .int (b2i a1)] w N X := Ct.of (by decide) (Nat.le_of_ble_eq_true rfl) (pX12_finish hN h)
/-! AlgolMillModel.enter (III)V: O, 1 -/
theorem dX12_enter_0 : decode cX12_enter 0 = .ok (.aload_n 0, 1) := by decide +kernel
theorem dX12_enter_1 : decode cX12_enter 1 = .ok (.iconst 0, 1) := by decide +kernel
theorem dX12_enter_2 : decode cX12_enter 2 = .ok (.iconst 0, 1) := by decide +kernel
theorem dX12_enter_3 : decode cX12_enter 3 = .ok (.iload_n 3, 1) := by decide +kernel
theorem dX12_enter_4 : decode cX12_enter 4 = .ok (.invokevirtual 807, 3) := by decide +kernel
theorem dX12_enter_7 : decode cX12_enter 7 = .ok (.aload_n 0, 1) := by decide +kernel
theorem dX12_enter_8 : decode cX12_enter 8 = .ok (.dup, 1) := by decide +kernel
theorem dX12_enter_9 : decode cX12_enter 9 = .ok (.getfield 789, 3) := by decide +kernel
theorem dX12_enter_12 : decode cX12_enter 12 = .ok (.iconst 1, 1) := by decide +kernel
theorem dX12_enter_13 : decode cX12_enter 13 = .ok (.iadd, 1) := by decide +kernel
theorem dX12_enter_14 : decode cX12_enter 14 = .ok (.putfield 789, 3) := by decide +kernel
theorem dX12_enter_17 : decode cX12_enter 17 = .ok (.aload_n 0, 1) := by decide +kernel
theorem dX12_enter_18 : decode cX12_enter 18 = .ok (.aload_n 0, 1) := by decide +kernel
theorem dX12_enter_19 : decode cX12_enter 19 = .ok (.getfield 801, 3) := by decide +kernel
theorem dX12_enter_22 : decode cX12_enter 22 = .ok (.aload_n 0, 1) := by decide +kernel
theorem dX12_enter_23 : decode cX12_enter 23 = .ok (.getfield 789, 3) := by decide +kernel
theorem dX12_enter_26 : decode cX12_enter 26 = .ok (.invokestatic 804, 3) := by decide +kernel
theorem dX12_enter_29 : decode cX12_enter 29 = .ok (.putfield 801, 3) := by decide +kernel
theorem dX12_enter_32 : decode cX12_enter 32 = .ok (.aload_n 0, 1) := by decide +kernel
theorem dX12_enter_33 : decode cX12_enter 33 = .ok (.getfield 821, 3) := by decide +kernel
theorem dX12_enter_36 : decode cX12_enter 36 = .ok (.istore 4, 2) := by decide +kernel
theorem dX12_enter_38 : decode cX12_enter 38 = .ok (.aload_n 0, 1) := by decide +kernel
theorem dX12_enter_39 : decode cX12_enter 39 = .ok (.dup, 1) := by decide +kernel
theorem dX12_enter_40 : decode cX12_enter 40 = .ok (.getfield 821, 3) := by decide +kernel
theorem dX12_enter_43 : decode cX12_enter 43 = .ok (.iconst 1, 1) := by decide +kernel
theorem dX12_enter_44 : decode cX12_enter 44 = .ok (.iadd, 1) := by decide +kernel
theorem dX12_enter_45 : decode cX12_enter 45 = .ok (.putfield 821, 3) := by decide +kernel
theorem dX12_enter_48 : decode cX12_enter 48 = .ok (.aload_n 0, 1) := by decide +kernel
theorem dX12_enter_49 : decode cX12_enter 49 = .ok (.getfield 342, 3) := by decide +kernel
theorem dX12_enter_52 : decode cX12_enter 52 = .ok (.iload 4, 2) := by decide +kernel
theorem dX12_enter_54 : decode cX12_enter 54 = .ok (.aload_n 0, 1) := by decide +kernel
theorem dX12_enter_55 : decode cX12_enter 55 = .ok (.getfield 824, 3) := by decide +kernel
theorem dX12_enter_58 : decode cX12_enter 58 = .ok (.iastore, 1) := by decide +kernel
theorem dX12_enter_59 : decode cX12_enter 59 = .ok (.aload_n 0, 1) := by decide +kernel
theorem dX12_enter_60 : decode cX12_enter 60 = .ok (.getfield 375, 3) := by decide +kernel
theorem dX12_enter_63 : decode cX12_enter 63 = .ok (.iload 4, 2) := by decide +kernel
theorem dX12_enter_65 : decode cX12_enter 65 = .ok (.iload_n 1, 1) := by decide +kernel
theorem dX12_enter_66 : decode cX12_enter 66 = .ok (.iastore, 1) := by decide +kernel
theorem dX12_enter_67 : decode cX12_enter 67 = .ok (.aload_n 0, 1) := by decide +kernel
theorem dX12_enter_68 : decode cX12_enter 68 = .ok (.getfield 345, 3) := by decide +kernel
theorem dX12_enter_71 : decode cX12_enter 71 = .ok (.iload 4, 2) := by decide +kernel
theorem dX12_enter_73 : decode cX12_enter 73 = .ok (.iload_n 2, 1) := by decide +kernel
theorem dX12_enter_74 : decode cX12_enter 74 = .ok (.iastore, 1) := by decide +kernel
theorem dX12_enter_75 : decode cX12_enter 75 = .ok (.aload_n 0, 1) := by decide +kernel
theorem dX12_enter_76 : decode cX12_enter 76 = .ok (.getfield 348, 3) := by decide +kernel
theorem dX12_enter_79 : decode cX12_enter 79 = .ok (.iload 4, 2) := by decide +kernel
theorem dX12_enter_81 : decode cX12_enter 81 = .ok (.aload_n 0, 1) := by decide +kernel
theorem dX12_enter_82 : decode cX12_enter 82 = .ok (.getfield 783, 3) := by decide +kernel
theorem dX12_enter_85 : decode cX12_enter 85 = .ok (.iastore, 1) := by decide +kernel
theorem dX12_enter_86 : decode cX12_enter 86 = .ok (.aload_n 0, 1) := by decide +kernel
theorem dX12_enter_87 : decode cX12_enter 87 = .ok (.getfield 351, 3) := by decide +kernel
theorem dX12_enter_90 : decode cX12_enter 90 = .ok (.iload 4, 2) := by decide +kernel
theorem dX12_enter_92 : decode cX12_enter 92 = .ok (.aload_n 0, 1) := by decide +kernel
theorem dX12_enter_93 : decode cX12_enter 93 = .ok (.getfield 780, 3) := by decide +kernel
theorem dX12_enter_96 : decode cX12_enter 96 = .ok (.iastore, 1) := by decide +kernel
theorem dX12_enter_97 : decode cX12_enter 97 = .ok (.aload_n 0, 1) := by decide +kernel
theorem dX12_enter_98 : decode cX12_enter 98 = .ok (.getfield 354, 3) := by decide +kernel
theorem dX12_enter_101 : decode cX12_enter 101 = .ok (.iload 4, 2) := by decide +kernel
theorem dX12_enter_103 : decode cX12_enter 103 = .ok (.aload_n 0, 1) := by decide +kernel
theorem dX12_enter_104 : decode cX12_enter 104 = .ok (.getfield 827, 3) := by decide +kernel
theorem dX12_enter_107 : decode cX12_enter 107 = .ok (.iastore, 1) := by decide +kernel
theorem dX12_enter_108 : decode cX12_enter 108 = .ok (.iconst 0, 1) := by decide +kernel
theorem dX12_enter_109 : decode cX12_enter 109 = .ok (.istore 5, 2) := by decide +kernel
theorem dX12_enter_111 : decode cX12_enter 111 = .ok (.iload 5, 2) := by decide +kernel
theorem dX12_enter_113 : decode cX12_enter 113 = .ok (.aload_n 0, 1) := by decide +kernel
theorem dX12_enter_114 : decode cX12_enter 114 = .ok (.getfield 293, 3) := by decide +kernel
theorem dX12_enter_117 : decode cX12_enter 117 = .ok (.iload_n 1, 1) := by decide +kernel
theorem dX12_enter_118 : decode cX12_enter 118 = .ok (.iaload, 1) := by decide +kernel
theorem dX12_enter_119 : decode cX12_enter 119 = .ok (.if_icmp .ge 22, 3) := by decide +kernel
theorem dX12_enter_122 : decode cX12_enter 122 = .ok (.aload_n 0, 1) := by decide +kernel
theorem dX12_enter_123 : decode cX12_enter 123 = .ok (.getfield 330, 3) := by decide +kernel
theorem dX12_enter_126 : decode cX12_enter 126 = .ok (.aload_n 0, 1) := by decide +kernel
theorem dX12_enter_127 : decode cX12_enter 127 = .ok (.getfield 824, 3) := by decide +kernel
theorem dX12_enter_130 : decode cX12_enter 130 = .ok (.iload 5, 2) := by decide +kernel
theorem dX12_enter_132 : decode cX12_enter 132 = .ok (.iadd, 1) := by decide +kernel
theorem dX12_enter_133 : decode cX12_enter 133 = .ok (.lconst 0, 1) := by decide +kernel
theorem dX12_enter_134 : decode cX12_enter 134 = .ok (.lastore, 1) := by decide +kernel
theorem dX12_enter_135 : decode cX12_enter 135 = .ok (.iinc 5 1, 3) := by decide +kernel
theorem dX12_enter_138 : decode cX12_enter 138 = .ok (.goto (-27), 3) := by decide +kernel
theorem dX12_enter_141 : decode cX12_enter 141 = .ok (.aload_n 0, 1) := by decide +kernel
theorem dX12_enter_142 : decode cX12_enter 142 = .ok (.dup, 1) := by decide +kernel
theorem dX12_enter_143 : decode cX12_enter 143 = .ok (.getfield 824, 3) := by decide +kernel
theorem dX12_enter_146 : decode cX12_enter 146 = .ok (.aload_n 0, 1) := by decide +kernel
theorem dX12_enter_147 : decode cX12_enter 147 = .ok (.getfield 293, 3) := by decide +kernel
theorem dX12_enter_150 : decode cX12_enter 150 = .ok (.iload_n 1, 1) := by decide +kernel
theorem dX12_enter_151 : decode cX12_enter 151 = .ok (.iaload, 1) := by decide +kernel
theorem dX12_enter_152 : decode cX12_enter 152 = .ok (.iadd, 1) := by decide +kernel
theorem dX12_enter_153 : decode cX12_enter 153 = .ok (.putfield 824, 3) := by decide +kernel
theorem dX12_enter_156 : decode cX12_enter 156 = .ok (.return_, 1) := by decide +kernel
def fX12_enter_111 (k_111 : Int32 → Int32 → Wd → Option Wd) (a1 : Int32) (a5 : Int32) (w : Wd) : Option Wd :=
  if inb a1 1200 = true then if (gi w 71 (Int32.toNatClampNeg a1)) ≤ a5 then (if inb a1 1200 = true then lt (si w 0 132 ((gi w 0 132) + (gi w 71 (Int32.toNatClampNeg a1)))) fun w4 => some w4 else none) else (if inb ((gi w 0 132) + a5) 200000 = true then lt (sl w 83 (Int32.toNatClampNeg ((gi w 0 132) + a5)) 0) fun w6 => lt (a5 + 1) fun x7 => k_111 a1 x7 w6 else none) else none
theorem pX12_enter_111 {q : Gq} {l : Launch} {N : Option Value → Wd → Prop} {X : String → Wd → Prop} {w : Wd} {R : Wd} (hN : N none R) {k_111 : Int32 → Int32 → Wd → Option Wd} (hk_111 : ∀ (a1 : Int32) (a5 : Int32) (w : Wd), k_111 a1 a5 w = some R → RT (GM q) l 1 yX12_enter cX12_enter 6 (none) N X 111 [] [(0, .ref 0), (1, .int a1), (5, .int a5)] w) {a1 : Int32} {a5 : Int32} (h : fX12_enter_111 k_111 a1 a5 w = some R) : RT (GM q) l 1 yX12_enter cX12_enter 6 (none) N X 111 [] [(0, .ref 0), (1, .int a1), (5, .int a5)] w := by
  unfold fX12_enter_111 at h
  refine r_iload (pc := 111) dX12_enter_111 2 rfl ?_
  refine r_aload_n (pc := 113) dX12_enter_113 rfl 0 rfl ?_
  refine r_get (pc := 114) (j := 99) (v := .ref 71) oM0 cf12 flRX12_293 rfl dX12_enter_114 rfl ?_
  refine r_iload_n (pc := 117) dX12_enter_117 rfl 1 rfl ?_
  replace h := if_n h; obtain ⟨hb1, h⟩ := h
  refine r_iald (pc := 118) aM71 (inb_in hb1) dX12_enter_118 ?_
  refine r_icmp_ge (pc := 119) dX12_enter_119 rfl (fun hc2 => ?_) (fun hc2 => ?_)
  · replace h := if_t hc2 h
    refine r_aload_n (pc := 141) dX12_enter_141 rfl 0 rfl ?_
    refine r_dup (pc := 142) dX12_enter_142 rfl ?_
    refine r_get (pc := 143) (j := 132) (v := .int (gi w 0 132)) oM0 cf12 flRX12_824 rfl dX12_enter_143 rfl ?_
    refine r_aload_n (pc := 146) dX12_enter_146 rfl 0 rfl ?_
    refine r_get (pc := 147) (j := 99) (v := .ref 71) oM0 cf12 flRX12_293 rfl dX12_enter_147 rfl ?_
    refine r_iload_n (pc := 150) dX12_enter_150 rfl 1 rfl ?_
    replace h := if_n h; obtain ⟨hb3, h⟩ := h
    refine r_iald (pc := 151) aM71 (inb_in hb3) dX12_enter_151 ?_
    refine r_iadd (pc := 152) dX12_enter_152 ?_
    replace h := lt_e h; obtain ⟨w4, ew4, h⟩ := h
    refine r_putI (pc := 153) (j := 132) oM0 cf12 flRX12_824 rfl rfl rfl rfl dX12_enter_153 ?_
    refine r_w ew4 ?_
    exact rO_v (pc := 156) rfl dX12_enter_156 h hN
  replace h := if_f hc2 h
  refine r_aload_n (pc := 122) dX12_enter_122 rfl 0 rfl ?_
  refine r_get (pc := 123) (j := 112) (v := .ref 83) oM0 cf12 flRX12_330 rfl dX12_enter_123 rfl ?_
  refine r_aload_n (pc := 126) dX12_enter_126 rfl 0 rfl ?_
  refine r_get (pc := 127) (j := 132) (v := .int (gi w 0 132)) oM0 cf12 flRX12_824 rfl dX12_enter_127 rfl ?_
  refine r_iload (pc := 130) dX12_enter_130 2 rfl ?_
  refine r_iadd (pc := 132) dX12_enter_132 ?_
  refine r_lconst (pc := 133) dX12_enter_133 kl_0 ?_
  replace h := if_n h; obtain ⟨hb5, h⟩ := h
  replace h := lt_e h; obtain ⟨w6, ew6, h⟩ := h
  refine r_last (pc := 134) aM83 (inb_in hb5) dX12_enter_134 ?_
  refine r_w ew6 ?_
  replace h := lt_e h; obtain ⟨x7, ex7, h⟩ := h
  refine r_inc (pc := 135) (loc' := [(5, .int x7), (0, .ref 0), (1, .int a1)]) dX12_enter_135 ki_1 ex7 2 rfl (Nat.le_of_ble_eq_true rfl) rfl ?_
  refine r_goto (pc := 138) dX12_enter_138 rfl ?_
  refine r_drop (loc' := [(0, .ref 0), (1, .int a1), (5, .int x7)]) [1, 2, 0] rfl ?_
  exact hk_111 a1 x7 w6 h
def oX12_enter_111 : Nat → Int32 → Int32 → Wd → Option Wd
  | 0 => fun _ _ _ => none
  | n + 1 => fX12_enter_111 (oX12_enter_111 n)
theorem qX12_enter_111 {q : Gq} {l : Launch} {N : Option Value → Wd → Prop} {X : String → Wd → Prop} {R : Wd} (hN : N none R) : ∀ (n : Nat) (a1 : Int32) (a5 : Int32) (w : Wd), oX12_enter_111 n a1 a5 w = some R → RT (GM q) l 1 yX12_enter cX12_enter 6 (none) N X 111 [] [(0, .ref 0), (1, .int a1), (5, .int a5)] w := by
  intro n
  induction n with
  | zero =>
    intro a1 a5 w h
    exact absurd h (fun q => nomatch q)
  | succ n ih =>
    intro a1 a5 w h
    exact pX12_enter_111 hN ih h
def fX12_enter (a1 : Int32) (a2 : Int32) (a3 : Int32) (w : Wd) : Option Wd :=
  bn (fX12_control 0 0 a3 w) fun w1 => lt (si w1 0 134 ((gi w1 0 134) + 1)) fun w2 => lt (fJ9_max_7cf53 (gi w2 0 135) (gi w2 0 134)) fun x3 => lt (si w2 0 135 x3) fun w4 => lt ((gi w4 0 131)) fun x5 => lt (si w4 0 131 ((gi w4 0 131) + 1)) fun w6 => if inb x5 64 = true then lt (si w6 87 (Int32.toNatClampNeg x5) (gi w6 0 132)) fun w8 => if inb x5 64 = true then lt (si w8 98 (Int32.toNatClampNeg x5) a1) fun w10 => if inb x5 64 = true then lt (si w10 88 (Int32.toNatClampNeg x5) a2) fun w12 => if inb x5 64 = true then lt (si w12 89 (Int32.toNatClampNeg x5) (gi w12 0 127)) fun w14 => if inb x5 64 = true then lt (si w14 90 (Int32.toNatClampNeg x5) (gi w14 0 130)) fun w16 => if inb x5 64 = true then lt (si w16 91 (Int32.toNatClampNeg x5) (gi w16 0 133)) fun w18 => oX12_enter_111 FU a1 0 w18 else none else none else none else none else none else none
set_option maxHeartbeats 16000000 in
theorem pX12_enter {q : Gq} {l : Launch} {N : Option Value → Wd → Prop} {X : String → Wd → Prop} {w : Wd} {R : Wd} (hN : N none R) {a1 : Int32} {a2 : Int32} {a3 : Int32} (h : fX12_enter a1 a2 a3 w = some R) : RT (GM q) l 1 yX12_enter cX12_enter 6 (none) N X 0 [] [(0, .ref 0), (1, .int a1), (2, .int a2), (3, .int a3)] w := by
  unfold fX12_enter at h
  refine r_aload_n (pc := 0) dX12_enter_0 rfl 0 rfl ?_
  refine r_iconst (pc := 1) dX12_enter_1 ki_0 ?_
  refine r_iconst (pc := 2) dX12_enter_2 ki_0 ?_
  refine r_iload_n (pc := 3) dX12_enter_3 rfl 3 rfl ?_
  replace h := bn_e h; obtain ⟨w1, ew1, h⟩ := h
  refine r_cVv (pc := 4) wyX12_control oM0 rfl mlRX12_807 iyX12_control syX12_control ⟨(Nat.le_of_ble_eq_true rfl), (Nat.le_of_ble_eq_true rfl)⟩ rfl rfl (Nat.le_of_ble_eq_true rfl) dX12_enter_4 (mX12_control ew1 (pV.mk ?_))
  refine r_aload_n (pc := 7) dX12_enter_7 rfl 0 rfl ?_
  refine r_dup (pc := 8) dX12_enter_8 rfl ?_
  refine r_get (pc := 9) (j := 134) (v := .int (gi w1 0 134)) oM0 cf12 flRX12_789 rfl dX12_enter_9 rfl ?_
  refine r_iconst (pc := 12) dX12_enter_12 ki_1 ?_
  refine r_iadd (pc := 13) dX12_enter_13 ?_
  replace h := lt_e h; obtain ⟨w2, ew2, h⟩ := h
  refine r_putI (pc := 14) (j := 134) oM0 cf12 flRX12_789 rfl rfl rfl rfl dX12_enter_14 ?_
  refine r_w ew2 ?_
  refine r_aload_n (pc := 17) dX12_enter_17 rfl 0 rfl ?_
  refine r_aload_n (pc := 18) dX12_enter_18 rfl 0 rfl ?_
  refine r_get (pc := 19) (j := 135) (v := .int (gi w2 0 135)) oM0 cf12 flRX12_801 rfl dX12_enter_19 rfl ?_
  refine r_aload_n (pc := 22) dX12_enter_22 rfl 0 rfl ?_
  refine r_get (pc := 23) (j := 134) (v := .int (gi w2 0 134)) oM0 cf12 flRX12_789 rfl dX12_enter_23 rfl ?_
  replace h := lt_e h; obtain ⟨x3, ex3, h⟩ := h
  refine r_cSi (pc := 26) wyJ9_max_7cf53 mlRX12_804 tyJ9_max_7cf53 ⟨(Nat.le_of_ble_eq_true rfl), (Nat.le_of_ble_eq_true rfl)⟩ rfl rfl (Nat.le_of_ble_eq_true rfl) dX12_enter_26 (mJ9_max_7cf53 ex3 (pI.mk ?_))
  replace h := lt_e h; obtain ⟨w4, ew4, h⟩ := h
  refine r_putI (pc := 29) (j := 135) oM0 cf12 flRX12_801 rfl rfl rfl rfl dX12_enter_29 ?_
  refine r_w ew4 ?_
  refine r_aload_n (pc := 32) dX12_enter_32 rfl 0 rfl ?_
  refine r_get (pc := 33) (j := 131) (v := .int (gi w4 0 131)) oM0 cf12 flRX12_821 rfl dX12_enter_33 rfl ?_
  replace h := lt_e h; obtain ⟨x5, ex5, h⟩ := h
  refine r_topi ex5 ?_
  refine r_istore (pc := 36) (loc' := [(4, .int x5), (0, .ref 0), (1, .int a1), (2, .int a2), (3, .int a3)]) dX12_enter_36 (Nat.le_of_ble_eq_true rfl) rfl ?_
  refine r_aload_n (pc := 38) dX12_enter_38 rfl 1 rfl ?_
  refine r_dup (pc := 39) dX12_enter_39 rfl ?_
  refine r_get (pc := 40) (j := 131) (v := .int (gi w4 0 131)) oM0 cf12 flRX12_821 rfl dX12_enter_40 rfl ?_
  refine r_iconst (pc := 43) dX12_enter_43 ki_1 ?_
  refine r_iadd (pc := 44) dX12_enter_44 ?_
  replace h := lt_e h; obtain ⟨w6, ew6, h⟩ := h
  refine r_putI (pc := 45) (j := 131) oM0 cf12 flRX12_821 rfl rfl rfl rfl dX12_enter_45 ?_
  refine r_w ew6 ?_
  refine r_aload_n (pc := 48) dX12_enter_48 rfl 1 rfl ?_
  refine r_get (pc := 49) (j := 116) (v := .ref 87) oM0 cf12 flRX12_342 rfl dX12_enter_49 rfl ?_
  refine r_iload (pc := 52) dX12_enter_52 0 rfl ?_
  refine r_aload_n (pc := 54) dX12_enter_54 rfl 1 rfl ?_
  refine r_get (pc := 55) (j := 132) (v := .int (gi w6 0 132)) oM0 cf12 flRX12_824 rfl dX12_enter_55 rfl ?_
  replace h := if_n h; obtain ⟨hb7, h⟩ := h
  replace h := lt_e h; obtain ⟨w8, ew8, h⟩ := h
  refine r_iast (pc := 58) aM87 (inb_in hb7) dX12_enter_58 ?_
  refine r_w ew8 ?_
  refine r_aload_n (pc := 59) dX12_enter_59 rfl 1 rfl ?_
  refine r_get (pc := 60) (j := 141) (v := .ref 98) oM0 cf12 flRX12_375 rfl dX12_enter_60 rfl ?_
  refine r_iload (pc := 63) dX12_enter_63 0 rfl ?_
  refine r_iload_n (pc := 65) dX12_enter_65 rfl 2 rfl ?_
  replace h := if_n h; obtain ⟨hb9, h⟩ := h
  replace h := lt_e h; obtain ⟨w10, ew10, h⟩ := h
  refine r_iast (pc := 66) aM98 (inb_in hb9) dX12_enter_66 ?_
  refine r_w ew10 ?_
  refine r_aload_n (pc := 67) dX12_enter_67 rfl 1 rfl ?_
  refine r_get (pc := 68) (j := 117) (v := .ref 88) oM0 cf12 flRX12_345 rfl dX12_enter_68 rfl ?_
  refine r_iload (pc := 71) dX12_enter_71 0 rfl ?_
  refine r_iload_n (pc := 73) dX12_enter_73 rfl 3 rfl ?_
  replace h := if_n h; obtain ⟨hb11, h⟩ := h
  replace h := lt_e h; obtain ⟨w12, ew12, h⟩ := h
  refine r_iast (pc := 74) aM88 (inb_in hb11) dX12_enter_74 ?_
  refine r_w ew12 ?_
  refine r_aload_n (pc := 75) dX12_enter_75 rfl 1 rfl ?_
  refine r_get (pc := 76) (j := 118) (v := .ref 89) oM0 cf12 flRX12_348 rfl dX12_enter_76 rfl ?_
  refine r_iload (pc := 79) dX12_enter_79 0 rfl ?_
  refine r_aload_n (pc := 81) dX12_enter_81 rfl 1 rfl ?_
  refine r_get (pc := 82) (j := 127) (v := .int (gi w12 0 127)) oM0 cf12 flRX12_783 rfl dX12_enter_82 rfl ?_
  replace h := if_n h; obtain ⟨hb13, h⟩ := h
  replace h := lt_e h; obtain ⟨w14, ew14, h⟩ := h
  refine r_iast (pc := 85) aM89 (inb_in hb13) dX12_enter_85 ?_
  refine r_w ew14 ?_
  refine r_aload_n (pc := 86) dX12_enter_86 rfl 1 rfl ?_
  refine r_get (pc := 87) (j := 119) (v := .ref 90) oM0 cf12 flRX12_351 rfl dX12_enter_87 rfl ?_
  refine r_iload (pc := 90) dX12_enter_90 0 rfl ?_
  refine r_aload_n (pc := 92) dX12_enter_92 rfl 1 rfl ?_
  refine r_get (pc := 93) (j := 130) (v := .int (gi w14 0 130)) oM0 cf12 flRX12_780 rfl dX12_enter_93 rfl ?_
  replace h := if_n h; obtain ⟨hb15, h⟩ := h
  replace h := lt_e h; obtain ⟨w16, ew16, h⟩ := h
  refine r_iast (pc := 96) aM90 (inb_in hb15) dX12_enter_96 ?_
  refine r_w ew16 ?_
  refine r_aload_n (pc := 97) dX12_enter_97 rfl 1 rfl ?_
  refine r_get (pc := 98) (j := 120) (v := .ref 91) oM0 cf12 flRX12_354 rfl dX12_enter_98 rfl ?_
  refine r_iload (pc := 101) dX12_enter_101 0 rfl ?_
  refine r_aload_n (pc := 103) dX12_enter_103 rfl 1 rfl ?_
  refine r_get (pc := 104) (j := 133) (v := .int (gi w16 0 133)) oM0 cf12 flRX12_827 rfl dX12_enter_104 rfl ?_
  replace h := if_n h; obtain ⟨hb17, h⟩ := h
  replace h := lt_e h; obtain ⟨w18, ew18, h⟩ := h
  refine r_iast (pc := 107) aM91 (inb_in hb17) dX12_enter_107 ?_
  refine r_w ew18 ?_
  refine r_iconst (pc := 108) dX12_enter_108 ki_0 ?_
  refine r_istore (pc := 109) (loc' := [(5, .int 0), (4, .int x5), (0, .ref 0), (1, .int a1), (2, .int a2), (3, .int a3)]) dX12_enter_109 (Nat.le_of_ble_eq_true rfl) rfl ?_
  refine r_drop (loc' := [(0, .ref 0), (1, .int a1), (5, .int 0)]) [2, 3, 0] rfl ?_
  exact qX12_enter_111 hN FU a1 0 w18 h
theorem mX12_enter {q : Gq} {l : Launch} {N : Option Value → Wd → Prop} {X : String → Wd → Prop} {a1 : Int32} {a2 : Int32} {a3 : Int32} {w : Wd} {u : Wd} (h : fX12_enter a1 a2 a3 w = some u) (hN : N none u) : Ct (GM q) l 1 yX12_enter cX12_enter 6 (none) [.ref 0, .int a1, .int a2, .int a3] w N X := Ct.of (by decide) (Nat.le_of_ble_eq_true rfl) (pX12_enter hN h)
