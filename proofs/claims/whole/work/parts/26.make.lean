/-! Maker: make -/
theorem kb_51 : (Int8.ofInt 51).toInt32 = 51 := by decide
/-! AlgolMill$Maker.pass (Z)V: O, 1812 -/
theorem dX4_pass_0 : decode cX4_pass 0 = .ok (.aload_n 0, 1) := by decide +kernel
theorem dX4_pass_1 : decode cX4_pass 1 = .ok (.getfield 12, 3) := by decide +kernel
theorem dX4_pass_4 : decode cX4_pass 4 = .ok (.iload_n 1, 1) := by decide +kernel
theorem dX4_pass_5 : decode cX4_pass 5 = .ok (.invokevirtual 88, 3) := by decide +kernel
theorem dX4_pass_8 : decode cX4_pass 8 = .ok (.aload_n 0, 1) := by decide +kernel
theorem dX4_pass_9 : decode cX4_pass 9 = .ok (.getfield 48, 3) := by decide +kernel
theorem dX4_pass_12 : decode cX4_pass 12 = .ok (.invokevirtual 91, 3) := by decide +kernel
theorem dX4_pass_15 : decode cX4_pass 15 = .ok (.aload_n 0, 1) := by decide +kernel
theorem dX4_pass_16 : decode cX4_pass 16 = .ok (.iconst 0, 1) := by decide +kernel
theorem dX4_pass_17 : decode cX4_pass 17 = .ok (.invokevirtual 92, 3) := by decide +kernel
theorem dX4_pass_20 : decode cX4_pass 20 = .ok (.istore_n 2, 1) := by decide +kernel
theorem dX4_pass_21 : decode cX4_pass 21 = .ok (.aload_n 0, 1) := by decide +kernel
theorem dX4_pass_22 : decode cX4_pass 22 = .ok (.getfield 22, 3) := by decide +kernel
theorem dX4_pass_25 : decode cX4_pass 25 = .ok (.invokevirtual 96, 3) := by decide +kernel
theorem dX4_pass_28 : decode cX4_pass 28 = .ok (.iconst 4, 1) := by decide +kernel
theorem dX4_pass_29 : decode cX4_pass 29 = .ok (.if_icmp .ne 11, 3) := by decide +kernel
theorem dX4_pass_32 : decode cX4_pass 32 = .ok (.aload_n 0, 1) := by decide +kernel
theorem dX4_pass_33 : decode cX4_pass 33 = .ok (.iconst 0, 1) := by decide +kernel
theorem dX4_pass_34 : decode cX4_pass 34 = .ok (.invokevirtual 99, 3) := by decide +kernel
theorem dX4_pass_37 : decode cX4_pass 37 = .ok (.goto 10, 3) := by decide +kernel
theorem dX4_pass_40 : decode cX4_pass 40 = .ok (.aload_n 0, 1) := by decide +kernel
theorem dX4_pass_41 : decode cX4_pass 41 = .ok (.getfield 22, 3) := by decide +kernel
theorem dX4_pass_44 : decode cX4_pass 44 = .ok (.invokevirtual 103, 3) := by decide +kernel
theorem dX4_pass_47 : decode cX4_pass 47 = .ok (.aload_n 0, 1) := by decide +kernel
theorem dX4_pass_48 : decode cX4_pass 48 = .ok (.getfield 22, 3) := by decide +kernel
theorem dX4_pass_51 : decode cX4_pass 51 = .ok (.invokevirtual 96, 3) := by decide +kernel
theorem dX4_pass_54 : decode cX4_pass 54 = .ok (.ifCond .eq 10, 3) := by decide +kernel
theorem dX4_pass_57 : decode cX4_pass 57 = .ok (.aload_n 0, 1) := by decide +kernel
theorem dX4_pass_58 : decode cX4_pass 58 = .ok (.getfield 22, 3) := by decide +kernel
theorem dX4_pass_61 : decode cX4_pass 61 = .ok (.invokevirtual 103, 3) := by decide +kernel
theorem dX4_pass_64 : decode cX4_pass 64 = .ok (.aload_n 0, 1) := by decide +kernel
theorem dX4_pass_65 : decode cX4_pass 65 = .ok (.getfield 42, 3) := by decide +kernel
theorem dX4_pass_68 : decode cX4_pass 68 = .ok (.bipush 51, 2) := by decide +kernel
theorem dX4_pass_70 : decode cX4_pass 70 = .ok (.invokevirtual 108, 3) := by decide +kernel
theorem dX4_pass_73 : decode cX4_pass 73 = .ok (.pop, 1) := by decide +kernel
theorem dX4_pass_74 : decode cX4_pass 74 = .ok (.aload_n 0, 1) := by decide +kernel
theorem dX4_pass_75 : decode cX4_pass 75 = .ok (.getfield 42, 3) := by decide +kernel
theorem dX4_pass_78 : decode cX4_pass 78 = .ok (.iload_n 2, 1) := by decide +kernel
theorem dX4_pass_79 : decode cX4_pass 79 = .ok (.iconst 1, 1) := by decide +kernel
theorem dX4_pass_80 : decode cX4_pass 80 = .ok (.iadd, 1) := by decide +kernel
theorem dX4_pass_81 : decode cX4_pass 81 = .ok (.aload_n 0, 1) := by decide +kernel
theorem dX4_pass_82 : decode cX4_pass 82 = .ok (.getfield 37, 3) := by decide +kernel
theorem dX4_pass_85 : decode cX4_pass 85 = .ok (.invokevirtual 111, 3) := by decide +kernel
theorem dX4_pass_88 : decode cX4_pass 88 = .ok (.i2l, 1) := by decide +kernel
theorem dX4_pass_89 : decode cX4_pass 89 = .ok (.invokevirtual 116, 3) := by decide +kernel
theorem dX4_pass_92 : decode cX4_pass 92 = .ok (.return_, 1) := by decide +kernel
def fX4_pass_64 (a2 : Int32) (w : Wd) : Option Wd :=
  lt2 (fX0_put__ 51 w) fun x1 w2 => lt (fX5_size w2) fun x3 => lt (fX0_set (a2 + 1) (Int32.toInt64 x3) w2) fun w4 => some w4
theorem pX4_pass_64 {q : Gq} {l : Launch} {N : Option Value → Wd → Prop} {X : String → Wd → Prop} {w : Wd} {R : Wd} (hN : N none R) {a2 : Int32} (h : fX4_pass_64 a2 w = some R) : RT (GA q) l 1812 yX4_pass cX4_pass 3 (none) N X 64 [] [(0, .ref 2), (2, .int a2)] w := by
  unfold fX4_pass_64 at h
  refine r_aload_n (pc := 64) dX4_pass_64 rfl 0 rfl ?_
  refine r_get (pc := 65) (j := 5) (v := .ref 40) oA2 cf4 flRX4_42 rfl dX4_pass_65 rfl ?_
  refine r_bipush (pc := 68) dX4_pass_68 kb_51 ?_
  replace h := lt2_e h; obtain ⟨x1, w2, ew2, h⟩ := h
  refine r_cVi (pc := 70) wyX0_put__ oA40 rfl mlRX4_108 iyX0_put__ syX0_put__ ⟨(Nat.le_of_ble_eq_true rfl), (Nat.le_of_ble_eq_true rfl)⟩ rfl rfl (Nat.le_of_ble_eq_true rfl) dX4_pass_70 (mX0_put__ ew2 (pI.mk ?_))
  refine r_pop (pc := 73) dX4_pass_73 rfl ?_
  refine r_aload_n (pc := 74) dX4_pass_74 rfl 0 rfl ?_
  refine r_get (pc := 75) (j := 5) (v := .ref 40) oA2 cf4 flRX4_42 rfl dX4_pass_75 rfl ?_
  refine r_iload_n (pc := 78) dX4_pass_78 rfl 1 rfl ?_
  refine r_iconst (pc := 79) dX4_pass_79 ki_1 ?_
  refine r_iadd (pc := 80) dX4_pass_80 ?_
  refine r_aload_n (pc := 81) dX4_pass_81 rfl 0 rfl ?_
  refine r_get (pc := 82) (j := 4) (v := .ref 34) oA2 cf4 flRX4_37 rfl dX4_pass_82 rfl ?_
  replace h := lt_e h; obtain ⟨x3, ex3, h⟩ := h
  refine r_cVi (pc := 85) wyX5_size oA34 rfl mlRX4_111 iyX5_size syX5_size ⟨(Nat.le_of_ble_eq_true rfl), (Nat.le_of_ble_eq_true rfl)⟩ rfl rfl (Nat.le_of_ble_eq_true rfl) dX4_pass_85 (mX5_size ex3 (pI.mk ?_))
  refine r_i2l (pc := 88) dX4_pass_88 ?_
  replace h := lt_e h; obtain ⟨w4, ew4, h⟩ := h
  refine r_cVv (pc := 89) wyX0_set oA40 rfl mlRX4_116 iyX0_set syX0_set ⟨(Nat.le_of_ble_eq_true rfl), (Nat.le_of_ble_eq_true rfl)⟩ rfl rfl (Nat.le_of_ble_eq_true rfl) dX4_pass_89 (mX0_set ew4 (pV.mk ?_))
  exact rO_v (pc := 92) rfl dX4_pass_92 h hN
def fX4_pass_47 (a2 : Int32) (w : Wd) : Option Wd :=
  lt (fX9_kind w) fun x1 => if x1 = 0 then (fX4_pass_64 a2 w) else (lt (fX9_fail w) fun w3 => fX4_pass_64 a2 w3)
theorem pX4_pass_47 {q : Gq} {l : Launch} {N : Option Value → Wd → Prop} {X : String → Wd → Prop} {w : Wd} {R : Wd} (hN : N none R) {a2 : Int32} (h : fX4_pass_47 a2 w = some R) : RT (GA q) l 1812 yX4_pass cX4_pass 3 (none) N X 47 [] [(0, .ref 2), (2, .int a2)] w := by
  unfold fX4_pass_47 at h
  refine r_aload_n (pc := 47) dX4_pass_47 rfl 0 rfl ?_
  refine r_get (pc := 48) (j := 1) (v := .ref 4) oA2 cf4 flRX4_22 rfl dX4_pass_48 rfl ?_
  replace h := lt_e h; obtain ⟨x1, ex1, h⟩ := h
  refine r_cVi (pc := 51) wyX9_kind oA4 rfl mlRX4_96 iyX9_kind syX9_kind ⟨(Nat.le_of_ble_eq_true rfl), (Nat.le_of_ble_eq_true rfl)⟩ rfl rfl (Nat.le_of_ble_eq_true rfl) dX4_pass_51 (mX9_kind ex1 (pI.mk ?_))
  refine r_if_eq (pc := 54) dX4_pass_54 rfl (fun hc2 => ?_) (fun hc2 => ?_)
  · replace h := if_t hc2 h
    exact pX4_pass_64 hN h
  replace h := if_f hc2 h
  refine r_aload_n (pc := 57) dX4_pass_57 rfl 0 rfl ?_
  refine r_get (pc := 58) (j := 1) (v := .ref 4) oA2 cf4 flRX4_22 rfl dX4_pass_58 rfl ?_
  replace h := lt_e h; obtain ⟨w3, ew3, h⟩ := h
  refine r_cVv (pc := 61) wyX9_fail oA4 rfl mlRX4_103 iyX9_fail syX9_fail ⟨(Nat.le_of_ble_eq_true rfl), (Nat.le_of_ble_eq_true rfl)⟩ rfl rfl (Nat.le_of_ble_eq_true rfl) dX4_pass_61 (mX9_fail ew3 (pV.mk ?_))
  exact pX4_pass_64 hN h
def fX4_pass (a1 : Bool) (w : Wd) : Option Wd :=
  lt (fX1_restart a1 w) fun w1 => lt (fX2_clear w1) fun w2 => lt2 (fX4_head 0 w2) fun x3 w4 => lt (fX9_kind w4) fun x5 => if x5 = 4 then (bn2 (RX4_block 900 0 0 0 0 w4) fun _ w8 => fX4_pass_47 x3 w8) else (lt (fX9_fail w4) fun w9 => fX4_pass_47 x3 w9)
theorem pX4_pass {q : Gq} {l : Launch} {N : Option Value → Wd → Prop} {X : String → Wd → Prop} {w : Wd} {R : Wd} (hN : N none R) {a1 : Bool} (h : fX4_pass a1 w = some R) : RT (GA q) l 1812 yX4_pass cX4_pass 3 (none) N X 0 [] [(0, .ref 2), (1, .int (b2i a1))] w := by
  unfold fX4_pass at h
  refine r_aload_n (pc := 0) dX4_pass_0 rfl 0 rfl ?_
  refine r_get (pc := 1) (j := 0) (v := .ref 3) oA2 cf4 flRX4_12 rfl dX4_pass_1 rfl ?_
  refine r_iload_n (pc := 4) dX4_pass_4 rfl 1 rfl ?_
  replace h := lt_e h; obtain ⟨w1, ew1, h⟩ := h
  refine r_cVv (pc := 5) wyX1_restart oA3 rfl mlRX4_88 iyX1_restart syX1_restart ⟨(Nat.le_of_ble_eq_true rfl), (Nat.le_of_ble_eq_true rfl)⟩ rfl rfl (Nat.le_of_ble_eq_true rfl) dX4_pass_5 (mX1_restart ew1 (pV.mk ?_))
  refine r_aload_n (pc := 8) dX4_pass_8 rfl 0 rfl ?_
  refine r_get (pc := 9) (j := 6) (v := .ref 42) oA2 cf4 flRX4_48 rfl dX4_pass_9 rfl ?_
  replace h := lt_e h; obtain ⟨w2, ew2, h⟩ := h
  refine r_cVv (pc := 12) wyX2_clear oA42 rfl mlRX4_91 iyX2_clear syX2_clear ⟨(Nat.le_of_ble_eq_true rfl), (Nat.le_of_ble_eq_true rfl)⟩ rfl rfl (Nat.le_of_ble_eq_true rfl) dX4_pass_12 (mX2_clear ew2 (pV.mk ?_))
  refine r_aload_n (pc := 15) dX4_pass_15 rfl 0 rfl ?_
  refine r_iconst (pc := 16) dX4_pass_16 ki_0 ?_
  replace h := lt2_e h; obtain ⟨x3, w4, ew4, h⟩ := h
  refine r_cVi (pc := 17) wyX4_head oA2 rfl mlRX4_92 iyX4_head syX4_head ⟨(Nat.le_of_ble_eq_true rfl), (Nat.le_of_ble_eq_true rfl)⟩ rfl rfl (Nat.le_of_ble_eq_true rfl) dX4_pass_17 (mX4_head ew4 (pI.mk ?_))
  refine r_istore_n (pc := 20) (loc' := [(2, .int x3), (0, .ref 2), (1, .int (b2i a1))]) dX4_pass_20 rfl (Nat.le_of_ble_eq_true rfl) rfl ?_
  refine r_aload_n (pc := 21) dX4_pass_21 rfl 1 rfl ?_
  refine r_get (pc := 22) (j := 1) (v := .ref 4) oA2 cf4 flRX4_22 rfl dX4_pass_22 rfl ?_
  replace h := lt_e h; obtain ⟨x5, ex5, h⟩ := h
  refine r_cVi (pc := 25) wyX9_kind oA4 rfl mlRX4_96 iyX9_kind syX9_kind ⟨(Nat.le_of_ble_eq_true rfl), (Nat.le_of_ble_eq_true rfl)⟩ rfl rfl (Nat.le_of_ble_eq_true rfl) dX4_pass_25 (mX9_kind ex5 (pI.mk ?_))
  refine r_iconst (pc := 28) dX4_pass_28 ki_4 ?_
  refine r_icmp_ne (pc := 29) dX4_pass_29 rfl (fun hc6 => ?_) (fun hc6 => ?_)
  · replace h := if_f hc6 h
    refine r_aload_n (pc := 40) dX4_pass_40 rfl 1 rfl ?_
    refine r_get (pc := 41) (j := 1) (v := .ref 4) oA2 cf4 flRX4_22 rfl dX4_pass_41 rfl ?_
    replace h := lt_e h; obtain ⟨w9, ew9, h⟩ := h
    refine r_cVv (pc := 44) wyX9_fail oA4 rfl mlRX4_103 iyX9_fail syX9_fail ⟨(Nat.le_of_ble_eq_true rfl), (Nat.le_of_ble_eq_true rfl)⟩ rfl rfl (Nat.le_of_ble_eq_true rfl) dX4_pass_44 (mX9_fail ew9 (pV.mk ?_))
    refine r_drop (loc' := [(0, .ref 2), (2, .int x3)]) [1, 0] rfl ?_
    exact pX4_pass_47 hN h
  replace h := if_t hc6 h
  refine r_aload_n (pc := 32) dX4_pass_32 rfl 1 rfl ?_
  refine r_iconst (pc := 33) dX4_pass_33 ki_0 ?_
  replace h := bn2_e h; obtain ⟨x7, w8, ew8, h⟩ := h
  refine r_cVv (pc := 34) wyX4_block oA2 rfl mlRX4_99 iyX4_block syX4_block ⟨(Nat.le_of_ble_eq_true rfl), (Nat.le_of_ble_eq_true rfl)⟩ rfl rfl (Nat.le_of_ble_eq_true rfl) dX4_pass_34 (mX4_block ew8 (pV.mk ?_))
  refine r_goto (pc := 37) dX4_pass_37 rfl ?_
  refine r_drop (loc' := [(0, .ref 2), (2, .int x3)]) [1, 0] rfl ?_
  exact pX4_pass_47 hN h
theorem mX4_pass {q : Gq} {l : Launch} {N : Option Value → Wd → Prop} {X : String → Wd → Prop} {a1 : Bool} {w : Wd} {u : Wd} (h : fX4_pass a1 w = some u) (hN : N none u) : Ct (GA q) l 1812 yX4_pass cX4_pass 3 (none) [.ref 2, .int (b2i a1)] w N X := Ct.of (by decide) (Nat.le_of_ble_eq_true rfl) (pX4_pass hN h)
/-! AlgolMill$Maker.make ([II)Z: O, 1813 -/
theorem dX4_make_0 : decode cX4_make 0 = .ok (.aload_n 0, 1) := by decide +kernel
theorem dX4_make_1 : decode cX4_make 1 = .ok (.getfield 22, 3) := by decide +kernel
theorem dX4_make_4 : decode cX4_make 4 = .ok (.aload_n 1, 1) := by decide +kernel
theorem dX4_make_5 : decode cX4_make 5 = .ok (.iload_n 2, 1) := by decide +kernel
theorem dX4_make_6 : decode cX4_make 6 = .ok (.invokevirtual 52, 3) := by decide +kernel
theorem dX4_make_9 : decode cX4_make 9 = .ok (.aload_n 0, 1) := by decide +kernel
theorem dX4_make_10 : decode cX4_make 10 = .ok (.getfield 12, 3) := by decide +kernel
theorem dX4_make_13 : decode cX4_make 13 = .ok (.invokevirtual 58, 3) := by decide +kernel
theorem dX4_make_16 : decode cX4_make 16 = .ok (.aload_n 0, 1) := by decide +kernel
theorem dX4_make_17 : decode cX4_make 17 = .ok (.iconst 0, 1) := by decide +kernel
theorem dX4_make_18 : decode cX4_make 18 = .ok (.invokevirtual 61, 3) := by decide +kernel
theorem dX4_make_21 : decode cX4_make 21 = .ok (.aload_n 0, 1) := by decide +kernel
theorem dX4_make_22 : decode cX4_make 22 = .ok (.getfield 22, 3) := by decide +kernel
theorem dX4_make_25 : decode cX4_make 25 = .ok (.invokevirtual 65, 3) := by decide +kernel
theorem dX4_make_28 : decode cX4_make 28 = .ok (.ifCond .eq 28, 3) := by decide +kernel
theorem dX4_make_31 : decode cX4_make 31 = .ok (.aload_n 0, 1) := by decide +kernel
theorem dX4_make_32 : decode cX4_make 32 = .ok (.getfield 12, 3) := by decide +kernel
theorem dX4_make_35 : decode cX4_make 35 = .ok (.iconst 1, 1) := by decide +kernel
theorem dX4_make_36 : decode cX4_make 36 = .ok (.putfield 69, 3) := by decide +kernel
theorem dX4_make_39 : decode cX4_make 39 = .ok (.aload_n 0, 1) := by decide +kernel
theorem dX4_make_40 : decode cX4_make 40 = .ok (.getfield 12, 3) := by decide +kernel
theorem dX4_make_43 : decode cX4_make 43 = .ok (.aload_n 0, 1) := by decide +kernel
theorem dX4_make_44 : decode cX4_make 44 = .ok (.getfield 22, 3) := by decide +kernel
theorem dX4_make_47 : decode cX4_make 47 = .ok (.invokevirtual 73, 3) := by decide +kernel
theorem dX4_make_50 : decode cX4_make 50 = .ok (.putfield 77, 3) := by decide +kernel
theorem dX4_make_53 : decode cX4_make 53 = .ok (.goto 8, 3) := by decide +kernel
theorem dX4_make_56 : decode cX4_make 56 = .ok (.aload_n 0, 1) := by decide +kernel
theorem dX4_make_57 : decode cX4_make 57 = .ok (.iconst 1, 1) := by decide +kernel
theorem dX4_make_58 : decode cX4_make 58 = .ok (.invokevirtual 61, 3) := by decide +kernel
theorem dX4_make_61 : decode cX4_make 61 = .ok (.aload_n 0, 1) := by decide +kernel
theorem dX4_make_62 : decode cX4_make 62 = .ok (.getfield 12, 3) := by decide +kernel
theorem dX4_make_65 : decode cX4_make 65 = .ok (.getfield 69, 3) := by decide +kernel
theorem dX4_make_68 : decode cX4_make 68 = .ok (.ifCond .ne 7, 3) := by decide +kernel
theorem dX4_make_71 : decode cX4_make 71 = .ok (.iconst 1, 1) := by decide +kernel
theorem dX4_make_72 : decode cX4_make 72 = .ok (.goto 4, 3) := by decide +kernel
theorem dX4_make_75 : decode cX4_make 75 = .ok (.iconst 0, 1) := by decide +kernel
theorem dX4_make_76 : decode cX4_make 76 = .ok (.ireturn, 1) := by decide +kernel
def fX4_make (a2 : Int32) (w : Wd) : Option (Bool × Wd) :=
  bn (fX9_read a2 w) fun w1 => bn (fX1_clear w1) fun w2 => bn (fX4_pass false w2) fun w3 => lt (fX9_failed w3) fun x4 => if x4 = true then (lt (si w3 3 6 1) fun w6 => lt (fX9_failedAt w6) fun x7 => lt (si w6 3 7 x7) fun w8 => if (gi w8 3 6) = 0 then (some (true, w8)) else (some (false, w8))) else (bn (fX4_pass true w3) fun w10 => if (gi w10 3 6) = 0 then (some (true, w10)) else (some (false, w10)))
theorem pX4_make {q : Gq} {l : Launch} {N : Option Value → Wd → Prop} {X : String → Wd → Prop} (hz : SGN q l) {w : Wd} {R : Bool × Wd} (hN : N (some (.int (b2i R.1))) R.2) {a2 : Int32} (h : fX4_make a2 w = some R) : RT (GA q) l 1813 yX4_make cX4_make 3 ((some .boolean)) N X 0 [] [(0, .ref 2), (1, .ref 1), (2, .int a2)] w := by
  unfold fX4_make at h
  refine r_aload_n (pc := 0) dX4_make_0 rfl 0 rfl ?_
  refine r_get (pc := 1) (j := 1) (v := .ref 4) oA2 cf4 flRX4_22 rfl dX4_make_1 rfl ?_
  refine r_aload_n (pc := 4) dX4_make_4 rfl 1 rfl ?_
  refine r_iload_n (pc := 5) dX4_make_5 rfl 2 rfl ?_
  replace h := bn_e h; obtain ⟨w1, ew1, h⟩ := h
  refine r_cVv (pc := 6) wyX9_read oA4 rfl mlRX4_52 iyX9_read syX9_read ⟨(Nat.le_of_ble_eq_true rfl), (Nat.le_of_ble_eq_true rfl)⟩ rfl rfl (Nat.le_of_ble_eq_true rfl) dX4_make_6 (mX9_read hz ew1 (pV.mk ?_))
  refine r_aload_n (pc := 9) dX4_make_9 rfl 0 rfl ?_
  refine r_get (pc := 10) (j := 0) (v := .ref 3) oA2 cf4 flRX4_12 rfl dX4_make_10 rfl ?_
  replace h := bn_e h; obtain ⟨w2, ew2, h⟩ := h
  refine r_cVv (pc := 13) wyX1_clear oA3 rfl mlRX4_58 iyX1_clear syX1_clear ⟨(Nat.le_of_ble_eq_true rfl), (Nat.le_of_ble_eq_true rfl)⟩ rfl rfl (Nat.le_of_ble_eq_true rfl) dX4_make_13 (mX1_clear ew2 (pV.mk ?_))
  refine r_aload_n (pc := 16) dX4_make_16 rfl 0 rfl ?_
  refine r_iconst (pc := 17) dX4_make_17 ki_0 ?_
  replace h := bn_e h; obtain ⟨w3, ew3, h⟩ := h
  refine r_cVv (pc := 18) wyX4_pass oA2 rfl mlRX4_61 iyX4_pass syX4_pass ⟨(Nat.le_of_ble_eq_true rfl), (Nat.le_of_ble_eq_true rfl)⟩ rfl rfl (Nat.le_of_ble_eq_true rfl) dX4_make_18 (mX4_pass ew3 (pV.mk ?_))
  refine r_aload_n (pc := 21) dX4_make_21 rfl 0 rfl ?_
  refine r_get (pc := 22) (j := 1) (v := .ref 4) oA2 cf4 flRX4_22 rfl dX4_make_22 rfl ?_
  replace h := lt_e h; obtain ⟨x4, ex4, h⟩ := h
  refine r_cVi (pc := 25) wyX9_failed oA4 rfl mlRX4_65 iyX9_failed syX9_failed ⟨(Nat.le_of_ble_eq_true rfl), (Nat.le_of_ble_eq_true rfl)⟩ rfl rfl (Nat.le_of_ble_eq_true rfl) dX4_make_25 (mX9_failed ex4 (pI.mk ?_))
  refine r_z_eq (pc := 28) dX4_make_28 rfl (fun hc5 => ?_) (fun hc5 => ?_)
  · replace h := if_f hc5 h
    refine r_aload_n (pc := 56) dX4_make_56 rfl 0 rfl ?_
    refine r_iconst (pc := 57) dX4_make_57 ki_1 ?_
    replace h := bn_e h; obtain ⟨w10, ew10, h⟩ := h
    refine r_cVv (pc := 58) wyX4_pass oA2 rfl mlRX4_61 iyX4_pass syX4_pass ⟨(Nat.le_of_ble_eq_true rfl), (Nat.le_of_ble_eq_true rfl)⟩ rfl rfl (Nat.le_of_ble_eq_true rfl) dX4_make_58 (mX4_pass ew10 (pV.mk ?_))
    refine r_aload_n (pc := 61) dX4_make_61 rfl 0 rfl ?_
    refine r_get (pc := 62) (j := 0) (v := .ref 3) oA2 cf4 flRX4_12 rfl dX4_make_62 rfl ?_
    refine r_get (pc := 65) (j := 6) (v := .int (gi w10 3 6)) oA3 cf1 flRX4_69 rfl dX4_make_65 rfl ?_
    refine r_if_ne (pc := 68) dX4_make_68 rfl (fun hc11 => ?_) (fun hc11 => ?_)
    · replace h := if_f hc11 h
      refine r_iconst (pc := 75) dX4_make_75 ki_0 ?_
      exact rO_z (pc := 76) (x := false) rfl dX4_make_76 h hN
    replace h := if_t hc11 h
    refine r_iconst (pc := 71) dX4_make_71 ki_1 ?_
    refine r_goto (pc := 72) dX4_make_72 rfl ?_
    exact rO_z (pc := 76) (x := true) rfl dX4_make_76 h hN
  replace h := if_t hc5 h
  refine r_aload_n (pc := 31) dX4_make_31 rfl 0 rfl ?_
  refine r_get (pc := 32) (j := 0) (v := .ref 3) oA2 cf4 flRX4_12 rfl dX4_make_32 rfl ?_
  refine r_iconst (pc := 35) dX4_make_35 ki_1 ?_
  replace h := lt_e h; obtain ⟨w6, ew6, h⟩ := h
  refine r_putI (pc := 36) (j := 6) oA3 cf1 flRX4_69 rfl rfl rfl rfl dX4_make_36 ?_
  refine r_w ew6 ?_
  refine r_aload_n (pc := 39) dX4_make_39 rfl 0 rfl ?_
  refine r_get (pc := 40) (j := 0) (v := .ref 3) oA2 cf4 flRX4_12 rfl dX4_make_40 rfl ?_
  refine r_aload_n (pc := 43) dX4_make_43 rfl 0 rfl ?_
  refine r_get (pc := 44) (j := 1) (v := .ref 4) oA2 cf4 flRX4_22 rfl dX4_make_44 rfl ?_
  replace h := lt_e h; obtain ⟨x7, ex7, h⟩ := h
  refine r_cVi (pc := 47) wyX9_failedAt oA4 rfl mlRX4_73 iyX9_failedAt syX9_failedAt ⟨(Nat.le_of_ble_eq_true rfl), (Nat.le_of_ble_eq_true rfl)⟩ rfl rfl (Nat.le_of_ble_eq_true rfl) dX4_make_47 (mX9_failedAt ex7 (pI.mk ?_))
  replace h := lt_e h; obtain ⟨w8, ew8, h⟩ := h
  refine r_putI (pc := 50) (j := 7) oA3 cf1 flRX4_77 rfl rfl rfl rfl dX4_make_50 ?_
  refine r_w ew8 ?_
  refine r_goto (pc := 53) dX4_make_53 rfl ?_
  refine r_aload_n (pc := 61) dX4_make_61 rfl 0 rfl ?_
  refine r_get (pc := 62) (j := 0) (v := .ref 3) oA2 cf4 flRX4_12 rfl dX4_make_62 rfl ?_
  refine r_get (pc := 65) (j := 6) (v := .int (gi w8 3 6)) oA3 cf1 flRX4_69 rfl dX4_make_65 rfl ?_
  refine r_if_ne (pc := 68) dX4_make_68 rfl (fun hc9 => ?_) (fun hc9 => ?_)
  · replace h := if_f hc9 h
    refine r_iconst (pc := 75) dX4_make_75 ki_0 ?_
    exact rO_z (pc := 76) (x := false) rfl dX4_make_76 h hN
  replace h := if_t hc9 h
  refine r_iconst (pc := 71) dX4_make_71 ki_1 ?_
  refine r_goto (pc := 72) dX4_make_72 rfl ?_
  exact rO_z (pc := 76) (x := true) rfl dX4_make_76 h hN
theorem mX4_make {q : Gq} {l : Launch} {N : Option Value → Wd → Prop} {X : String → Wd → Prop} {a2 : Int32} {w : Wd} (hz : SGN q l) {x : Bool} {u : Wd} (h : fX4_make a2 w = some (x, u)) (hN : N (some (.int (b2i x))) u) : Ct (GA q) l 1813 yX4_make cX4_make 3 ((some .boolean)) [.ref 2, .ref 1, .int a2] w N X := Ct.of (by decide) (Nat.le_of_ble_eq_true rfl) (pX4_make hz hN h)
