/-! Machine, the other half -/
theorem kb_11 : (Int8.ofInt 11).toInt32 = 11 := by decide
theorem kb_16 : (Int8.ofInt 16).toInt32 = 16 := by decide
theorem kb_30 : (Int8.ofInt 30).toInt32 = 30 := by decide
theorem kb_60 : (Int8.ofInt 60).toInt32 = 60 := by decide
theorem ks_2047 : (Int16.ofInt 2047).toInt32 = 2047 := by decide
theorem kcRX3_220 : Cond.constantLong RX3 220 3 ∈ TB := tb1 sg8 180 rfl rfl
theorem kcRX3_222 : Cond.constantLong RX3 222 2001 ∈ TB := tb1 sg8 202 rfl rfl
theorem kcRX3_229 : Cond.constantLong RX3 229 2000 ∈ TB := tb1 sg8 207 rfl rfl
theorem kcRX3_90 : Cond.constantLong RX3 90 2 ∈ TB := tb1 sg8 118 rfl rfl
theorem kcRX3_92 : Cond.constantLong RX3 92 4 ∈ TB := tb1 sg8 119 rfl rfl
theorem kcRX3_94 : Cond.constantLong RX3 94 36872 ∈ TB := tb1 sg8 120 rfl rfl
/-! AlgolMill$Machine.pop ()J: S, 4 -/
theorem dX3_pop_0 : decode cX3_pop 0 = .ok (.aload_n 0, 1) := by decide +kernel
theorem dX3_pop_1 : decode cX3_pop 1 = .ok (.getfield 117, 3) := by decide +kernel
theorem dX3_pop_4 : decode cX3_pop 4 = .ok (.ifCond .gt 9, 3) := by decide +kernel
theorem dX3_pop_7 : decode cX3_pop 7 = .ok (.aload_n 0, 1) := by decide +kernel
theorem dX3_pop_8 : decode cX3_pop 8 = .ok (.invokevirtual 102, 3) := by decide +kernel
theorem dX3_pop_11 : decode cX3_pop 11 = .ok (.lconst 0, 1) := by decide +kernel
theorem dX3_pop_12 : decode cX3_pop 12 = .ok (.lreturn, 1) := by decide +kernel
theorem dX3_pop_13 : decode cX3_pop 13 = .ok (.aload_n 0, 1) := by decide +kernel
theorem dX3_pop_14 : decode cX3_pop 14 = .ok (.dup, 1) := by decide +kernel
theorem dX3_pop_15 : decode cX3_pop 15 = .ok (.getfield 117, 3) := by decide +kernel
theorem dX3_pop_18 : decode cX3_pop 18 = .ok (.iconst 1, 1) := by decide +kernel
theorem dX3_pop_19 : decode cX3_pop 19 = .ok (.isub, 1) := by decide +kernel
theorem dX3_pop_20 : decode cX3_pop 20 = .ok (.putfield 117, 3) := by decide +kernel
theorem dX3_pop_23 : decode cX3_pop 23 = .ok (.aload_n 0, 1) := by decide +kernel
theorem dX3_pop_24 : decode cX3_pop 24 = .ok (.getfield 24, 3) := by decide +kernel
theorem dX3_pop_27 : decode cX3_pop 27 = .ok (.aload_n 0, 1) := by decide +kernel
theorem dX3_pop_28 : decode cX3_pop 28 = .ok (.getfield 117, 3) := by decide +kernel
theorem dX3_pop_31 : decode cX3_pop 31 = .ok (.invokestatic 63, 3) := by decide +kernel
theorem dX3_pop_34 : decode cX3_pop 34 = .ok (.lreturn, 1) := by decide +kernel
def fX3_pop (w : Wd) : Int64 × Wd :=
  if 0 < (gi w 48 14) then (lt (si w 48 14 ((gi w 48 14) - 1)) fun w2 => lt (rgl w2 51 30622 (gi w2 48 14)) fun x3 => (x3, w2)) else (lt (fX3_oddity w) fun w4 => (0, w4))
theorem pX3_pop {q : Gq} {l : Launch} {N : Option Value → Wd → Prop} {X : String → Wd → Prop} {w : Wd} {R : Int64 × Wd} (hN : N (some (.long R.1)) R.2) (h : fX3_pop w = R) : RT (GA q) l 4 yX3_pop cX3_pop 1 ((some .long)) N X 0 [] [(0, .ref 48)] w := by
  unfold fX3_pop at h
  refine r_aload_n (pc := 0) dX3_pop_0 rfl 0 rfl ?_
  refine r_get (pc := 1) (j := 14) (v := .int (gi w 48 14)) oA48 cf3 flRX3_117 rfl dX3_pop_1 rfl ?_
  refine r_if_gt (pc := 4) dX3_pop_4 rfl (fun hc1 => ?_) (fun hc1 => ?_)
  · replace h := if_t hc1 h
    refine r_aload_n (pc := 13) dX3_pop_13 rfl 0 rfl ?_
    refine r_dup (pc := 14) dX3_pop_14 rfl ?_
    refine r_get (pc := 15) (j := 14) (v := .int (gi w 48 14)) oA48 cf3 flRX3_117 rfl dX3_pop_15 rfl ?_
    refine r_iconst (pc := 18) dX3_pop_18 ki_1 ?_
    refine r_isub (pc := 19) dX3_pop_19 ?_
    replace h := lt_e h; obtain ⟨w2, ew2, h⟩ := h
    refine r_putI (pc := 20) (j := 14) oA48 cf3 flRX3_117 rfl rfl rfl rfl dX3_pop_20 ?_
    refine r_w ew2 ?_
    refine r_aload_n (pc := 23) dX3_pop_23 rfl 0 rfl ?_
    refine r_get (pc := 24) (j := 2) (v := .ref 51) oA48 cf3 flRX3_24 rfl dX3_pop_24 rfl ?_
    refine r_aload_n (pc := 27) dX3_pop_27 rfl 0 rfl ?_
    refine r_get (pc := 28) (j := 14) (v := .int (gi w2 48 14)) oA48 cf3 flRX3_117 rfl dX3_pop_28 rfl ?_
    replace h := lt_e h; obtain ⟨x3, ex3, h⟩ := h
    refine r_cSl (pc := 31) wyX6_get_ mlRX3_63 tyX6_get_ ⟨(Nat.le_of_ble_eq_true rfl), (Nat.le_of_ble_eq_true rfl)⟩ rfl rfl (Nat.le_of_ble_eq_true rfl) dX3_pop_31 (mX6_get_ aA51 (Nat.le_of_ble_eq_true rfl) ex3 (pL.mk ?_))
    exact rS_l (pc := 34) rfl dX3_pop_34 h hN
  replace h := if_f hc1 h
  refine r_aload_n (pc := 7) dX3_pop_7 rfl 0 rfl ?_
  replace h := lt_e h; obtain ⟨w4, ew4, h⟩ := h
  refine r_cVv (pc := 8) wyX3_oddity oA48 rfl mlRX3_102 iyX3_oddity syX3_oddity ⟨(Nat.le_of_ble_eq_true rfl), (Nat.le_of_ble_eq_true rfl)⟩ rfl rfl (Nat.le_of_ble_eq_true rfl) dX3_pop_8 (mX3_oddity ew4 (pV.mk ?_))
  refine r_lconst (pc := 11) dX3_pop_11 kl_0 ?_
  exact rS_l (pc := 12) rfl dX3_pop_12 h hN
theorem mX3_pop {q : Gq} {l : Launch} {N : Option Value → Wd → Prop} {X : String → Wd → Prop} {w : Wd} {x : Int64} {u : Wd} (h : fX3_pop w = (x, u)) (hN : N (some (.long x)) u) : Ct (GA q) l 4 yX3_pop cX3_pop 1 ((some .long)) [.ref 48] w N X := Ct.of (by decide) (Nat.le_of_ble_eq_true rfl) (pX3_pop hN h)
/-! AlgolMill$Machine.call ()V: O, 7 -/
theorem dX3_call_0 : decode cX3_call 0 = .ok (.aload_n 0, 1) := by decide +kernel
theorem dX3_call_1 : decode cX3_call 1 = .ok (.invokevirtual 160, 3) := by decide +kernel
theorem dX3_call_4 : decode cX3_call 4 = .ok (.l2i, 1) := by decide +kernel
theorem dX3_call_5 : decode cX3_call 5 = .ok (.istore_n 1, 1) := by decide +kernel
theorem dX3_call_6 : decode cX3_call 6 = .ok (.aload_n 0, 1) := by decide +kernel
theorem dX3_call_7 : decode cX3_call 7 = .ok (.invokevirtual 160, 3) := by decide +kernel
theorem dX3_call_10 : decode cX3_call 10 = .ok (.l2i, 1) := by decide +kernel
theorem dX3_call_11 : decode cX3_call 11 = .ok (.istore_n 2, 1) := by decide +kernel
theorem dX3_call_12 : decode cX3_call 12 = .ok (.aload_n 0, 1) := by decide +kernel
theorem dX3_call_13 : decode cX3_call 13 = .ok (.iload_n 2, 1) := by decide +kernel
theorem dX3_call_14 : decode cX3_call 14 = .ok (.aload_n 0, 1) := by decide +kernel
theorem dX3_call_15 : decode cX3_call 15 = .ok (.getfield 143, 3) := by decide +kernel
theorem dX3_call_18 : decode cX3_call 18 = .ok (.invokevirtual 262, 3) := by decide +kernel
theorem dX3_call_21 : decode cX3_call 21 = .ok (.aload_n 0, 1) := by decide +kernel
theorem dX3_call_22 : decode cX3_call 22 = .ok (.iload_n 2, 1) := by decide +kernel
theorem dX3_call_23 : decode cX3_call 23 = .ok (.iload_n 1, 1) := by decide +kernel
theorem dX3_call_24 : decode cX3_call 24 = .ok (.invokevirtual 132, 3) := by decide +kernel
theorem dX3_call_27 : decode cX3_call 27 = .ok (.return_, 1) := by decide +kernel
def fX3_call (w : Wd) : Option Wd :=
  lt2 (fX3_pop w) fun x1 w2 => lt ((Int64.toInt32 x1)) fun x3 => lt2 (fX3_pop w2) fun x4 w5 => lt ((Int64.toInt32 x4)) fun x6 => lt (fX3_goThere x6 (gi w5 48 12) w5) fun w7 => bn (fX3_enterFrame x6 x3 w7) fun w8 => some w8
theorem pX3_call {q : Gq} {l : Launch} {N : Option Value → Wd → Prop} {X : String → Wd → Prop} {w : Wd} {R : Wd} (hN : N none R) (h : fX3_call w = some R) : RT (GA q) l 7 yX3_call cX3_call 3 (none) N X 0 [] [(0, .ref 48)] w := by
  unfold fX3_call at h
  refine r_aload_n (pc := 0) dX3_call_0 rfl 0 rfl ?_
  replace h := lt2_e h; obtain ⟨x1, w2, ew2, h⟩ := h
  refine r_cVl (pc := 1) wyX3_pop oA48 rfl mlRX3_160 iyX3_pop syX3_pop ⟨(Nat.le_of_ble_eq_true rfl), (Nat.le_of_ble_eq_true rfl)⟩ rfl rfl (Nat.le_of_ble_eq_true rfl) dX3_call_1 (mX3_pop ew2 (pL.mk ?_))
  refine r_l2i (pc := 4) dX3_call_4 ?_
  replace h := lt_e h; obtain ⟨x3, ex3, h⟩ := h
  refine r_topi ex3 ?_
  refine r_istore_n (pc := 5) (loc' := [(1, .int x3), (0, .ref 48)]) dX3_call_5 rfl (Nat.le_of_ble_eq_true rfl) rfl ?_
  refine r_aload_n (pc := 6) dX3_call_6 rfl 1 rfl ?_
  replace h := lt2_e h; obtain ⟨x4, w5, ew5, h⟩ := h
  refine r_cVl (pc := 7) wyX3_pop oA48 rfl mlRX3_160 iyX3_pop syX3_pop ⟨(Nat.le_of_ble_eq_true rfl), (Nat.le_of_ble_eq_true rfl)⟩ rfl rfl (Nat.le_of_ble_eq_true rfl) dX3_call_7 (mX3_pop ew5 (pL.mk ?_))
  refine r_l2i (pc := 10) dX3_call_10 ?_
  replace h := lt_e h; obtain ⟨x6, ex6, h⟩ := h
  refine r_topi ex6 ?_
  refine r_istore_n (pc := 11) (loc' := [(2, .int x6), (1, .int x3), (0, .ref 48)]) dX3_call_11 rfl (Nat.le_of_ble_eq_true rfl) rfl ?_
  refine r_aload_n (pc := 12) dX3_call_12 rfl 2 rfl ?_
  refine r_iload_n (pc := 13) dX3_call_13 rfl 0 rfl ?_
  refine r_aload_n (pc := 14) dX3_call_14 rfl 2 rfl ?_
  refine r_get (pc := 15) (j := 12) (v := .int (gi w5 48 12)) oA48 cf3 flRX3_143 rfl dX3_call_15 rfl ?_
  replace h := lt_e h; obtain ⟨w7, ew7, h⟩ := h
  refine r_cVv (pc := 18) wyX3_goThere oA48 rfl mlRX3_262 iyX3_goThere syX3_goThere ⟨(Nat.le_of_ble_eq_true rfl), (Nat.le_of_ble_eq_true rfl)⟩ rfl rfl (Nat.le_of_ble_eq_true rfl) dX3_call_18 (mX3_goThere ew7 (pV.mk ?_))
  refine r_aload_n (pc := 21) dX3_call_21 rfl 2 rfl ?_
  refine r_iload_n (pc := 22) dX3_call_22 rfl 0 rfl ?_
  refine r_iload_n (pc := 23) dX3_call_23 rfl 1 rfl ?_
  replace h := bn_e h; obtain ⟨w8, ew8, h⟩ := h
  refine r_cVv (pc := 24) wyX3_enterFrame oA48 rfl mlRX3_132 iyX3_enterFrame syX3_enterFrame ⟨(Nat.le_of_ble_eq_true rfl), (Nat.le_of_ble_eq_true rfl)⟩ rfl rfl (Nat.le_of_ble_eq_true rfl) dX3_call_24 (mX3_enterFrame ew8 (pV.mk ?_))
  exact rO_v (pc := 27) rfl dX3_call_27 h hN
theorem mX3_call {q : Gq} {l : Launch} {N : Option Value → Wd → Prop} {X : String → Wd → Prop} {w : Wd} {u : Wd} (h : fX3_call w = some u) (hN : N none u) : Ct (GA q) l 7 yX3_call cX3_call 3 (none) [.ref 48] w N X := Ct.of (by decide) (Nat.le_of_ble_eq_true rfl) (pX3_call hN h)
/-! AlgolMill$Machine.pay ()Z: S, 3 -/
theorem dX3_pay_0 : decode cX3_pay 0 = .ok (.aload_n 0, 1) := by decide +kernel
theorem dX3_pay_1 : decode cX3_pay 1 = .ok (.iconst 4, 1) := by decide +kernel
theorem dX3_pay_2 : decode cX3_pay 2 = .ok (.invokevirtual 73, 3) := by decide +kernel
theorem dX3_pay_5 : decode cX3_pay 5 = .ok (.aload_n 0, 1) := by decide +kernel
theorem dX3_pay_6 : decode cX3_pay 6 = .ok (.getfield 105, 3) := by decide +kernel
theorem dX3_pay_9 : decode cX3_pay 9 = .ok (.if_icmp .lt 10, 3) := by decide +kernel
theorem dX3_pay_12 : decode cX3_pay 12 = .ok (.aload_n 0, 1) := by decide +kernel
theorem dX3_pay_13 : decode cX3_pay 13 = .ok (.iconst (-1), 1) := by decide +kernel
theorem dX3_pay_14 : decode cX3_pay 14 = .ok (.putfield 96, 3) := by decide +kernel
theorem dX3_pay_17 : decode cX3_pay 17 = .ok (.iconst 0, 1) := by decide +kernel
theorem dX3_pay_18 : decode cX3_pay 18 = .ok (.ireturn, 1) := by decide +kernel
theorem dX3_pay_19 : decode cX3_pay 19 = .ok (.aload_n 0, 1) := by decide +kernel
theorem dX3_pay_20 : decode cX3_pay 20 = .ok (.iconst 4, 1) := by decide +kernel
theorem dX3_pay_21 : decode cX3_pay 21 = .ok (.invokevirtual 136, 3) := by decide +kernel
theorem dX3_pay_24 : decode cX3_pay 24 = .ok (.iconst 1, 1) := by decide +kernel
theorem dX3_pay_25 : decode cX3_pay 25 = .ok (.ireturn, 1) := by decide +kernel
def fX3_pay (w : Wd) : Bool × Wd :=
  lt (fX3_tally 4 w) fun x1 => if x1 < (gi w 48 17) then (lt (fX3_countOne 4 w) fun w3 => (true, w3)) else (lt (si w 48 10 (-1)) fun w4 => (false, w4))
theorem pX3_pay {q : Gq} {l : Launch} {N : Option Value → Wd → Prop} {X : String → Wd → Prop} {w : Wd} {R : Bool × Wd} (hN : N (some (.int (b2i R.1))) R.2) (h : fX3_pay w = R) : RT (GA q) l 3 yX3_pay cX3_pay 1 ((some .boolean)) N X 0 [] [(0, .ref 48)] w := by
  unfold fX3_pay at h
  refine r_aload_n (pc := 0) dX3_pay_0 rfl 0 rfl ?_
  refine r_iconst (pc := 1) dX3_pay_1 ki_4 ?_
  replace h := lt_e h; obtain ⟨x1, ex1, h⟩ := h
  refine r_cVi (pc := 2) wyX3_tally oA48 rfl mlRX3_73 iyX3_tally syX3_tally ⟨(Nat.le_of_ble_eq_true rfl), (Nat.le_of_ble_eq_true rfl)⟩ rfl rfl (Nat.le_of_ble_eq_true rfl) dX3_pay_2 (mX3_tally ex1 (pI.mk ?_))
  refine r_aload_n (pc := 5) dX3_pay_5 rfl 0 rfl ?_
  refine r_get (pc := 6) (j := 17) (v := .int (gi w 48 17)) oA48 cf3 flRX3_105 rfl dX3_pay_6 rfl ?_
  refine r_icmp_lt (pc := 9) dX3_pay_9 rfl (fun hc2 => ?_) (fun hc2 => ?_)
  · replace h := if_t hc2 h
    refine r_aload_n (pc := 19) dX3_pay_19 rfl 0 rfl ?_
    refine r_iconst (pc := 20) dX3_pay_20 ki_4 ?_
    replace h := lt_e h; obtain ⟨w3, ew3, h⟩ := h
    refine r_cVv (pc := 21) wyX3_countOne oA48 rfl mlRX3_136 iyX3_countOne syX3_countOne ⟨(Nat.le_of_ble_eq_true rfl), (Nat.le_of_ble_eq_true rfl)⟩ rfl rfl (Nat.le_of_ble_eq_true rfl) dX3_pay_21 (mX3_countOne ew3 (pV.mk ?_))
    refine r_iconst (pc := 24) dX3_pay_24 ki_1 ?_
    exact rS_z (pc := 25) (x := true) rfl dX3_pay_25 h hN
  replace h := if_f hc2 h
  refine r_aload_n (pc := 12) dX3_pay_12 rfl 0 rfl ?_
  refine r_iconst (pc := 13) dX3_pay_13 ki_m1 ?_
  replace h := lt_e h; obtain ⟨w4, ew4, h⟩ := h
  refine r_putI (pc := 14) (j := 10) oA48 cf3 flRX3_96 rfl rfl rfl rfl dX3_pay_14 ?_
  refine r_w ew4 ?_
  refine r_iconst (pc := 17) dX3_pay_17 ki_0 ?_
  exact rS_z (pc := 18) (x := false) rfl dX3_pay_18 h hN
theorem mX3_pay {q : Gq} {l : Launch} {N : Option Value → Wd → Prop} {X : String → Wd → Prop} {w : Wd} {x : Bool} {u : Wd} (h : fX3_pay w = (x, u)) (hN : N (some (.int (b2i x))) u) : Ct (GA q) l 3 yX3_pay cX3_pay 1 ((some .boolean)) [.ref 48] w N X := Ct.of (by decide) (Nat.le_of_ble_eq_true rfl) (pX3_pay hN h)
/-! AlgolMill$Machine.deeper ()Z: S, 4 -/
theorem dX3_deeper_0 : decode cX3_deeper 0 = .ok (.aload_n 0, 1) := by decide +kernel
theorem dX3_deeper_1 : decode cX3_deeper 1 = .ok (.invokevirtual 240, 3) := by decide +kernel
theorem dX3_deeper_4 : decode cX3_deeper 4 = .ok (.ifCond .ne 5, 3) := by decide +kernel
theorem dX3_deeper_7 : decode cX3_deeper 7 = .ok (.iconst 0, 1) := by decide +kernel
theorem dX3_deeper_8 : decode cX3_deeper 8 = .ok (.ireturn, 1) := by decide +kernel
theorem dX3_deeper_9 : decode cX3_deeper 9 = .ok (.aload_n 0, 1) := by decide +kernel
theorem dX3_deeper_10 : decode cX3_deeper 10 = .ok (.getfield 114, 3) := by decide +kernel
theorem dX3_deeper_13 : decode cX3_deeper 13 = .ok (.bipush 60, 2) := by decide +kernel
theorem dX3_deeper_15 : decode cX3_deeper 15 = .ok (.if_icmp .lt 11, 3) := by decide +kernel
theorem dX3_deeper_18 : decode cX3_deeper 18 = .ok (.aload_n 0, 1) := by decide +kernel
theorem dX3_deeper_19 : decode cX3_deeper 19 = .ok (.bipush 6, 2) := by decide +kernel
theorem dX3_deeper_21 : decode cX3_deeper 21 = .ok (.invokevirtual 199, 3) := by decide +kernel
theorem dX3_deeper_24 : decode cX3_deeper 24 = .ok (.iconst 0, 1) := by decide +kernel
theorem dX3_deeper_25 : decode cX3_deeper 25 = .ok (.ireturn, 1) := by decide +kernel
theorem dX3_deeper_26 : decode cX3_deeper 26 = .ok (.aload_n 0, 1) := by decide +kernel
theorem dX3_deeper_27 : decode cX3_deeper 27 = .ok (.dup, 1) := by decide +kernel
theorem dX3_deeper_28 : decode cX3_deeper 28 = .ok (.getfield 114, 3) := by decide +kernel
theorem dX3_deeper_31 : decode cX3_deeper 31 = .ok (.iconst 1, 1) := by decide +kernel
theorem dX3_deeper_32 : decode cX3_deeper 32 = .ok (.iadd, 1) := by decide +kernel
theorem dX3_deeper_33 : decode cX3_deeper 33 = .ok (.putfield 114, 3) := by decide +kernel
theorem dX3_deeper_36 : decode cX3_deeper 36 = .ok (.aload_n 0, 1) := by decide +kernel
theorem dX3_deeper_37 : decode cX3_deeper 37 = .ok (.iconst 5, 1) := by decide +kernel
theorem dX3_deeper_38 : decode cX3_deeper 38 = .ok (.aload_n 0, 1) := by decide +kernel
theorem dX3_deeper_39 : decode cX3_deeper 39 = .ok (.getfield 114, 3) := by decide +kernel
theorem dX3_deeper_42 : decode cX3_deeper 42 = .ok (.invokevirtual 231, 3) := by decide +kernel
theorem dX3_deeper_45 : decode cX3_deeper 45 = .ok (.iconst 1, 1) := by decide +kernel
theorem dX3_deeper_46 : decode cX3_deeper 46 = .ok (.ireturn, 1) := by decide +kernel
def fX3_deeper (w : Wd) : Bool × Wd :=
  lt2 (fX3_pay w) fun x1 w2 => if x1 = true then (if (gi w2 48 15) < 60 then (lt (si w2 48 15 ((gi w2 48 15) + 1)) fun w5 => lt (fX3_countMost 5 (gi w5 48 15) w5) fun w6 => (true, w6)) else (lt (fX3_error 6 w2) fun w7 => (false, w7))) else ((false, w2))
theorem pX3_deeper {q : Gq} {l : Launch} {N : Option Value → Wd → Prop} {X : String → Wd → Prop} {w : Wd} {R : Bool × Wd} (hN : N (some (.int (b2i R.1))) R.2) (h : fX3_deeper w = R) : RT (GA q) l 4 yX3_deeper cX3_deeper 1 ((some .boolean)) N X 0 [] [(0, .ref 48)] w := by
  unfold fX3_deeper at h
  refine r_aload_n (pc := 0) dX3_deeper_0 rfl 0 rfl ?_
  replace h := lt2_e h; obtain ⟨x1, w2, ew2, h⟩ := h
  refine r_cVi (pc := 1) wyX3_pay oA48 rfl mlRX3_240 iyX3_pay syX3_pay ⟨(Nat.le_of_ble_eq_true rfl), (Nat.le_of_ble_eq_true rfl)⟩ rfl rfl (Nat.le_of_ble_eq_true rfl) dX3_deeper_1 (mX3_pay ew2 (pI.mk ?_))
  refine r_z_ne (pc := 4) dX3_deeper_4 rfl (fun hc3 => ?_) (fun hc3 => ?_)
  · replace h := if_t hc3 h
    refine r_aload_n (pc := 9) dX3_deeper_9 rfl 0 rfl ?_
    refine r_get (pc := 10) (j := 15) (v := .int (gi w2 48 15)) oA48 cf3 flRX3_114 rfl dX3_deeper_10 rfl ?_
    refine r_bipush (pc := 13) dX3_deeper_13 kb_60 ?_
    refine r_icmp_lt (pc := 15) dX3_deeper_15 rfl (fun hc4 => ?_) (fun hc4 => ?_)
    · replace h := if_t hc4 h
      refine r_aload_n (pc := 26) dX3_deeper_26 rfl 0 rfl ?_
      refine r_dup (pc := 27) dX3_deeper_27 rfl ?_
      refine r_get (pc := 28) (j := 15) (v := .int (gi w2 48 15)) oA48 cf3 flRX3_114 rfl dX3_deeper_28 rfl ?_
      refine r_iconst (pc := 31) dX3_deeper_31 ki_1 ?_
      refine r_iadd (pc := 32) dX3_deeper_32 ?_
      replace h := lt_e h; obtain ⟨w5, ew5, h⟩ := h
      refine r_putI (pc := 33) (j := 15) oA48 cf3 flRX3_114 rfl rfl rfl rfl dX3_deeper_33 ?_
      refine r_w ew5 ?_
      refine r_aload_n (pc := 36) dX3_deeper_36 rfl 0 rfl ?_
      refine r_iconst (pc := 37) dX3_deeper_37 ki_5 ?_
      refine r_aload_n (pc := 38) dX3_deeper_38 rfl 0 rfl ?_
      refine r_get (pc := 39) (j := 15) (v := .int (gi w5 48 15)) oA48 cf3 flRX3_114 rfl dX3_deeper_39 rfl ?_
      replace h := lt_e h; obtain ⟨w6, ew6, h⟩ := h
      refine r_cVv (pc := 42) wyX3_countMost oA48 rfl mlRX3_231 iyX3_countMost syX3_countMost ⟨(Nat.le_of_ble_eq_true rfl), (Nat.le_of_ble_eq_true rfl)⟩ rfl rfl (Nat.le_of_ble_eq_true rfl) dX3_deeper_42 (mX3_countMost ew6 (pV.mk ?_))
      refine r_iconst (pc := 45) dX3_deeper_45 ki_1 ?_
      exact rS_z (pc := 46) (x := true) rfl dX3_deeper_46 h hN
    replace h := if_f hc4 h
    refine r_aload_n (pc := 18) dX3_deeper_18 rfl 0 rfl ?_
    refine r_bipush (pc := 19) dX3_deeper_19 kb_6 ?_
    replace h := lt_e h; obtain ⟨w7, ew7, h⟩ := h
    refine r_cVv (pc := 21) wyX3_error oA48 rfl mlRX3_199 iyX3_error syX3_error ⟨(Nat.le_of_ble_eq_true rfl), (Nat.le_of_ble_eq_true rfl)⟩ rfl rfl (Nat.le_of_ble_eq_true rfl) dX3_deeper_21 (mX3_error ew7 (pV.mk ?_))
    refine r_iconst (pc := 24) dX3_deeper_24 ki_0 ?_
    exact rS_z (pc := 25) (x := false) rfl dX3_deeper_25 h hN
  replace h := if_f hc3 h
  refine r_iconst (pc := 7) dX3_deeper_7 ki_0 ?_
  exact rS_z (pc := 8) (x := false) rfl dX3_deeper_8 h hN
theorem mX3_deeper {q : Gq} {l : Launch} {N : Option Value → Wd → Prop} {X : String → Wd → Prop} {w : Wd} {x : Bool} {u : Wd} (h : fX3_deeper w = (x, u)) (hN : N (some (.int (b2i x))) u) : Ct (GA q) l 4 yX3_deeper cX3_deeper 1 ((some .boolean)) [.ref 48] w N X := Ct.of (by decide) (Nat.le_of_ble_eq_true rfl) (pX3_deeper hN h)
/-! AlgolMill$Machine.choose ()V: O, 6 -/
theorem dX3_choose_0 : decode cX3_choose 0 = .ok (.aload_n 0, 1) := by decide +kernel
theorem dX3_choose_1 : decode cX3_choose 1 = .ok (.invokevirtual 160, 3) := by decide +kernel
theorem dX3_choose_4 : decode cX3_choose 4 = .ok (.l2i, 1) := by decide +kernel
theorem dX3_choose_5 : decode cX3_choose 5 = .ok (.istore_n 1, 1) := by decide +kernel
theorem dX3_choose_6 : decode cX3_choose 6 = .ok (.aload_n 0, 1) := by decide +kernel
theorem dX3_choose_7 : decode cX3_choose 7 = .ok (.invokevirtual 160, 3) := by decide +kernel
theorem dX3_choose_10 : decode cX3_choose 10 = .ok (.l2i, 1) := by decide +kernel
theorem dX3_choose_11 : decode cX3_choose 11 = .ok (.istore_n 2, 1) := by decide +kernel
theorem dX3_choose_12 : decode cX3_choose 12 = .ok (.aload_n 0, 1) := by decide +kernel
theorem dX3_choose_13 : decode cX3_choose 13 = .ok (.invokevirtual 160, 3) := by decide +kernel
theorem dX3_choose_16 : decode cX3_choose 16 = .ok (.lstore_n 3, 1) := by decide +kernel
theorem dX3_choose_17 : decode cX3_choose 17 = .ok (.aload_n 0, 1) := by decide +kernel
theorem dX3_choose_18 : decode cX3_choose 18 = .ok (.invokevirtual 244, 3) := by decide +kernel
theorem dX3_choose_21 : decode cX3_choose 21 = .ok (.ifCond .ne 4, 3) := by decide +kernel
theorem dX3_choose_24 : decode cX3_choose 24 = .ok (.return_, 1) := by decide +kernel
theorem dX3_choose_25 : decode cX3_choose 25 = .ok (.lload_n 3, 1) := by decide +kernel
theorem dX3_choose_26 : decode cX3_choose 26 = .ok (.lconst 1, 1) := by decide +kernel
theorem dX3_choose_27 : decode cX3_choose 27 = .ok (.lcmp, 1) := by decide +kernel
theorem dX3_choose_28 : decode cX3_choose 28 = .ok (.ifCond .lt 14, 3) := by decide +kernel
theorem dX3_choose_31 : decode cX3_choose 31 = .ok (.lload_n 3, 1) := by decide +kernel
theorem dX3_choose_32 : decode cX3_choose 32 = .ok (.aload_n 0, 1) := by decide +kernel
theorem dX3_choose_33 : decode cX3_choose 33 = .ok (.iload_n 2, 1) := by decide +kernel
theorem dX3_choose_34 : decode cX3_choose 34 = .ok (.invokevirtual 129, 3) := by decide +kernel
theorem dX3_choose_37 : decode cX3_choose 37 = .ok (.i2l, 1) := by decide +kernel
theorem dX3_choose_38 : decode cX3_choose 38 = .ok (.lcmp, 1) := by decide +kernel
theorem dX3_choose_39 : decode cX3_choose 39 = .ok (.ifCond .le 9, 3) := by decide +kernel
theorem dX3_choose_42 : decode cX3_choose 42 = .ok (.aload_n 0, 1) := by decide +kernel
theorem dX3_choose_43 : decode cX3_choose 43 = .ok (.iconst 1, 1) := by decide +kernel
theorem dX3_choose_44 : decode cX3_choose 44 = .ok (.invokevirtual 199, 3) := by decide +kernel
theorem dX3_choose_47 : decode cX3_choose 47 = .ok (.return_, 1) := by decide +kernel
theorem dX3_choose_48 : decode cX3_choose 48 = .ok (.iinc 2 1, 3) := by decide +kernel
theorem dX3_choose_51 : decode cX3_choose 51 = .ok (.iconst 1, 1) := by decide +kernel
theorem dX3_choose_52 : decode cX3_choose 52 = .ok (.istore 5, 2) := by decide +kernel
theorem dX3_choose_54 : decode cX3_choose 54 = .ok (.iload 5, 2) := by decide +kernel
theorem dX3_choose_56 : decode cX3_choose 56 = .ok (.i2l, 1) := by decide +kernel
theorem dX3_choose_57 : decode cX3_choose 57 = .ok (.lload_n 3, 1) := by decide +kernel
theorem dX3_choose_58 : decode cX3_choose 58 = .ok (.lcmp, 1) := by decide +kernel
theorem dX3_choose_59 : decode cX3_choose 59 = .ok (.ifCond .ge 15, 3) := by decide +kernel
theorem dX3_choose_62 : decode cX3_choose 62 = .ok (.aload_n 0, 1) := by decide +kernel
theorem dX3_choose_63 : decode cX3_choose 63 = .ok (.iload_n 2, 1) := by decide +kernel
theorem dX3_choose_64 : decode cX3_choose 64 = .ok (.invokevirtual 129, 3) := by decide +kernel
theorem dX3_choose_67 : decode cX3_choose 67 = .ok (.istore_n 2, 1) := by decide +kernel
theorem dX3_choose_68 : decode cX3_choose 68 = .ok (.iinc 5 1, 3) := by decide +kernel
theorem dX3_choose_71 : decode cX3_choose 71 = .ok (.goto (-17), 3) := by decide +kernel
theorem dX3_choose_74 : decode cX3_choose 74 = .ok (.aload_n 0, 1) := by decide +kernel
theorem dX3_choose_75 : decode cX3_choose 75 = .ok (.getfield 27, 3) := by decide +kernel
theorem dX3_choose_78 : decode cX3_choose 78 = .ok (.aload_n 0, 1) := by decide +kernel
theorem dX3_choose_79 : decode cX3_choose 79 = .ok (.getfield 114, 3) := by decide +kernel
theorem dX3_choose_82 : decode cX3_choose 82 = .ok (.iconst 2, 1) := by decide +kernel
theorem dX3_choose_83 : decode cX3_choose 83 = .ok (.invokestatic 80, 3) := by decide +kernel
theorem dX3_choose_86 : decode cX3_choose 86 = .ok (.aload_n 0, 1) := by decide +kernel
theorem dX3_choose_87 : decode cX3_choose 87 = .ok (.iload_n 2, 1) := by decide +kernel
theorem dX3_choose_88 : decode cX3_choose 88 = .ok (.iconst 1, 1) := by decide +kernel
theorem dX3_choose_89 : decode cX3_choose 89 = .ok (.iadd, 1) := by decide +kernel
theorem dX3_choose_90 : decode cX3_choose 90 = .ok (.iload_n 1, 1) := by decide +kernel
theorem dX3_choose_91 : decode cX3_choose 91 = .ok (.invokevirtual 262, 3) := by decide +kernel
theorem dX3_choose_94 : decode cX3_choose 94 = .ok (.return_, 1) := by decide +kernel
def fX3_choose_54 (k_54 : Int32 → Int32 → Int64 → Int32 → Wd → Option Wd) (a1 : Int32) (a2 : Int32) (a3 : Int64) (a5 : Int32) (w : Wd) : Option Wd :=
  if a3 ≤ (Int32.toInt64 a5) then (lt (rsi w 52 61 (gi w 48 15) 2) fun w2 => lt (fX3_goThere (a2 + 1) a1 w2) fun w3 => some w3) else (lt2 (fX3_codeAt a2 w) fun x4 w5 => lt (a5 + 1) fun x6 => k_54 a1 x4 a3 x6 w5)
theorem pX3_choose_54 {q : Gq} {l : Launch} {N : Option Value → Wd → Prop} {X : String → Wd → Prop} {w : Wd} {R : Wd} (hN : N none R) {k_54 : Int32 → Int32 → Int64 → Int32 → Wd → Option Wd} (hk_54 : ∀ (a1 : Int32) (a2 : Int32) (a3 : Int64) (a5 : Int32) (w : Wd), k_54 a1 a2 a3 a5 w = some R → RT (GA q) l 6 yX3_choose cX3_choose 6 (none) N X 54 [] [(0, .ref 48), (1, .int a1), (2, .int a2), (3, .long a3), (5, .int a5)] w) {a1 : Int32} {a2 : Int32} {a3 : Int64} {a5 : Int32} (h : fX3_choose_54 k_54 a1 a2 a3 a5 w = some R) : RT (GA q) l 6 yX3_choose cX3_choose 6 (none) N X 54 [] [(0, .ref 48), (1, .int a1), (2, .int a2), (3, .long a3), (5, .int a5)] w := by
  unfold fX3_choose_54 at h
  refine r_iload (pc := 54) dX3_choose_54 4 rfl ?_
  refine r_i2l (pc := 56) dX3_choose_56 ?_
  refine r_lload_n (pc := 57) dX3_choose_57 rfl 3 rfl ?_
  refine r_l_ge (pc := 58) dX3_choose_58 dX3_choose_59 rfl (fun hc1 => ?_) (fun hc1 => ?_)
  · replace h := if_t hc1 h
    refine r_aload_n (pc := 74) dX3_choose_74 rfl 0 rfl ?_
    refine r_get (pc := 75) (j := 3) (v := .ref 52) oA48 cf3 flRX3_27 rfl dX3_choose_75 rfl ?_
    refine r_aload_n (pc := 78) dX3_choose_78 rfl 0 rfl ?_
    refine r_get (pc := 79) (j := 15) (v := .int (gi w 48 15)) oA48 cf3 flRX3_114 rfl dX3_choose_79 rfl ?_
    refine r_iconst (pc := 82) dX3_choose_82 ki_2 ?_
    replace h := lt_e h; obtain ⟨w2, ew2, h⟩ := h
    refine r_cSv (pc := 83) wyX6_set mlRX3_80 tyX6_set ⟨(Nat.le_of_ble_eq_true rfl), (Nat.le_of_ble_eq_true rfl)⟩ rfl rfl (Nat.le_of_ble_eq_true rfl) dX3_choose_83 (mX6_set aA52 (Nat.le_of_ble_eq_true rfl) ew2 (pV.mk ?_))
    refine r_aload_n (pc := 86) dX3_choose_86 rfl 0 rfl ?_
    refine r_iload_n (pc := 87) dX3_choose_87 rfl 2 rfl ?_
    refine r_iconst (pc := 88) dX3_choose_88 ki_1 ?_
    refine r_iadd (pc := 89) dX3_choose_89 ?_
    refine r_iload_n (pc := 90) dX3_choose_90 rfl 1 rfl ?_
    replace h := lt_e h; obtain ⟨w3, ew3, h⟩ := h
    refine r_cVv (pc := 91) wyX3_goThere oA48 rfl mlRX3_262 iyX3_goThere syX3_goThere ⟨(Nat.le_of_ble_eq_true rfl), (Nat.le_of_ble_eq_true rfl)⟩ rfl rfl (Nat.le_of_ble_eq_true rfl) dX3_choose_91 (mX3_goThere ew3 (pV.mk ?_))
    exact rO_v (pc := 94) rfl dX3_choose_94 h hN
  replace h := if_f hc1 h
  refine r_aload_n (pc := 62) dX3_choose_62 rfl 0 rfl ?_
  refine r_iload_n (pc := 63) dX3_choose_63 rfl 2 rfl ?_
  replace h := lt2_e h; obtain ⟨x4, w5, ew5, h⟩ := h
  refine r_cVi (pc := 64) wyX3_codeAt oA48 rfl mlRX3_129 iyX3_codeAt syX3_codeAt ⟨(Nat.le_of_ble_eq_true rfl), (Nat.le_of_ble_eq_true rfl)⟩ rfl rfl (Nat.le_of_ble_eq_true rfl) dX3_choose_64 (mX3_codeAt ew5 (pI.mk ?_))
  refine r_istore_n (pc := 67) (loc' := [(2, .int x4), (0, .ref 48), (1, .int a1), (3, .long a3), (5, .int a5)]) dX3_choose_67 rfl (Nat.le_of_ble_eq_true rfl) rfl ?_
  replace h := lt_e h; obtain ⟨x6, ex6, h⟩ := h
  refine r_inc (pc := 68) (loc' := [(5, .int x6), (2, .int x4), (0, .ref 48), (1, .int a1), (3, .long a3)]) dX3_choose_68 ki_1 ex6 4 rfl (Nat.le_of_ble_eq_true rfl) rfl ?_
  refine r_goto (pc := 71) dX3_choose_71 rfl ?_
  refine r_drop (loc' := [(0, .ref 48), (1, .int a1), (2, .int x4), (3, .long a3), (5, .int x6)]) [2, 3, 1, 4, 0] rfl ?_
  exact hk_54 a1 x4 a3 x6 w5 h
def oX3_choose_54 : Nat → Int32 → Int32 → Int64 → Int32 → Wd → Option Wd
  | 0 => fun _ _ _ _ _ => none
  | n + 1 => fX3_choose_54 (oX3_choose_54 n)
theorem qX3_choose_54 {q : Gq} {l : Launch} {N : Option Value → Wd → Prop} {X : String → Wd → Prop} {R : Wd} (hN : N none R) : ∀ (n : Nat) (a1 : Int32) (a2 : Int32) (a3 : Int64) (a5 : Int32) (w : Wd), oX3_choose_54 n a1 a2 a3 a5 w = some R → RT (GA q) l 6 yX3_choose cX3_choose 6 (none) N X 54 [] [(0, .ref 48), (1, .int a1), (2, .int a2), (3, .long a3), (5, .int a5)] w := by
  intro n
  induction n with
  | zero =>
    intro a1 a2 a3 a5 w h
    exact absurd h (fun q => nomatch q)
  | succ n ih =>
    intro a1 a2 a3 a5 w h
    exact pX3_choose_54 hN ih h
def fX3_choose (w : Wd) : Option Wd :=
  lt2 (fX3_pop w) fun x1 w2 => lt ((Int64.toInt32 x1)) fun x3 => lt2 (fX3_pop w2) fun x4 w5 => lt ((Int64.toInt32 x4)) fun x6 => lt2 (fX3_pop w5) fun x7 w8 => lt2 (fX3_deeper w8) fun x9 w10 => if x9 = true then (if x7 < 1 then (lt (fX3_error 1 w10) fun w13 => some w13) else (lt2 (fX3_codeAt x6 w10) fun x14 w15 => if x7 ≤ (Int32.toInt64 x14) then (lt (x6 + 1) fun x17 => oX3_choose_54 FU x3 x17 x7 1 w15) else (lt (fX3_error 1 w15) fun w18 => some w18))) else (some w10)
theorem pX3_choose {q : Gq} {l : Launch} {N : Option Value → Wd → Prop} {X : String → Wd → Prop} {w : Wd} {R : Wd} (hN : N none R) (h : fX3_choose w = some R) : RT (GA q) l 6 yX3_choose cX3_choose 6 (none) N X 0 [] [(0, .ref 48)] w := by
  unfold fX3_choose at h
  refine r_aload_n (pc := 0) dX3_choose_0 rfl 0 rfl ?_
  replace h := lt2_e h; obtain ⟨x1, w2, ew2, h⟩ := h
  refine r_cVl (pc := 1) wyX3_pop oA48 rfl mlRX3_160 iyX3_pop syX3_pop ⟨(Nat.le_of_ble_eq_true rfl), (Nat.le_of_ble_eq_true rfl)⟩ rfl rfl (Nat.le_of_ble_eq_true rfl) dX3_choose_1 (mX3_pop ew2 (pL.mk ?_))
  refine r_l2i (pc := 4) dX3_choose_4 ?_
  replace h := lt_e h; obtain ⟨x3, ex3, h⟩ := h
  refine r_topi ex3 ?_
  refine r_istore_n (pc := 5) (loc' := [(1, .int x3), (0, .ref 48)]) dX3_choose_5 rfl (Nat.le_of_ble_eq_true rfl) rfl ?_
  refine r_aload_n (pc := 6) dX3_choose_6 rfl 1 rfl ?_
  replace h := lt2_e h; obtain ⟨x4, w5, ew5, h⟩ := h
  refine r_cVl (pc := 7) wyX3_pop oA48 rfl mlRX3_160 iyX3_pop syX3_pop ⟨(Nat.le_of_ble_eq_true rfl), (Nat.le_of_ble_eq_true rfl)⟩ rfl rfl (Nat.le_of_ble_eq_true rfl) dX3_choose_7 (mX3_pop ew5 (pL.mk ?_))
  refine r_l2i (pc := 10) dX3_choose_10 ?_
  replace h := lt_e h; obtain ⟨x6, ex6, h⟩ := h
  refine r_topi ex6 ?_
  refine r_istore_n (pc := 11) (loc' := [(2, .int x6), (1, .int x3), (0, .ref 48)]) dX3_choose_11 rfl (Nat.le_of_ble_eq_true rfl) rfl ?_
  refine r_aload_n (pc := 12) dX3_choose_12 rfl 2 rfl ?_
  replace h := lt2_e h; obtain ⟨x7, w8, ew8, h⟩ := h
  refine r_cVl (pc := 13) wyX3_pop oA48 rfl mlRX3_160 iyX3_pop syX3_pop ⟨(Nat.le_of_ble_eq_true rfl), (Nat.le_of_ble_eq_true rfl)⟩ rfl rfl (Nat.le_of_ble_eq_true rfl) dX3_choose_13 (mX3_pop ew8 (pL.mk ?_))
  refine r_lstore_n (pc := 16) (loc' := [(3, .long x7), (2, .int x6), (1, .int x3), (0, .ref 48)]) dX3_choose_16 rfl (Nat.le_of_ble_eq_true rfl) rfl ?_
  refine r_aload_n (pc := 17) dX3_choose_17 rfl 3 rfl ?_
  replace h := lt2_e h; obtain ⟨x9, w10, ew10, h⟩ := h
  refine r_cVi (pc := 18) wyX3_deeper oA48 rfl mlRX3_244 iyX3_deeper syX3_deeper ⟨(Nat.le_of_ble_eq_true rfl), (Nat.le_of_ble_eq_true rfl)⟩ rfl rfl (Nat.le_of_ble_eq_true rfl) dX3_choose_18 (mX3_deeper ew10 (pI.mk ?_))
  refine r_z_ne (pc := 21) dX3_choose_21 rfl (fun hc11 => ?_) (fun hc11 => ?_)
  · replace h := if_t hc11 h
    refine r_lload_n (pc := 25) dX3_choose_25 rfl 0 rfl ?_
    refine r_lconst (pc := 26) dX3_choose_26 kl_1 ?_
    refine r_l_lt (pc := 27) dX3_choose_27 dX3_choose_28 rfl (fun hc12 => ?_) (fun hc12 => ?_)
    · replace h := if_t hc12 h
      refine r_aload_n (pc := 42) dX3_choose_42 rfl 3 rfl ?_
      refine r_iconst (pc := 43) dX3_choose_43 ki_1 ?_
      replace h := lt_e h; obtain ⟨w13, ew13, h⟩ := h
      refine r_cVv (pc := 44) wyX3_error oA48 rfl mlRX3_199 iyX3_error syX3_error ⟨(Nat.le_of_ble_eq_true rfl), (Nat.le_of_ble_eq_true rfl)⟩ rfl rfl (Nat.le_of_ble_eq_true rfl) dX3_choose_44 (mX3_error ew13 (pV.mk ?_))
      exact rO_v (pc := 47) rfl dX3_choose_47 h hN
    replace h := if_f hc12 h
    refine r_lload_n (pc := 31) dX3_choose_31 rfl 0 rfl ?_
    refine r_aload_n (pc := 32) dX3_choose_32 rfl 3 rfl ?_
    refine r_iload_n (pc := 33) dX3_choose_33 rfl 1 rfl ?_
    replace h := lt2_e h; obtain ⟨x14, w15, ew15, h⟩ := h
    refine r_cVi (pc := 34) wyX3_codeAt oA48 rfl mlRX3_129 iyX3_codeAt syX3_codeAt ⟨(Nat.le_of_ble_eq_true rfl), (Nat.le_of_ble_eq_true rfl)⟩ rfl rfl (Nat.le_of_ble_eq_true rfl) dX3_choose_34 (mX3_codeAt ew15 (pI.mk ?_))
    refine r_i2l (pc := 37) dX3_choose_37 ?_
    refine r_l_le (pc := 38) dX3_choose_38 dX3_choose_39 rfl (fun hc16 => ?_) (fun hc16 => ?_)
    · replace h := if_t hc16 h
      replace h := lt_e h; obtain ⟨x17, ex17, h⟩ := h
      refine r_inc (pc := 48) (loc' := [(2, .int x17), (3, .long x7), (1, .int x3), (0, .ref 48)]) dX3_choose_48 ki_1 ex17 1 rfl (Nat.le_of_ble_eq_true rfl) rfl ?_
      refine r_iconst (pc := 51) dX3_choose_51 ki_1 ?_
      refine r_istore (pc := 52) (loc' := [(5, .int 1), (2, .int x17), (3, .long x7), (1, .int x3), (0, .ref 48)]) dX3_choose_52 (Nat.le_of_ble_eq_true rfl) rfl ?_
      refine r_drop (loc' := [(0, .ref 48), (1, .int x3), (2, .int x17), (3, .long x7), (5, .int 1)]) [4, 3, 1, 2, 0] rfl ?_
      exact qX3_choose_54 hN FU x3 x17 x7 1 w15 h
    replace h := if_f hc16 h
    refine r_aload_n (pc := 42) dX3_choose_42 rfl 3 rfl ?_
    refine r_iconst (pc := 43) dX3_choose_43 ki_1 ?_
    replace h := lt_e h; obtain ⟨w18, ew18, h⟩ := h
    refine r_cVv (pc := 44) wyX3_error oA48 rfl mlRX3_199 iyX3_error syX3_error ⟨(Nat.le_of_ble_eq_true rfl), (Nat.le_of_ble_eq_true rfl)⟩ rfl rfl (Nat.le_of_ble_eq_true rfl) dX3_choose_44 (mX3_error ew18 (pV.mk ?_))
    exact rO_v (pc := 47) rfl dX3_choose_47 h hN
  replace h := if_f hc11 h
  exact rO_v (pc := 24) rfl dX3_choose_24 h hN
theorem mX3_choose {q : Gq} {l : Launch} {N : Option Value → Wd → Prop} {X : String → Wd → Prop} {w : Wd} {u : Wd} (h : fX3_choose w = some u) (hN : N none u) : Ct (GA q) l 6 yX3_choose cX3_choose 6 (none) [.ref 48] w N X := Ct.of (by decide) (Nat.le_of_ble_eq_true rfl) (pX3_choose hN h)
/-! AlgolMill$Machine.goBack ()V: S, 1 -/
theorem dX3_goBack_0 : decode cX3_goBack 0 = .ok (.aload_n 0, 1) := by decide +kernel
theorem dX3_goBack_1 : decode cX3_goBack 1 = .ok (.aload_n 0, 1) := by decide +kernel
theorem dX3_goBack_2 : decode cX3_goBack 2 = .ok (.getfield 31, 3) := by decide +kernel
theorem dX3_goBack_5 : decode cX3_goBack 5 = .ok (.aload_n 0, 1) := by decide +kernel
theorem dX3_goBack_6 : decode cX3_goBack 6 = .ok (.getfield 114, 3) := by decide +kernel
theorem dX3_goBack_9 : decode cX3_goBack 9 = .ok (.invokestatic 77, 3) := by decide +kernel
theorem dX3_goBack_12 : decode cX3_goBack 12 = .ok (.putfield 150, 3) := by decide +kernel
theorem dX3_goBack_15 : decode cX3_goBack 15 = .ok (.aload_n 0, 1) := by decide +kernel
theorem dX3_goBack_16 : decode cX3_goBack 16 = .ok (.aload_n 0, 1) := by decide +kernel
theorem dX3_goBack_17 : decode cX3_goBack 17 = .ok (.getfield 34, 3) := by decide +kernel
theorem dX3_goBack_20 : decode cX3_goBack 20 = .ok (.aload_n 0, 1) := by decide +kernel
theorem dX3_goBack_21 : decode cX3_goBack 21 = .ok (.getfield 114, 3) := by decide +kernel
theorem dX3_goBack_24 : decode cX3_goBack 24 = .ok (.invokestatic 77, 3) := by decide +kernel
theorem dX3_goBack_27 : decode cX3_goBack 27 = .ok (.putfield 143, 3) := by decide +kernel
theorem dX3_goBack_30 : decode cX3_goBack 30 = .ok (.aload_n 0, 1) := by decide +kernel
theorem dX3_goBack_31 : decode cX3_goBack 31 = .ok (.dup, 1) := by decide +kernel
theorem dX3_goBack_32 : decode cX3_goBack 32 = .ok (.getfield 114, 3) := by decide +kernel
theorem dX3_goBack_35 : decode cX3_goBack 35 = .ok (.iconst 1, 1) := by decide +kernel
theorem dX3_goBack_36 : decode cX3_goBack 36 = .ok (.isub, 1) := by decide +kernel
theorem dX3_goBack_37 : decode cX3_goBack 37 = .ok (.putfield 114, 3) := by decide +kernel
theorem dX3_goBack_40 : decode cX3_goBack 40 = .ok (.return_, 1) := by decide +kernel
def fX3_goBack (w : Wd) : Wd :=
  lt (rgi w 53 61 (gi w 48 15)) fun x1 => lt (si w 48 11 x1) fun w2 => lt (rgi w2 54 61 (gi w2 48 15)) fun x3 => lt (si w2 48 12 x3) fun w4 => lt (si w4 48 15 ((gi w4 48 15) - 1)) fun w5 => w5
theorem pX3_goBack {q : Gq} {l : Launch} {N : Option Value → Wd → Prop} {X : String → Wd → Prop} {w : Wd} {R : Wd} (hN : N none R) (h : fX3_goBack w = R) : RT (GA q) l 1 yX3_goBack cX3_goBack 1 (none) N X 0 [] [(0, .ref 48)] w := by
  unfold fX3_goBack at h
  refine r_aload_n (pc := 0) dX3_goBack_0 rfl 0 rfl ?_
  refine r_aload_n (pc := 1) dX3_goBack_1 rfl 0 rfl ?_
  refine r_get (pc := 2) (j := 4) (v := .ref 53) oA48 cf3 flRX3_31 rfl dX3_goBack_2 rfl ?_
  refine r_aload_n (pc := 5) dX3_goBack_5 rfl 0 rfl ?_
  refine r_get (pc := 6) (j := 15) (v := .int (gi w 48 15)) oA48 cf3 flRX3_114 rfl dX3_goBack_6 rfl ?_
  replace h := lt_e h; obtain ⟨x1, ex1, h⟩ := h
  refine r_cSi (pc := 9) wyX6_get mlRX3_77 tyX6_get ⟨(Nat.le_of_ble_eq_true rfl), (Nat.le_of_ble_eq_true rfl)⟩ rfl rfl (Nat.le_of_ble_eq_true rfl) dX3_goBack_9 (mX6_get aA53 (Nat.le_of_ble_eq_true rfl) ex1 (pI.mk ?_))
  replace h := lt_e h; obtain ⟨w2, ew2, h⟩ := h
  refine r_putI (pc := 12) (j := 11) oA48 cf3 flRX3_150 rfl rfl rfl rfl dX3_goBack_12 ?_
  refine r_w ew2 ?_
  refine r_aload_n (pc := 15) dX3_goBack_15 rfl 0 rfl ?_
  refine r_aload_n (pc := 16) dX3_goBack_16 rfl 0 rfl ?_
  refine r_get (pc := 17) (j := 5) (v := .ref 54) oA48 cf3 flRX3_34 rfl dX3_goBack_17 rfl ?_
  refine r_aload_n (pc := 20) dX3_goBack_20 rfl 0 rfl ?_
  refine r_get (pc := 21) (j := 15) (v := .int (gi w2 48 15)) oA48 cf3 flRX3_114 rfl dX3_goBack_21 rfl ?_
  replace h := lt_e h; obtain ⟨x3, ex3, h⟩ := h
  refine r_cSi (pc := 24) wyX6_get mlRX3_77 tyX6_get ⟨(Nat.le_of_ble_eq_true rfl), (Nat.le_of_ble_eq_true rfl)⟩ rfl rfl (Nat.le_of_ble_eq_true rfl) dX3_goBack_24 (mX6_get aA54 (Nat.le_of_ble_eq_true rfl) ex3 (pI.mk ?_))
  replace h := lt_e h; obtain ⟨w4, ew4, h⟩ := h
  refine r_putI (pc := 27) (j := 12) oA48 cf3 flRX3_143 rfl rfl rfl rfl dX3_goBack_27 ?_
  refine r_w ew4 ?_
  refine r_aload_n (pc := 30) dX3_goBack_30 rfl 0 rfl ?_
  refine r_dup (pc := 31) dX3_goBack_31 rfl ?_
  refine r_get (pc := 32) (j := 15) (v := .int (gi w4 48 15)) oA48 cf3 flRX3_114 rfl dX3_goBack_32 rfl ?_
  refine r_iconst (pc := 35) dX3_goBack_35 ki_1 ?_
  refine r_isub (pc := 36) dX3_goBack_36 ?_
  replace h := lt_e h; obtain ⟨w5, ew5, h⟩ := h
  refine r_putI (pc := 37) (j := 15) oA48 cf3 flRX3_114 rfl rfl rfl rfl dX3_goBack_37 ?_
  refine r_w ew5 ?_
  exact rS_v (pc := 40) rfl dX3_goBack_40 h hN
theorem mX3_goBack {q : Gq} {l : Launch} {N : Option Value → Wd → Prop} {X : String → Wd → Prop} {w : Wd} {u : Wd} (h : fX3_goBack w = u) (hN : N none u) : Ct (GA q) l 1 yX3_goBack cX3_goBack 1 (none) [.ref 48] w N X := Ct.of (by decide) (Nat.le_of_ble_eq_true rfl) (pX3_goBack hN h)
/-! AlgolMill$Machine.read (J)J: S, 4 -/
theorem dX3_read_0 : decode cX3_read 0 = .ok (.lload_n 1, 1) := by decide +kernel
theorem dX3_read_1 : decode cX3_read 1 = .ok (.lconst 0, 1) := by decide +kernel
theorem dX3_read_2 : decode cX3_read 2 = .ok (.lcmp, 1) := by decide +kernel
theorem dX3_read_3 : decode cX3_read 3 = .ok (.ifCond .lt 13, 3) := by decide +kernel
theorem dX3_read_6 : decode cX3_read 6 = .ok (.lload_n 1, 1) := by decide +kernel
theorem dX3_read_7 : decode cX3_read 7 = .ok (.aload_n 0, 1) := by decide +kernel
theorem dX3_read_8 : decode cX3_read 8 = .ok (.getfield 126, 3) := by decide +kernel
theorem dX3_read_11 : decode cX3_read 11 = .ok (.i2l, 1) := by decide +kernel
theorem dX3_read_12 : decode cX3_read 12 = .ok (.lcmp, 1) := by decide +kernel
theorem dX3_read_13 : decode cX3_read 13 = .ok (.ifCond .lt 9, 3) := by decide +kernel
theorem dX3_read_16 : decode cX3_read 16 = .ok (.aload_n 0, 1) := by decide +kernel
theorem dX3_read_17 : decode cX3_read 17 = .ok (.invokevirtual 102, 3) := by decide +kernel
theorem dX3_read_20 : decode cX3_read 20 = .ok (.lconst 0, 1) := by decide +kernel
theorem dX3_read_21 : decode cX3_read 21 = .ok (.lreturn, 1) := by decide +kernel
theorem dX3_read_22 : decode cX3_read 22 = .ok (.aload_n 0, 1) := by decide +kernel
theorem dX3_read_23 : decode cX3_read 23 = .ok (.getfield 21, 3) := by decide +kernel
theorem dX3_read_26 : decode cX3_read 26 = .ok (.lload_n 1, 1) := by decide +kernel
theorem dX3_read_27 : decode cX3_read 27 = .ok (.l2i, 1) := by decide +kernel
theorem dX3_read_28 : decode cX3_read 28 = .ok (.invokestatic 63, 3) := by decide +kernel
theorem dX3_read_31 : decode cX3_read 31 = .ok (.lreturn, 1) := by decide +kernel
def fX3_read (a1 : Int64) (w : Wd) : Int64 × Wd :=
  if a1 < 0 then (lt (fX3_oddity w) fun w2 => (0, w2)) else (if a1 < (Int32.toInt64 (gi w 48 13)) then (lt (rgl w 50 109186 (Int64.toInt32 a1)) fun x4 => (x4, w)) else (lt (fX3_oddity w) fun w5 => (0, w5)))
theorem pX3_read {q : Gq} {l : Launch} {N : Option Value → Wd → Prop} {X : String → Wd → Prop} {w : Wd} {R : Int64 × Wd} (hN : N (some (.long R.1)) R.2) {a1 : Int64} (h : fX3_read a1 w = R) : RT (GA q) l 4 yX3_read cX3_read 3 ((some .long)) N X 0 [] [(0, .ref 48), (1, .long a1)] w := by
  unfold fX3_read at h
  refine r_lload_n (pc := 0) dX3_read_0 rfl 1 rfl ?_
  refine r_lconst (pc := 1) dX3_read_1 kl_0 ?_
  refine r_l_lt (pc := 2) dX3_read_2 dX3_read_3 rfl (fun hc1 => ?_) (fun hc1 => ?_)
  · replace h := if_t hc1 h
    refine r_aload_n (pc := 16) dX3_read_16 rfl 0 rfl ?_
    replace h := lt_e h; obtain ⟨w2, ew2, h⟩ := h
    refine r_cVv (pc := 17) wyX3_oddity oA48 rfl mlRX3_102 iyX3_oddity syX3_oddity ⟨(Nat.le_of_ble_eq_true rfl), (Nat.le_of_ble_eq_true rfl)⟩ rfl rfl (Nat.le_of_ble_eq_true rfl) dX3_read_17 (mX3_oddity ew2 (pV.mk ?_))
    refine r_lconst (pc := 20) dX3_read_20 kl_0 ?_
    exact rS_l (pc := 21) rfl dX3_read_21 h hN
  replace h := if_f hc1 h
  refine r_lload_n (pc := 6) dX3_read_6 rfl 1 rfl ?_
  refine r_aload_n (pc := 7) dX3_read_7 rfl 0 rfl ?_
  refine r_get (pc := 8) (j := 13) (v := .int (gi w 48 13)) oA48 cf3 flRX3_126 rfl dX3_read_8 rfl ?_
  refine r_i2l (pc := 11) dX3_read_11 ?_
  refine r_l_lt (pc := 12) dX3_read_12 dX3_read_13 rfl (fun hc3 => ?_) (fun hc3 => ?_)
  · replace h := if_t hc3 h
    refine r_aload_n (pc := 22) dX3_read_22 rfl 0 rfl ?_
    refine r_get (pc := 23) (j := 1) (v := .ref 50) oA48 cf3 flRX3_21 rfl dX3_read_23 rfl ?_
    refine r_lload_n (pc := 26) dX3_read_26 rfl 1 rfl ?_
    refine r_l2i (pc := 27) dX3_read_27 ?_
    replace h := lt_e h; obtain ⟨x4, ex4, h⟩ := h
    refine r_cSl (pc := 28) wyX6_get_ mlRX3_63 tyX6_get_ ⟨(Nat.le_of_ble_eq_true rfl), (Nat.le_of_ble_eq_true rfl)⟩ rfl rfl (Nat.le_of_ble_eq_true rfl) dX3_read_28 (mX6_get_ aA50 (Nat.le_of_ble_eq_true rfl) ex4 (pL.mk ?_))
    exact rS_l (pc := 31) rfl dX3_read_31 h hN
  replace h := if_f hc3 h
  refine r_aload_n (pc := 16) dX3_read_16 rfl 0 rfl ?_
  replace h := lt_e h; obtain ⟨w5, ew5, h⟩ := h
  refine r_cVv (pc := 17) wyX3_oddity oA48 rfl mlRX3_102 iyX3_oddity syX3_oddity ⟨(Nat.le_of_ble_eq_true rfl), (Nat.le_of_ble_eq_true rfl)⟩ rfl rfl (Nat.le_of_ble_eq_true rfl) dX3_read_17 (mX3_oddity ew5 (pV.mk ?_))
  refine r_lconst (pc := 20) dX3_read_20 kl_0 ?_
  exact rS_l (pc := 21) rfl dX3_read_21 h hN
theorem mX3_read {q : Gq} {l : Launch} {N : Option Value → Wd → Prop} {X : String → Wd → Prop} {a1 : Int64} {w : Wd} {x : Int64} {u : Wd} (h : fX3_read a1 w = (x, u)) (hN : N (some (.long x)) u) : Ct (GA q) l 4 yX3_read cX3_read 3 ((some .long)) [.ref 48, .long a1] w N X := Ct.of (by decide) (Nat.le_of_ble_eq_true rfl) (pX3_read hN h)
/-! AlgolMill$Machine.goTo ()V: S, 5 -/
theorem dX3_goTo_0 : decode cX3_goTo 0 = .ok (.aload_n 0, 1) := by decide +kernel
theorem dX3_goTo_1 : decode cX3_goTo 1 = .ok (.aload_n 0, 1) := by decide +kernel
theorem dX3_goTo_2 : decode cX3_goTo 2 = .ok (.invokevirtual 160, 3) := by decide +kernel
theorem dX3_goTo_5 : decode cX3_goTo 5 = .ok (.l2i, 1) := by decide +kernel
theorem dX3_goTo_6 : decode cX3_goTo 6 = .ok (.putfield 143, 3) := by decide +kernel
theorem dX3_goTo_9 : decode cX3_goTo 9 = .ok (.aload_n 0, 1) := by decide +kernel
theorem dX3_goTo_10 : decode cX3_goTo 10 = .ok (.aload_n 0, 1) := by decide +kernel
theorem dX3_goTo_11 : decode cX3_goTo 11 = .ok (.invokevirtual 160, 3) := by decide +kernel
theorem dX3_goTo_14 : decode cX3_goTo 14 = .ok (.l2i, 1) := by decide +kernel
theorem dX3_goTo_15 : decode cX3_goTo 15 = .ok (.putfield 150, 3) := by decide +kernel
theorem dX3_goTo_18 : decode cX3_goTo 18 = .ok (.aload_n 0, 1) := by decide +kernel
theorem dX3_goTo_19 : decode cX3_goTo 19 = .ok (.aload_n 0, 1) := by decide +kernel
theorem dX3_goTo_20 : decode cX3_goTo 20 = .ok (.aload_n 0, 1) := by decide +kernel
theorem dX3_goTo_21 : decode cX3_goTo 21 = .ok (.getfield 143, 3) := by decide +kernel
theorem dX3_goTo_24 : decode cX3_goTo 24 = .ok (.iconst 1, 1) := by decide +kernel
theorem dX3_goTo_25 : decode cX3_goTo 25 = .ok (.iadd, 1) := by decide +kernel
theorem dX3_goTo_26 : decode cX3_goTo 26 = .ok (.i2l, 1) := by decide +kernel
theorem dX3_goTo_27 : decode cX3_goTo 27 = .ok (.invokevirtual 146, 3) := by decide +kernel
theorem dX3_goTo_30 : decode cX3_goTo 30 = .ok (.l2i, 1) := by decide +kernel
theorem dX3_goTo_31 : decode cX3_goTo 31 = .ok (.putfield 114, 3) := by decide +kernel
theorem dX3_goTo_34 : decode cX3_goTo 34 = .ok (.aload_n 0, 1) := by decide +kernel
theorem dX3_goTo_35 : decode cX3_goTo 35 = .ok (.aload_n 0, 1) := by decide +kernel
theorem dX3_goTo_36 : decode cX3_goTo 36 = .ok (.aload_n 0, 1) := by decide +kernel
theorem dX3_goTo_37 : decode cX3_goTo 37 = .ok (.getfield 143, 3) := by decide +kernel
theorem dX3_goTo_40 : decode cX3_goTo 40 = .ok (.iconst 3, 1) := by decide +kernel
theorem dX3_goTo_41 : decode cX3_goTo 41 = .ok (.iadd, 1) := by decide +kernel
theorem dX3_goTo_42 : decode cX3_goTo 42 = .ok (.i2l, 1) := by decide +kernel
theorem dX3_goTo_43 : decode cX3_goTo 43 = .ok (.invokevirtual 146, 3) := by decide +kernel
theorem dX3_goTo_46 : decode cX3_goTo 46 = .ok (.l2i, 1) := by decide +kernel
theorem dX3_goTo_47 : decode cX3_goTo 47 = .ok (.putfield 117, 3) := by decide +kernel
theorem dX3_goTo_50 : decode cX3_goTo 50 = .ok (.aload_n 0, 1) := by decide +kernel
theorem dX3_goTo_51 : decode cX3_goTo 51 = .ok (.aload_n 0, 1) := by decide +kernel
theorem dX3_goTo_52 : decode cX3_goTo 52 = .ok (.aload_n 0, 1) := by decide +kernel
theorem dX3_goTo_53 : decode cX3_goTo 53 = .ok (.getfield 143, 3) := by decide +kernel
theorem dX3_goTo_56 : decode cX3_goTo 56 = .ok (.iconst 4, 1) := by decide +kernel
theorem dX3_goTo_57 : decode cX3_goTo 57 = .ok (.iadd, 1) := by decide +kernel
theorem dX3_goTo_58 : decode cX3_goTo 58 = .ok (.i2l, 1) := by decide +kernel
theorem dX3_goTo_59 : decode cX3_goTo 59 = .ok (.invokevirtual 146, 3) := by decide +kernel
theorem dX3_goTo_62 : decode cX3_goTo 62 = .ok (.l2i, 1) := by decide +kernel
theorem dX3_goTo_63 : decode cX3_goTo 63 = .ok (.putfield 126, 3) := by decide +kernel
theorem dX3_goTo_66 : decode cX3_goTo 66 = .ok (.return_, 1) := by decide +kernel
def fX3_goTo (w : Wd) : Wd :=
  lt2 (fX3_pop w) fun x1 w2 => lt (si w2 48 12 (Int64.toInt32 x1)) fun w3 => lt2 (fX3_pop w3) fun x4 w5 => lt (si w5 48 11 (Int64.toInt32 x4)) fun w6 => lt2 (fX3_read (Int32.toInt64 ((gi w6 48 12) + 1)) w6) fun x7 w8 => lt (si w8 48 15 (Int64.toInt32 x7)) fun w9 => lt2 (fX3_read (Int32.toInt64 ((gi w9 48 12) + 3)) w9) fun x10 w11 => lt (si w11 48 14 (Int64.toInt32 x10)) fun w12 => lt2 (fX3_read (Int32.toInt64 ((gi w12 48 12) + 4)) w12) fun x13 w14 => lt (si w14 48 13 (Int64.toInt32 x13)) fun w15 => w15
theorem pX3_goTo {q : Gq} {l : Launch} {N : Option Value → Wd → Prop} {X : String → Wd → Prop} {w : Wd} {R : Wd} (hN : N none R) (h : fX3_goTo w = R) : RT (GA q) l 5 yX3_goTo cX3_goTo 1 (none) N X 0 [] [(0, .ref 48)] w := by
  unfold fX3_goTo at h
  refine r_aload_n (pc := 0) dX3_goTo_0 rfl 0 rfl ?_
  refine r_aload_n (pc := 1) dX3_goTo_1 rfl 0 rfl ?_
  replace h := lt2_e h; obtain ⟨x1, w2, ew2, h⟩ := h
  refine r_cVl (pc := 2) wyX3_pop oA48 rfl mlRX3_160 iyX3_pop syX3_pop ⟨(Nat.le_of_ble_eq_true rfl), (Nat.le_of_ble_eq_true rfl)⟩ rfl rfl (Nat.le_of_ble_eq_true rfl) dX3_goTo_2 (mX3_pop ew2 (pL.mk ?_))
  refine r_l2i (pc := 5) dX3_goTo_5 ?_
  replace h := lt_e h; obtain ⟨w3, ew3, h⟩ := h
  refine r_putI (pc := 6) (j := 12) oA48 cf3 flRX3_143 rfl rfl rfl rfl dX3_goTo_6 ?_
  refine r_w ew3 ?_
  refine r_aload_n (pc := 9) dX3_goTo_9 rfl 0 rfl ?_
  refine r_aload_n (pc := 10) dX3_goTo_10 rfl 0 rfl ?_
  replace h := lt2_e h; obtain ⟨x4, w5, ew5, h⟩ := h
  refine r_cVl (pc := 11) wyX3_pop oA48 rfl mlRX3_160 iyX3_pop syX3_pop ⟨(Nat.le_of_ble_eq_true rfl), (Nat.le_of_ble_eq_true rfl)⟩ rfl rfl (Nat.le_of_ble_eq_true rfl) dX3_goTo_11 (mX3_pop ew5 (pL.mk ?_))
  refine r_l2i (pc := 14) dX3_goTo_14 ?_
  replace h := lt_e h; obtain ⟨w6, ew6, h⟩ := h
  refine r_putI (pc := 15) (j := 11) oA48 cf3 flRX3_150 rfl rfl rfl rfl dX3_goTo_15 ?_
  refine r_w ew6 ?_
  refine r_aload_n (pc := 18) dX3_goTo_18 rfl 0 rfl ?_
  refine r_aload_n (pc := 19) dX3_goTo_19 rfl 0 rfl ?_
  refine r_aload_n (pc := 20) dX3_goTo_20 rfl 0 rfl ?_
  refine r_get (pc := 21) (j := 12) (v := .int (gi w6 48 12)) oA48 cf3 flRX3_143 rfl dX3_goTo_21 rfl ?_
  refine r_iconst (pc := 24) dX3_goTo_24 ki_1 ?_
  refine r_iadd (pc := 25) dX3_goTo_25 ?_
  refine r_i2l (pc := 26) dX3_goTo_26 ?_
  replace h := lt2_e h; obtain ⟨x7, w8, ew8, h⟩ := h
  refine r_cVl (pc := 27) wyX3_read oA48 rfl mlRX3_146 iyX3_read syX3_read ⟨(Nat.le_of_ble_eq_true rfl), (Nat.le_of_ble_eq_true rfl)⟩ rfl rfl (Nat.le_of_ble_eq_true rfl) dX3_goTo_27 (mX3_read ew8 (pL.mk ?_))
  refine r_l2i (pc := 30) dX3_goTo_30 ?_
  replace h := lt_e h; obtain ⟨w9, ew9, h⟩ := h
  refine r_putI (pc := 31) (j := 15) oA48 cf3 flRX3_114 rfl rfl rfl rfl dX3_goTo_31 ?_
  refine r_w ew9 ?_
  refine r_aload_n (pc := 34) dX3_goTo_34 rfl 0 rfl ?_
  refine r_aload_n (pc := 35) dX3_goTo_35 rfl 0 rfl ?_
  refine r_aload_n (pc := 36) dX3_goTo_36 rfl 0 rfl ?_
  refine r_get (pc := 37) (j := 12) (v := .int (gi w9 48 12)) oA48 cf3 flRX3_143 rfl dX3_goTo_37 rfl ?_
  refine r_iconst (pc := 40) dX3_goTo_40 ki_3 ?_
  refine r_iadd (pc := 41) dX3_goTo_41 ?_
  refine r_i2l (pc := 42) dX3_goTo_42 ?_
  replace h := lt2_e h; obtain ⟨x10, w11, ew11, h⟩ := h
  refine r_cVl (pc := 43) wyX3_read oA48 rfl mlRX3_146 iyX3_read syX3_read ⟨(Nat.le_of_ble_eq_true rfl), (Nat.le_of_ble_eq_true rfl)⟩ rfl rfl (Nat.le_of_ble_eq_true rfl) dX3_goTo_43 (mX3_read ew11 (pL.mk ?_))
  refine r_l2i (pc := 46) dX3_goTo_46 ?_
  replace h := lt_e h; obtain ⟨w12, ew12, h⟩ := h
  refine r_putI (pc := 47) (j := 14) oA48 cf3 flRX3_117 rfl rfl rfl rfl dX3_goTo_47 ?_
  refine r_w ew12 ?_
  refine r_aload_n (pc := 50) dX3_goTo_50 rfl 0 rfl ?_
  refine r_aload_n (pc := 51) dX3_goTo_51 rfl 0 rfl ?_
  refine r_aload_n (pc := 52) dX3_goTo_52 rfl 0 rfl ?_
  refine r_get (pc := 53) (j := 12) (v := .int (gi w12 48 12)) oA48 cf3 flRX3_143 rfl dX3_goTo_53 rfl ?_
  refine r_iconst (pc := 56) dX3_goTo_56 ki_4 ?_
  refine r_iadd (pc := 57) dX3_goTo_57 ?_
  refine r_i2l (pc := 58) dX3_goTo_58 ?_
  replace h := lt2_e h; obtain ⟨x13, w14, ew14, h⟩ := h
  refine r_cVl (pc := 59) wyX3_read oA48 rfl mlRX3_146 iyX3_read syX3_read ⟨(Nat.le_of_ble_eq_true rfl), (Nat.le_of_ble_eq_true rfl)⟩ rfl rfl (Nat.le_of_ble_eq_true rfl) dX3_goTo_59 (mX3_read ew14 (pL.mk ?_))
  refine r_l2i (pc := 62) dX3_goTo_62 ?_
  replace h := lt_e h; obtain ⟨w15, ew15, h⟩ := h
  refine r_putI (pc := 63) (j := 13) oA48 cf3 flRX3_126 rfl rfl rfl rfl dX3_goTo_63 ?_
  refine r_w ew15 ?_
  exact rS_v (pc := 66) rfl dX3_goTo_66 h hN
theorem mX3_goTo {q : Gq} {l : Launch} {N : Option Value → Wd → Prop} {X : String → Wd → Prop} {w : Wd} {u : Wd} (h : fX3_goTo w = u) (hN : N none u) : Ct (GA q) l 5 yX3_goTo cX3_goTo 1 (none) [.ref 48] w N X := Ct.of (by decide) (Nat.le_of_ble_eq_true rfl) (pX3_goTo hN h)
/-! AlgolMill$Machine.use (I)V: S, 5 -/
theorem dX3_use_0 : decode cX3_use 0 = .ok (.aload_n 0, 1) := by decide +kernel
theorem dX3_use_1 : decode cX3_use 1 = .ok (.invokevirtual 160, 3) := by decide +kernel
theorem dX3_use_4 : decode cX3_use 4 = .ok (.l2i, 1) := by decide +kernel
theorem dX3_use_5 : decode cX3_use 5 = .ok (.istore_n 2, 1) := by decide +kernel
theorem dX3_use_6 : decode cX3_use 6 = .ok (.aload_n 0, 1) := by decide +kernel
theorem dX3_use_7 : decode cX3_use 7 = .ok (.invokevirtual 160, 3) := by decide +kernel
theorem dX3_use_10 : decode cX3_use 10 = .ok (.l2i, 1) := by decide +kernel
theorem dX3_use_11 : decode cX3_use 11 = .ok (.istore_n 3, 1) := by decide +kernel
theorem dX3_use_12 : decode cX3_use 12 = .ok (.aload_n 0, 1) := by decide +kernel
theorem dX3_use_13 : decode cX3_use 13 = .ok (.invokevirtual 244, 3) := by decide +kernel
theorem dX3_use_16 : decode cX3_use 16 = .ok (.ifCond .eq 21, 3) := by decide +kernel
theorem dX3_use_19 : decode cX3_use 19 = .ok (.aload_n 0, 1) := by decide +kernel
theorem dX3_use_20 : decode cX3_use 20 = .ok (.getfield 27, 3) := by decide +kernel
theorem dX3_use_23 : decode cX3_use 23 = .ok (.aload_n 0, 1) := by decide +kernel
theorem dX3_use_24 : decode cX3_use 24 = .ok (.getfield 114, 3) := by decide +kernel
theorem dX3_use_27 : decode cX3_use 27 = .ok (.iload_n 1, 1) := by decide +kernel
theorem dX3_use_28 : decode cX3_use 28 = .ok (.invokestatic 80, 3) := by decide +kernel
theorem dX3_use_31 : decode cX3_use 31 = .ok (.aload_n 0, 1) := by decide +kernel
theorem dX3_use_32 : decode cX3_use 32 = .ok (.iload_n 3, 1) := by decide +kernel
theorem dX3_use_33 : decode cX3_use 33 = .ok (.iload_n 2, 1) := by decide +kernel
theorem dX3_use_34 : decode cX3_use 34 = .ok (.invokevirtual 262, 3) := by decide +kernel
theorem dX3_use_37 : decode cX3_use 37 = .ok (.return_, 1) := by decide +kernel
def fX3_use (a1 : Int32) (w : Wd) : Wd :=
  lt2 (fX3_pop w) fun x1 w2 => lt ((Int64.toInt32 x1)) fun x3 => lt2 (fX3_pop w2) fun x4 w5 => lt ((Int64.toInt32 x4)) fun x6 => lt2 (fX3_deeper w5) fun x7 w8 => if x7 = true then (lt (rsi w8 52 61 (gi w8 48 15) a1) fun w10 => lt (fX3_goThere x6 x3 w10) fun w11 => w11) else (w8)
theorem pX3_use {q : Gq} {l : Launch} {N : Option Value → Wd → Prop} {X : String → Wd → Prop} {w : Wd} {R : Wd} (hN : N none R) {a1 : Int32} (h : fX3_use a1 w = R) : RT (GA q) l 5 yX3_use cX3_use 4 (none) N X 0 [] [(0, .ref 48), (1, .int a1)] w := by
  unfold fX3_use at h
  refine r_aload_n (pc := 0) dX3_use_0 rfl 0 rfl ?_
  replace h := lt2_e h; obtain ⟨x1, w2, ew2, h⟩ := h
  refine r_cVl (pc := 1) wyX3_pop oA48 rfl mlRX3_160 iyX3_pop syX3_pop ⟨(Nat.le_of_ble_eq_true rfl), (Nat.le_of_ble_eq_true rfl)⟩ rfl rfl (Nat.le_of_ble_eq_true rfl) dX3_use_1 (mX3_pop ew2 (pL.mk ?_))
  refine r_l2i (pc := 4) dX3_use_4 ?_
  replace h := lt_e h; obtain ⟨x3, ex3, h⟩ := h
  refine r_topi ex3 ?_
  refine r_istore_n (pc := 5) (loc' := [(2, .int x3), (0, .ref 48), (1, .int a1)]) dX3_use_5 rfl (Nat.le_of_ble_eq_true rfl) rfl ?_
  refine r_aload_n (pc := 6) dX3_use_6 rfl 1 rfl ?_
  replace h := lt2_e h; obtain ⟨x4, w5, ew5, h⟩ := h
  refine r_cVl (pc := 7) wyX3_pop oA48 rfl mlRX3_160 iyX3_pop syX3_pop ⟨(Nat.le_of_ble_eq_true rfl), (Nat.le_of_ble_eq_true rfl)⟩ rfl rfl (Nat.le_of_ble_eq_true rfl) dX3_use_7 (mX3_pop ew5 (pL.mk ?_))
  refine r_l2i (pc := 10) dX3_use_10 ?_
  replace h := lt_e h; obtain ⟨x6, ex6, h⟩ := h
  refine r_topi ex6 ?_
  refine r_istore_n (pc := 11) (loc' := [(3, .int x6), (2, .int x3), (0, .ref 48), (1, .int a1)]) dX3_use_11 rfl (Nat.le_of_ble_eq_true rfl) rfl ?_
  refine r_aload_n (pc := 12) dX3_use_12 rfl 2 rfl ?_
  replace h := lt2_e h; obtain ⟨x7, w8, ew8, h⟩ := h
  refine r_cVi (pc := 13) wyX3_deeper oA48 rfl mlRX3_244 iyX3_deeper syX3_deeper ⟨(Nat.le_of_ble_eq_true rfl), (Nat.le_of_ble_eq_true rfl)⟩ rfl rfl (Nat.le_of_ble_eq_true rfl) dX3_use_13 (mX3_deeper ew8 (pI.mk ?_))
  refine r_z_eq (pc := 16) dX3_use_16 rfl (fun hc9 => ?_) (fun hc9 => ?_)
  · replace h := if_f hc9 h
    exact rS_v (pc := 37) rfl dX3_use_37 h hN
  replace h := if_t hc9 h
  refine r_aload_n (pc := 19) dX3_use_19 rfl 2 rfl ?_
  refine r_get (pc := 20) (j := 3) (v := .ref 52) oA48 cf3 flRX3_27 rfl dX3_use_20 rfl ?_
  refine r_aload_n (pc := 23) dX3_use_23 rfl 2 rfl ?_
  refine r_get (pc := 24) (j := 15) (v := .int (gi w8 48 15)) oA48 cf3 flRX3_114 rfl dX3_use_24 rfl ?_
  refine r_iload_n (pc := 27) dX3_use_27 rfl 3 rfl ?_
  replace h := lt_e h; obtain ⟨w10, ew10, h⟩ := h
  refine r_cSv (pc := 28) wyX6_set mlRX3_80 tyX6_set ⟨(Nat.le_of_ble_eq_true rfl), (Nat.le_of_ble_eq_true rfl)⟩ rfl rfl (Nat.le_of_ble_eq_true rfl) dX3_use_28 (mX6_set aA52 (Nat.le_of_ble_eq_true rfl) ew10 (pV.mk ?_))
  refine r_aload_n (pc := 31) dX3_use_31 rfl 2 rfl ?_
  refine r_iload_n (pc := 32) dX3_use_32 rfl 0 rfl ?_
  refine r_iload_n (pc := 33) dX3_use_33 rfl 1 rfl ?_
  replace h := lt_e h; obtain ⟨w11, ew11, h⟩ := h
  refine r_cVv (pc := 34) wyX3_goThere oA48 rfl mlRX3_262 iyX3_goThere syX3_goThere ⟨(Nat.le_of_ble_eq_true rfl), (Nat.le_of_ble_eq_true rfl)⟩ rfl rfl (Nat.le_of_ble_eq_true rfl) dX3_use_34 (mX3_goThere ew11 (pV.mk ?_))
  exact rS_v (pc := 37) rfl dX3_use_37 h hN
theorem mX3_use {q : Gq} {l : Launch} {N : Option Value → Wd → Prop} {X : String → Wd → Prop} {a1 : Int32} {w : Wd} {u : Wd} (h : fX3_use a1 w = u) (hN : N none u) : Ct (GA q) l 5 yX3_use cX3_use 4 (none) [.ref 48, .int a1] w N X := Ct.of (by decide) (Nat.le_of_ble_eq_true rfl) (pX3_use hN h)
/-! AlgolMill$Machine.flow (II)V: O, 8 -/
theorem dX3_flow_0 : decode cX3_flow 0 = .ok (.iload_n 1, 1) := by decide +kernel
theorem dX3_flow_1 : decode cX3_flow 1 = .ok (.tableswitch 229 40 51 #[63, 71, 79, 86, 118, 126, 144, 151, 184, 207, 214, 221], 63) := by decide +kernel
theorem dX3_flow_64 : decode cX3_flow 64 = .ok (.aload_n 0, 1) := by decide +kernel
theorem dX3_flow_65 : decode cX3_flow 65 = .ok (.invokevirtual 240, 3) := by decide +kernel
theorem dX3_flow_68 : decode cX3_flow 68 = .ok (.pop, 1) := by decide +kernel
theorem dX3_flow_69 : decode cX3_flow 69 = .ok (.goto 165, 3) := by decide +kernel
theorem dX3_flow_72 : decode cX3_flow 72 = .ok (.aload_n 0, 1) := by decide +kernel
theorem dX3_flow_73 : decode cX3_flow 73 = .ok (.invokevirtual 244, 3) := by decide +kernel
theorem dX3_flow_76 : decode cX3_flow 76 = .ok (.pop, 1) := by decide +kernel
theorem dX3_flow_77 : decode cX3_flow 77 = .ok (.goto 157, 3) := by decide +kernel
theorem dX3_flow_80 : decode cX3_flow 80 = .ok (.aload_n 0, 1) := by decide +kernel
theorem dX3_flow_81 : decode cX3_flow 81 = .ok (.invokevirtual 247, 3) := by decide +kernel
theorem dX3_flow_84 : decode cX3_flow 84 = .ok (.goto 150, 3) := by decide +kernel
theorem dX3_flow_87 : decode cX3_flow 87 = .ok (.aload_n 0, 1) := by decide +kernel
theorem dX3_flow_88 : decode cX3_flow 88 = .ok (.aload_n 0, 1) := by decide +kernel
theorem dX3_flow_89 : decode cX3_flow 89 = .ok (.getfield 143, 3) := by decide +kernel
theorem dX3_flow_92 : decode cX3_flow 92 = .ok (.iconst 5, 1) := by decide +kernel
theorem dX3_flow_93 : decode cX3_flow 93 = .ok (.iadd, 1) := by decide +kernel
theorem dX3_flow_94 : decode cX3_flow 94 = .ok (.i2l, 1) := by decide +kernel
theorem dX3_flow_95 : decode cX3_flow 95 = .ok (.invokevirtual 146, 3) := by decide +kernel
theorem dX3_flow_98 : decode cX3_flow 98 = .ok (.lstore_n 3, 1) := by decide +kernel
theorem dX3_flow_99 : decode cX3_flow 99 = .ok (.aload_n 0, 1) := by decide +kernel
theorem dX3_flow_100 : decode cX3_flow 100 = .ok (.aload_n 0, 1) := by decide +kernel
theorem dX3_flow_101 : decode cX3_flow 101 = .ok (.getfield 143, 3) := by decide +kernel
theorem dX3_flow_104 : decode cX3_flow 104 = .ok (.putfield 126, 3) := by decide +kernel
theorem dX3_flow_107 : decode cX3_flow 107 = .ok (.aload_n 0, 1) := by decide +kernel
theorem dX3_flow_108 : decode cX3_flow 108 = .ok (.invokevirtual 250, 3) := by decide +kernel
theorem dX3_flow_111 : decode cX3_flow 111 = .ok (.aload_n 0, 1) := by decide +kernel
theorem dX3_flow_112 : decode cX3_flow 112 = .ok (.lload_n 3, 1) := by decide +kernel
theorem dX3_flow_113 : decode cX3_flow 113 = .ok (.invokevirtual 184, 3) := by decide +kernel
theorem dX3_flow_116 : decode cX3_flow 116 = .ok (.goto 118, 3) := by decide +kernel
theorem dX3_flow_119 : decode cX3_flow 119 = .ok (.aload_n 0, 1) := by decide +kernel
theorem dX3_flow_120 : decode cX3_flow 120 = .ok (.iload_n 2, 1) := by decide +kernel
theorem dX3_flow_121 : decode cX3_flow 121 = .ok (.invokevirtual 253, 3) := by decide +kernel
theorem dX3_flow_124 : decode cX3_flow 124 = .ok (.goto 110, 3) := by decide +kernel
theorem dX3_flow_127 : decode cX3_flow 127 = .ok (.aload_n 0, 1) := by decide +kernel
theorem dX3_flow_128 : decode cX3_flow 128 = .ok (.aload_n 0, 1) := by decide +kernel
theorem dX3_flow_129 : decode cX3_flow 129 = .ok (.getfield 27, 3) := by decide +kernel
theorem dX3_flow_132 : decode cX3_flow 132 = .ok (.aload_n 0, 1) := by decide +kernel
theorem dX3_flow_133 : decode cX3_flow 133 = .ok (.getfield 114, 3) := by decide +kernel
theorem dX3_flow_136 : decode cX3_flow 136 = .ok (.invokestatic 77, 3) := by decide +kernel
theorem dX3_flow_139 : decode cX3_flow 139 = .ok (.invokevirtual 253, 3) := by decide +kernel
theorem dX3_flow_142 : decode cX3_flow 142 = .ok (.goto 92, 3) := by decide +kernel
theorem dX3_flow_145 : decode cX3_flow 145 = .ok (.aload_n 0, 1) := by decide +kernel
theorem dX3_flow_146 : decode cX3_flow 146 = .ok (.invokevirtual 250, 3) := by decide +kernel
theorem dX3_flow_149 : decode cX3_flow 149 = .ok (.goto 85, 3) := by decide +kernel
theorem dX3_flow_152 : decode cX3_flow 152 = .ok (.aload_n 0, 1) := by decide +kernel
theorem dX3_flow_153 : decode cX3_flow 153 = .ok (.getfield 27, 3) := by decide +kernel
theorem dX3_flow_156 : decode cX3_flow 156 = .ok (.aload_n 0, 1) := by decide +kernel
theorem dX3_flow_157 : decode cX3_flow 157 = .ok (.getfield 114, 3) := by decide +kernel
theorem dX3_flow_160 : decode cX3_flow 160 = .ok (.invokestatic 77, 3) := by decide +kernel
theorem dX3_flow_163 : decode cX3_flow 163 = .ok (.ifCond .ne 15, 3) := by decide +kernel
theorem dX3_flow_166 : decode cX3_flow 166 = .ok (.aload_n 0, 1) := by decide +kernel
theorem dX3_flow_167 : decode cX3_flow 167 = .ok (.aload_n 0, 1) := by decide +kernel
theorem dX3_flow_168 : decode cX3_flow 168 = .ok (.aload_n 0, 1) := by decide +kernel
theorem dX3_flow_169 : decode cX3_flow 169 = .ok (.invokevirtual 160, 3) := by decide +kernel
theorem dX3_flow_172 : decode cX3_flow 172 = .ok (.invokevirtual 146, 3) := by decide +kernel
theorem dX3_flow_175 : decode cX3_flow 175 = .ok (.invokevirtual 184, 3) := by decide +kernel
theorem dX3_flow_178 : decode cX3_flow 178 = .ok (.aload_n 0, 1) := by decide +kernel
theorem dX3_flow_179 : decode cX3_flow 179 = .ok (.invokevirtual 250, 3) := by decide +kernel
theorem dX3_flow_182 : decode cX3_flow 182 = .ok (.goto 52, 3) := by decide +kernel
theorem dX3_flow_185 : decode cX3_flow 185 = .ok (.aload_n 0, 1) := by decide +kernel
theorem dX3_flow_186 : decode cX3_flow 186 = .ok (.getfield 27, 3) := by decide +kernel
theorem dX3_flow_189 : decode cX3_flow 189 = .ok (.aload_n 0, 1) := by decide +kernel
theorem dX3_flow_190 : decode cX3_flow 190 = .ok (.getfield 114, 3) := by decide +kernel
theorem dX3_flow_193 : decode cX3_flow 193 = .ok (.invokestatic 77, 3) := by decide +kernel
theorem dX3_flow_196 : decode cX3_flow 196 = .ok (.iconst 1, 1) := by decide +kernel
theorem dX3_flow_197 : decode cX3_flow 197 = .ok (.if_icmp .ne 37, 3) := by decide +kernel
theorem dX3_flow_200 : decode cX3_flow 200 = .ok (.aload_n 0, 1) := by decide +kernel
theorem dX3_flow_201 : decode cX3_flow 201 = .ok (.iconst 4, 1) := by decide +kernel
theorem dX3_flow_202 : decode cX3_flow 202 = .ok (.invokevirtual 199, 3) := by decide +kernel
theorem dX3_flow_205 : decode cX3_flow 205 = .ok (.goto 29, 3) := by decide +kernel
theorem dX3_flow_208 : decode cX3_flow 208 = .ok (.aload_n 0, 1) := by decide +kernel
theorem dX3_flow_209 : decode cX3_flow 209 = .ok (.invokevirtual 256, 3) := by decide +kernel
theorem dX3_flow_212 : decode cX3_flow 212 = .ok (.goto 22, 3) := by decide +kernel
theorem dX3_flow_215 : decode cX3_flow 215 = .ok (.aload_n 0, 1) := by decide +kernel
theorem dX3_flow_216 : decode cX3_flow 216 = .ok (.invokevirtual 259, 3) := by decide +kernel
theorem dX3_flow_219 : decode cX3_flow 219 = .ok (.goto 15, 3) := by decide +kernel
theorem dX3_flow_222 : decode cX3_flow 222 = .ok (.aload_n 0, 1) := by decide +kernel
theorem dX3_flow_223 : decode cX3_flow 223 = .ok (.iconst 0, 1) := by decide +kernel
theorem dX3_flow_224 : decode cX3_flow 224 = .ok (.putfield 96, 3) := by decide +kernel
theorem dX3_flow_227 : decode cX3_flow 227 = .ok (.goto 7, 3) := by decide +kernel
theorem dX3_flow_230 : decode cX3_flow 230 = .ok (.aload_n 0, 1) := by decide +kernel
theorem dX3_flow_231 : decode cX3_flow 231 = .ok (.invokevirtual 102, 3) := by decide +kernel
theorem dX3_flow_234 : decode cX3_flow 234 = .ok (.return_, 1) := by decide +kernel
def fX3_flow (a1 : Int32) (a2 : Int32) (w : Wd) : Option Wd :=
  if a1 = 40 then (lt2 (fX3_pay w) fun x2 w3 => some w3) else if a1 = 41 then (lt2 (fX3_deeper w) fun x5 w6 => some w6) else if a1 = 42 then (bn (fX3_call w) fun w8 => some w8) else if a1 = 43 then (lt2 (fX3_read (Int32.toInt64 ((gi w 48 12) + 5)) w) fun x10 w11 => lt (si w11 48 13 (gi w11 48 12)) fun w12 => lt (fX3_goBack w12) fun w13 => lt (fX3_push x10 w13) fun w14 => some w14) else if a1 = 44 then (lt (fX3_use a2 w) fun w16 => some w16) else if a1 = 45 then (lt (rgi w 52 61 (gi w 48 15)) fun x18 => lt (fX3_use x18 w) fun w19 => some w19) else if a1 = 46 then (lt (fX3_goBack w) fun w21 => some w21) else if a1 = 47 then (lt (rgi w 52 61 (gi w 48 15)) fun x23 => if x23 = 0 then (lt2 (fX3_pop w) fun x25 w26 => lt2 (fX3_read x25 w26) fun x27 w28 => lt (fX3_push x27 w28) fun w29 => lt (fX3_goBack w29) fun w30 => some w30) else (lt (fX3_goBack w) fun w31 => some w31)) else if a1 = 48 then (lt (rgi w 52 61 (gi w 48 15)) fun x33 => if x33 = 1 then (lt (fX3_error 4 w) fun w35 => some w35) else (some w)) else if a1 = 49 then (bn (fX3_choose w) fun w37 => some w37) else if a1 = 50 then (lt (fX3_goTo w) fun w39 => some w39) else if a1 = 51 then (lt (si w 48 10 0) fun w41 => some w41) else (lt (fX3_oddity w) fun w42 => some w42)
set_option maxHeartbeats 16000000 in
theorem pX3_flow {q : Gq} {l : Launch} {N : Option Value → Wd → Prop} {X : String → Wd → Prop} {w : Wd} {R : Wd} (hN : N none R) {a1 : Int32} {a2 : Int32} (h : fX3_flow a1 a2 w = some R) : RT (GA q) l 8 yX3_flow cX3_flow 5 (none) N X 0 [] [(0, .ref 48), (1, .int a1), (2, .int a2)] w := by
  unfold fX3_flow at h
  refine r_iload_n (pc := 0) dX3_flow_0 rfl 1 rfl ?_
  by_cases hc1 : a1 = 40
  · refine r_tabC (pc := 1) (off := 63) (tgt := 64) (L := [40]) dX3_flow_1 hc1 (by decide) rfl ?_
    replace h := if_t hc1 h
    refine r_aload_n (pc := 64) dX3_flow_64 rfl 0 rfl ?_
    replace h := lt2_e h; obtain ⟨x2, w3, ew3, h⟩ := h
    refine r_cVi (pc := 65) wyX3_pay oA48 rfl mlRX3_240 iyX3_pay syX3_pay ⟨(Nat.le_of_ble_eq_true rfl), (Nat.le_of_ble_eq_true rfl)⟩ rfl rfl (Nat.le_of_ble_eq_true rfl) dX3_flow_65 (mX3_pay ew3 (pI.mk ?_))
    refine r_pop (pc := 68) dX3_flow_68 rfl ?_
    refine r_goto (pc := 69) dX3_flow_69 rfl ?_
    exact rO_v (pc := 234) rfl dX3_flow_234 h hN
  replace h := if_f hc1 h
  by_cases hc4 : a1 = 41
  · refine r_tabC (pc := 1) (off := 71) (tgt := 72) (L := [41]) dX3_flow_1 hc4 (by decide) rfl ?_
    replace h := if_t hc4 h
    refine r_aload_n (pc := 72) dX3_flow_72 rfl 0 rfl ?_
    replace h := lt2_e h; obtain ⟨x5, w6, ew6, h⟩ := h
    refine r_cVi (pc := 73) wyX3_deeper oA48 rfl mlRX3_244 iyX3_deeper syX3_deeper ⟨(Nat.le_of_ble_eq_true rfl), (Nat.le_of_ble_eq_true rfl)⟩ rfl rfl (Nat.le_of_ble_eq_true rfl) dX3_flow_73 (mX3_deeper ew6 (pI.mk ?_))
    refine r_pop (pc := 76) dX3_flow_76 rfl ?_
    refine r_goto (pc := 77) dX3_flow_77 rfl ?_
    exact rO_v (pc := 234) rfl dX3_flow_234 h hN
  replace h := if_f hc4 h
  by_cases hc7 : a1 = 42
  · refine r_tabC (pc := 1) (off := 79) (tgt := 80) (L := [42]) dX3_flow_1 hc7 (by decide) rfl ?_
    replace h := if_t hc7 h
    refine r_aload_n (pc := 80) dX3_flow_80 rfl 0 rfl ?_
    replace h := bn_e h; obtain ⟨w8, ew8, h⟩ := h
    refine r_cVv (pc := 81) wyX3_call oA48 rfl mlRX3_247 iyX3_call syX3_call ⟨(Nat.le_of_ble_eq_true rfl), (Nat.le_of_ble_eq_true rfl)⟩ rfl rfl (Nat.le_of_ble_eq_true rfl) dX3_flow_81 (mX3_call ew8 (pV.mk ?_))
    refine r_goto (pc := 84) dX3_flow_84 rfl ?_
    exact rO_v (pc := 234) rfl dX3_flow_234 h hN
  replace h := if_f hc7 h
  by_cases hc9 : a1 = 43
  · refine r_tabC (pc := 1) (off := 86) (tgt := 87) (L := [43]) dX3_flow_1 hc9 (by decide) rfl ?_
    replace h := if_t hc9 h
    refine r_aload_n (pc := 87) dX3_flow_87 rfl 0 rfl ?_
    refine r_aload_n (pc := 88) dX3_flow_88 rfl 0 rfl ?_
    refine r_get (pc := 89) (j := 12) (v := .int (gi w 48 12)) oA48 cf3 flRX3_143 rfl dX3_flow_89 rfl ?_
    refine r_iconst (pc := 92) dX3_flow_92 ki_5 ?_
    refine r_iadd (pc := 93) dX3_flow_93 ?_
    refine r_i2l (pc := 94) dX3_flow_94 ?_
    replace h := lt2_e h; obtain ⟨x10, w11, ew11, h⟩ := h
    refine r_cVl (pc := 95) wyX3_read oA48 rfl mlRX3_146 iyX3_read syX3_read ⟨(Nat.le_of_ble_eq_true rfl), (Nat.le_of_ble_eq_true rfl)⟩ rfl rfl (Nat.le_of_ble_eq_true rfl) dX3_flow_95 (mX3_read ew11 (pL.mk ?_))
    refine r_lstore_n (pc := 98) (loc' := [(3, .long x10), (0, .ref 48), (1, .int a1), (2, .int a2)]) dX3_flow_98 rfl (Nat.le_of_ble_eq_true rfl) rfl ?_
    refine r_aload_n (pc := 99) dX3_flow_99 rfl 1 rfl ?_
    refine r_aload_n (pc := 100) dX3_flow_100 rfl 1 rfl ?_
    refine r_get (pc := 101) (j := 12) (v := .int (gi w11 48 12)) oA48 cf3 flRX3_143 rfl dX3_flow_101 rfl ?_
    replace h := lt_e h; obtain ⟨w12, ew12, h⟩ := h
    refine r_putI (pc := 104) (j := 13) oA48 cf3 flRX3_126 rfl rfl rfl rfl dX3_flow_104 ?_
    refine r_w ew12 ?_
    refine r_aload_n (pc := 107) dX3_flow_107 rfl 1 rfl ?_
    replace h := lt_e h; obtain ⟨w13, ew13, h⟩ := h
    refine r_cVv (pc := 108) wyX3_goBack oA48 rfl mlRX3_250 iyX3_goBack syX3_goBack ⟨(Nat.le_of_ble_eq_true rfl), (Nat.le_of_ble_eq_true rfl)⟩ rfl rfl (Nat.le_of_ble_eq_true rfl) dX3_flow_108 (mX3_goBack ew13 (pV.mk ?_))
    refine r_aload_n (pc := 111) dX3_flow_111 rfl 1 rfl ?_
    refine r_lload_n (pc := 112) dX3_flow_112 rfl 0 rfl ?_
    replace h := lt_e h; obtain ⟨w14, ew14, h⟩ := h
    refine r_cVv (pc := 113) wyX3_push oA48 rfl mlRX3_184 iyX3_push syX3_push ⟨(Nat.le_of_ble_eq_true rfl), (Nat.le_of_ble_eq_true rfl)⟩ rfl rfl (Nat.le_of_ble_eq_true rfl) dX3_flow_113 (mX3_push ew14 (pV.mk ?_))
    refine r_goto (pc := 116) dX3_flow_116 rfl ?_
    exact rO_v (pc := 234) rfl dX3_flow_234 h hN
  replace h := if_f hc9 h
  by_cases hc15 : a1 = 44
  · refine r_tabC (pc := 1) (off := 118) (tgt := 119) (L := [44]) dX3_flow_1 hc15 (by decide) rfl ?_
    replace h := if_t hc15 h
    refine r_aload_n (pc := 119) dX3_flow_119 rfl 0 rfl ?_
    refine r_iload_n (pc := 120) dX3_flow_120 rfl 2 rfl ?_
    replace h := lt_e h; obtain ⟨w16, ew16, h⟩ := h
    refine r_cVv (pc := 121) wyX3_use oA48 rfl mlRX3_253 iyX3_use syX3_use ⟨(Nat.le_of_ble_eq_true rfl), (Nat.le_of_ble_eq_true rfl)⟩ rfl rfl (Nat.le_of_ble_eq_true rfl) dX3_flow_121 (mX3_use ew16 (pV.mk ?_))
    refine r_goto (pc := 124) dX3_flow_124 rfl ?_
    exact rO_v (pc := 234) rfl dX3_flow_234 h hN
  replace h := if_f hc15 h
  by_cases hc17 : a1 = 45
  · refine r_tabC (pc := 1) (off := 126) (tgt := 127) (L := [45]) dX3_flow_1 hc17 (by decide) rfl ?_
    replace h := if_t hc17 h
    refine r_aload_n (pc := 127) dX3_flow_127 rfl 0 rfl ?_
    refine r_aload_n (pc := 128) dX3_flow_128 rfl 0 rfl ?_
    refine r_get (pc := 129) (j := 3) (v := .ref 52) oA48 cf3 flRX3_27 rfl dX3_flow_129 rfl ?_
    refine r_aload_n (pc := 132) dX3_flow_132 rfl 0 rfl ?_
    refine r_get (pc := 133) (j := 15) (v := .int (gi w 48 15)) oA48 cf3 flRX3_114 rfl dX3_flow_133 rfl ?_
    replace h := lt_e h; obtain ⟨x18, ex18, h⟩ := h
    refine r_cSi (pc := 136) wyX6_get mlRX3_77 tyX6_get ⟨(Nat.le_of_ble_eq_true rfl), (Nat.le_of_ble_eq_true rfl)⟩ rfl rfl (Nat.le_of_ble_eq_true rfl) dX3_flow_136 (mX6_get aA52 (Nat.le_of_ble_eq_true rfl) ex18 (pI.mk ?_))
    replace h := lt_e h; obtain ⟨w19, ew19, h⟩ := h
    refine r_cVv (pc := 139) wyX3_use oA48 rfl mlRX3_253 iyX3_use syX3_use ⟨(Nat.le_of_ble_eq_true rfl), (Nat.le_of_ble_eq_true rfl)⟩ rfl rfl (Nat.le_of_ble_eq_true rfl) dX3_flow_139 (mX3_use ew19 (pV.mk ?_))
    refine r_goto (pc := 142) dX3_flow_142 rfl ?_
    exact rO_v (pc := 234) rfl dX3_flow_234 h hN
  replace h := if_f hc17 h
  by_cases hc20 : a1 = 46
  · refine r_tabC (pc := 1) (off := 144) (tgt := 145) (L := [46]) dX3_flow_1 hc20 (by decide) rfl ?_
    replace h := if_t hc20 h
    refine r_aload_n (pc := 145) dX3_flow_145 rfl 0 rfl ?_
    replace h := lt_e h; obtain ⟨w21, ew21, h⟩ := h
    refine r_cVv (pc := 146) wyX3_goBack oA48 rfl mlRX3_250 iyX3_goBack syX3_goBack ⟨(Nat.le_of_ble_eq_true rfl), (Nat.le_of_ble_eq_true rfl)⟩ rfl rfl (Nat.le_of_ble_eq_true rfl) dX3_flow_146 (mX3_goBack ew21 (pV.mk ?_))
    refine r_goto (pc := 149) dX3_flow_149 rfl ?_
    exact rO_v (pc := 234) rfl dX3_flow_234 h hN
  replace h := if_f hc20 h
  by_cases hc22 : a1 = 47
  · refine r_tabC (pc := 1) (off := 151) (tgt := 152) (L := [47]) dX3_flow_1 hc22 (by decide) rfl ?_
    replace h := if_t hc22 h
    refine r_aload_n (pc := 152) dX3_flow_152 rfl 0 rfl ?_
    refine r_get (pc := 153) (j := 3) (v := .ref 52) oA48 cf3 flRX3_27 rfl dX3_flow_153 rfl ?_
    refine r_aload_n (pc := 156) dX3_flow_156 rfl 0 rfl ?_
    refine r_get (pc := 157) (j := 15) (v := .int (gi w 48 15)) oA48 cf3 flRX3_114 rfl dX3_flow_157 rfl ?_
    replace h := lt_e h; obtain ⟨x23, ex23, h⟩ := h
    refine r_cSi (pc := 160) wyX6_get mlRX3_77 tyX6_get ⟨(Nat.le_of_ble_eq_true rfl), (Nat.le_of_ble_eq_true rfl)⟩ rfl rfl (Nat.le_of_ble_eq_true rfl) dX3_flow_160 (mX6_get aA52 (Nat.le_of_ble_eq_true rfl) ex23 (pI.mk ?_))
    refine r_if_ne (pc := 163) dX3_flow_163 rfl (fun hc24 => ?_) (fun hc24 => ?_)
    · replace h := if_f hc24 h
      refine r_aload_n (pc := 178) dX3_flow_178 rfl 0 rfl ?_
      replace h := lt_e h; obtain ⟨w31, ew31, h⟩ := h
      refine r_cVv (pc := 179) wyX3_goBack oA48 rfl mlRX3_250 iyX3_goBack syX3_goBack ⟨(Nat.le_of_ble_eq_true rfl), (Nat.le_of_ble_eq_true rfl)⟩ rfl rfl (Nat.le_of_ble_eq_true rfl) dX3_flow_179 (mX3_goBack ew31 (pV.mk ?_))
      refine r_goto (pc := 182) dX3_flow_182 rfl ?_
      exact rO_v (pc := 234) rfl dX3_flow_234 h hN
    replace h := if_t hc24 h
    refine r_aload_n (pc := 166) dX3_flow_166 rfl 0 rfl ?_
    refine r_aload_n (pc := 167) dX3_flow_167 rfl 0 rfl ?_
    refine r_aload_n (pc := 168) dX3_flow_168 rfl 0 rfl ?_
    replace h := lt2_e h; obtain ⟨x25, w26, ew26, h⟩ := h
    refine r_cVl (pc := 169) wyX3_pop oA48 rfl mlRX3_160 iyX3_pop syX3_pop ⟨(Nat.le_of_ble_eq_true rfl), (Nat.le_of_ble_eq_true rfl)⟩ rfl rfl (Nat.le_of_ble_eq_true rfl) dX3_flow_169 (mX3_pop ew26 (pL.mk ?_))
    replace h := lt2_e h; obtain ⟨x27, w28, ew28, h⟩ := h
    refine r_cVl (pc := 172) wyX3_read oA48 rfl mlRX3_146 iyX3_read syX3_read ⟨(Nat.le_of_ble_eq_true rfl), (Nat.le_of_ble_eq_true rfl)⟩ rfl rfl (Nat.le_of_ble_eq_true rfl) dX3_flow_172 (mX3_read ew28 (pL.mk ?_))
    replace h := lt_e h; obtain ⟨w29, ew29, h⟩ := h
    refine r_cVv (pc := 175) wyX3_push oA48 rfl mlRX3_184 iyX3_push syX3_push ⟨(Nat.le_of_ble_eq_true rfl), (Nat.le_of_ble_eq_true rfl)⟩ rfl rfl (Nat.le_of_ble_eq_true rfl) dX3_flow_175 (mX3_push ew29 (pV.mk ?_))
    refine r_aload_n (pc := 178) dX3_flow_178 rfl 0 rfl ?_
    replace h := lt_e h; obtain ⟨w30, ew30, h⟩ := h
    refine r_cVv (pc := 179) wyX3_goBack oA48 rfl mlRX3_250 iyX3_goBack syX3_goBack ⟨(Nat.le_of_ble_eq_true rfl), (Nat.le_of_ble_eq_true rfl)⟩ rfl rfl (Nat.le_of_ble_eq_true rfl) dX3_flow_179 (mX3_goBack ew30 (pV.mk ?_))
    refine r_goto (pc := 182) dX3_flow_182 rfl ?_
    exact rO_v (pc := 234) rfl dX3_flow_234 h hN
  replace h := if_f hc22 h
  by_cases hc32 : a1 = 48
  · refine r_tabC (pc := 1) (off := 184) (tgt := 185) (L := [48]) dX3_flow_1 hc32 (by decide) rfl ?_
    replace h := if_t hc32 h
    refine r_aload_n (pc := 185) dX3_flow_185 rfl 0 rfl ?_
    refine r_get (pc := 186) (j := 3) (v := .ref 52) oA48 cf3 flRX3_27 rfl dX3_flow_186 rfl ?_
    refine r_aload_n (pc := 189) dX3_flow_189 rfl 0 rfl ?_
    refine r_get (pc := 190) (j := 15) (v := .int (gi w 48 15)) oA48 cf3 flRX3_114 rfl dX3_flow_190 rfl ?_
    replace h := lt_e h; obtain ⟨x33, ex33, h⟩ := h
    refine r_cSi (pc := 193) wyX6_get mlRX3_77 tyX6_get ⟨(Nat.le_of_ble_eq_true rfl), (Nat.le_of_ble_eq_true rfl)⟩ rfl rfl (Nat.le_of_ble_eq_true rfl) dX3_flow_193 (mX6_get aA52 (Nat.le_of_ble_eq_true rfl) ex33 (pI.mk ?_))
    refine r_iconst (pc := 196) dX3_flow_196 ki_1 ?_
    refine r_icmp_ne (pc := 197) dX3_flow_197 rfl (fun hc34 => ?_) (fun hc34 => ?_)
    · replace h := if_f hc34 h
      exact rO_v (pc := 234) rfl dX3_flow_234 h hN
    replace h := if_t hc34 h
    refine r_aload_n (pc := 200) dX3_flow_200 rfl 0 rfl ?_
    refine r_iconst (pc := 201) dX3_flow_201 ki_4 ?_
    replace h := lt_e h; obtain ⟨w35, ew35, h⟩ := h
    refine r_cVv (pc := 202) wyX3_error oA48 rfl mlRX3_199 iyX3_error syX3_error ⟨(Nat.le_of_ble_eq_true rfl), (Nat.le_of_ble_eq_true rfl)⟩ rfl rfl (Nat.le_of_ble_eq_true rfl) dX3_flow_202 (mX3_error ew35 (pV.mk ?_))
    refine r_goto (pc := 205) dX3_flow_205 rfl ?_
    exact rO_v (pc := 234) rfl dX3_flow_234 h hN
  replace h := if_f hc32 h
  by_cases hc36 : a1 = 49
  · refine r_tabC (pc := 1) (off := 207) (tgt := 208) (L := [49]) dX3_flow_1 hc36 (by decide) rfl ?_
    replace h := if_t hc36 h
    refine r_aload_n (pc := 208) dX3_flow_208 rfl 0 rfl ?_
    replace h := bn_e h; obtain ⟨w37, ew37, h⟩ := h
    refine r_cVv (pc := 209) wyX3_choose oA48 rfl mlRX3_256 iyX3_choose syX3_choose ⟨(Nat.le_of_ble_eq_true rfl), (Nat.le_of_ble_eq_true rfl)⟩ rfl rfl (Nat.le_of_ble_eq_true rfl) dX3_flow_209 (mX3_choose ew37 (pV.mk ?_))
    refine r_goto (pc := 212) dX3_flow_212 rfl ?_
    exact rO_v (pc := 234) rfl dX3_flow_234 h hN
  replace h := if_f hc36 h
  by_cases hc38 : a1 = 50
  · refine r_tabC (pc := 1) (off := 214) (tgt := 215) (L := [50]) dX3_flow_1 hc38 (by decide) rfl ?_
    replace h := if_t hc38 h
    refine r_aload_n (pc := 215) dX3_flow_215 rfl 0 rfl ?_
    replace h := lt_e h; obtain ⟨w39, ew39, h⟩ := h
    refine r_cVv (pc := 216) wyX3_goTo oA48 rfl mlRX3_259 iyX3_goTo syX3_goTo ⟨(Nat.le_of_ble_eq_true rfl), (Nat.le_of_ble_eq_true rfl)⟩ rfl rfl (Nat.le_of_ble_eq_true rfl) dX3_flow_216 (mX3_goTo ew39 (pV.mk ?_))
    refine r_goto (pc := 219) dX3_flow_219 rfl ?_
    exact rO_v (pc := 234) rfl dX3_flow_234 h hN
  replace h := if_f hc38 h
  by_cases hc40 : a1 = 51
  · refine r_tabC (pc := 1) (off := 221) (tgt := 222) (L := [51]) dX3_flow_1 hc40 (by decide) rfl ?_
    replace h := if_t hc40 h
    refine r_aload_n (pc := 222) dX3_flow_222 rfl 0 rfl ?_
    refine r_iconst (pc := 223) dX3_flow_223 ki_0 ?_
    replace h := lt_e h; obtain ⟨w41, ew41, h⟩ := h
    refine r_putI (pc := 224) (j := 10) oA48 cf3 flRX3_96 rfl rfl rfl rfl dX3_flow_224 ?_
    refine r_w ew41 ?_
    refine r_goto (pc := 227) dX3_flow_227 rfl ?_
    exact rO_v (pc := 234) rfl dX3_flow_234 h hN
  replace h := if_f hc40 h
  refine r_tabD (pc := 1) (tgt := 230) (K := [[40], [41], [42], [43], [44], [45], [46], [47], [48], [49], [50], [51]]) dX3_flow_1 ⟨hc1, hc4, hc7, hc9, hc15, hc17, hc20, hc22, hc32, hc36, hc38, hc40, trivial⟩ (by decide) (by decide) rfl ?_
  refine r_aload_n (pc := 230) dX3_flow_230 rfl 0 rfl ?_
  replace h := lt_e h; obtain ⟨w42, ew42, h⟩ := h
  refine r_cVv (pc := 231) wyX3_oddity oA48 rfl mlRX3_102 iyX3_oddity syX3_oddity ⟨(Nat.le_of_ble_eq_true rfl), (Nat.le_of_ble_eq_true rfl)⟩ rfl rfl (Nat.le_of_ble_eq_true rfl) dX3_flow_231 (mX3_oddity ew42 (pV.mk ?_))
  exact rO_v (pc := 234) rfl dX3_flow_234 h hN
theorem mX3_flow {q : Gq} {l : Launch} {N : Option Value → Wd → Prop} {X : String → Wd → Prop} {a1 : Int32} {a2 : Int32} {w : Wd} {u : Wd} (h : fX3_flow a1 a2 w = some u) (hN : N none u) : Ct (GA q) l 8 yX3_flow cX3_flow 5 (none) [.ref 48, .int a1, .int a2] w N X := Ct.of (by decide) (Nat.le_of_ble_eq_true rfl) (pX3_flow hN h)
/-! AlgolMill$Machine.forTest ()V: S, 5 -/
theorem dX3_forTest_0 : decode cX3_forTest 0 = .ok (.aload_n 0, 1) := by decide +kernel
theorem dX3_forTest_1 : decode cX3_forTest 1 = .ok (.invokevirtual 160, 3) := by decide +kernel
theorem dX3_forTest_4 : decode cX3_forTest 4 = .ok (.lstore_n 1, 1) := by decide +kernel
theorem dX3_forTest_5 : decode cX3_forTest 5 = .ok (.aload_n 0, 1) := by decide +kernel
theorem dX3_forTest_6 : decode cX3_forTest 6 = .ok (.invokevirtual 160, 3) := by decide +kernel
theorem dX3_forTest_9 : decode cX3_forTest 9 = .ok (.lstore_n 3, 1) := by decide +kernel
theorem dX3_forTest_10 : decode cX3_forTest 10 = .ok (.aload_n 0, 1) := by decide +kernel
theorem dX3_forTest_11 : decode cX3_forTest 11 = .ok (.invokevirtual 160, 3) := by decide +kernel
theorem dX3_forTest_14 : decode cX3_forTest 14 = .ok (.lstore 5, 2) := by decide +kernel
theorem dX3_forTest_16 : decode cX3_forTest 16 = .ok (.lload 5, 2) := by decide +kernel
theorem dX3_forTest_18 : decode cX3_forTest 18 = .ok (.lconst 0, 1) := by decide +kernel
theorem dX3_forTest_19 : decode cX3_forTest 19 = .ok (.lcmp, 1) := by decide +kernel
theorem dX3_forTest_20 : decode cX3_forTest 20 = .ok (.ifCond .le 9, 3) := by decide +kernel
theorem dX3_forTest_23 : decode cX3_forTest 23 = .ok (.lload_n 3, 1) := by decide +kernel
theorem dX3_forTest_24 : decode cX3_forTest 24 = .ok (.lload_n 1, 1) := by decide +kernel
theorem dX3_forTest_25 : decode cX3_forTest 25 = .ok (.lcmp, 1) := by decide +kernel
theorem dX3_forTest_26 : decode cX3_forTest 26 = .ok (.ifCond .gt 16, 3) := by decide +kernel
theorem dX3_forTest_29 : decode cX3_forTest 29 = .ok (.lload 5, 2) := by decide +kernel
theorem dX3_forTest_31 : decode cX3_forTest 31 = .ok (.lconst 0, 1) := by decide +kernel
theorem dX3_forTest_32 : decode cX3_forTest 32 = .ok (.lcmp, 1) := by decide +kernel
theorem dX3_forTest_33 : decode cX3_forTest 33 = .ok (.ifCond .ge 13, 3) := by decide +kernel
theorem dX3_forTest_36 : decode cX3_forTest 36 = .ok (.lload_n 3, 1) := by decide +kernel
theorem dX3_forTest_37 : decode cX3_forTest 37 = .ok (.lload_n 1, 1) := by decide +kernel
theorem dX3_forTest_38 : decode cX3_forTest 38 = .ok (.lcmp, 1) := by decide +kernel
theorem dX3_forTest_39 : decode cX3_forTest 39 = .ok (.ifCond .ge 7, 3) := by decide +kernel
theorem dX3_forTest_42 : decode cX3_forTest 42 = .ok (.iconst 1, 1) := by decide +kernel
theorem dX3_forTest_43 : decode cX3_forTest 43 = .ok (.goto 4, 3) := by decide +kernel
theorem dX3_forTest_46 : decode cX3_forTest 46 = .ok (.iconst 0, 1) := by decide +kernel
theorem dX3_forTest_47 : decode cX3_forTest 47 = .ok (.istore 7, 2) := by decide +kernel
theorem dX3_forTest_49 : decode cX3_forTest 49 = .ok (.aload_n 0, 1) := by decide +kernel
theorem dX3_forTest_50 : decode cX3_forTest 50 = .ok (.iload 7, 2) := by decide +kernel
theorem dX3_forTest_52 : decode cX3_forTest 52 = .ok (.ifCond .eq 7, 3) := by decide +kernel
theorem dX3_forTest_55 : decode cX3_forTest 55 = .ok (.lconst 0, 1) := by decide +kernel
theorem dX3_forTest_56 : decode cX3_forTest 56 = .ok (.goto 4, 3) := by decide +kernel
theorem dX3_forTest_59 : decode cX3_forTest 59 = .ok (.lconst 1, 1) := by decide +kernel
theorem dX3_forTest_60 : decode cX3_forTest 60 = .ok (.invokevirtual 184, 3) := by decide +kernel
theorem dX3_forTest_63 : decode cX3_forTest 63 = .ok (.return_, 1) := by decide +kernel
def fX3_forTest_47 (s0 : Bool) (w : Wd) : Wd :=
  if s0 = true then (lt (fX3_push 0 w) fun w2 => w2) else (lt (fX3_push 1 w) fun w3 => w3)
theorem pX3_forTest_47 {q : Gq} {l : Launch} {N : Option Value → Wd → Prop} {X : String → Wd → Prop} {w : Wd} {R : Wd} (hN : N none R) {s0 : Bool} (h : fX3_forTest_47 s0 w = R) : RT (GA q) l 5 yX3_forTest cX3_forTest 8 (none) N X 47 [.int (b2i s0)] [(0, .ref 48)] w := by
  unfold fX3_forTest_47 at h
  refine r_istore (pc := 47) (loc' := [(7, .int (b2i s0)), (0, .ref 48)]) dX3_forTest_47 (Nat.le_of_ble_eq_true rfl) rfl ?_
  refine r_aload_n (pc := 49) dX3_forTest_49 rfl 1 rfl ?_
  refine r_iload (pc := 50) dX3_forTest_50 0 rfl ?_
  refine r_z_eq (pc := 52) dX3_forTest_52 rfl (fun hc1 => ?_) (fun hc1 => ?_)
  · replace h := if_f hc1 h
    refine r_lconst (pc := 59) dX3_forTest_59 kl_1 ?_
    replace h := lt_e h; obtain ⟨w3, ew3, h⟩ := h
    refine r_cVv (pc := 60) wyX3_push oA48 rfl mlRX3_184 iyX3_push syX3_push ⟨(Nat.le_of_ble_eq_true rfl), (Nat.le_of_ble_eq_true rfl)⟩ rfl rfl (Nat.le_of_ble_eq_true rfl) dX3_forTest_60 (mX3_push ew3 (pV.mk ?_))
    exact rS_v (pc := 63) rfl dX3_forTest_63 h hN
  replace h := if_t hc1 h
  refine r_lconst (pc := 55) dX3_forTest_55 kl_0 ?_
  refine r_goto (pc := 56) dX3_forTest_56 rfl ?_
  replace h := lt_e h; obtain ⟨w2, ew2, h⟩ := h
  refine r_cVv (pc := 60) wyX3_push oA48 rfl mlRX3_184 iyX3_push syX3_push ⟨(Nat.le_of_ble_eq_true rfl), (Nat.le_of_ble_eq_true rfl)⟩ rfl rfl (Nat.le_of_ble_eq_true rfl) dX3_forTest_60 (mX3_push ew2 (pV.mk ?_))
  exact rS_v (pc := 63) rfl dX3_forTest_63 h hN
def fX3_forTest_29 (a1 : Int64) (a3 : Int64) (a5 : Int64) (w : Wd) : Wd :=
  if 0 ≤ a5 then (fX3_forTest_47 false w) else (if a1 ≤ a3 then (fX3_forTest_47 false w) else (fX3_forTest_47 true w))
theorem pX3_forTest_29 {q : Gq} {l : Launch} {N : Option Value → Wd → Prop} {X : String → Wd → Prop} {w : Wd} {R : Wd} (hN : N none R) {a1 : Int64} {a3 : Int64} {a5 : Int64} (h : fX3_forTest_29 a1 a3 a5 w = R) : RT (GA q) l 5 yX3_forTest cX3_forTest 8 (none) N X 29 [] [(0, .ref 48), (1, .long a1), (3, .long a3), (5, .long a5)] w := by
  unfold fX3_forTest_29 at h
  refine r_lload (pc := 29) dX3_forTest_29 3 rfl ?_
  refine r_lconst (pc := 31) dX3_forTest_31 kl_0 ?_
  refine r_l_ge (pc := 32) dX3_forTest_32 dX3_forTest_33 rfl (fun hc1 => ?_) (fun hc1 => ?_)
  · replace h := if_t hc1 h
    refine r_iconst (pc := 46) dX3_forTest_46 ki_0 ?_
    refine r_drop (loc' := [(0, .ref 48)]) [0] rfl ?_
    exact pX3_forTest_47 hN h
  replace h := if_f hc1 h
  refine r_lload_n (pc := 36) dX3_forTest_36 rfl 2 rfl ?_
  refine r_lload_n (pc := 37) dX3_forTest_37 rfl 1 rfl ?_
  refine r_l_ge (pc := 38) dX3_forTest_38 dX3_forTest_39 rfl (fun hc2 => ?_) (fun hc2 => ?_)
  · replace h := if_t hc2 h
    refine r_iconst (pc := 46) dX3_forTest_46 ki_0 ?_
    refine r_drop (loc' := [(0, .ref 48)]) [0] rfl ?_
    exact pX3_forTest_47 hN h
  replace h := if_f hc2 h
  refine r_iconst (pc := 42) dX3_forTest_42 ki_1 ?_
  refine r_goto (pc := 43) dX3_forTest_43 rfl ?_
  refine r_drop (loc' := [(0, .ref 48)]) [0] rfl ?_
  exact pX3_forTest_47 hN h
def fX3_forTest (w : Wd) : Wd :=
  lt2 (fX3_pop w) fun x1 w2 => lt2 (fX3_pop w2) fun x3 w4 => lt2 (fX3_pop w4) fun x5 w6 => if x5 ≤ 0 then (fX3_forTest_29 x1 x3 x5 w6) else (if x1 < x3 then (fX3_forTest_47 true w6) else (fX3_forTest_29 x1 x3 x5 w6))
theorem pX3_forTest {q : Gq} {l : Launch} {N : Option Value → Wd → Prop} {X : String → Wd → Prop} {w : Wd} {R : Wd} (hN : N none R) (h : fX3_forTest w = R) : RT (GA q) l 5 yX3_forTest cX3_forTest 8 (none) N X 0 [] [(0, .ref 48)] w := by
  unfold fX3_forTest at h
  refine r_aload_n (pc := 0) dX3_forTest_0 rfl 0 rfl ?_
  replace h := lt2_e h; obtain ⟨x1, w2, ew2, h⟩ := h
  refine r_cVl (pc := 1) wyX3_pop oA48 rfl mlRX3_160 iyX3_pop syX3_pop ⟨(Nat.le_of_ble_eq_true rfl), (Nat.le_of_ble_eq_true rfl)⟩ rfl rfl (Nat.le_of_ble_eq_true rfl) dX3_forTest_1 (mX3_pop ew2 (pL.mk ?_))
  refine r_lstore_n (pc := 4) (loc' := [(1, .long x1), (0, .ref 48)]) dX3_forTest_4 rfl (Nat.le_of_ble_eq_true rfl) rfl ?_
  refine r_aload_n (pc := 5) dX3_forTest_5 rfl 1 rfl ?_
  replace h := lt2_e h; obtain ⟨x3, w4, ew4, h⟩ := h
  refine r_cVl (pc := 6) wyX3_pop oA48 rfl mlRX3_160 iyX3_pop syX3_pop ⟨(Nat.le_of_ble_eq_true rfl), (Nat.le_of_ble_eq_true rfl)⟩ rfl rfl (Nat.le_of_ble_eq_true rfl) dX3_forTest_6 (mX3_pop ew4 (pL.mk ?_))
  refine r_lstore_n (pc := 9) (loc' := [(3, .long x3), (1, .long x1), (0, .ref 48)]) dX3_forTest_9 rfl (Nat.le_of_ble_eq_true rfl) rfl ?_
  refine r_aload_n (pc := 10) dX3_forTest_10 rfl 2 rfl ?_
  replace h := lt2_e h; obtain ⟨x5, w6, ew6, h⟩ := h
  refine r_cVl (pc := 11) wyX3_pop oA48 rfl mlRX3_160 iyX3_pop syX3_pop ⟨(Nat.le_of_ble_eq_true rfl), (Nat.le_of_ble_eq_true rfl)⟩ rfl rfl (Nat.le_of_ble_eq_true rfl) dX3_forTest_11 (mX3_pop ew6 (pL.mk ?_))
  refine r_lstore (pc := 14) (loc' := [(5, .long x5), (3, .long x3), (1, .long x1), (0, .ref 48)]) dX3_forTest_14 (Nat.le_of_ble_eq_true rfl) rfl ?_
  refine r_lload (pc := 16) dX3_forTest_16 0 rfl ?_
  refine r_lconst (pc := 18) dX3_forTest_18 kl_0 ?_
  refine r_l_le (pc := 19) dX3_forTest_19 dX3_forTest_20 rfl (fun hc7 => ?_) (fun hc7 => ?_)
  · replace h := if_t hc7 h
    refine r_drop (loc' := [(0, .ref 48), (1, .long x1), (3, .long x3), (5, .long x5)]) [3, 2, 1, 0] rfl ?_
    exact pX3_forTest_29 hN h
  replace h := if_f hc7 h
  refine r_lload_n (pc := 23) dX3_forTest_23 rfl 1 rfl ?_
  refine r_lload_n (pc := 24) dX3_forTest_24 rfl 2 rfl ?_
  refine r_l_gt (pc := 25) dX3_forTest_25 dX3_forTest_26 rfl (fun hc8 => ?_) (fun hc8 => ?_)
  · replace h := if_t hc8 h
    refine r_iconst (pc := 42) dX3_forTest_42 ki_1 ?_
    refine r_goto (pc := 43) dX3_forTest_43 rfl ?_
    refine r_drop (loc' := [(0, .ref 48)]) [3] rfl ?_
    exact pX3_forTest_47 hN h
  replace h := if_f hc8 h
  refine r_drop (loc' := [(0, .ref 48), (1, .long x1), (3, .long x3), (5, .long x5)]) [3, 2, 1, 0] rfl ?_
  exact pX3_forTest_29 hN h
theorem mX3_forTest {q : Gq} {l : Launch} {N : Option Value → Wd → Prop} {X : String → Wd → Prop} {w : Wd} {u : Wd} (h : fX3_forTest w = u) (hN : N none u) : Ct (GA q) l 5 yX3_forTest cX3_forTest 8 (none) [.ref 48] w N X := Ct.of (by decide) (Nat.le_of_ble_eq_true rfl) (pX3_forTest hN h)
/-! AlgolMill$Machine.make (II)V: O, 5 -/
theorem dX3_make_0 : decode cX3_make 0 = .ok (.aload_n 0, 1) := by decide +kernel
theorem dX3_make_1 : decode cX3_make 1 = .ok (.getfield 143, 3) := by decide +kernel
theorem dX3_make_4 : decode cX3_make 4 = .ok (.iload_n 2, 1) := by decide +kernel
theorem dX3_make_5 : decode cX3_make 5 = .ok (.iadd, 1) := by decide +kernel
theorem dX3_make_6 : decode cX3_make 6 = .ok (.istore_n 3, 1) := by decide +kernel
theorem dX3_make_7 : decode cX3_make 7 = .ok (.lconst 1, 1) := by decide +kernel
theorem dX3_make_8 : decode cX3_make 8 = .ok (.lstore 4, 2) := by decide +kernel
theorem dX3_make_10 : decode cX3_make 10 = .ok (.aload_n 0, 1) := by decide +kernel
theorem dX3_make_11 : decode cX3_make 11 = .ok (.iload_n 3, 1) := by decide +kernel
theorem dX3_make_12 : decode cX3_make 12 = .ok (.i2l, 1) := by decide +kernel
theorem dX3_make_13 : decode cX3_make 13 = .ok (.iload_n 1, 1) := by decide +kernel
theorem dX3_make_14 : decode cX3_make 14 = .ok (.i2l, 1) := by decide +kernel
theorem dX3_make_15 : decode cX3_make 15 = .ok (.invokevirtual 217, 3) := by decide +kernel
theorem dX3_make_18 : decode cX3_make 18 = .ok (.aload_n 0, 1) := by decide +kernel
theorem dX3_make_19 : decode cX3_make 19 = .ok (.iload_n 3, 1) := by decide +kernel
theorem dX3_make_20 : decode cX3_make 20 = .ok (.iconst 1, 1) := by decide +kernel
theorem dX3_make_21 : decode cX3_make 21 = .ok (.iadd, 1) := by decide +kernel
theorem dX3_make_22 : decode cX3_make 22 = .ok (.i2l, 1) := by decide +kernel
theorem dX3_make_23 : decode cX3_make 23 = .ok (.sipush 4096, 3) := by decide +kernel
theorem dX3_make_26 : decode cX3_make 26 = .ok (.aload_n 0, 1) := by decide +kernel
theorem dX3_make_27 : decode cX3_make 27 = .ok (.getfield 120, 3) := by decide +kernel
theorem dX3_make_30 : decode cX3_make 30 = .ok (.iadd, 1) := by decide +kernel
theorem dX3_make_31 : decode cX3_make 31 = .ok (.i2l, 1) := by decide +kernel
theorem dX3_make_32 : decode cX3_make 32 = .ok (.invokevirtual 217, 3) := by decide +kernel
theorem dX3_make_35 : decode cX3_make 35 = .ok (.iconst 0, 1) := by decide +kernel
theorem dX3_make_36 : decode cX3_make 36 = .ok (.istore 6, 2) := by decide +kernel
theorem dX3_make_38 : decode cX3_make 38 = .ok (.iload 6, 2) := by decide +kernel
theorem dX3_make_40 : decode cX3_make 40 = .ok (.iload_n 1, 1) := by decide +kernel
theorem dX3_make_41 : decode cX3_make 41 = .ok (.if_icmp .ge 113, 3) := by decide +kernel
theorem dX3_make_44 : decode cX3_make 44 = .ok (.aload_n 0, 1) := by decide +kernel
theorem dX3_make_45 : decode cX3_make 45 = .ok (.getfield 24, 3) := by decide +kernel
theorem dX3_make_48 : decode cX3_make 48 = .ok (.aload_n 0, 1) := by decide +kernel
theorem dX3_make_49 : decode cX3_make 49 = .ok (.getfield 117, 3) := by decide +kernel
theorem dX3_make_52 : decode cX3_make 52 = .ok (.iconst 2, 1) := by decide +kernel
theorem dX3_make_53 : decode cX3_make 53 = .ok (.iload_n 1, 1) := by decide +kernel
theorem dX3_make_54 : decode cX3_make 54 = .ok (.iload 6, 2) := by decide +kernel
theorem dX3_make_56 : decode cX3_make 56 = .ok (.isub, 1) := by decide +kernel
theorem dX3_make_57 : decode cX3_make 57 = .ok (.imul, 1) := by decide +kernel
theorem dX3_make_58 : decode cX3_make 58 = .ok (.isub, 1) := by decide +kernel
theorem dX3_make_59 : decode cX3_make 59 = .ok (.invokestatic 63, 3) := by decide +kernel
theorem dX3_make_62 : decode cX3_make 62 = .ok (.lstore 7, 2) := by decide +kernel
theorem dX3_make_64 : decode cX3_make 64 = .ok (.aload_n 0, 1) := by decide +kernel
theorem dX3_make_65 : decode cX3_make 65 = .ok (.getfield 24, 3) := by decide +kernel
theorem dX3_make_68 : decode cX3_make 68 = .ok (.aload_n 0, 1) := by decide +kernel
theorem dX3_make_69 : decode cX3_make 69 = .ok (.getfield 117, 3) := by decide +kernel
theorem dX3_make_72 : decode cX3_make 72 = .ok (.iconst 2, 1) := by decide +kernel
theorem dX3_make_73 : decode cX3_make 73 = .ok (.iload_n 1, 1) := by decide +kernel
theorem dX3_make_74 : decode cX3_make 74 = .ok (.iload 6, 2) := by decide +kernel
theorem dX3_make_76 : decode cX3_make 76 = .ok (.isub, 1) := by decide +kernel
theorem dX3_make_77 : decode cX3_make 77 = .ok (.imul, 1) := by decide +kernel
theorem dX3_make_78 : decode cX3_make 78 = .ok (.isub, 1) := by decide +kernel
theorem dX3_make_79 : decode cX3_make 79 = .ok (.iconst 1, 1) := by decide +kernel
theorem dX3_make_80 : decode cX3_make 80 = .ok (.iadd, 1) := by decide +kernel
theorem dX3_make_81 : decode cX3_make 81 = .ok (.invokestatic 63, 3) := by decide +kernel
theorem dX3_make_84 : decode cX3_make 84 = .ok (.lstore 9, 2) := by decide +kernel
theorem dX3_make_86 : decode cX3_make 86 = .ok (.aload_n 0, 1) := by decide +kernel
theorem dX3_make_87 : decode cX3_make 87 = .ok (.iload_n 3, 1) := by decide +kernel
theorem dX3_make_88 : decode cX3_make 88 = .ok (.iconst 2, 1) := by decide +kernel
theorem dX3_make_89 : decode cX3_make 89 = .ok (.iadd, 1) := by decide +kernel
theorem dX3_make_90 : decode cX3_make 90 = .ok (.iconst 2, 1) := by decide +kernel
theorem dX3_make_91 : decode cX3_make 91 = .ok (.iload 6, 2) := by decide +kernel
theorem dX3_make_93 : decode cX3_make 93 = .ok (.imul, 1) := by decide +kernel
theorem dX3_make_94 : decode cX3_make 94 = .ok (.iadd, 1) := by decide +kernel
theorem dX3_make_95 : decode cX3_make 95 = .ok (.i2l, 1) := by decide +kernel
theorem dX3_make_96 : decode cX3_make 96 = .ok (.lload 7, 2) := by decide +kernel
theorem dX3_make_98 : decode cX3_make 98 = .ok (.invokevirtual 217, 3) := by decide +kernel
theorem dX3_make_101 : decode cX3_make 101 = .ok (.aload_n 0, 1) := by decide +kernel
theorem dX3_make_102 : decode cX3_make 102 = .ok (.iload_n 3, 1) := by decide +kernel
theorem dX3_make_103 : decode cX3_make 103 = .ok (.iconst 3, 1) := by decide +kernel
theorem dX3_make_104 : decode cX3_make 104 = .ok (.iadd, 1) := by decide +kernel
theorem dX3_make_105 : decode cX3_make 105 = .ok (.iconst 2, 1) := by decide +kernel
theorem dX3_make_106 : decode cX3_make 106 = .ok (.iload 6, 2) := by decide +kernel
theorem dX3_make_108 : decode cX3_make 108 = .ok (.imul, 1) := by decide +kernel
theorem dX3_make_109 : decode cX3_make 109 = .ok (.iadd, 1) := by decide +kernel
theorem dX3_make_110 : decode cX3_make 110 = .ok (.i2l, 1) := by decide +kernel
theorem dX3_make_111 : decode cX3_make 111 = .ok (.lload 9, 2) := by decide +kernel
theorem dX3_make_113 : decode cX3_make 113 = .ok (.invokevirtual 217, 3) := by decide +kernel
theorem dX3_make_116 : decode cX3_make 116 = .ok (.lload 9, 2) := by decide +kernel
theorem dX3_make_118 : decode cX3_make 118 = .ok (.lload 7, 2) := by decide +kernel
theorem dX3_make_120 : decode cX3_make 120 = .ok (.lsub, 1) := by decide +kernel
theorem dX3_make_121 : decode cX3_make 121 = .ok (.lconst 1, 1) := by decide +kernel
theorem dX3_make_122 : decode cX3_make 122 = .ok (.ladd, 1) := by decide +kernel
theorem dX3_make_123 : decode cX3_make 123 = .ok (.ldc2_w 222, 3) := by decide +kernel
theorem dX3_make_126 : decode cX3_make 126 = .ok (.invokestatic 224, 3) := by decide +kernel
theorem dX3_make_129 : decode cX3_make 129 = .ok (.lconst 0, 1) := by decide +kernel
theorem dX3_make_130 : decode cX3_make 130 = .ok (.invokestatic 227, 3) := by decide +kernel
theorem dX3_make_133 : decode cX3_make 133 = .ok (.lstore 11, 2) := by decide +kernel
theorem dX3_make_135 : decode cX3_make 135 = .ok (.lload 4, 2) := by decide +kernel
theorem dX3_make_137 : decode cX3_make 137 = .ok (.ldc2_w 222, 3) := by decide +kernel
theorem dX3_make_140 : decode cX3_make 140 = .ok (.invokestatic 224, 3) := by decide +kernel
theorem dX3_make_143 : decode cX3_make 143 = .ok (.lload 11, 2) := by decide +kernel
theorem dX3_make_145 : decode cX3_make 145 = .ok (.lmul, 1) := by decide +kernel
theorem dX3_make_146 : decode cX3_make 146 = .ok (.lstore 4, 2) := by decide +kernel
theorem dX3_make_148 : decode cX3_make 148 = .ok (.iinc 6 1, 3) := by decide +kernel
theorem dX3_make_151 : decode cX3_make 151 = .ok (.goto (-113), 3) := by decide +kernel
theorem dX3_make_154 : decode cX3_make 154 = .ok (.aload_n 0, 1) := by decide +kernel
theorem dX3_make_155 : decode cX3_make 155 = .ok (.getfield 120, 3) := by decide +kernel
theorem dX3_make_158 : decode cX3_make 158 = .ok (.i2l, 1) := by decide +kernel
theorem dX3_make_159 : decode cX3_make 159 = .ok (.lload 4, 2) := by decide +kernel
theorem dX3_make_161 : decode cX3_make 161 = .ok (.ladd, 1) := by decide +kernel
theorem dX3_make_162 : decode cX3_make 162 = .ok (.ldc2_w 229, 3) := by decide +kernel
theorem dX3_make_165 : decode cX3_make 165 = .ok (.lcmp, 1) := by decide +kernel
theorem dX3_make_166 : decode cX3_make 166 = .ok (.ifCond .le 9, 3) := by decide +kernel
theorem dX3_make_169 : decode cX3_make 169 = .ok (.aload_n 0, 1) := by decide +kernel
theorem dX3_make_170 : decode cX3_make 170 = .ok (.iconst 3, 1) := by decide +kernel
theorem dX3_make_171 : decode cX3_make 171 = .ok (.invokevirtual 199, 3) := by decide +kernel
theorem dX3_make_174 : decode cX3_make 174 = .ok (.return_, 1) := by decide +kernel
theorem dX3_make_175 : decode cX3_make 175 = .ok (.iconst 0, 1) := by decide +kernel
theorem dX3_make_176 : decode cX3_make 176 = .ok (.istore 6, 2) := by decide +kernel
theorem dX3_make_178 : decode cX3_make 178 = .ok (.iload 6, 2) := by decide +kernel
theorem dX3_make_180 : decode cX3_make 180 = .ok (.i2l, 1) := by decide +kernel
theorem dX3_make_181 : decode cX3_make 181 = .ok (.lload 4, 2) := by decide +kernel
theorem dX3_make_183 : decode cX3_make 183 = .ok (.lcmp, 1) := by decide +kernel
theorem dX3_make_184 : decode cX3_make 184 = .ok (.ifCond .ge 26, 3) := by decide +kernel
theorem dX3_make_187 : decode cX3_make 187 = .ok (.aload_n 0, 1) := by decide +kernel
theorem dX3_make_188 : decode cX3_make 188 = .ok (.sipush 4096, 3) := by decide +kernel
theorem dX3_make_191 : decode cX3_make 191 = .ok (.aload_n 0, 1) := by decide +kernel
theorem dX3_make_192 : decode cX3_make 192 = .ok (.getfield 120, 3) := by decide +kernel
theorem dX3_make_195 : decode cX3_make 195 = .ok (.iadd, 1) := by decide +kernel
theorem dX3_make_196 : decode cX3_make 196 = .ok (.iload 6, 2) := by decide +kernel
theorem dX3_make_198 : decode cX3_make 198 = .ok (.iadd, 1) := by decide +kernel
theorem dX3_make_199 : decode cX3_make 199 = .ok (.i2l, 1) := by decide +kernel
theorem dX3_make_200 : decode cX3_make 200 = .ok (.lconst 0, 1) := by decide +kernel
theorem dX3_make_201 : decode cX3_make 201 = .ok (.invokevirtual 217, 3) := by decide +kernel
theorem dX3_make_204 : decode cX3_make 204 = .ok (.iinc 6 1, 3) := by decide +kernel
theorem dX3_make_207 : decode cX3_make 207 = .ok (.goto (-29), 3) := by decide +kernel
theorem dX3_make_210 : decode cX3_make 210 = .ok (.aload_n 0, 1) := by decide +kernel
theorem dX3_make_211 : decode cX3_make 211 = .ok (.dup, 1) := by decide +kernel
theorem dX3_make_212 : decode cX3_make 212 = .ok (.getfield 120, 3) := by decide +kernel
theorem dX3_make_215 : decode cX3_make 215 = .ok (.lload 4, 2) := by decide +kernel
theorem dX3_make_217 : decode cX3_make 217 = .ok (.l2i, 1) := by decide +kernel
theorem dX3_make_218 : decode cX3_make 218 = .ok (.iadd, 1) := by decide +kernel
theorem dX3_make_219 : decode cX3_make 219 = .ok (.putfield 120, 3) := by decide +kernel
theorem dX3_make_222 : decode cX3_make 222 = .ok (.aload_n 0, 1) := by decide +kernel
theorem dX3_make_223 : decode cX3_make 223 = .ok (.bipush 6, 2) := by decide +kernel
theorem dX3_make_225 : decode cX3_make 225 = .ok (.aload_n 0, 1) := by decide +kernel
theorem dX3_make_226 : decode cX3_make 226 = .ok (.getfield 120, 3) := by decide +kernel
theorem dX3_make_229 : decode cX3_make 229 = .ok (.invokevirtual 231, 3) := by decide +kernel
theorem dX3_make_232 : decode cX3_make 232 = .ok (.return_, 1) := by decide +kernel
def fX3_make_178 (k_178 : Int64 → Int32 → Wd → Option Wd) (a4 : Int64) (a6 : Int32) (w : Wd) : Option Wd :=
  if a4 ≤ (Int32.toInt64 a6) then (lt (si w 48 16 ((gi w 48 16) + (Int64.toInt32 a4))) fun w2 => lt (fX3_countMost 6 (gi w2 48 16) w2) fun w3 => some w3) else (lt (fX3_write (Int32.toInt64 ((4096 + (gi w 48 16)) + a6)) 0 w) fun w4 => lt (a6 + 1) fun x5 => k_178 a4 x5 w4)
theorem pX3_make_178 {q : Gq} {l : Launch} {N : Option Value → Wd → Prop} {X : String → Wd → Prop} {w : Wd} {R : Wd} (hN : N none R) {k_178 : Int64 → Int32 → Wd → Option Wd} (hk_178 : ∀ (a4 : Int64) (a6 : Int32) (w : Wd), k_178 a4 a6 w = some R → RT (GA q) l 5 yX3_make cX3_make 13 (none) N X 178 [] [(0, .ref 48), (4, .long a4), (6, .int a6)] w) {a4 : Int64} {a6 : Int32} (h : fX3_make_178 k_178 a4 a6 w = some R) : RT (GA q) l 5 yX3_make cX3_make 13 (none) N X 178 [] [(0, .ref 48), (4, .long a4), (6, .int a6)] w := by
  unfold fX3_make_178 at h
  refine r_iload (pc := 178) dX3_make_178 2 rfl ?_
  refine r_i2l (pc := 180) dX3_make_180 ?_
  refine r_lload (pc := 181) dX3_make_181 1 rfl ?_
  refine r_l_ge (pc := 183) dX3_make_183 dX3_make_184 rfl (fun hc1 => ?_) (fun hc1 => ?_)
  · replace h := if_t hc1 h
    refine r_aload_n (pc := 210) dX3_make_210 rfl 0 rfl ?_
    refine r_dup (pc := 211) dX3_make_211 rfl ?_
    refine r_get (pc := 212) (j := 16) (v := .int (gi w 48 16)) oA48 cf3 flRX3_120 rfl dX3_make_212 rfl ?_
    refine r_lload (pc := 215) dX3_make_215 1 rfl ?_
    refine r_l2i (pc := 217) dX3_make_217 ?_
    refine r_iadd (pc := 218) dX3_make_218 ?_
    replace h := lt_e h; obtain ⟨w2, ew2, h⟩ := h
    refine r_putI (pc := 219) (j := 16) oA48 cf3 flRX3_120 rfl rfl rfl rfl dX3_make_219 ?_
    refine r_w ew2 ?_
    refine r_aload_n (pc := 222) dX3_make_222 rfl 0 rfl ?_
    refine r_bipush (pc := 223) dX3_make_223 kb_6 ?_
    refine r_aload_n (pc := 225) dX3_make_225 rfl 0 rfl ?_
    refine r_get (pc := 226) (j := 16) (v := .int (gi w2 48 16)) oA48 cf3 flRX3_120 rfl dX3_make_226 rfl ?_
    replace h := lt_e h; obtain ⟨w3, ew3, h⟩ := h
    refine r_cVv (pc := 229) wyX3_countMost oA48 rfl mlRX3_231 iyX3_countMost syX3_countMost ⟨(Nat.le_of_ble_eq_true rfl), (Nat.le_of_ble_eq_true rfl)⟩ rfl rfl (Nat.le_of_ble_eq_true rfl) dX3_make_229 (mX3_countMost ew3 (pV.mk ?_))
    exact rO_v (pc := 232) rfl dX3_make_232 h hN
  replace h := if_f hc1 h
  refine r_aload_n (pc := 187) dX3_make_187 rfl 0 rfl ?_
  refine r_sipush (pc := 188) dX3_make_188 ks_4096 ?_
  refine r_aload_n (pc := 191) dX3_make_191 rfl 0 rfl ?_
  refine r_get (pc := 192) (j := 16) (v := .int (gi w 48 16)) oA48 cf3 flRX3_120 rfl dX3_make_192 rfl ?_
  refine r_iadd (pc := 195) dX3_make_195 ?_
  refine r_iload (pc := 196) dX3_make_196 2 rfl ?_
  refine r_iadd (pc := 198) dX3_make_198 ?_
  refine r_i2l (pc := 199) dX3_make_199 ?_
  refine r_lconst (pc := 200) dX3_make_200 kl_0 ?_
  replace h := lt_e h; obtain ⟨w4, ew4, h⟩ := h
  refine r_cVv (pc := 201) wyX3_write oA48 rfl mlRX3_217 iyX3_write syX3_write ⟨(Nat.le_of_ble_eq_true rfl), (Nat.le_of_ble_eq_true rfl)⟩ rfl rfl (Nat.le_of_ble_eq_true rfl) dX3_make_201 (mX3_write ew4 (pV.mk ?_))
  replace h := lt_e h; obtain ⟨x5, ex5, h⟩ := h
  refine r_inc (pc := 204) (loc' := [(6, .int x5), (0, .ref 48), (4, .long a4)]) dX3_make_204 ki_1 ex5 2 rfl (Nat.le_of_ble_eq_true rfl) rfl ?_
  refine r_goto (pc := 207) dX3_make_207 rfl ?_
  refine r_drop (loc' := [(0, .ref 48), (4, .long a4), (6, .int x5)]) [1, 2, 0] rfl ?_
  exact hk_178 a4 x5 w4 h
def oX3_make_178 : Nat → Int64 → Int32 → Wd → Option Wd
  | 0 => fun _ _ _ => none
  | n + 1 => fX3_make_178 (oX3_make_178 n)
theorem qX3_make_178 {q : Gq} {l : Launch} {N : Option Value → Wd → Prop} {X : String → Wd → Prop} {R : Wd} (hN : N none R) : ∀ (n : Nat) (a4 : Int64) (a6 : Int32) (w : Wd), oX3_make_178 n a4 a6 w = some R → RT (GA q) l 5 yX3_make cX3_make 13 (none) N X 178 [] [(0, .ref 48), (4, .long a4), (6, .int a6)] w := by
  intro n
  induction n with
  | zero =>
    intro a4 a6 w h
    exact absurd h (fun q => nomatch q)
  | succ n ih =>
    intro a4 a6 w h
    exact pX3_make_178 hN ih h
def fX3_make_38 (k_38 : Int32 → Int32 → Int64 → Int32 → Wd → Option Wd) (a1 : Int32) (a3 : Int32) (a4 : Int64) (a6 : Int32) (w : Wd) : Option Wd :=
  if a1 ≤ a6 then (if ((Int32.toInt64 (gi w 48 16)) + a4) ≤ 2000 then (oX3_make_178 FU a4 0 w) else (lt (fX3_error 3 w) fun w3 => some w3)) else (lt (rgl w 51 30622 ((gi w 48 14) - (2 * (a1 - a6)))) fun x4 => lt (rgl w 51 30622 (((gi w 48 14) - (2 * (a1 - a6))) + 1)) fun x5 => lt (fX3_write (Int32.toInt64 ((a3 + 2) + (2 * a6))) x4 w) fun w6 => lt (fX3_write (Int32.toInt64 ((a3 + 3) + (2 * a6))) x5 w6) fun w7 => lt (fJ9_min_f86c9 ((x5 - x4) + 1) 2001) fun x8 => lt (fJ9_max_f86c9 x8 0) fun x9 => lt (fJ9_min_f86c9 a4 2001) fun x10 => lt ((x10 * x9)) fun x11 => lt (a6 + 1) fun x12 => k_38 a1 a3 x11 x12 w7)
set_option maxHeartbeats 16000000 in
theorem pX3_make_38 {q : Gq} {l : Launch} {N : Option Value → Wd → Prop} {X : String → Wd → Prop} {w : Wd} {R : Wd} (hN : N none R) {k_38 : Int32 → Int32 → Int64 → Int32 → Wd → Option Wd} (hk_38 : ∀ (a1 : Int32) (a3 : Int32) (a4 : Int64) (a6 : Int32) (w : Wd), k_38 a1 a3 a4 a6 w = some R → RT (GA q) l 5 yX3_make cX3_make 13 (none) N X 38 [] [(0, .ref 48), (1, .int a1), (3, .int a3), (4, .long a4), (6, .int a6)] w) {a1 : Int32} {a3 : Int32} {a4 : Int64} {a6 : Int32} (h : fX3_make_38 k_38 a1 a3 a4 a6 w = some R) : RT (GA q) l 5 yX3_make cX3_make 13 (none) N X 38 [] [(0, .ref 48), (1, .int a1), (3, .int a3), (4, .long a4), (6, .int a6)] w := by
  unfold fX3_make_38 at h
  refine r_iload (pc := 38) dX3_make_38 4 rfl ?_
  refine r_iload_n (pc := 40) dX3_make_40 rfl 1 rfl ?_
  refine r_icmp_ge (pc := 41) dX3_make_41 rfl (fun hc1 => ?_) (fun hc1 => ?_)
  · replace h := if_t hc1 h
    refine r_aload_n (pc := 154) dX3_make_154 rfl 0 rfl ?_
    refine r_get (pc := 155) (j := 16) (v := .int (gi w 48 16)) oA48 cf3 flRX3_120 rfl dX3_make_155 rfl ?_
    refine r_i2l (pc := 158) dX3_make_158 ?_
    refine r_lload (pc := 159) dX3_make_159 3 rfl ?_
    refine r_ladd (pc := 161) dX3_make_161 ?_
    refine r_ldc2 (pc := 162) dX3_make_162 kcRX3_229 ?_
    refine r_l_le (pc := 165) dX3_make_165 dX3_make_166 rfl (fun hc2 => ?_) (fun hc2 => ?_)
    · replace h := if_t hc2 h
      refine r_iconst (pc := 175) dX3_make_175 ki_0 ?_
      refine r_istore (pc := 176) (loc' := [(6, .int 0), (0, .ref 48), (1, .int a1), (3, .int a3), (4, .long a4)]) dX3_make_176 (Nat.le_of_ble_eq_true rfl) rfl ?_
      refine r_drop (loc' := [(0, .ref 48), (4, .long a4), (6, .int 0)]) [1, 4, 0] rfl ?_
      exact qX3_make_178 hN FU a4 0 w h
    replace h := if_f hc2 h
    refine r_aload_n (pc := 169) dX3_make_169 rfl 0 rfl ?_
    refine r_iconst (pc := 170) dX3_make_170 ki_3 ?_
    replace h := lt_e h; obtain ⟨w3, ew3, h⟩ := h
    refine r_cVv (pc := 171) wyX3_error oA48 rfl mlRX3_199 iyX3_error syX3_error ⟨(Nat.le_of_ble_eq_true rfl), (Nat.le_of_ble_eq_true rfl)⟩ rfl rfl (Nat.le_of_ble_eq_true rfl) dX3_make_171 (mX3_error ew3 (pV.mk ?_))
    exact rO_v (pc := 174) rfl dX3_make_174 h hN
  replace h := if_f hc1 h
  refine r_aload_n (pc := 44) dX3_make_44 rfl 0 rfl ?_
  refine r_get (pc := 45) (j := 2) (v := .ref 51) oA48 cf3 flRX3_24 rfl dX3_make_45 rfl ?_
  refine r_aload_n (pc := 48) dX3_make_48 rfl 0 rfl ?_
  refine r_get (pc := 49) (j := 14) (v := .int (gi w 48 14)) oA48 cf3 flRX3_117 rfl dX3_make_49 rfl ?_
  refine r_iconst (pc := 52) dX3_make_52 ki_2 ?_
  refine r_iload_n (pc := 53) dX3_make_53 rfl 1 rfl ?_
  refine r_iload (pc := 54) dX3_make_54 4 rfl ?_
  refine r_isub (pc := 56) dX3_make_56 ?_
  refine r_imul (pc := 57) dX3_make_57 ?_
  refine r_isub (pc := 58) dX3_make_58 ?_
  replace h := lt_e h; obtain ⟨x4, ex4, h⟩ := h
  refine r_cSl (pc := 59) wyX6_get_ mlRX3_63 tyX6_get_ ⟨(Nat.le_of_ble_eq_true rfl), (Nat.le_of_ble_eq_true rfl)⟩ rfl rfl (Nat.le_of_ble_eq_true rfl) dX3_make_59 (mX6_get_ aA51 (Nat.le_of_ble_eq_true rfl) ex4 (pL.mk ?_))
  refine r_lstore (pc := 62) (loc' := [(7, .long x4), (0, .ref 48), (1, .int a1), (3, .int a3), (4, .long a4), (6, .int a6)]) dX3_make_62 (Nat.le_of_ble_eq_true rfl) rfl ?_
  refine r_aload_n (pc := 64) dX3_make_64 rfl 1 rfl ?_
  refine r_get (pc := 65) (j := 2) (v := .ref 51) oA48 cf3 flRX3_24 rfl dX3_make_65 rfl ?_
  refine r_aload_n (pc := 68) dX3_make_68 rfl 1 rfl ?_
  refine r_get (pc := 69) (j := 14) (v := .int (gi w 48 14)) oA48 cf3 flRX3_117 rfl dX3_make_69 rfl ?_
  refine r_iconst (pc := 72) dX3_make_72 ki_2 ?_
  refine r_iload_n (pc := 73) dX3_make_73 rfl 2 rfl ?_
  refine r_iload (pc := 74) dX3_make_74 5 rfl ?_
  refine r_isub (pc := 76) dX3_make_76 ?_
  refine r_imul (pc := 77) dX3_make_77 ?_
  refine r_isub (pc := 78) dX3_make_78 ?_
  refine r_iconst (pc := 79) dX3_make_79 ki_1 ?_
  refine r_iadd (pc := 80) dX3_make_80 ?_
  replace h := lt_e h; obtain ⟨x5, ex5, h⟩ := h
  refine r_cSl (pc := 81) wyX6_get_ mlRX3_63 tyX6_get_ ⟨(Nat.le_of_ble_eq_true rfl), (Nat.le_of_ble_eq_true rfl)⟩ rfl rfl (Nat.le_of_ble_eq_true rfl) dX3_make_81 (mX6_get_ aA51 (Nat.le_of_ble_eq_true rfl) ex5 (pL.mk ?_))
  refine r_lstore (pc := 84) (loc' := [(9, .long x5), (7, .long x4), (0, .ref 48), (1, .int a1), (3, .int a3), (4, .long a4), (6, .int a6)]) dX3_make_84 (Nat.le_of_ble_eq_true rfl) rfl ?_
  refine r_aload_n (pc := 86) dX3_make_86 rfl 2 rfl ?_
  refine r_iload_n (pc := 87) dX3_make_87 rfl 4 rfl ?_
  refine r_iconst (pc := 88) dX3_make_88 ki_2 ?_
  refine r_iadd (pc := 89) dX3_make_89 ?_
  refine r_iconst (pc := 90) dX3_make_90 ki_2 ?_
  refine r_iload (pc := 91) dX3_make_91 6 rfl ?_
  refine r_imul (pc := 93) dX3_make_93 ?_
  refine r_iadd (pc := 94) dX3_make_94 ?_
  refine r_i2l (pc := 95) dX3_make_95 ?_
  refine r_lload (pc := 96) dX3_make_96 1 rfl ?_
  replace h := lt_e h; obtain ⟨w6, ew6, h⟩ := h
  refine r_cVv (pc := 98) wyX3_write oA48 rfl mlRX3_217 iyX3_write syX3_write ⟨(Nat.le_of_ble_eq_true rfl), (Nat.le_of_ble_eq_true rfl)⟩ rfl rfl (Nat.le_of_ble_eq_true rfl) dX3_make_98 (mX3_write ew6 (pV.mk ?_))
  refine r_aload_n (pc := 101) dX3_make_101 rfl 2 rfl ?_
  refine r_iload_n (pc := 102) dX3_make_102 rfl 4 rfl ?_
  refine r_iconst (pc := 103) dX3_make_103 ki_3 ?_
  refine r_iadd (pc := 104) dX3_make_104 ?_
  refine r_iconst (pc := 105) dX3_make_105 ki_2 ?_
  refine r_iload (pc := 106) dX3_make_106 6 rfl ?_
  refine r_imul (pc := 108) dX3_make_108 ?_
  refine r_iadd (pc := 109) dX3_make_109 ?_
  refine r_i2l (pc := 110) dX3_make_110 ?_
  refine r_lload (pc := 111) dX3_make_111 0 rfl ?_
  replace h := lt_e h; obtain ⟨w7, ew7, h⟩ := h
  refine r_cVv (pc := 113) wyX3_write oA48 rfl mlRX3_217 iyX3_write syX3_write ⟨(Nat.le_of_ble_eq_true rfl), (Nat.le_of_ble_eq_true rfl)⟩ rfl rfl (Nat.le_of_ble_eq_true rfl) dX3_make_113 (mX3_write ew7 (pV.mk ?_))
  refine r_lload (pc := 116) dX3_make_116 0 rfl ?_
  refine r_lload (pc := 118) dX3_make_118 1 rfl ?_
  refine r_lsub (pc := 120) dX3_make_120 ?_
  refine r_lconst (pc := 121) dX3_make_121 kl_1 ?_
  refine r_ladd (pc := 122) dX3_make_122 ?_
  refine r_ldc2 (pc := 123) dX3_make_123 kcRX3_222 ?_
  replace h := lt_e h; obtain ⟨x8, ex8, h⟩ := h
  refine r_cSl (pc := 126) wyJ9_min_f86c9 mlRX3_224 tyJ9_min_f86c9 ⟨(Nat.le_of_ble_eq_true rfl), (Nat.le_of_ble_eq_true rfl)⟩ rfl rfl (Nat.le_of_ble_eq_true rfl) dX3_make_126 (mJ9_min_f86c9 ex8 (pL.mk ?_))
  refine r_lconst (pc := 129) dX3_make_129 kl_0 ?_
  replace h := lt_e h; obtain ⟨x9, ex9, h⟩ := h
  refine r_cSl (pc := 130) wyJ9_max_f86c9 mlRX3_227 tyJ9_max_f86c9 ⟨(Nat.le_of_ble_eq_true rfl), (Nat.le_of_ble_eq_true rfl)⟩ rfl rfl (Nat.le_of_ble_eq_true rfl) dX3_make_130 (mJ9_max_f86c9 ex9 (pL.mk ?_))
  refine r_lstore (pc := 133) (loc' := [(11, .long x9), (9, .long x5), (7, .long x4), (0, .ref 48), (1, .int a1), (3, .int a3), (4, .long a4), (6, .int a6)]) dX3_make_133 (Nat.le_of_ble_eq_true rfl) rfl ?_
  refine r_lload (pc := 135) dX3_make_135 6 rfl ?_
  refine r_ldc2 (pc := 137) dX3_make_137 kcRX3_222 ?_
  replace h := lt_e h; obtain ⟨x10, ex10, h⟩ := h
  refine r_cSl (pc := 140) wyJ9_min_f86c9 mlRX3_224 tyJ9_min_f86c9 ⟨(Nat.le_of_ble_eq_true rfl), (Nat.le_of_ble_eq_true rfl)⟩ rfl rfl (Nat.le_of_ble_eq_true rfl) dX3_make_140 (mJ9_min_f86c9 ex10 (pL.mk ?_))
  refine r_lload (pc := 143) dX3_make_143 0 rfl ?_
  refine r_lmul (pc := 145) dX3_make_145 ?_
  replace h := lt_e h; obtain ⟨x11, ex11, h⟩ := h
  refine r_topl ex11 ?_
  refine r_lstore (pc := 146) (loc' := [(4, .long x11), (11, .long x9), (9, .long x5), (7, .long x4), (0, .ref 48), (1, .int a1), (3, .int a3), (6, .int a6)]) dX3_make_146 (Nat.le_of_ble_eq_true rfl) rfl ?_
  replace h := lt_e h; obtain ⟨x12, ex12, h⟩ := h
  refine r_inc (pc := 148) (loc' := [(6, .int x12), (4, .long x11), (11, .long x9), (9, .long x5), (7, .long x4), (0, .ref 48), (1, .int a1), (3, .int a3)]) dX3_make_148 ki_1 ex12 7 rfl (Nat.le_of_ble_eq_true rfl) rfl ?_
  refine r_goto (pc := 151) dX3_make_151 rfl ?_
  refine r_drop (loc' := [(0, .ref 48), (1, .int a1), (3, .int a3), (4, .long x11), (6, .int x12)]) [5, 6, 7, 1, 0] rfl ?_
  exact hk_38 a1 a3 x11 x12 w7 h
def oX3_make_38 : Nat → Int32 → Int32 → Int64 → Int32 → Wd → Option Wd
  | 0 => fun _ _ _ _ _ => none
  | n + 1 => fX3_make_38 (oX3_make_38 n)
theorem qX3_make_38 {q : Gq} {l : Launch} {N : Option Value → Wd → Prop} {X : String → Wd → Prop} {R : Wd} (hN : N none R) : ∀ (n : Nat) (a1 : Int32) (a3 : Int32) (a4 : Int64) (a6 : Int32) (w : Wd), oX3_make_38 n a1 a3 a4 a6 w = some R → RT (GA q) l 5 yX3_make cX3_make 13 (none) N X 38 [] [(0, .ref 48), (1, .int a1), (3, .int a3), (4, .long a4), (6, .int a6)] w := by
  intro n
  induction n with
  | zero =>
    intro a1 a3 a4 a6 w h
    exact absurd h (fun q => nomatch q)
  | succ n ih =>
    intro a1 a3 a4 a6 w h
    exact pX3_make_38 hN ih h
def fX3_make (a1 : Int32) (a2 : Int32) (w : Wd) : Option Wd :=
  lt (((gi w 48 12) + a2)) fun x1 => lt (fX3_write (Int32.toInt64 x1) (Int32.toInt64 a1) w) fun w2 => lt (fX3_write (Int32.toInt64 (x1 + 1)) (Int32.toInt64 (4096 + (gi w2 48 16))) w2) fun w3 => oX3_make_38 FU a1 x1 1 0 w3
theorem pX3_make {q : Gq} {l : Launch} {N : Option Value → Wd → Prop} {X : String → Wd → Prop} {w : Wd} {R : Wd} (hN : N none R) {a1 : Int32} {a2 : Int32} (h : fX3_make a1 a2 w = some R) : RT (GA q) l 5 yX3_make cX3_make 13 (none) N X 0 [] [(0, .ref 48), (1, .int a1), (2, .int a2)] w := by
  unfold fX3_make at h
  refine r_aload_n (pc := 0) dX3_make_0 rfl 0 rfl ?_
  refine r_get (pc := 1) (j := 12) (v := .int (gi w 48 12)) oA48 cf3 flRX3_143 rfl dX3_make_1 rfl ?_
  refine r_iload_n (pc := 4) dX3_make_4 rfl 2 rfl ?_
  refine r_iadd (pc := 5) dX3_make_5 ?_
  replace h := lt_e h; obtain ⟨x1, ex1, h⟩ := h
  refine r_topi ex1 ?_
  refine r_istore_n (pc := 6) (loc' := [(3, .int x1), (0, .ref 48), (1, .int a1), (2, .int a2)]) dX3_make_6 rfl (Nat.le_of_ble_eq_true rfl) rfl ?_
  refine r_lconst (pc := 7) dX3_make_7 kl_1 ?_
  refine r_lstore (pc := 8) (loc' := [(4, .long 1), (3, .int x1), (0, .ref 48), (1, .int a1), (2, .int a2)]) dX3_make_8 (Nat.le_of_ble_eq_true rfl) rfl ?_
  refine r_aload_n (pc := 10) dX3_make_10 rfl 2 rfl ?_
  refine r_iload_n (pc := 11) dX3_make_11 rfl 1 rfl ?_
  refine r_i2l (pc := 12) dX3_make_12 ?_
  refine r_iload_n (pc := 13) dX3_make_13 rfl 3 rfl ?_
  refine r_i2l (pc := 14) dX3_make_14 ?_
  replace h := lt_e h; obtain ⟨w2, ew2, h⟩ := h
  refine r_cVv (pc := 15) wyX3_write oA48 rfl mlRX3_217 iyX3_write syX3_write ⟨(Nat.le_of_ble_eq_true rfl), (Nat.le_of_ble_eq_true rfl)⟩ rfl rfl (Nat.le_of_ble_eq_true rfl) dX3_make_15 (mX3_write ew2 (pV.mk ?_))
  refine r_aload_n (pc := 18) dX3_make_18 rfl 2 rfl ?_
  refine r_iload_n (pc := 19) dX3_make_19 rfl 1 rfl ?_
  refine r_iconst (pc := 20) dX3_make_20 ki_1 ?_
  refine r_iadd (pc := 21) dX3_make_21 ?_
  refine r_i2l (pc := 22) dX3_make_22 ?_
  refine r_sipush (pc := 23) dX3_make_23 ks_4096 ?_
  refine r_aload_n (pc := 26) dX3_make_26 rfl 2 rfl ?_
  refine r_get (pc := 27) (j := 16) (v := .int (gi w2 48 16)) oA48 cf3 flRX3_120 rfl dX3_make_27 rfl ?_
  refine r_iadd (pc := 30) dX3_make_30 ?_
  refine r_i2l (pc := 31) dX3_make_31 ?_
  replace h := lt_e h; obtain ⟨w3, ew3, h⟩ := h
  refine r_cVv (pc := 32) wyX3_write oA48 rfl mlRX3_217 iyX3_write syX3_write ⟨(Nat.le_of_ble_eq_true rfl), (Nat.le_of_ble_eq_true rfl)⟩ rfl rfl (Nat.le_of_ble_eq_true rfl) dX3_make_32 (mX3_write ew3 (pV.mk ?_))
  refine r_iconst (pc := 35) dX3_make_35 ki_0 ?_
  refine r_istore (pc := 36) (loc' := [(6, .int 0), (4, .long 1), (3, .int x1), (0, .ref 48), (1, .int a1), (2, .int a2)]) dX3_make_36 (Nat.le_of_ble_eq_true rfl) rfl ?_
  refine r_drop (loc' := [(0, .ref 48), (1, .int a1), (3, .int x1), (4, .long 1), (6, .int 0)]) [3, 4, 2, 1, 0] rfl ?_
  exact qX3_make_38 hN FU a1 x1 1 0 w3 h
theorem mX3_make {q : Gq} {l : Launch} {N : Option Value → Wd → Prop} {X : String → Wd → Prop} {a1 : Int32} {a2 : Int32} {w : Wd} {u : Wd} (h : fX3_make a1 a2 w = some u) (hN : N none u) : Ct (GA q) l 5 yX3_make cX3_make 13 (none) [.ref 48, .int a1, .int a2] w N X := Ct.of (by decide) (Nat.le_of_ble_eq_true rfl) (pX3_make hN h)
/-! AlgolMill$Machine.jump (III)V: O, 6 -/
theorem dX3_jump_0 : decode cX3_jump 0 = .ok (.iload_n 1, 1) := by decide +kernel
theorem dX3_jump_1 : decode cX3_jump 1 = .ok (.tableswitch 211 30 38 #[51, 60, 79, 98, 106, 130, 147, 171, 192], 51) := by decide +kernel
theorem dX3_jump_52 : decode cX3_jump 52 = .ok (.aload_n 0, 1) := by decide +kernel
theorem dX3_jump_53 : decode cX3_jump 53 = .ok (.iload_n 2, 1) := by decide +kernel
theorem dX3_jump_54 : decode cX3_jump 54 = .ok (.iload_n 3, 1) := by decide +kernel
theorem dX3_jump_55 : decode cX3_jump 55 = .ok (.invokevirtual 234, 3) := by decide +kernel
theorem dX3_jump_58 : decode cX3_jump 58 = .ok (.goto 158, 3) := by decide +kernel
theorem dX3_jump_61 : decode cX3_jump 61 = .ok (.aload_n 0, 1) := by decide +kernel
theorem dX3_jump_62 : decode cX3_jump 62 = .ok (.aload_n 0, 1) := by decide +kernel
theorem dX3_jump_63 : decode cX3_jump 63 = .ok (.getfield 143, 3) := by decide +kernel
theorem dX3_jump_66 : decode cX3_jump 66 = .ok (.iload_n 3, 1) := by decide +kernel
theorem dX3_jump_67 : decode cX3_jump 67 = .ok (.iadd, 1) := by decide +kernel
theorem dX3_jump_68 : decode cX3_jump 68 = .ok (.i2l, 1) := by decide +kernel
theorem dX3_jump_69 : decode cX3_jump 69 = .ok (.aload_n 0, 1) := by decide +kernel
theorem dX3_jump_70 : decode cX3_jump 70 = .ok (.getfield 120, 3) := by decide +kernel
theorem dX3_jump_73 : decode cX3_jump 73 = .ok (.i2l, 1) := by decide +kernel
theorem dX3_jump_74 : decode cX3_jump 74 = .ok (.invokevirtual 217, 3) := by decide +kernel
theorem dX3_jump_77 : decode cX3_jump 77 = .ok (.goto 139, 3) := by decide +kernel
theorem dX3_jump_80 : decode cX3_jump 80 = .ok (.aload_n 0, 1) := by decide +kernel
theorem dX3_jump_81 : decode cX3_jump 81 = .ok (.aload_n 0, 1) := by decide +kernel
theorem dX3_jump_82 : decode cX3_jump 82 = .ok (.aload_n 0, 1) := by decide +kernel
theorem dX3_jump_83 : decode cX3_jump 83 = .ok (.getfield 143, 3) := by decide +kernel
theorem dX3_jump_86 : decode cX3_jump 86 = .ok (.iload_n 3, 1) := by decide +kernel
theorem dX3_jump_87 : decode cX3_jump 87 = .ok (.iadd, 1) := by decide +kernel
theorem dX3_jump_88 : decode cX3_jump 88 = .ok (.i2l, 1) := by decide +kernel
theorem dX3_jump_89 : decode cX3_jump 89 = .ok (.invokevirtual 146, 3) := by decide +kernel
theorem dX3_jump_92 : decode cX3_jump 92 = .ok (.l2i, 1) := by decide +kernel
theorem dX3_jump_93 : decode cX3_jump 93 = .ok (.putfield 120, 3) := by decide +kernel
theorem dX3_jump_96 : decode cX3_jump 96 = .ok (.goto 120, 3) := by decide +kernel
theorem dX3_jump_99 : decode cX3_jump 99 = .ok (.aload_n 0, 1) := by decide +kernel
theorem dX3_jump_100 : decode cX3_jump 100 = .ok (.iload_n 3, 1) := by decide +kernel
theorem dX3_jump_101 : decode cX3_jump 101 = .ok (.putfield 150, 3) := by decide +kernel
theorem dX3_jump_104 : decode cX3_jump 104 = .ok (.goto 112, 3) := by decide +kernel
theorem dX3_jump_107 : decode cX3_jump 107 = .ok (.aload_n 0, 1) := by decide +kernel
theorem dX3_jump_108 : decode cX3_jump 108 = .ok (.aload_n 0, 1) := by decide +kernel
theorem dX3_jump_109 : decode cX3_jump 109 = .ok (.invokevirtual 160, 3) := by decide +kernel
theorem dX3_jump_112 : decode cX3_jump 112 = .ok (.lconst 0, 1) := by decide +kernel
theorem dX3_jump_113 : decode cX3_jump 113 = .ok (.lcmp, 1) := by decide +kernel
theorem dX3_jump_114 : decode cX3_jump 114 = .ok (.ifCond .ne 7, 3) := by decide +kernel
theorem dX3_jump_117 : decode cX3_jump 117 = .ok (.iload_n 3, 1) := by decide +kernel
theorem dX3_jump_118 : decode cX3_jump 118 = .ok (.goto 7, 3) := by decide +kernel
theorem dX3_jump_121 : decode cX3_jump 121 = .ok (.aload_n 0, 1) := by decide +kernel
theorem dX3_jump_122 : decode cX3_jump 122 = .ok (.getfield 150, 3) := by decide +kernel
theorem dX3_jump_125 : decode cX3_jump 125 = .ok (.putfield 150, 3) := by decide +kernel
theorem dX3_jump_128 : decode cX3_jump 128 = .ok (.goto 88, 3) := by decide +kernel
theorem dX3_jump_131 : decode cX3_jump 131 = .ok (.aload_n 0, 1) := by decide +kernel
theorem dX3_jump_132 : decode cX3_jump 132 = .ok (.aload_n 0, 1) := by decide +kernel
theorem dX3_jump_133 : decode cX3_jump 133 = .ok (.getfield 150, 3) := by decide +kernel
theorem dX3_jump_136 : decode cX3_jump 136 = .ok (.i2l, 1) := by decide +kernel
theorem dX3_jump_137 : decode cX3_jump 137 = .ok (.invokevirtual 184, 3) := by decide +kernel
theorem dX3_jump_140 : decode cX3_jump 140 = .ok (.aload_n 0, 1) := by decide +kernel
theorem dX3_jump_141 : decode cX3_jump 141 = .ok (.iload_n 3, 1) := by decide +kernel
theorem dX3_jump_142 : decode cX3_jump 142 = .ok (.putfield 150, 3) := by decide +kernel
theorem dX3_jump_145 : decode cX3_jump 145 = .ok (.goto 71, 3) := by decide +kernel
theorem dX3_jump_148 : decode cX3_jump 148 = .ok (.aload_n 0, 1) := by decide +kernel
theorem dX3_jump_149 : decode cX3_jump 149 = .ok (.invokevirtual 160, 3) := by decide +kernel
theorem dX3_jump_152 : decode cX3_jump 152 = .ok (.lstore 4, 2) := by decide +kernel
theorem dX3_jump_154 : decode cX3_jump 154 = .ok (.aload_n 0, 1) := by decide +kernel
theorem dX3_jump_155 : decode cX3_jump 155 = .ok (.aload_n 0, 1) := by decide +kernel
theorem dX3_jump_156 : decode cX3_jump 156 = .ok (.invokevirtual 160, 3) := by decide +kernel
theorem dX3_jump_159 : decode cX3_jump 159 = .ok (.l2i, 1) := by decide +kernel
theorem dX3_jump_160 : decode cX3_jump 160 = .ok (.putfield 150, 3) := by decide +kernel
theorem dX3_jump_163 : decode cX3_jump 163 = .ok (.aload_n 0, 1) := by decide +kernel
theorem dX3_jump_164 : decode cX3_jump 164 = .ok (.lload 4, 2) := by decide +kernel
theorem dX3_jump_166 : decode cX3_jump 166 = .ok (.invokevirtual 184, 3) := by decide +kernel
theorem dX3_jump_169 : decode cX3_jump 169 = .ok (.goto 47, 3) := by decide +kernel
theorem dX3_jump_172 : decode cX3_jump 172 = .ok (.aload_n 0, 1) := by decide +kernel
theorem dX3_jump_173 : decode cX3_jump 173 = .ok (.aload_n 0, 1) := by decide +kernel
theorem dX3_jump_174 : decode cX3_jump 174 = .ok (.getfield 143, 3) := by decide +kernel
theorem dX3_jump_177 : decode cX3_jump 177 = .ok (.iload_n 3, 1) := by decide +kernel
theorem dX3_jump_178 : decode cX3_jump 178 = .ok (.iadd, 1) := by decide +kernel
theorem dX3_jump_179 : decode cX3_jump 179 = .ok (.i2l, 1) := by decide +kernel
theorem dX3_jump_180 : decode cX3_jump 180 = .ok (.aload_n 0, 1) := by decide +kernel
theorem dX3_jump_181 : decode cX3_jump 181 = .ok (.getfield 150, 3) := by decide +kernel
theorem dX3_jump_184 : decode cX3_jump 184 = .ok (.iconst 1, 1) := by decide +kernel
theorem dX3_jump_185 : decode cX3_jump 185 = .ok (.iadd, 1) := by decide +kernel
theorem dX3_jump_186 : decode cX3_jump 186 = .ok (.i2l, 1) := by decide +kernel
theorem dX3_jump_187 : decode cX3_jump 187 = .ok (.invokevirtual 217, 3) := by decide +kernel
theorem dX3_jump_190 : decode cX3_jump 190 = .ok (.goto 26, 3) := by decide +kernel
theorem dX3_jump_193 : decode cX3_jump 193 = .ok (.aload_n 0, 1) := by decide +kernel
theorem dX3_jump_194 : decode cX3_jump 194 = .ok (.aload_n 0, 1) := by decide +kernel
theorem dX3_jump_195 : decode cX3_jump 195 = .ok (.aload_n 0, 1) := by decide +kernel
theorem dX3_jump_196 : decode cX3_jump 196 = .ok (.getfield 143, 3) := by decide +kernel
theorem dX3_jump_199 : decode cX3_jump 199 = .ok (.iload_n 3, 1) := by decide +kernel
theorem dX3_jump_200 : decode cX3_jump 200 = .ok (.iadd, 1) := by decide +kernel
theorem dX3_jump_201 : decode cX3_jump 201 = .ok (.i2l, 1) := by decide +kernel
theorem dX3_jump_202 : decode cX3_jump 202 = .ok (.invokevirtual 146, 3) := by decide +kernel
theorem dX3_jump_205 : decode cX3_jump 205 = .ok (.l2i, 1) := by decide +kernel
theorem dX3_jump_206 : decode cX3_jump 206 = .ok (.putfield 150, 3) := by decide +kernel
theorem dX3_jump_209 : decode cX3_jump 209 = .ok (.goto 7, 3) := by decide +kernel
theorem dX3_jump_212 : decode cX3_jump 212 = .ok (.aload_n 0, 1) := by decide +kernel
theorem dX3_jump_213 : decode cX3_jump 213 = .ok (.invokevirtual 237, 3) := by decide +kernel
theorem dX3_jump_216 : decode cX3_jump 216 = .ok (.return_, 1) := by decide +kernel
def fX3_jump (a1 : Int32) (a2 : Int32) (a3 : Int32) (w : Wd) : Option Wd :=
  if a1 = 30 then (bn (fX3_make a2 a3 w) fun w2 => some w2) else if a1 = 31 then (lt (fX3_write (Int32.toInt64 ((gi w 48 12) + a3)) (Int32.toInt64 (gi w 48 16)) w) fun w4 => some w4) else if a1 = 32 then (lt2 (fX3_read (Int32.toInt64 ((gi w 48 12) + a3)) w) fun x6 w7 => lt (si w7 48 16 (Int64.toInt32 x6)) fun w8 => some w8) else if a1 = 33 then (lt (si w 48 11 a3) fun w10 => some w10) else if a1 = 34 then (lt2 (fX3_pop w) fun x12 w13 => if x12 = 0 then (lt (si w13 48 11 a3) fun w15 => some w15) else (lt (si w13 48 11 (gi w13 48 11)) fun w16 => some w16)) else if a1 = 35 then (lt (fX3_push (Int32.toInt64 (gi w 48 11)) w) fun w18 => lt (si w18 48 11 a3) fun w19 => some w19) else if a1 = 36 then (lt2 (fX3_pop w) fun x21 w22 => lt2 (fX3_pop w22) fun x23 w24 => lt (si w24 48 11 (Int64.toInt32 x23)) fun w25 => lt (fX3_push x21 w25) fun w26 => some w26) else if a1 = 37 then (lt (fX3_write (Int32.toInt64 ((gi w 48 12) + a3)) (Int32.toInt64 ((gi w 48 11) + 1)) w) fun w28 => some w28) else if a1 = 38 then (lt2 (fX3_read (Int32.toInt64 ((gi w 48 12) + a3)) w) fun x30 w31 => lt (si w31 48 11 (Int64.toInt32 x30)) fun w32 => some w32) else (lt (fX3_forTest w) fun w33 => some w33)
set_option maxHeartbeats 16000000 in
theorem pX3_jump {q : Gq} {l : Launch} {N : Option Value → Wd → Prop} {X : String → Wd → Prop} {w : Wd} {R : Wd} (hN : N none R) {a1 : Int32} {a2 : Int32} {a3 : Int32} (h : fX3_jump a1 a2 a3 w = some R) : RT (GA q) l 6 yX3_jump cX3_jump 6 (none) N X 0 [] [(0, .ref 48), (1, .int a1), (2, .int a2), (3, .int a3)] w := by
  unfold fX3_jump at h
  refine r_iload_n (pc := 0) dX3_jump_0 rfl 1 rfl ?_
  by_cases hc1 : a1 = 30
  · refine r_tabC (pc := 1) (off := 51) (tgt := 52) (L := [30]) dX3_jump_1 hc1 (by decide) rfl ?_
    replace h := if_t hc1 h
    refine r_aload_n (pc := 52) dX3_jump_52 rfl 0 rfl ?_
    refine r_iload_n (pc := 53) dX3_jump_53 rfl 2 rfl ?_
    refine r_iload_n (pc := 54) dX3_jump_54 rfl 3 rfl ?_
    replace h := bn_e h; obtain ⟨w2, ew2, h⟩ := h
    refine r_cVv (pc := 55) wyX3_make oA48 rfl mlRX3_234 iyX3_make syX3_make ⟨(Nat.le_of_ble_eq_true rfl), (Nat.le_of_ble_eq_true rfl)⟩ rfl rfl (Nat.le_of_ble_eq_true rfl) dX3_jump_55 (mX3_make ew2 (pV.mk ?_))
    refine r_goto (pc := 58) dX3_jump_58 rfl ?_
    exact rO_v (pc := 216) rfl dX3_jump_216 h hN
  replace h := if_f hc1 h
  by_cases hc3 : a1 = 31
  · refine r_tabC (pc := 1) (off := 60) (tgt := 61) (L := [31]) dX3_jump_1 hc3 (by decide) rfl ?_
    replace h := if_t hc3 h
    refine r_aload_n (pc := 61) dX3_jump_61 rfl 0 rfl ?_
    refine r_aload_n (pc := 62) dX3_jump_62 rfl 0 rfl ?_
    refine r_get (pc := 63) (j := 12) (v := .int (gi w 48 12)) oA48 cf3 flRX3_143 rfl dX3_jump_63 rfl ?_
    refine r_iload_n (pc := 66) dX3_jump_66 rfl 3 rfl ?_
    refine r_iadd (pc := 67) dX3_jump_67 ?_
    refine r_i2l (pc := 68) dX3_jump_68 ?_
    refine r_aload_n (pc := 69) dX3_jump_69 rfl 0 rfl ?_
    refine r_get (pc := 70) (j := 16) (v := .int (gi w 48 16)) oA48 cf3 flRX3_120 rfl dX3_jump_70 rfl ?_
    refine r_i2l (pc := 73) dX3_jump_73 ?_
    replace h := lt_e h; obtain ⟨w4, ew4, h⟩ := h
    refine r_cVv (pc := 74) wyX3_write oA48 rfl mlRX3_217 iyX3_write syX3_write ⟨(Nat.le_of_ble_eq_true rfl), (Nat.le_of_ble_eq_true rfl)⟩ rfl rfl (Nat.le_of_ble_eq_true rfl) dX3_jump_74 (mX3_write ew4 (pV.mk ?_))
    refine r_goto (pc := 77) dX3_jump_77 rfl ?_
    exact rO_v (pc := 216) rfl dX3_jump_216 h hN
  replace h := if_f hc3 h
  by_cases hc5 : a1 = 32
  · refine r_tabC (pc := 1) (off := 79) (tgt := 80) (L := [32]) dX3_jump_1 hc5 (by decide) rfl ?_
    replace h := if_t hc5 h
    refine r_aload_n (pc := 80) dX3_jump_80 rfl 0 rfl ?_
    refine r_aload_n (pc := 81) dX3_jump_81 rfl 0 rfl ?_
    refine r_aload_n (pc := 82) dX3_jump_82 rfl 0 rfl ?_
    refine r_get (pc := 83) (j := 12) (v := .int (gi w 48 12)) oA48 cf3 flRX3_143 rfl dX3_jump_83 rfl ?_
    refine r_iload_n (pc := 86) dX3_jump_86 rfl 3 rfl ?_
    refine r_iadd (pc := 87) dX3_jump_87 ?_
    refine r_i2l (pc := 88) dX3_jump_88 ?_
    replace h := lt2_e h; obtain ⟨x6, w7, ew7, h⟩ := h
    refine r_cVl (pc := 89) wyX3_read oA48 rfl mlRX3_146 iyX3_read syX3_read ⟨(Nat.le_of_ble_eq_true rfl), (Nat.le_of_ble_eq_true rfl)⟩ rfl rfl (Nat.le_of_ble_eq_true rfl) dX3_jump_89 (mX3_read ew7 (pL.mk ?_))
    refine r_l2i (pc := 92) dX3_jump_92 ?_
    replace h := lt_e h; obtain ⟨w8, ew8, h⟩ := h
    refine r_putI (pc := 93) (j := 16) oA48 cf3 flRX3_120 rfl rfl rfl rfl dX3_jump_93 ?_
    refine r_w ew8 ?_
    refine r_goto (pc := 96) dX3_jump_96 rfl ?_
    exact rO_v (pc := 216) rfl dX3_jump_216 h hN
  replace h := if_f hc5 h
  by_cases hc9 : a1 = 33
  · refine r_tabC (pc := 1) (off := 98) (tgt := 99) (L := [33]) dX3_jump_1 hc9 (by decide) rfl ?_
    replace h := if_t hc9 h
    refine r_aload_n (pc := 99) dX3_jump_99 rfl 0 rfl ?_
    refine r_iload_n (pc := 100) dX3_jump_100 rfl 3 rfl ?_
    replace h := lt_e h; obtain ⟨w10, ew10, h⟩ := h
    refine r_putI (pc := 101) (j := 11) oA48 cf3 flRX3_150 rfl rfl rfl rfl dX3_jump_101 ?_
    refine r_w ew10 ?_
    refine r_goto (pc := 104) dX3_jump_104 rfl ?_
    exact rO_v (pc := 216) rfl dX3_jump_216 h hN
  replace h := if_f hc9 h
  by_cases hc11 : a1 = 34
  · refine r_tabC (pc := 1) (off := 106) (tgt := 107) (L := [34]) dX3_jump_1 hc11 (by decide) rfl ?_
    replace h := if_t hc11 h
    refine r_aload_n (pc := 107) dX3_jump_107 rfl 0 rfl ?_
    refine r_aload_n (pc := 108) dX3_jump_108 rfl 0 rfl ?_
    replace h := lt2_e h; obtain ⟨x12, w13, ew13, h⟩ := h
    refine r_cVl (pc := 109) wyX3_pop oA48 rfl mlRX3_160 iyX3_pop syX3_pop ⟨(Nat.le_of_ble_eq_true rfl), (Nat.le_of_ble_eq_true rfl)⟩ rfl rfl (Nat.le_of_ble_eq_true rfl) dX3_jump_109 (mX3_pop ew13 (pL.mk ?_))
    refine r_lconst (pc := 112) dX3_jump_112 kl_0 ?_
    refine r_l_ne (pc := 113) dX3_jump_113 dX3_jump_114 rfl (fun hc14 => ?_) (fun hc14 => ?_)
    · replace h := if_f hc14 h
      refine r_aload_n (pc := 121) dX3_jump_121 rfl 0 rfl ?_
      refine r_get (pc := 122) (j := 11) (v := .int (gi w13 48 11)) oA48 cf3 flRX3_150 rfl dX3_jump_122 rfl ?_
      replace h := lt_e h; obtain ⟨w16, ew16, h⟩ := h
      refine r_putI (pc := 125) (j := 11) oA48 cf3 flRX3_150 rfl rfl rfl rfl dX3_jump_125 ?_
      refine r_w ew16 ?_
      refine r_goto (pc := 128) dX3_jump_128 rfl ?_
      exact rO_v (pc := 216) rfl dX3_jump_216 h hN
    replace h := if_t hc14 h
    refine r_iload_n (pc := 117) dX3_jump_117 rfl 3 rfl ?_
    refine r_goto (pc := 118) dX3_jump_118 rfl ?_
    replace h := lt_e h; obtain ⟨w15, ew15, h⟩ := h
    refine r_putI (pc := 125) (j := 11) oA48 cf3 flRX3_150 rfl rfl rfl rfl dX3_jump_125 ?_
    refine r_w ew15 ?_
    refine r_goto (pc := 128) dX3_jump_128 rfl ?_
    exact rO_v (pc := 216) rfl dX3_jump_216 h hN
  replace h := if_f hc11 h
  by_cases hc17 : a1 = 35
  · refine r_tabC (pc := 1) (off := 130) (tgt := 131) (L := [35]) dX3_jump_1 hc17 (by decide) rfl ?_
    replace h := if_t hc17 h
    refine r_aload_n (pc := 131) dX3_jump_131 rfl 0 rfl ?_
    refine r_aload_n (pc := 132) dX3_jump_132 rfl 0 rfl ?_
    refine r_get (pc := 133) (j := 11) (v := .int (gi w 48 11)) oA48 cf3 flRX3_150 rfl dX3_jump_133 rfl ?_
    refine r_i2l (pc := 136) dX3_jump_136 ?_
    replace h := lt_e h; obtain ⟨w18, ew18, h⟩ := h
    refine r_cVv (pc := 137) wyX3_push oA48 rfl mlRX3_184 iyX3_push syX3_push ⟨(Nat.le_of_ble_eq_true rfl), (Nat.le_of_ble_eq_true rfl)⟩ rfl rfl (Nat.le_of_ble_eq_true rfl) dX3_jump_137 (mX3_push ew18 (pV.mk ?_))
    refine r_aload_n (pc := 140) dX3_jump_140 rfl 0 rfl ?_
    refine r_iload_n (pc := 141) dX3_jump_141 rfl 3 rfl ?_
    replace h := lt_e h; obtain ⟨w19, ew19, h⟩ := h
    refine r_putI (pc := 142) (j := 11) oA48 cf3 flRX3_150 rfl rfl rfl rfl dX3_jump_142 ?_
    refine r_w ew19 ?_
    refine r_goto (pc := 145) dX3_jump_145 rfl ?_
    exact rO_v (pc := 216) rfl dX3_jump_216 h hN
  replace h := if_f hc17 h
  by_cases hc20 : a1 = 36
  · refine r_tabC (pc := 1) (off := 147) (tgt := 148) (L := [36]) dX3_jump_1 hc20 (by decide) rfl ?_
    replace h := if_t hc20 h
    refine r_aload_n (pc := 148) dX3_jump_148 rfl 0 rfl ?_
    replace h := lt2_e h; obtain ⟨x21, w22, ew22, h⟩ := h
    refine r_cVl (pc := 149) wyX3_pop oA48 rfl mlRX3_160 iyX3_pop syX3_pop ⟨(Nat.le_of_ble_eq_true rfl), (Nat.le_of_ble_eq_true rfl)⟩ rfl rfl (Nat.le_of_ble_eq_true rfl) dX3_jump_149 (mX3_pop ew22 (pL.mk ?_))
    refine r_lstore (pc := 152) (loc' := [(4, .long x21), (0, .ref 48), (1, .int a1), (2, .int a2), (3, .int a3)]) dX3_jump_152 (Nat.le_of_ble_eq_true rfl) rfl ?_
    refine r_aload_n (pc := 154) dX3_jump_154 rfl 1 rfl ?_
    refine r_aload_n (pc := 155) dX3_jump_155 rfl 1 rfl ?_
    replace h := lt2_e h; obtain ⟨x23, w24, ew24, h⟩ := h
    refine r_cVl (pc := 156) wyX3_pop oA48 rfl mlRX3_160 iyX3_pop syX3_pop ⟨(Nat.le_of_ble_eq_true rfl), (Nat.le_of_ble_eq_true rfl)⟩ rfl rfl (Nat.le_of_ble_eq_true rfl) dX3_jump_156 (mX3_pop ew24 (pL.mk ?_))
    refine r_l2i (pc := 159) dX3_jump_159 ?_
    replace h := lt_e h; obtain ⟨w25, ew25, h⟩ := h
    refine r_putI (pc := 160) (j := 11) oA48 cf3 flRX3_150 rfl rfl rfl rfl dX3_jump_160 ?_
    refine r_w ew25 ?_
    refine r_aload_n (pc := 163) dX3_jump_163 rfl 1 rfl ?_
    refine r_lload (pc := 164) dX3_jump_164 0 rfl ?_
    replace h := lt_e h; obtain ⟨w26, ew26, h⟩ := h
    refine r_cVv (pc := 166) wyX3_push oA48 rfl mlRX3_184 iyX3_push syX3_push ⟨(Nat.le_of_ble_eq_true rfl), (Nat.le_of_ble_eq_true rfl)⟩ rfl rfl (Nat.le_of_ble_eq_true rfl) dX3_jump_166 (mX3_push ew26 (pV.mk ?_))
    refine r_goto (pc := 169) dX3_jump_169 rfl ?_
    exact rO_v (pc := 216) rfl dX3_jump_216 h hN
  replace h := if_f hc20 h
  by_cases hc27 : a1 = 37
  · refine r_tabC (pc := 1) (off := 171) (tgt := 172) (L := [37]) dX3_jump_1 hc27 (by decide) rfl ?_
    replace h := if_t hc27 h
    refine r_aload_n (pc := 172) dX3_jump_172 rfl 0 rfl ?_
    refine r_aload_n (pc := 173) dX3_jump_173 rfl 0 rfl ?_
    refine r_get (pc := 174) (j := 12) (v := .int (gi w 48 12)) oA48 cf3 flRX3_143 rfl dX3_jump_174 rfl ?_
    refine r_iload_n (pc := 177) dX3_jump_177 rfl 3 rfl ?_
    refine r_iadd (pc := 178) dX3_jump_178 ?_
    refine r_i2l (pc := 179) dX3_jump_179 ?_
    refine r_aload_n (pc := 180) dX3_jump_180 rfl 0 rfl ?_
    refine r_get (pc := 181) (j := 11) (v := .int (gi w 48 11)) oA48 cf3 flRX3_150 rfl dX3_jump_181 rfl ?_
    refine r_iconst (pc := 184) dX3_jump_184 ki_1 ?_
    refine r_iadd (pc := 185) dX3_jump_185 ?_
    refine r_i2l (pc := 186) dX3_jump_186 ?_
    replace h := lt_e h; obtain ⟨w28, ew28, h⟩ := h
    refine r_cVv (pc := 187) wyX3_write oA48 rfl mlRX3_217 iyX3_write syX3_write ⟨(Nat.le_of_ble_eq_true rfl), (Nat.le_of_ble_eq_true rfl)⟩ rfl rfl (Nat.le_of_ble_eq_true rfl) dX3_jump_187 (mX3_write ew28 (pV.mk ?_))
    refine r_goto (pc := 190) dX3_jump_190 rfl ?_
    exact rO_v (pc := 216) rfl dX3_jump_216 h hN
  replace h := if_f hc27 h
  by_cases hc29 : a1 = 38
  · refine r_tabC (pc := 1) (off := 192) (tgt := 193) (L := [38]) dX3_jump_1 hc29 (by decide) rfl ?_
    replace h := if_t hc29 h
    refine r_aload_n (pc := 193) dX3_jump_193 rfl 0 rfl ?_
    refine r_aload_n (pc := 194) dX3_jump_194 rfl 0 rfl ?_
    refine r_aload_n (pc := 195) dX3_jump_195 rfl 0 rfl ?_
    refine r_get (pc := 196) (j := 12) (v := .int (gi w 48 12)) oA48 cf3 flRX3_143 rfl dX3_jump_196 rfl ?_
    refine r_iload_n (pc := 199) dX3_jump_199 rfl 3 rfl ?_
    refine r_iadd (pc := 200) dX3_jump_200 ?_
    refine r_i2l (pc := 201) dX3_jump_201 ?_
    replace h := lt2_e h; obtain ⟨x30, w31, ew31, h⟩ := h
    refine r_cVl (pc := 202) wyX3_read oA48 rfl mlRX3_146 iyX3_read syX3_read ⟨(Nat.le_of_ble_eq_true rfl), (Nat.le_of_ble_eq_true rfl)⟩ rfl rfl (Nat.le_of_ble_eq_true rfl) dX3_jump_202 (mX3_read ew31 (pL.mk ?_))
    refine r_l2i (pc := 205) dX3_jump_205 ?_
    replace h := lt_e h; obtain ⟨w32, ew32, h⟩ := h
    refine r_putI (pc := 206) (j := 11) oA48 cf3 flRX3_150 rfl rfl rfl rfl dX3_jump_206 ?_
    refine r_w ew32 ?_
    refine r_goto (pc := 209) dX3_jump_209 rfl ?_
    exact rO_v (pc := 216) rfl dX3_jump_216 h hN
  replace h := if_f hc29 h
  refine r_tabD (pc := 1) (tgt := 212) (K := [[30], [31], [32], [33], [34], [35], [36], [37], [38]]) dX3_jump_1 ⟨hc1, hc3, hc5, hc9, hc11, hc17, hc20, hc27, hc29, trivial⟩ (by decide) (by decide) rfl ?_
  refine r_aload_n (pc := 212) dX3_jump_212 rfl 0 rfl ?_
  replace h := lt_e h; obtain ⟨w33, ew33, h⟩ := h
  refine r_cVv (pc := 213) wyX3_forTest oA48 rfl mlRX3_237 iyX3_forTest syX3_forTest ⟨(Nat.le_of_ble_eq_true rfl), (Nat.le_of_ble_eq_true rfl)⟩ rfl rfl (Nat.le_of_ble_eq_true rfl) dX3_jump_213 (mX3_forTest ew33 (pV.mk ?_))
  exact rO_v (pc := 216) rfl dX3_jump_216 h hN
theorem mX3_jump {q : Gq} {l : Launch} {N : Option Value → Wd → Prop} {X : String → Wd → Prop} {a1 : Int32} {a2 : Int32} {a3 : Int32} {w : Wd} {u : Wd} (h : fX3_jump a1 a2 a3 w = some u) (hN : N none u) : Ct (GA q) l 6 yX3_jump cX3_jump 6 (none) [.ref 48, .int a1, .int a2, .int a3] w N X := Ct.of (by decide) (Nat.le_of_ble_eq_true rfl) (pX3_jump hN h)
/-! AlgolMill$Machine.assign (I)V: O, 5 -/
theorem dX3_assign_0 : decode cX3_assign 0 = .ok (.aload_n 0, 1) := by decide +kernel
theorem dX3_assign_1 : decode cX3_assign 1 = .ok (.invokevirtual 160, 3) := by decide +kernel
theorem dX3_assign_4 : decode cX3_assign 4 = .ok (.lstore_n 2, 1) := by decide +kernel
theorem dX3_assign_5 : decode cX3_assign 5 = .ok (.iconst 0, 1) := by decide +kernel
theorem dX3_assign_6 : decode cX3_assign 6 = .ok (.istore 4, 2) := by decide +kernel
theorem dX3_assign_8 : decode cX3_assign 8 = .ok (.iload 4, 2) := by decide +kernel
theorem dX3_assign_10 : decode cX3_assign 10 = .ok (.iload_n 1, 1) := by decide +kernel
theorem dX3_assign_11 : decode cX3_assign 11 = .ok (.if_icmp .ge 18, 3) := by decide +kernel
theorem dX3_assign_14 : decode cX3_assign 14 = .ok (.aload_n 0, 1) := by decide +kernel
theorem dX3_assign_15 : decode cX3_assign 15 = .ok (.aload_n 0, 1) := by decide +kernel
theorem dX3_assign_16 : decode cX3_assign 16 = .ok (.invokevirtual 160, 3) := by decide +kernel
theorem dX3_assign_19 : decode cX3_assign 19 = .ok (.lload_n 2, 1) := by decide +kernel
theorem dX3_assign_20 : decode cX3_assign 20 = .ok (.invokevirtual 217, 3) := by decide +kernel
theorem dX3_assign_23 : decode cX3_assign 23 = .ok (.iinc 4 1, 3) := by decide +kernel
theorem dX3_assign_26 : decode cX3_assign 26 = .ok (.goto (-18), 3) := by decide +kernel
theorem dX3_assign_29 : decode cX3_assign 29 = .ok (.return_, 1) := by decide +kernel
def fX3_assign_8 (k_8 : Int32 → Int64 → Int32 → Wd → Option Wd) (a1 : Int32) (a2 : Int64) (a4 : Int32) (w : Wd) : Option Wd :=
  if a1 ≤ a4 then (some w) else (lt2 (fX3_pop w) fun x2 w3 => lt (fX3_write x2 a2 w3) fun w4 => lt (a4 + 1) fun x5 => k_8 a1 a2 x5 w4)
theorem pX3_assign_8 {q : Gq} {l : Launch} {N : Option Value → Wd → Prop} {X : String → Wd → Prop} {w : Wd} {R : Wd} (hN : N none R) {k_8 : Int32 → Int64 → Int32 → Wd → Option Wd} (hk_8 : ∀ (a1 : Int32) (a2 : Int64) (a4 : Int32) (w : Wd), k_8 a1 a2 a4 w = some R → RT (GA q) l 5 yX3_assign cX3_assign 5 (none) N X 8 [] [(0, .ref 48), (1, .int a1), (2, .long a2), (4, .int a4)] w) {a1 : Int32} {a2 : Int64} {a4 : Int32} (h : fX3_assign_8 k_8 a1 a2 a4 w = some R) : RT (GA q) l 5 yX3_assign cX3_assign 5 (none) N X 8 [] [(0, .ref 48), (1, .int a1), (2, .long a2), (4, .int a4)] w := by
  unfold fX3_assign_8 at h
  refine r_iload (pc := 8) dX3_assign_8 3 rfl ?_
  refine r_iload_n (pc := 10) dX3_assign_10 rfl 1 rfl ?_
  refine r_icmp_ge (pc := 11) dX3_assign_11 rfl (fun hc1 => ?_) (fun hc1 => ?_)
  · replace h := if_t hc1 h
    exact rO_v (pc := 29) rfl dX3_assign_29 h hN
  replace h := if_f hc1 h
  refine r_aload_n (pc := 14) dX3_assign_14 rfl 0 rfl ?_
  refine r_aload_n (pc := 15) dX3_assign_15 rfl 0 rfl ?_
  replace h := lt2_e h; obtain ⟨x2, w3, ew3, h⟩ := h
  refine r_cVl (pc := 16) wyX3_pop oA48 rfl mlRX3_160 iyX3_pop syX3_pop ⟨(Nat.le_of_ble_eq_true rfl), (Nat.le_of_ble_eq_true rfl)⟩ rfl rfl (Nat.le_of_ble_eq_true rfl) dX3_assign_16 (mX3_pop ew3 (pL.mk ?_))
  refine r_lload_n (pc := 19) dX3_assign_19 rfl 2 rfl ?_
  replace h := lt_e h; obtain ⟨w4, ew4, h⟩ := h
  refine r_cVv (pc := 20) wyX3_write oA48 rfl mlRX3_217 iyX3_write syX3_write ⟨(Nat.le_of_ble_eq_true rfl), (Nat.le_of_ble_eq_true rfl)⟩ rfl rfl (Nat.le_of_ble_eq_true rfl) dX3_assign_20 (mX3_write ew4 (pV.mk ?_))
  replace h := lt_e h; obtain ⟨x5, ex5, h⟩ := h
  refine r_inc (pc := 23) (loc' := [(4, .int x5), (0, .ref 48), (1, .int a1), (2, .long a2)]) dX3_assign_23 ki_1 ex5 3 rfl (Nat.le_of_ble_eq_true rfl) rfl ?_
  refine r_goto (pc := 26) dX3_assign_26 rfl ?_
  refine r_drop (loc' := [(0, .ref 48), (1, .int a1), (2, .long a2), (4, .int x5)]) [1, 2, 3, 0] rfl ?_
  exact hk_8 a1 a2 x5 w4 h
def oX3_assign_8 : Nat → Int32 → Int64 → Int32 → Wd → Option Wd
  | 0 => fun _ _ _ _ => none
  | n + 1 => fX3_assign_8 (oX3_assign_8 n)
theorem qX3_assign_8 {q : Gq} {l : Launch} {N : Option Value → Wd → Prop} {X : String → Wd → Prop} {R : Wd} (hN : N none R) : ∀ (n : Nat) (a1 : Int32) (a2 : Int64) (a4 : Int32) (w : Wd), oX3_assign_8 n a1 a2 a4 w = some R → RT (GA q) l 5 yX3_assign cX3_assign 5 (none) N X 8 [] [(0, .ref 48), (1, .int a1), (2, .long a2), (4, .int a4)] w := by
  intro n
  induction n with
  | zero =>
    intro a1 a2 a4 w h
    exact absurd h (fun q => nomatch q)
  | succ n ih =>
    intro a1 a2 a4 w h
    exact pX3_assign_8 hN ih h
def fX3_assign (a1 : Int32) (w : Wd) : Option Wd :=
  lt2 (fX3_pop w) fun x1 w2 => oX3_assign_8 FU a1 x1 0 w2
theorem pX3_assign {q : Gq} {l : Launch} {N : Option Value → Wd → Prop} {X : String → Wd → Prop} {w : Wd} {R : Wd} (hN : N none R) {a1 : Int32} (h : fX3_assign a1 w = some R) : RT (GA q) l 5 yX3_assign cX3_assign 5 (none) N X 0 [] [(0, .ref 48), (1, .int a1)] w := by
  unfold fX3_assign at h
  refine r_aload_n (pc := 0) dX3_assign_0 rfl 0 rfl ?_
  replace h := lt2_e h; obtain ⟨x1, w2, ew2, h⟩ := h
  refine r_cVl (pc := 1) wyX3_pop oA48 rfl mlRX3_160 iyX3_pop syX3_pop ⟨(Nat.le_of_ble_eq_true rfl), (Nat.le_of_ble_eq_true rfl)⟩ rfl rfl (Nat.le_of_ble_eq_true rfl) dX3_assign_1 (mX3_pop ew2 (pL.mk ?_))
  refine r_lstore_n (pc := 4) (loc' := [(2, .long x1), (0, .ref 48), (1, .int a1)]) dX3_assign_4 rfl (Nat.le_of_ble_eq_true rfl) rfl ?_
  refine r_iconst (pc := 5) dX3_assign_5 ki_0 ?_
  refine r_istore (pc := 6) (loc' := [(4, .int 0), (2, .long x1), (0, .ref 48), (1, .int a1)]) dX3_assign_6 (Nat.le_of_ble_eq_true rfl) rfl ?_
  refine r_drop (loc' := [(0, .ref 48), (1, .int a1), (2, .long x1), (4, .int 0)]) [2, 3, 1, 0] rfl ?_
  exact qX3_assign_8 hN FU a1 x1 0 w2 h
theorem mX3_assign {q : Gq} {l : Launch} {N : Option Value → Wd → Prop} {X : String → Wd → Prop} {a1 : Int32} {w : Wd} {u : Wd} (h : fX3_assign a1 w = some u) (hN : N none u) : Ct (GA q) l 5 yX3_assign cX3_assign 5 (none) [.ref 48, .int a1] w N X := Ct.of (by decide) (Nat.le_of_ble_eq_true rfl) (pX3_assign hN h)
/-! AlgolMill$Machine.clear (II)V: O, 5 -/
theorem dX3_clear_0 : decode cX3_clear 0 = .ok (.iconst 0, 1) := by decide +kernel
theorem dX3_clear_1 : decode cX3_clear 1 = .ok (.istore_n 3, 1) := by decide +kernel
theorem dX3_clear_2 : decode cX3_clear 2 = .ok (.iload_n 3, 1) := by decide +kernel
theorem dX3_clear_3 : decode cX3_clear 3 = .ok (.iload_n 2, 1) := by decide +kernel
theorem dX3_clear_4 : decode cX3_clear 4 = .ok (.if_icmp .ge 23, 3) := by decide +kernel
theorem dX3_clear_7 : decode cX3_clear 7 = .ok (.aload_n 0, 1) := by decide +kernel
theorem dX3_clear_8 : decode cX3_clear 8 = .ok (.aload_n 0, 1) := by decide +kernel
theorem dX3_clear_9 : decode cX3_clear 9 = .ok (.getfield 143, 3) := by decide +kernel
theorem dX3_clear_12 : decode cX3_clear 12 = .ok (.iload_n 1, 1) := by decide +kernel
theorem dX3_clear_13 : decode cX3_clear 13 = .ok (.iadd, 1) := by decide +kernel
theorem dX3_clear_14 : decode cX3_clear 14 = .ok (.iload_n 3, 1) := by decide +kernel
theorem dX3_clear_15 : decode cX3_clear 15 = .ok (.iadd, 1) := by decide +kernel
theorem dX3_clear_16 : decode cX3_clear 16 = .ok (.i2l, 1) := by decide +kernel
theorem dX3_clear_17 : decode cX3_clear 17 = .ok (.lconst 0, 1) := by decide +kernel
theorem dX3_clear_18 : decode cX3_clear 18 = .ok (.invokevirtual 217, 3) := by decide +kernel
theorem dX3_clear_21 : decode cX3_clear 21 = .ok (.iinc 3 1, 3) := by decide +kernel
theorem dX3_clear_24 : decode cX3_clear 24 = .ok (.goto (-22), 3) := by decide +kernel
theorem dX3_clear_27 : decode cX3_clear 27 = .ok (.return_, 1) := by decide +kernel
def fX3_clear_2 (k_2 : Int32 → Int32 → Int32 → Wd → Option Wd) (a1 : Int32) (a2 : Int32) (a3 : Int32) (w : Wd) : Option Wd :=
  if a2 ≤ a3 then (some w) else (lt (fX3_write (Int32.toInt64 (((gi w 48 12) + a1) + a3)) 0 w) fun w2 => lt (a3 + 1) fun x3 => k_2 a1 a2 x3 w2)
theorem pX3_clear_2 {q : Gq} {l : Launch} {N : Option Value → Wd → Prop} {X : String → Wd → Prop} {w : Wd} {R : Wd} (hN : N none R) {k_2 : Int32 → Int32 → Int32 → Wd → Option Wd} (hk_2 : ∀ (a1 : Int32) (a2 : Int32) (a3 : Int32) (w : Wd), k_2 a1 a2 a3 w = some R → RT (GA q) l 5 yX3_clear cX3_clear 4 (none) N X 2 [] [(0, .ref 48), (1, .int a1), (2, .int a2), (3, .int a3)] w) {a1 : Int32} {a2 : Int32} {a3 : Int32} (h : fX3_clear_2 k_2 a1 a2 a3 w = some R) : RT (GA q) l 5 yX3_clear cX3_clear 4 (none) N X 2 [] [(0, .ref 48), (1, .int a1), (2, .int a2), (3, .int a3)] w := by
  unfold fX3_clear_2 at h
  refine r_iload_n (pc := 2) dX3_clear_2 rfl 3 rfl ?_
  refine r_iload_n (pc := 3) dX3_clear_3 rfl 2 rfl ?_
  refine r_icmp_ge (pc := 4) dX3_clear_4 rfl (fun hc1 => ?_) (fun hc1 => ?_)
  · replace h := if_t hc1 h
    exact rO_v (pc := 27) rfl dX3_clear_27 h hN
  replace h := if_f hc1 h
  refine r_aload_n (pc := 7) dX3_clear_7 rfl 0 rfl ?_
  refine r_aload_n (pc := 8) dX3_clear_8 rfl 0 rfl ?_
  refine r_get (pc := 9) (j := 12) (v := .int (gi w 48 12)) oA48 cf3 flRX3_143 rfl dX3_clear_9 rfl ?_
  refine r_iload_n (pc := 12) dX3_clear_12 rfl 1 rfl ?_
  refine r_iadd (pc := 13) dX3_clear_13 ?_
  refine r_iload_n (pc := 14) dX3_clear_14 rfl 3 rfl ?_
  refine r_iadd (pc := 15) dX3_clear_15 ?_
  refine r_i2l (pc := 16) dX3_clear_16 ?_
  refine r_lconst (pc := 17) dX3_clear_17 kl_0 ?_
  replace h := lt_e h; obtain ⟨w2, ew2, h⟩ := h
  refine r_cVv (pc := 18) wyX3_write oA48 rfl mlRX3_217 iyX3_write syX3_write ⟨(Nat.le_of_ble_eq_true rfl), (Nat.le_of_ble_eq_true rfl)⟩ rfl rfl (Nat.le_of_ble_eq_true rfl) dX3_clear_18 (mX3_write ew2 (pV.mk ?_))
  replace h := lt_e h; obtain ⟨x3, ex3, h⟩ := h
  refine r_inc (pc := 21) (loc' := [(3, .int x3), (0, .ref 48), (1, .int a1), (2, .int a2)]) dX3_clear_21 ki_1 ex3 3 rfl (Nat.le_of_ble_eq_true rfl) rfl ?_
  refine r_goto (pc := 24) dX3_clear_24 rfl ?_
  refine r_drop (loc' := [(0, .ref 48), (1, .int a1), (2, .int a2), (3, .int x3)]) [1, 2, 3, 0] rfl ?_
  exact hk_2 a1 a2 x3 w2 h
def oX3_clear_2 : Nat → Int32 → Int32 → Int32 → Wd → Option Wd
  | 0 => fun _ _ _ _ => none
  | n + 1 => fX3_clear_2 (oX3_clear_2 n)
theorem qX3_clear_2 {q : Gq} {l : Launch} {N : Option Value → Wd → Prop} {X : String → Wd → Prop} {R : Wd} (hN : N none R) : ∀ (n : Nat) (a1 : Int32) (a2 : Int32) (a3 : Int32) (w : Wd), oX3_clear_2 n a1 a2 a3 w = some R → RT (GA q) l 5 yX3_clear cX3_clear 4 (none) N X 2 [] [(0, .ref 48), (1, .int a1), (2, .int a2), (3, .int a3)] w := by
  intro n
  induction n with
  | zero =>
    intro a1 a2 a3 w h
    exact absurd h (fun q => nomatch q)
  | succ n ih =>
    intro a1 a2 a3 w h
    exact pX3_clear_2 hN ih h
def fX3_clear (a1 : Int32) (a2 : Int32) (w : Wd) : Option Wd :=
  oX3_clear_2 FU a1 a2 0 w
theorem pX3_clear {q : Gq} {l : Launch} {N : Option Value → Wd → Prop} {X : String → Wd → Prop} {w : Wd} {R : Wd} (hN : N none R) {a1 : Int32} {a2 : Int32} (h : fX3_clear a1 a2 w = some R) : RT (GA q) l 5 yX3_clear cX3_clear 4 (none) N X 0 [] [(0, .ref 48), (1, .int a1), (2, .int a2)] w := by
  unfold fX3_clear at h
  refine r_iconst (pc := 0) dX3_clear_0 ki_0 ?_
  refine r_istore_n (pc := 1) (loc' := [(3, .int 0), (0, .ref 48), (1, .int a1), (2, .int a2)]) dX3_clear_1 rfl (Nat.le_of_ble_eq_true rfl) rfl ?_
  refine r_drop (loc' := [(0, .ref 48), (1, .int a1), (2, .int a2), (3, .int 0)]) [1, 2, 3, 0] rfl ?_
  exact qX3_clear_2 hN FU a1 a2 0 w h
theorem mX3_clear {q : Gq} {l : Launch} {N : Option Value → Wd → Prop} {X : String → Wd → Prop} {a1 : Int32} {a2 : Int32} {w : Wd} {u : Wd} (h : fX3_clear a1 a2 w = some u) (hN : N none u) : Ct (GA q) l 5 yX3_clear cX3_clear 4 (none) [.ref 48, .int a1, .int a2] w N X := Ct.of (by decide) (Nat.le_of_ble_eq_true rfl) (pX3_clear hN h)
/-! AlgolMill$Machine.element (I)V: O, 5 -/
theorem dX3_element_0 : decode cX3_element 0 = .ok (.aload_n 0, 1) := by decide +kernel
theorem dX3_element_1 : decode cX3_element 1 = .ok (.getfield 117, 3) := by decide +kernel
theorem dX3_element_4 : decode cX3_element 4 = .ok (.iload_n 1, 1) := by decide +kernel
theorem dX3_element_5 : decode cX3_element 5 = .ok (.isub, 1) := by decide +kernel
theorem dX3_element_6 : decode cX3_element 6 = .ok (.istore_n 2, 1) := by decide +kernel
theorem dX3_element_7 : decode cX3_element 7 = .ok (.aload_n 0, 1) := by decide +kernel
theorem dX3_element_8 : decode cX3_element 8 = .ok (.getfield 24, 3) := by decide +kernel
theorem dX3_element_11 : decode cX3_element 11 = .ok (.iload_n 2, 1) := by decide +kernel
theorem dX3_element_12 : decode cX3_element 12 = .ok (.iconst 1, 1) := by decide +kernel
theorem dX3_element_13 : decode cX3_element 13 = .ok (.isub, 1) := by decide +kernel
theorem dX3_element_14 : decode cX3_element 14 = .ok (.invokestatic 63, 3) := by decide +kernel
theorem dX3_element_17 : decode cX3_element 17 = .ok (.lstore_n 3, 1) := by decide +kernel
theorem dX3_element_18 : decode cX3_element 18 = .ok (.aload_n 0, 1) := by decide +kernel
theorem dX3_element_19 : decode cX3_element 19 = .ok (.lload_n 3, 1) := by decide +kernel
theorem dX3_element_20 : decode cX3_element 20 = .ok (.invokevirtual 146, 3) := by decide +kernel
theorem dX3_element_23 : decode cX3_element 23 = .ok (.iload_n 1, 1) := by decide +kernel
theorem dX3_element_24 : decode cX3_element 24 = .ok (.i2l, 1) := by decide +kernel
theorem dX3_element_25 : decode cX3_element 25 = .ok (.lcmp, 1) := by decide +kernel
theorem dX3_element_26 : decode cX3_element 26 = .ok (.ifCond .ne 7, 3) := by decide +kernel
theorem dX3_element_29 : decode cX3_element 29 = .ok (.iconst 1, 1) := by decide +kernel
theorem dX3_element_30 : decode cX3_element 30 = .ok (.goto 4, 3) := by decide +kernel
theorem dX3_element_33 : decode cX3_element 33 = .ok (.iconst 0, 1) := by decide +kernel
theorem dX3_element_34 : decode cX3_element 34 = .ok (.istore 5, 2) := by decide +kernel
theorem dX3_element_36 : decode cX3_element 36 = .ok (.lconst 0, 1) := by decide +kernel
theorem dX3_element_37 : decode cX3_element 37 = .ok (.lstore 6, 2) := by decide +kernel
theorem dX3_element_39 : decode cX3_element 39 = .ok (.iconst 0, 1) := by decide +kernel
theorem dX3_element_40 : decode cX3_element 40 = .ok (.istore 8, 2) := by decide +kernel
theorem dX3_element_42 : decode cX3_element 42 = .ok (.iload 5, 2) := by decide +kernel
theorem dX3_element_44 : decode cX3_element 44 = .ok (.ifCond .eq 103, 3) := by decide +kernel
theorem dX3_element_47 : decode cX3_element 47 = .ok (.iload 8, 2) := by decide +kernel
theorem dX3_element_49 : decode cX3_element 49 = .ok (.iload_n 1, 1) := by decide +kernel
theorem dX3_element_50 : decode cX3_element 50 = .ok (.if_icmp .ge 97, 3) := by decide +kernel
theorem dX3_element_53 : decode cX3_element 53 = .ok (.aload_n 0, 1) := by decide +kernel
theorem dX3_element_54 : decode cX3_element 54 = .ok (.getfield 24, 3) := by decide +kernel
theorem dX3_element_57 : decode cX3_element 57 = .ok (.iload_n 2, 1) := by decide +kernel
theorem dX3_element_58 : decode cX3_element 58 = .ok (.iload 8, 2) := by decide +kernel
theorem dX3_element_60 : decode cX3_element 60 = .ok (.iadd, 1) := by decide +kernel
theorem dX3_element_61 : decode cX3_element 61 = .ok (.invokestatic 63, 3) := by decide +kernel
theorem dX3_element_64 : decode cX3_element 64 = .ok (.lstore 9, 2) := by decide +kernel
theorem dX3_element_66 : decode cX3_element 66 = .ok (.aload_n 0, 1) := by decide +kernel
theorem dX3_element_67 : decode cX3_element 67 = .ok (.lload_n 3, 1) := by decide +kernel
theorem dX3_element_68 : decode cX3_element 68 = .ok (.ldc2_w 90, 3) := by decide +kernel
theorem dX3_element_71 : decode cX3_element 71 = .ok (.ladd, 1) := by decide +kernel
theorem dX3_element_72 : decode cX3_element 72 = .ok (.iconst 2, 1) := by decide +kernel
theorem dX3_element_73 : decode cX3_element 73 = .ok (.iload 8, 2) := by decide +kernel
theorem dX3_element_75 : decode cX3_element 75 = .ok (.imul, 1) := by decide +kernel
theorem dX3_element_76 : decode cX3_element 76 = .ok (.i2l, 1) := by decide +kernel
theorem dX3_element_77 : decode cX3_element 77 = .ok (.ladd, 1) := by decide +kernel
theorem dX3_element_78 : decode cX3_element 78 = .ok (.invokevirtual 146, 3) := by decide +kernel
theorem dX3_element_81 : decode cX3_element 81 = .ok (.lstore 11, 2) := by decide +kernel
theorem dX3_element_83 : decode cX3_element 83 = .ok (.aload_n 0, 1) := by decide +kernel
theorem dX3_element_84 : decode cX3_element 84 = .ok (.lload_n 3, 1) := by decide +kernel
theorem dX3_element_85 : decode cX3_element 85 = .ok (.ldc2_w 220, 3) := by decide +kernel
theorem dX3_element_88 : decode cX3_element 88 = .ok (.ladd, 1) := by decide +kernel
theorem dX3_element_89 : decode cX3_element 89 = .ok (.iconst 2, 1) := by decide +kernel
theorem dX3_element_90 : decode cX3_element 90 = .ok (.iload 8, 2) := by decide +kernel
theorem dX3_element_92 : decode cX3_element 92 = .ok (.imul, 1) := by decide +kernel
theorem dX3_element_93 : decode cX3_element 93 = .ok (.i2l, 1) := by decide +kernel
theorem dX3_element_94 : decode cX3_element 94 = .ok (.ladd, 1) := by decide +kernel
theorem dX3_element_95 : decode cX3_element 95 = .ok (.invokevirtual 146, 3) := by decide +kernel
theorem dX3_element_98 : decode cX3_element 98 = .ok (.lstore 13, 2) := by decide +kernel
theorem dX3_element_100 : decode cX3_element 100 = .ok (.lload 9, 2) := by decide +kernel
theorem dX3_element_102 : decode cX3_element 102 = .ok (.lload 11, 2) := by decide +kernel
theorem dX3_element_104 : decode cX3_element 104 = .ok (.lcmp, 1) := by decide +kernel
theorem dX3_element_105 : decode cX3_element 105 = .ok (.ifCond .lt 15, 3) := by decide +kernel
theorem dX3_element_108 : decode cX3_element 108 = .ok (.lload 9, 2) := by decide +kernel
theorem dX3_element_110 : decode cX3_element 110 = .ok (.lload 13, 2) := by decide +kernel
theorem dX3_element_112 : decode cX3_element 112 = .ok (.lcmp, 1) := by decide +kernel
theorem dX3_element_113 : decode cX3_element 113 = .ok (.ifCond .gt 7, 3) := by decide +kernel
theorem dX3_element_116 : decode cX3_element 116 = .ok (.iconst 1, 1) := by decide +kernel
theorem dX3_element_117 : decode cX3_element 117 = .ok (.goto 4, 3) := by decide +kernel
theorem dX3_element_120 : decode cX3_element 120 = .ok (.iconst 0, 1) := by decide +kernel
theorem dX3_element_121 : decode cX3_element 121 = .ok (.istore 5, 2) := by decide +kernel
theorem dX3_element_123 : decode cX3_element 123 = .ok (.lload 6, 2) := by decide +kernel
theorem dX3_element_125 : decode cX3_element 125 = .ok (.lload 13, 2) := by decide +kernel
theorem dX3_element_127 : decode cX3_element 127 = .ok (.lload 11, 2) := by decide +kernel
theorem dX3_element_129 : decode cX3_element 129 = .ok (.lsub, 1) := by decide +kernel
theorem dX3_element_130 : decode cX3_element 130 = .ok (.lconst 1, 1) := by decide +kernel
theorem dX3_element_131 : decode cX3_element 131 = .ok (.ladd, 1) := by decide +kernel
theorem dX3_element_132 : decode cX3_element 132 = .ok (.lmul, 1) := by decide +kernel
theorem dX3_element_133 : decode cX3_element 133 = .ok (.lload 9, 2) := by decide +kernel
theorem dX3_element_135 : decode cX3_element 135 = .ok (.ladd, 1) := by decide +kernel
theorem dX3_element_136 : decode cX3_element 136 = .ok (.lload 11, 2) := by decide +kernel
theorem dX3_element_138 : decode cX3_element 138 = .ok (.lsub, 1) := by decide +kernel
theorem dX3_element_139 : decode cX3_element 139 = .ok (.lstore 6, 2) := by decide +kernel
theorem dX3_element_141 : decode cX3_element 141 = .ok (.iinc 8 1, 3) := by decide +kernel
theorem dX3_element_144 : decode cX3_element 144 = .ok (.goto (-102), 3) := by decide +kernel
theorem dX3_element_147 : decode cX3_element 147 = .ok (.iload 5, 2) := by decide +kernel
theorem dX3_element_149 : decode cX3_element 149 = .ok (.ifCond .eq 31, 3) := by decide +kernel
theorem dX3_element_152 : decode cX3_element 152 = .ok (.aload_n 0, 1) := by decide +kernel
theorem dX3_element_153 : decode cX3_element 153 = .ok (.iload_n 2, 1) := by decide +kernel
theorem dX3_element_154 : decode cX3_element 154 = .ok (.iconst 1, 1) := by decide +kernel
theorem dX3_element_155 : decode cX3_element 155 = .ok (.isub, 1) := by decide +kernel
theorem dX3_element_156 : decode cX3_element 156 = .ok (.iconst 0, 1) := by decide +kernel
theorem dX3_element_157 : decode cX3_element 157 = .ok (.invokestatic 83, 3) := by decide +kernel
theorem dX3_element_160 : decode cX3_element 160 = .ok (.putfield 117, 3) := by decide +kernel
theorem dX3_element_163 : decode cX3_element 163 = .ok (.aload_n 0, 1) := by decide +kernel
theorem dX3_element_164 : decode cX3_element 164 = .ok (.aload_n 0, 1) := by decide +kernel
theorem dX3_element_165 : decode cX3_element 165 = .ok (.lload_n 3, 1) := by decide +kernel
theorem dX3_element_166 : decode cX3_element 166 = .ok (.lconst 1, 1) := by decide +kernel
theorem dX3_element_167 : decode cX3_element 167 = .ok (.ladd, 1) := by decide +kernel
theorem dX3_element_168 : decode cX3_element 168 = .ok (.invokevirtual 146, 3) := by decide +kernel
theorem dX3_element_171 : decode cX3_element 171 = .ok (.lload 6, 2) := by decide +kernel
theorem dX3_element_173 : decode cX3_element 173 = .ok (.ladd, 1) := by decide +kernel
theorem dX3_element_174 : decode cX3_element 174 = .ok (.invokevirtual 184, 3) := by decide +kernel
theorem dX3_element_177 : decode cX3_element 177 = .ok (.goto 8, 3) := by decide +kernel
theorem dX3_element_180 : decode cX3_element 180 = .ok (.aload_n 0, 1) := by decide +kernel
theorem dX3_element_181 : decode cX3_element 181 = .ok (.iconst 1, 1) := by decide +kernel
theorem dX3_element_182 : decode cX3_element 182 = .ok (.invokevirtual 199, 3) := by decide +kernel
theorem dX3_element_185 : decode cX3_element 185 = .ok (.return_, 1) := by decide +kernel
def fX3_element_147 (a2 : Int32) (a3 : Int64) (a5 : Bool) (a6 : Int64) (w : Wd) : Option Wd :=
  if a5 = true then (lt (fJ9_max_7cf53 (a2 - 1) 0) fun x2 => lt (si w 48 14 x2) fun w3 => lt2 (fX3_read (a3 + 1) w3) fun x4 w5 => lt (fX3_push (x4 + a6) w5) fun w6 => some w6) else (lt (fX3_error 1 w) fun w7 => some w7)
theorem pX3_element_147 {q : Gq} {l : Launch} {N : Option Value → Wd → Prop} {X : String → Wd → Prop} {w : Wd} {R : Wd} (hN : N none R) {a2 : Int32} {a3 : Int64} {a5 : Bool} {a6 : Int64} (h : fX3_element_147 a2 a3 a5 a6 w = some R) : RT (GA q) l 5 yX3_element cX3_element 15 (none) N X 147 [] [(0, .ref 48), (2, .int a2), (3, .long a3), (5, .int (b2i a5)), (6, .long a6)] w := by
  unfold fX3_element_147 at h
  refine r_iload (pc := 147) dX3_element_147 3 rfl ?_
  refine r_z_eq (pc := 149) dX3_element_149 rfl (fun hc1 => ?_) (fun hc1 => ?_)
  · replace h := if_f hc1 h
    refine r_aload_n (pc := 180) dX3_element_180 rfl 0 rfl ?_
    refine r_iconst (pc := 181) dX3_element_181 ki_1 ?_
    replace h := lt_e h; obtain ⟨w7, ew7, h⟩ := h
    refine r_cVv (pc := 182) wyX3_error oA48 rfl mlRX3_199 iyX3_error syX3_error ⟨(Nat.le_of_ble_eq_true rfl), (Nat.le_of_ble_eq_true rfl)⟩ rfl rfl (Nat.le_of_ble_eq_true rfl) dX3_element_182 (mX3_error ew7 (pV.mk ?_))
    exact rO_v (pc := 185) rfl dX3_element_185 h hN
  replace h := if_t hc1 h
  refine r_aload_n (pc := 152) dX3_element_152 rfl 0 rfl ?_
  refine r_iload_n (pc := 153) dX3_element_153 rfl 1 rfl ?_
  refine r_iconst (pc := 154) dX3_element_154 ki_1 ?_
  refine r_isub (pc := 155) dX3_element_155 ?_
  refine r_iconst (pc := 156) dX3_element_156 ki_0 ?_
  replace h := lt_e h; obtain ⟨x2, ex2, h⟩ := h
  refine r_cSi (pc := 157) wyJ9_max_7cf53 mlRX3_83 tyJ9_max_7cf53 ⟨(Nat.le_of_ble_eq_true rfl), (Nat.le_of_ble_eq_true rfl)⟩ rfl rfl (Nat.le_of_ble_eq_true rfl) dX3_element_157 (mJ9_max_7cf53 ex2 (pI.mk ?_))
  replace h := lt_e h; obtain ⟨w3, ew3, h⟩ := h
  refine r_putI (pc := 160) (j := 14) oA48 cf3 flRX3_117 rfl rfl rfl rfl dX3_element_160 ?_
  refine r_w ew3 ?_
  refine r_aload_n (pc := 163) dX3_element_163 rfl 0 rfl ?_
  refine r_aload_n (pc := 164) dX3_element_164 rfl 0 rfl ?_
  refine r_lload_n (pc := 165) dX3_element_165 rfl 2 rfl ?_
  refine r_lconst (pc := 166) dX3_element_166 kl_1 ?_
  refine r_ladd (pc := 167) dX3_element_167 ?_
  replace h := lt2_e h; obtain ⟨x4, w5, ew5, h⟩ := h
  refine r_cVl (pc := 168) wyX3_read oA48 rfl mlRX3_146 iyX3_read syX3_read ⟨(Nat.le_of_ble_eq_true rfl), (Nat.le_of_ble_eq_true rfl)⟩ rfl rfl (Nat.le_of_ble_eq_true rfl) dX3_element_168 (mX3_read ew5 (pL.mk ?_))
  refine r_lload (pc := 171) dX3_element_171 4 rfl ?_
  refine r_ladd (pc := 173) dX3_element_173 ?_
  replace h := lt_e h; obtain ⟨w6, ew6, h⟩ := h
  refine r_cVv (pc := 174) wyX3_push oA48 rfl mlRX3_184 iyX3_push syX3_push ⟨(Nat.le_of_ble_eq_true rfl), (Nat.le_of_ble_eq_true rfl)⟩ rfl rfl (Nat.le_of_ble_eq_true rfl) dX3_element_174 (mX3_push ew6 (pV.mk ?_))
  refine r_goto (pc := 177) dX3_element_177 rfl ?_
  exact rO_v (pc := 185) rfl dX3_element_185 h hN
def fX3_element_121 (k_42 : Int32 → Int32 → Int64 → Bool → Int64 → Int32 → Wd → Option Wd) (s0 : Bool) (a1 : Int32) (a2 : Int32) (a3 : Int64) (a6 : Int64) (a8 : Int32) (a9 : Int64) (a11 : Int64) (a13 : Int64) (w : Wd) : Option Wd :=
  lt ((((a6 * ((a13 - a11) + 1)) + a9) - a11)) fun x1 => lt (a8 + 1) fun x2 => k_42 a1 a2 a3 s0 x1 x2 w
theorem pX3_element_121 {q : Gq} {l : Launch} {N : Option Value → Wd → Prop} {X : String → Wd → Prop} {w : Wd} {R : Wd} (hN : N none R) {k_42 : Int32 → Int32 → Int64 → Bool → Int64 → Int32 → Wd → Option Wd} (hk_42 : ∀ (a1 : Int32) (a2 : Int32) (a3 : Int64) (a5 : Bool) (a6 : Int64) (a8 : Int32) (w : Wd), k_42 a1 a2 a3 a5 a6 a8 w = some R → RT (GA q) l 5 yX3_element cX3_element 15 (none) N X 42 [] [(0, .ref 48), (1, .int a1), (2, .int a2), (3, .long a3), (5, .int (b2i a5)), (6, .long a6), (8, .int a8)] w) {s0 : Bool} {a1 : Int32} {a2 : Int32} {a3 : Int64} {a6 : Int64} {a8 : Int32} {a9 : Int64} {a11 : Int64} {a13 : Int64} (h : fX3_element_121 k_42 s0 a1 a2 a3 a6 a8 a9 a11 a13 w = some R) : RT (GA q) l 5 yX3_element cX3_element 15 (none) N X 121 [.int (b2i s0)] [(0, .ref 48), (1, .int a1), (2, .int a2), (3, .long a3), (6, .long a6), (8, .int a8), (9, .long a9), (11, .long a11), (13, .long a13)] w := by
  unfold fX3_element_121 at h
  refine r_istore (pc := 121) (loc' := [(5, .int (b2i s0)), (0, .ref 48), (1, .int a1), (2, .int a2), (3, .long a3), (6, .long a6), (8, .int a8), (9, .long a9), (11, .long a11), (13, .long a13)]) dX3_element_121 (Nat.le_of_ble_eq_true rfl) rfl ?_
  refine r_lload (pc := 123) dX3_element_123 5 rfl ?_
  refine r_lload (pc := 125) dX3_element_125 9 rfl ?_
  refine r_lload (pc := 127) dX3_element_127 8 rfl ?_
  refine r_lsub (pc := 129) dX3_element_129 ?_
  refine r_lconst (pc := 130) dX3_element_130 kl_1 ?_
  refine r_ladd (pc := 131) dX3_element_131 ?_
  refine r_lmul (pc := 132) dX3_element_132 ?_
  refine r_lload (pc := 133) dX3_element_133 7 rfl ?_
  refine r_ladd (pc := 135) dX3_element_135 ?_
  refine r_lload (pc := 136) dX3_element_136 8 rfl ?_
  refine r_lsub (pc := 138) dX3_element_138 ?_
  replace h := lt_e h; obtain ⟨x1, ex1, h⟩ := h
  refine r_topl ex1 ?_
  refine r_lstore (pc := 139) (loc' := [(6, .long x1), (5, .int (b2i s0)), (0, .ref 48), (1, .int a1), (2, .int a2), (3, .long a3), (8, .int a8), (9, .long a9), (11, .long a11), (13, .long a13)]) dX3_element_139 (Nat.le_of_ble_eq_true rfl) rfl ?_
  replace h := lt_e h; obtain ⟨x2, ex2, h⟩ := h
  refine r_inc (pc := 141) (loc' := [(8, .int x2), (6, .long x1), (5, .int (b2i s0)), (0, .ref 48), (1, .int a1), (2, .int a2), (3, .long a3), (9, .long a9), (11, .long a11), (13, .long a13)]) dX3_element_141 ki_1 ex2 6 rfl (Nat.le_of_ble_eq_true rfl) rfl ?_
  refine r_goto (pc := 144) dX3_element_144 rfl ?_
  refine r_drop (loc' := [(0, .ref 48), (1, .int a1), (2, .int a2), (3, .long a3), (5, .int (b2i s0)), (6, .long x1), (8, .int x2)]) [3, 4, 5, 6, 2, 1, 0] rfl ?_
  exact hk_42 a1 a2 a3 s0 x1 x2 w h
def fX3_element_42 (k_42 : Int32 → Int32 → Int64 → Bool → Int64 → Int32 → Wd → Option Wd) (a1 : Int32) (a2 : Int32) (a3 : Int64) (a5 : Bool) (a6 : Int64) (a8 : Int32) (w : Wd) : Option Wd :=
  if a5 = true then (if a1 ≤ a8 then (fX3_element_147 a2 a3 a5 a6 w) else (lt (rgl w 51 30622 (a2 + a8)) fun x3 => lt2 (fX3_read ((a3 + 2) + (Int32.toInt64 (2 * a8))) w) fun x4 w5 => lt2 (fX3_read ((a3 + 3) + (Int32.toInt64 (2 * a8))) w5) fun x6 w7 => if x3 < x4 then (fX3_element_121 k_42 false a1 a2 a3 a6 a8 x3 x4 x6 w7) else (if x6 < x3 then (fX3_element_121 k_42 false a1 a2 a3 a6 a8 x3 x4 x6 w7) else (fX3_element_121 k_42 true a1 a2 a3 a6 a8 x3 x4 x6 w7)))) else (fX3_element_147 a2 a3 a5 a6 w)
theorem pX3_element_42 {q : Gq} {l : Launch} {N : Option Value → Wd → Prop} {X : String → Wd → Prop} {w : Wd} {R : Wd} (hN : N none R) {k_42 : Int32 → Int32 → Int64 → Bool → Int64 → Int32 → Wd → Option Wd} (hk_42 : ∀ (a1 : Int32) (a2 : Int32) (a3 : Int64) (a5 : Bool) (a6 : Int64) (a8 : Int32) (w : Wd), k_42 a1 a2 a3 a5 a6 a8 w = some R → RT (GA q) l 5 yX3_element cX3_element 15 (none) N X 42 [] [(0, .ref 48), (1, .int a1), (2, .int a2), (3, .long a3), (5, .int (b2i a5)), (6, .long a6), (8, .int a8)] w) {a1 : Int32} {a2 : Int32} {a3 : Int64} {a5 : Bool} {a6 : Int64} {a8 : Int32} (h : fX3_element_42 k_42 a1 a2 a3 a5 a6 a8 w = some R) : RT (GA q) l 5 yX3_element cX3_element 15 (none) N X 42 [] [(0, .ref 48), (1, .int a1), (2, .int a2), (3, .long a3), (5, .int (b2i a5)), (6, .long a6), (8, .int a8)] w := by
  unfold fX3_element_42 at h
  refine r_iload (pc := 42) dX3_element_42 4 rfl ?_
  refine r_z_eq (pc := 44) dX3_element_44 rfl (fun hc1 => ?_) (fun hc1 => ?_)
  · replace h := if_f hc1 h
    refine r_drop (loc' := [(0, .ref 48), (2, .int a2), (3, .long a3), (5, .int (b2i a5)), (6, .long a6)]) [0, 2, 3, 4, 5] rfl ?_
    exact pX3_element_147 hN h
  replace h := if_t hc1 h
  refine r_iload (pc := 47) dX3_element_47 6 rfl ?_
  refine r_iload_n (pc := 49) dX3_element_49 rfl 1 rfl ?_
  refine r_icmp_ge (pc := 50) dX3_element_50 rfl (fun hc2 => ?_) (fun hc2 => ?_)
  · replace h := if_t hc2 h
    refine r_drop (loc' := [(0, .ref 48), (2, .int a2), (3, .long a3), (5, .int (b2i a5)), (6, .long a6)]) [0, 2, 3, 4, 5] rfl ?_
    exact pX3_element_147 hN h
  replace h := if_f hc2 h
  refine r_aload_n (pc := 53) dX3_element_53 rfl 0 rfl ?_
  refine r_get (pc := 54) (j := 2) (v := .ref 51) oA48 cf3 flRX3_24 rfl dX3_element_54 rfl ?_
  refine r_iload_n (pc := 57) dX3_element_57 rfl 2 rfl ?_
  refine r_iload (pc := 58) dX3_element_58 6 rfl ?_
  refine r_iadd (pc := 60) dX3_element_60 ?_
  replace h := lt_e h; obtain ⟨x3, ex3, h⟩ := h
  refine r_cSl (pc := 61) wyX6_get_ mlRX3_63 tyX6_get_ ⟨(Nat.le_of_ble_eq_true rfl), (Nat.le_of_ble_eq_true rfl)⟩ rfl rfl (Nat.le_of_ble_eq_true rfl) dX3_element_61 (mX6_get_ aA51 (Nat.le_of_ble_eq_true rfl) ex3 (pL.mk ?_))
  refine r_lstore (pc := 64) (loc' := [(9, .long x3), (0, .ref 48), (1, .int a1), (2, .int a2), (3, .long a3), (5, .int (b2i a5)), (6, .long a6), (8, .int a8)]) dX3_element_64 (Nat.le_of_ble_eq_true rfl) rfl ?_
  refine r_aload_n (pc := 66) dX3_element_66 rfl 1 rfl ?_
  refine r_lload_n (pc := 67) dX3_element_67 rfl 4 rfl ?_
  refine r_ldc2 (pc := 68) dX3_element_68 kcRX3_90 ?_
  refine r_ladd (pc := 71) dX3_element_71 ?_
  refine r_iconst (pc := 72) dX3_element_72 ki_2 ?_
  refine r_iload (pc := 73) dX3_element_73 7 rfl ?_
  refine r_imul (pc := 75) dX3_element_75 ?_
  refine r_i2l (pc := 76) dX3_element_76 ?_
  refine r_ladd (pc := 77) dX3_element_77 ?_
  replace h := lt2_e h; obtain ⟨x4, w5, ew5, h⟩ := h
  refine r_cVl (pc := 78) wyX3_read oA48 rfl mlRX3_146 iyX3_read syX3_read ⟨(Nat.le_of_ble_eq_true rfl), (Nat.le_of_ble_eq_true rfl)⟩ rfl rfl (Nat.le_of_ble_eq_true rfl) dX3_element_78 (mX3_read ew5 (pL.mk ?_))
  refine r_lstore (pc := 81) (loc' := [(11, .long x4), (9, .long x3), (0, .ref 48), (1, .int a1), (2, .int a2), (3, .long a3), (5, .int (b2i a5)), (6, .long a6), (8, .int a8)]) dX3_element_81 (Nat.le_of_ble_eq_true rfl) rfl ?_
  refine r_aload_n (pc := 83) dX3_element_83 rfl 2 rfl ?_
  refine r_lload_n (pc := 84) dX3_element_84 rfl 5 rfl ?_
  refine r_ldc2 (pc := 85) dX3_element_85 kcRX3_220 ?_
  refine r_ladd (pc := 88) dX3_element_88 ?_
  refine r_iconst (pc := 89) dX3_element_89 ki_2 ?_
  refine r_iload (pc := 90) dX3_element_90 8 rfl ?_
  refine r_imul (pc := 92) dX3_element_92 ?_
  refine r_i2l (pc := 93) dX3_element_93 ?_
  refine r_ladd (pc := 94) dX3_element_94 ?_
  replace h := lt2_e h; obtain ⟨x6, w7, ew7, h⟩ := h
  refine r_cVl (pc := 95) wyX3_read oA48 rfl mlRX3_146 iyX3_read syX3_read ⟨(Nat.le_of_ble_eq_true rfl), (Nat.le_of_ble_eq_true rfl)⟩ rfl rfl (Nat.le_of_ble_eq_true rfl) dX3_element_95 (mX3_read ew7 (pL.mk ?_))
  refine r_lstore (pc := 98) (loc' := [(13, .long x6), (11, .long x4), (9, .long x3), (0, .ref 48), (1, .int a1), (2, .int a2), (3, .long a3), (5, .int (b2i a5)), (6, .long a6), (8, .int a8)]) dX3_element_98 (Nat.le_of_ble_eq_true rfl) rfl ?_
  refine r_lload (pc := 100) dX3_element_100 2 rfl ?_
  refine r_lload (pc := 102) dX3_element_102 1 rfl ?_
  refine r_l_lt (pc := 104) dX3_element_104 dX3_element_105 rfl (fun hc8 => ?_) (fun hc8 => ?_)
  · replace h := if_t hc8 h
    refine r_iconst (pc := 120) dX3_element_120 ki_0 ?_
    refine r_drop (loc' := [(0, .ref 48), (1, .int a1), (2, .int a2), (3, .long a3), (6, .long a6), (8, .int a8), (9, .long x3), (11, .long x4), (13, .long x6)]) [3, 4, 5, 6, 8, 9, 2, 1, 0] rfl ?_
    exact pX3_element_121 hN hk_42 h
  replace h := if_f hc8 h
  refine r_lload (pc := 108) dX3_element_108 2 rfl ?_
  refine r_lload (pc := 110) dX3_element_110 0 rfl ?_
  refine r_l_gt (pc := 112) dX3_element_112 dX3_element_113 rfl (fun hc9 => ?_) (fun hc9 => ?_)
  · replace h := if_t hc9 h
    refine r_iconst (pc := 120) dX3_element_120 ki_0 ?_
    refine r_drop (loc' := [(0, .ref 48), (1, .int a1), (2, .int a2), (3, .long a3), (6, .long a6), (8, .int a8), (9, .long x3), (11, .long x4), (13, .long x6)]) [3, 4, 5, 6, 8, 9, 2, 1, 0] rfl ?_
    exact pX3_element_121 hN hk_42 h
  replace h := if_f hc9 h
  refine r_iconst (pc := 116) dX3_element_116 ki_1 ?_
  refine r_goto (pc := 117) dX3_element_117 rfl ?_
  refine r_drop (loc' := [(0, .ref 48), (1, .int a1), (2, .int a2), (3, .long a3), (6, .long a6), (8, .int a8), (9, .long x3), (11, .long x4), (13, .long x6)]) [3, 4, 5, 6, 8, 9, 2, 1, 0] rfl ?_
  exact pX3_element_121 hN hk_42 h
def oX3_element_42 : Nat → Int32 → Int32 → Int64 → Bool → Int64 → Int32 → Wd → Option Wd
  | 0 => fun _ _ _ _ _ _ _ => none
  | n + 1 => fX3_element_42 (oX3_element_42 n)
theorem qX3_element_42 {q : Gq} {l : Launch} {N : Option Value → Wd → Prop} {X : String → Wd → Prop} {R : Wd} (hN : N none R) : ∀ (n : Nat) (a1 : Int32) (a2 : Int32) (a3 : Int64) (a5 : Bool) (a6 : Int64) (a8 : Int32) (w : Wd), oX3_element_42 n a1 a2 a3 a5 a6 a8 w = some R → RT (GA q) l 5 yX3_element cX3_element 15 (none) N X 42 [] [(0, .ref 48), (1, .int a1), (2, .int a2), (3, .long a3), (5, .int (b2i a5)), (6, .long a6), (8, .int a8)] w := by
  intro n
  induction n with
  | zero =>
    intro a1 a2 a3 a5 a6 a8 w h
    exact absurd h (fun q => nomatch q)
  | succ n ih =>
    intro a1 a2 a3 a5 a6 a8 w h
    exact pX3_element_42 hN ih h
def fX3_element (a1 : Int32) (w : Wd) : Option Wd :=
  lt (((gi w 48 14) - a1)) fun x1 => lt (rgl w 51 30622 (x1 - 1)) fun x2 => lt2 (fX3_read x2 w) fun x3 w4 => if x3 = (Int32.toInt64 a1) then (oX3_element_42 FU a1 x1 x2 true 0 0 w4) else (oX3_element_42 FU a1 x1 x2 false 0 0 w4)
theorem pX3_element {q : Gq} {l : Launch} {N : Option Value → Wd → Prop} {X : String → Wd → Prop} {w : Wd} {R : Wd} (hN : N none R) {a1 : Int32} (h : fX3_element a1 w = some R) : RT (GA q) l 5 yX3_element cX3_element 15 (none) N X 0 [] [(0, .ref 48), (1, .int a1)] w := by
  unfold fX3_element at h
  refine r_aload_n (pc := 0) dX3_element_0 rfl 0 rfl ?_
  refine r_get (pc := 1) (j := 14) (v := .int (gi w 48 14)) oA48 cf3 flRX3_117 rfl dX3_element_1 rfl ?_
  refine r_iload_n (pc := 4) dX3_element_4 rfl 1 rfl ?_
  refine r_isub (pc := 5) dX3_element_5 ?_
  replace h := lt_e h; obtain ⟨x1, ex1, h⟩ := h
  refine r_topi ex1 ?_
  refine r_istore_n (pc := 6) (loc' := [(2, .int x1), (0, .ref 48), (1, .int a1)]) dX3_element_6 rfl (Nat.le_of_ble_eq_true rfl) rfl ?_
  refine r_aload_n (pc := 7) dX3_element_7 rfl 1 rfl ?_
  refine r_get (pc := 8) (j := 2) (v := .ref 51) oA48 cf3 flRX3_24 rfl dX3_element_8 rfl ?_
  refine r_iload_n (pc := 11) dX3_element_11 rfl 0 rfl ?_
  refine r_iconst (pc := 12) dX3_element_12 ki_1 ?_
  refine r_isub (pc := 13) dX3_element_13 ?_
  replace h := lt_e h; obtain ⟨x2, ex2, h⟩ := h
  refine r_cSl (pc := 14) wyX6_get_ mlRX3_63 tyX6_get_ ⟨(Nat.le_of_ble_eq_true rfl), (Nat.le_of_ble_eq_true rfl)⟩ rfl rfl (Nat.le_of_ble_eq_true rfl) dX3_element_14 (mX6_get_ aA51 (Nat.le_of_ble_eq_true rfl) ex2 (pL.mk ?_))
  refine r_lstore_n (pc := 17) (loc' := [(3, .long x2), (2, .int x1), (0, .ref 48), (1, .int a1)]) dX3_element_17 rfl (Nat.le_of_ble_eq_true rfl) rfl ?_
  refine r_aload_n (pc := 18) dX3_element_18 rfl 2 rfl ?_
  refine r_lload_n (pc := 19) dX3_element_19 rfl 0 rfl ?_
  replace h := lt2_e h; obtain ⟨x3, w4, ew4, h⟩ := h
  refine r_cVl (pc := 20) wyX3_read oA48 rfl mlRX3_146 iyX3_read syX3_read ⟨(Nat.le_of_ble_eq_true rfl), (Nat.le_of_ble_eq_true rfl)⟩ rfl rfl (Nat.le_of_ble_eq_true rfl) dX3_element_20 (mX3_read ew4 (pL.mk ?_))
  refine r_iload_n (pc := 23) dX3_element_23 rfl 3 rfl ?_
  refine r_i2l (pc := 24) dX3_element_24 ?_
  refine r_l_ne (pc := 25) dX3_element_25 dX3_element_26 rfl (fun hc5 => ?_) (fun hc5 => ?_)
  · replace h := if_f hc5 h
    refine r_iconst (pc := 33) dX3_element_33 ki_0 ?_
    refine r_istore (pc := 34) (loc' := [(5, .int 0), (3, .long x2), (2, .int x1), (0, .ref 48), (1, .int a1)]) dX3_element_34 (Nat.le_of_ble_eq_true rfl) rfl ?_
    refine r_lconst (pc := 36) dX3_element_36 kl_0 ?_
    refine r_lstore (pc := 37) (loc' := [(6, .long 0), (5, .int 0), (3, .long x2), (2, .int x1), (0, .ref 48), (1, .int a1)]) dX3_element_37 (Nat.le_of_ble_eq_true rfl) rfl ?_
    refine r_iconst (pc := 39) dX3_element_39 ki_0 ?_
    refine r_istore (pc := 40) (loc' := [(8, .int 0), (6, .long 0), (5, .int 0), (3, .long x2), (2, .int x1), (0, .ref 48), (1, .int a1)]) dX3_element_40 (Nat.le_of_ble_eq_true rfl) rfl ?_
    refine r_drop (loc' := [(0, .ref 48), (1, .int a1), (2, .int x1), (3, .long x2), (5, .int 0), (6, .long 0), (8, .int 0)]) [5, 6, 4, 3, 2, 1, 0] rfl ?_
    exact qX3_element_42 hN FU a1 x1 x2 false 0 0 w4 h
  replace h := if_t hc5 h
  refine r_iconst (pc := 29) dX3_element_29 ki_1 ?_
  refine r_goto (pc := 30) dX3_element_30 rfl ?_
  refine r_istore (pc := 34) (loc' := [(5, .int 1), (3, .long x2), (2, .int x1), (0, .ref 48), (1, .int a1)]) dX3_element_34 (Nat.le_of_ble_eq_true rfl) rfl ?_
  refine r_lconst (pc := 36) dX3_element_36 kl_0 ?_
  refine r_lstore (pc := 37) (loc' := [(6, .long 0), (5, .int 1), (3, .long x2), (2, .int x1), (0, .ref 48), (1, .int a1)]) dX3_element_37 (Nat.le_of_ble_eq_true rfl) rfl ?_
  refine r_iconst (pc := 39) dX3_element_39 ki_0 ?_
  refine r_istore (pc := 40) (loc' := [(8, .int 0), (6, .long 0), (5, .int 1), (3, .long x2), (2, .int x1), (0, .ref 48), (1, .int a1)]) dX3_element_40 (Nat.le_of_ble_eq_true rfl) rfl ?_
  refine r_drop (loc' := [(0, .ref 48), (1, .int a1), (2, .int x1), (3, .long x2), (5, .int 1), (6, .long 0), (8, .int 0)]) [5, 6, 4, 3, 2, 1, 0] rfl ?_
  exact qX3_element_42 hN FU a1 x1 x2 true 0 0 w4 h
theorem mX3_element {q : Gq} {l : Launch} {N : Option Value → Wd → Prop} {X : String → Wd → Prop} {a1 : Int32} {w : Wd} {u : Wd} (h : fX3_element a1 w = some u) (hN : N none u) : Ct (GA q) l 5 yX3_element cX3_element 15 (none) [.ref 48, .int a1] w N X := Ct.of (by decide) (Nat.le_of_ble_eq_true rfl) (pX3_element hN h)
/-! AlgolMill$Machine.frameAt (I)I: O, 5 -/
theorem dX3_frameAt_0 : decode cX3_frameAt 0 = .ok (.iload_n 1, 1) := by decide +kernel
theorem dX3_frameAt_1 : decode cX3_frameAt 1 = .ok (.bipush 63, 2) := by decide +kernel
theorem dX3_frameAt_3 : decode cX3_frameAt 3 = .ok (.if_icmp .ne 5, 3) := by decide +kernel
theorem dX3_frameAt_6 : decode cX3_frameAt 6 = .ok (.iconst 0, 1) := by decide +kernel
theorem dX3_frameAt_7 : decode cX3_frameAt 7 = .ok (.ireturn, 1) := by decide +kernel
theorem dX3_frameAt_8 : decode cX3_frameAt 8 = .ok (.aload_n 0, 1) := by decide +kernel
theorem dX3_frameAt_9 : decode cX3_frameAt 9 = .ok (.getfield 143, 3) := by decide +kernel
theorem dX3_frameAt_12 : decode cX3_frameAt 12 = .ok (.istore_n 2, 1) := by decide +kernel
theorem dX3_frameAt_13 : decode cX3_frameAt 13 = .ok (.iconst 0, 1) := by decide +kernel
theorem dX3_frameAt_14 : decode cX3_frameAt 14 = .ok (.istore_n 3, 1) := by decide +kernel
theorem dX3_frameAt_15 : decode cX3_frameAt 15 = .ok (.iload_n 3, 1) := by decide +kernel
theorem dX3_frameAt_16 : decode cX3_frameAt 16 = .ok (.iload_n 1, 1) := by decide +kernel
theorem dX3_frameAt_17 : decode cX3_frameAt 17 = .ok (.if_icmp .ge 19, 3) := by decide +kernel
theorem dX3_frameAt_20 : decode cX3_frameAt 20 = .ok (.aload_n 0, 1) := by decide +kernel
theorem dX3_frameAt_21 : decode cX3_frameAt 21 = .ok (.iload_n 2, 1) := by decide +kernel
theorem dX3_frameAt_22 : decode cX3_frameAt 22 = .ok (.iconst 0, 1) := by decide +kernel
theorem dX3_frameAt_23 : decode cX3_frameAt 23 = .ok (.iadd, 1) := by decide +kernel
theorem dX3_frameAt_24 : decode cX3_frameAt 24 = .ok (.i2l, 1) := by decide +kernel
theorem dX3_frameAt_25 : decode cX3_frameAt 25 = .ok (.invokevirtual 146, 3) := by decide +kernel
theorem dX3_frameAt_28 : decode cX3_frameAt 28 = .ok (.l2i, 1) := by decide +kernel
theorem dX3_frameAt_29 : decode cX3_frameAt 29 = .ok (.istore_n 2, 1) := by decide +kernel
theorem dX3_frameAt_30 : decode cX3_frameAt 30 = .ok (.iinc 3 1, 3) := by decide +kernel
theorem dX3_frameAt_33 : decode cX3_frameAt 33 = .ok (.goto (-18), 3) := by decide +kernel
theorem dX3_frameAt_36 : decode cX3_frameAt 36 = .ok (.iload_n 2, 1) := by decide +kernel
theorem dX3_frameAt_37 : decode cX3_frameAt 37 = .ok (.ireturn, 1) := by decide +kernel
def fX3_frameAt_15 (k_15 : Int32 → Int32 → Int32 → Wd → Option (Int32 × Wd)) (a1 : Int32) (a2 : Int32) (a3 : Int32) (w : Wd) : Option (Int32 × Wd) :=
  if a1 ≤ a3 then (some (a2, w)) else (lt2 (fX3_read (Int32.toInt64 (a2 + 0)) w) fun x2 w3 => lt ((Int64.toInt32 x2)) fun x4 => lt (a3 + 1) fun x5 => k_15 a1 x4 x5 w3)
theorem pX3_frameAt_15 {q : Gq} {l : Launch} {N : Option Value → Wd → Prop} {X : String → Wd → Prop} {w : Wd} {R : Int32 × Wd} (hN : N (some (.int R.1)) R.2) {k_15 : Int32 → Int32 → Int32 → Wd → Option (Int32 × Wd)} (hk_15 : ∀ (a1 : Int32) (a2 : Int32) (a3 : Int32) (w : Wd), k_15 a1 a2 a3 w = some R → RT (GA q) l 5 yX3_frameAt cX3_frameAt 4 ((some .int)) N X 15 [] [(0, .ref 48), (1, .int a1), (2, .int a2), (3, .int a3)] w) {a1 : Int32} {a2 : Int32} {a3 : Int32} (h : fX3_frameAt_15 k_15 a1 a2 a3 w = some R) : RT (GA q) l 5 yX3_frameAt cX3_frameAt 4 ((some .int)) N X 15 [] [(0, .ref 48), (1, .int a1), (2, .int a2), (3, .int a3)] w := by
  unfold fX3_frameAt_15 at h
  refine r_iload_n (pc := 15) dX3_frameAt_15 rfl 3 rfl ?_
  refine r_iload_n (pc := 16) dX3_frameAt_16 rfl 1 rfl ?_
  refine r_icmp_ge (pc := 17) dX3_frameAt_17 rfl (fun hc1 => ?_) (fun hc1 => ?_)
  · replace h := if_t hc1 h
    refine r_iload_n (pc := 36) dX3_frameAt_36 rfl 2 rfl ?_
    exact rO_i (pc := 37) rfl dX3_frameAt_37 h hN
  replace h := if_f hc1 h
  refine r_aload_n (pc := 20) dX3_frameAt_20 rfl 0 rfl ?_
  refine r_iload_n (pc := 21) dX3_frameAt_21 rfl 2 rfl ?_
  refine r_iconst (pc := 22) dX3_frameAt_22 ki_0 ?_
  refine r_iadd (pc := 23) dX3_frameAt_23 ?_
  refine r_i2l (pc := 24) dX3_frameAt_24 ?_
  replace h := lt2_e h; obtain ⟨x2, w3, ew3, h⟩ := h
  refine r_cVl (pc := 25) wyX3_read oA48 rfl mlRX3_146 iyX3_read syX3_read ⟨(Nat.le_of_ble_eq_true rfl), (Nat.le_of_ble_eq_true rfl)⟩ rfl rfl (Nat.le_of_ble_eq_true rfl) dX3_frameAt_25 (mX3_read ew3 (pL.mk ?_))
  refine r_l2i (pc := 28) dX3_frameAt_28 ?_
  replace h := lt_e h; obtain ⟨x4, ex4, h⟩ := h
  refine r_topi ex4 ?_
  refine r_istore_n (pc := 29) (loc' := [(2, .int x4), (0, .ref 48), (1, .int a1), (3, .int a3)]) dX3_frameAt_29 rfl (Nat.le_of_ble_eq_true rfl) rfl ?_
  replace h := lt_e h; obtain ⟨x5, ex5, h⟩ := h
  refine r_inc (pc := 30) (loc' := [(3, .int x5), (2, .int x4), (0, .ref 48), (1, .int a1)]) dX3_frameAt_30 ki_1 ex5 3 rfl (Nat.le_of_ble_eq_true rfl) rfl ?_
  refine r_goto (pc := 33) dX3_frameAt_33 rfl ?_
  refine r_drop (loc' := [(0, .ref 48), (1, .int a1), (2, .int x4), (3, .int x5)]) [2, 3, 1, 0] rfl ?_
  exact hk_15 a1 x4 x5 w3 h
def oX3_frameAt_15 : Nat → Int32 → Int32 → Int32 → Wd → Option (Int32 × Wd)
  | 0 => fun _ _ _ _ => none
  | n + 1 => fX3_frameAt_15 (oX3_frameAt_15 n)
theorem qX3_frameAt_15 {q : Gq} {l : Launch} {N : Option Value → Wd → Prop} {X : String → Wd → Prop} {R : Int32 × Wd} (hN : N (some (.int R.1)) R.2) : ∀ (n : Nat) (a1 : Int32) (a2 : Int32) (a3 : Int32) (w : Wd), oX3_frameAt_15 n a1 a2 a3 w = some R → RT (GA q) l 5 yX3_frameAt cX3_frameAt 4 ((some .int)) N X 15 [] [(0, .ref 48), (1, .int a1), (2, .int a2), (3, .int a3)] w := by
  intro n
  induction n with
  | zero =>
    intro a1 a2 a3 w h
    exact absurd h (fun q => nomatch q)
  | succ n ih =>
    intro a1 a2 a3 w h
    exact pX3_frameAt_15 hN ih h
def fX3_frameAt (a1 : Int32) (w : Wd) : Option (Int32 × Wd) :=
  if a1 = 63 then (some (0, w)) else (lt ((gi w 48 12)) fun x2 => oX3_frameAt_15 FU a1 x2 0 w)
theorem pX3_frameAt {q : Gq} {l : Launch} {N : Option Value → Wd → Prop} {X : String → Wd → Prop} {w : Wd} {R : Int32 × Wd} (hN : N (some (.int R.1)) R.2) {a1 : Int32} (h : fX3_frameAt a1 w = some R) : RT (GA q) l 5 yX3_frameAt cX3_frameAt 4 ((some .int)) N X 0 [] [(0, .ref 48), (1, .int a1)] w := by
  unfold fX3_frameAt at h
  refine r_iload_n (pc := 0) dX3_frameAt_0 rfl 1 rfl ?_
  refine r_bipush (pc := 1) dX3_frameAt_1 kb_63 ?_
  refine r_icmp_ne (pc := 3) dX3_frameAt_3 rfl (fun hc1 => ?_) (fun hc1 => ?_)
  · replace h := if_f hc1 h
    refine r_aload_n (pc := 8) dX3_frameAt_8 rfl 0 rfl ?_
    refine r_get (pc := 9) (j := 12) (v := .int (gi w 48 12)) oA48 cf3 flRX3_143 rfl dX3_frameAt_9 rfl ?_
    replace h := lt_e h; obtain ⟨x2, ex2, h⟩ := h
    refine r_topi ex2 ?_
    refine r_istore_n (pc := 12) (loc' := [(2, .int x2), (0, .ref 48), (1, .int a1)]) dX3_frameAt_12 rfl (Nat.le_of_ble_eq_true rfl) rfl ?_
    refine r_iconst (pc := 13) dX3_frameAt_13 ki_0 ?_
    refine r_istore_n (pc := 14) (loc' := [(3, .int 0), (2, .int x2), (0, .ref 48), (1, .int a1)]) dX3_frameAt_14 rfl (Nat.le_of_ble_eq_true rfl) rfl ?_
    refine r_drop (loc' := [(0, .ref 48), (1, .int a1), (2, .int x2), (3, .int 0)]) [2, 3, 1, 0] rfl ?_
    exact qX3_frameAt_15 hN FU a1 x2 0 w h
  replace h := if_t hc1 h
  refine r_iconst (pc := 6) dX3_frameAt_6 ki_0 ?_
  exact rO_i (pc := 7) rfl dX3_frameAt_7 h hN
theorem mX3_frameAt {q : Gq} {l : Launch} {N : Option Value → Wd → Prop} {X : String → Wd → Prop} {a1 : Int32} {w : Wd} {x : Int32} {u : Wd} (h : fX3_frameAt a1 w = some (x, u)) (hN : N (some (.int x)) u) : Ct (GA q) l 5 yX3_frameAt cX3_frameAt 4 ((some .int)) [.ref 48, .int a1] w N X := Ct.of (by decide) (Nat.le_of_ble_eq_true rfl) (pX3_frameAt hN h)
/-! AlgolMill$Machine.print (J)V: S, 3 -/
theorem dX3_print_0 : decode cX3_print 0 = .ok (.aload_n 0, 1) := by decide +kernel
theorem dX3_print_1 : decode cX3_print 1 = .ok (.getfield 37, 3) := by decide +kernel
theorem dX3_print_4 : decode cX3_print 4 = .ok (.aload_n 0, 1) := by decide +kernel
theorem dX3_print_5 : decode cX3_print 5 = .ok (.iconst 3, 1) := by decide +kernel
theorem dX3_print_6 : decode cX3_print 6 = .ok (.invokevirtual 73, 3) := by decide +kernel
theorem dX3_print_9 : decode cX3_print 9 = .ok (.lload_n 1, 1) := by decide +kernel
theorem dX3_print_10 : decode cX3_print 10 = .ok (.invokestatic 69, 3) := by decide +kernel
theorem dX3_print_13 : decode cX3_print 13 = .ok (.aload_n 0, 1) := by decide +kernel
theorem dX3_print_14 : decode cX3_print 14 = .ok (.iconst 3, 1) := by decide +kernel
theorem dX3_print_15 : decode cX3_print 15 = .ok (.invokevirtual 136, 3) := by decide +kernel
theorem dX3_print_18 : decode cX3_print 18 = .ok (.return_, 1) := by decide +kernel
def fX3_print (a1 : Int64) (w : Wd) : Wd :=
  lt (fX3_tally 3 w) fun x1 => lt (rsl w 55 500 x1 a1) fun w2 => lt (fX3_countOne 3 w2) fun w3 => w3
theorem pX3_print {q : Gq} {l : Launch} {N : Option Value → Wd → Prop} {X : String → Wd → Prop} {w : Wd} {R : Wd} (hN : N none R) {a1 : Int64} (h : fX3_print a1 w = R) : RT (GA q) l 3 yX3_print cX3_print 3 (none) N X 0 [] [(0, .ref 48), (1, .long a1)] w := by
  unfold fX3_print at h
  refine r_aload_n (pc := 0) dX3_print_0 rfl 0 rfl ?_
  refine r_get (pc := 1) (j := 6) (v := .ref 55) oA48 cf3 flRX3_37 rfl dX3_print_1 rfl ?_
  refine r_aload_n (pc := 4) dX3_print_4 rfl 0 rfl ?_
  refine r_iconst (pc := 5) dX3_print_5 ki_3 ?_
  replace h := lt_e h; obtain ⟨x1, ex1, h⟩ := h
  refine r_cVi (pc := 6) wyX3_tally oA48 rfl mlRX3_73 iyX3_tally syX3_tally ⟨(Nat.le_of_ble_eq_true rfl), (Nat.le_of_ble_eq_true rfl)⟩ rfl rfl (Nat.le_of_ble_eq_true rfl) dX3_print_6 (mX3_tally ex1 (pI.mk ?_))
  refine r_lload_n (pc := 9) dX3_print_9 rfl 1 rfl ?_
  replace h := lt_e h; obtain ⟨w2, ew2, h⟩ := h
  refine r_cSv (pc := 10) wyX6_set_ mlRX3_69 tyX6_set_ ⟨(Nat.le_of_ble_eq_true rfl), (Nat.le_of_ble_eq_true rfl)⟩ rfl rfl (Nat.le_of_ble_eq_true rfl) dX3_print_10 (mX6_set_ aA55 (Nat.le_of_ble_eq_true rfl) ew2 (pV.mk ?_))
  refine r_aload_n (pc := 13) dX3_print_13 rfl 0 rfl ?_
  refine r_iconst (pc := 14) dX3_print_14 ki_3 ?_
  replace h := lt_e h; obtain ⟨w3, ew3, h⟩ := h
  refine r_cVv (pc := 15) wyX3_countOne oA48 rfl mlRX3_136 iyX3_countOne syX3_countOne ⟨(Nat.le_of_ble_eq_true rfl), (Nat.le_of_ble_eq_true rfl)⟩ rfl rfl (Nat.le_of_ble_eq_true rfl) dX3_print_15 (mX3_countOne ew3 (pV.mk ?_))
  exact rS_v (pc := 18) rfl dX3_print_18 h hN
theorem mX3_print {q : Gq} {l : Launch} {N : Option Value → Wd → Prop} {X : String → Wd → Prop} {a1 : Int64} {w : Wd} {u : Wd} (h : fX3_print a1 w = u) (hN : N none u) : Ct (GA q) l 3 yX3_print cX3_print 3 (none) [.ref 48, .long a1] w N X := Ct.of (by decide) (Nat.le_of_ble_eq_true rfl) (pX3_print hN h)
/-! AlgolMill$Machine.move (III)V: O, 6 -/
theorem dX3_move_0 : decode cX3_move 0 = .ok (.iload_n 1, 1) := by decide +kernel
theorem dX3_move_1 : decode cX3_move 1 = .ok (.tableswitch 290 16 28 #[67, 82, 95, 120, 139, 154, 190, 213, 231, 246, 254, 262, 279], 67) := by decide +kernel
theorem dX3_move_68 : decode cX3_move 68 = .ok (.aload_n 0, 1) := by decide +kernel
theorem dX3_move_69 : decode cX3_move 69 = .ok (.aload_n 0, 1) := by decide +kernel
theorem dX3_move_70 : decode cX3_move 70 = .ok (.invokevirtual 160, 3) := by decide +kernel
theorem dX3_move_73 : decode cX3_move 73 = .ok (.lneg, 1) := by decide +kernel
theorem dX3_move_74 : decode cX3_move 74 = .ok (.invokestatic 181, 3) := by decide +kernel
theorem dX3_move_77 : decode cX3_move 77 = .ok (.invokevirtual 184, 3) := by decide +kernel
theorem dX3_move_80 : decode cX3_move 80 = .ok (.goto 224, 3) := by decide +kernel
theorem dX3_move_83 : decode cX3_move 83 = .ok (.aload_n 0, 1) := by decide +kernel
theorem dX3_move_84 : decode cX3_move 84 = .ok (.lconst 1, 1) := by decide +kernel
theorem dX3_move_85 : decode cX3_move 85 = .ok (.aload_n 0, 1) := by decide +kernel
theorem dX3_move_86 : decode cX3_move 86 = .ok (.invokevirtual 160, 3) := by decide +kernel
theorem dX3_move_89 : decode cX3_move 89 = .ok (.lsub, 1) := by decide +kernel
theorem dX3_move_90 : decode cX3_move 90 = .ok (.invokevirtual 184, 3) := by decide +kernel
theorem dX3_move_93 : decode cX3_move 93 = .ok (.goto 211, 3) := by decide +kernel
theorem dX3_move_96 : decode cX3_move 96 = .ok (.aload_n 0, 1) := by decide +kernel
theorem dX3_move_97 : decode cX3_move 97 = .ok (.aload_n 0, 1) := by decide +kernel
theorem dX3_move_98 : decode cX3_move 98 = .ok (.aload_n 0, 1) := by decide +kernel
theorem dX3_move_99 : decode cX3_move 99 = .ok (.getfield 150, 3) := by decide +kernel
theorem dX3_move_102 : decode cX3_move 102 = .ok (.invokevirtual 139, 3) := by decide +kernel
theorem dX3_move_105 : decode cX3_move 105 = .ok (.invokevirtual 184, 3) := by decide +kernel
theorem dX3_move_108 : decode cX3_move 108 = .ok (.aload_n 0, 1) := by decide +kernel
theorem dX3_move_109 : decode cX3_move 109 = .ok (.dup, 1) := by decide +kernel
theorem dX3_move_110 : decode cX3_move 110 = .ok (.getfield 150, 3) := by decide +kernel
theorem dX3_move_113 : decode cX3_move 113 = .ok (.iconst 1, 1) := by decide +kernel
theorem dX3_move_114 : decode cX3_move 114 = .ok (.iadd, 1) := by decide +kernel
theorem dX3_move_115 : decode cX3_move 115 = .ok (.putfield 150, 3) := by decide +kernel
theorem dX3_move_118 : decode cX3_move 118 = .ok (.goto 186, 3) := by decide +kernel
theorem dX3_move_121 : decode cX3_move 121 = .ok (.aload_n 0, 1) := by decide +kernel
theorem dX3_move_122 : decode cX3_move 122 = .ok (.aload_n 0, 1) := by decide +kernel
theorem dX3_move_123 : decode cX3_move 123 = .ok (.aload_n 0, 1) := by decide +kernel
theorem dX3_move_124 : decode cX3_move 124 = .ok (.iload_n 2, 1) := by decide +kernel
theorem dX3_move_125 : decode cX3_move 125 = .ok (.invokevirtual 202, 3) := by decide +kernel
theorem dX3_move_128 : decode cX3_move 128 = .ok (.iload_n 3, 1) := by decide +kernel
theorem dX3_move_129 : decode cX3_move 129 = .ok (.iadd, 1) := by decide +kernel
theorem dX3_move_130 : decode cX3_move 130 = .ok (.i2l, 1) := by decide +kernel
theorem dX3_move_131 : decode cX3_move 131 = .ok (.invokevirtual 146, 3) := by decide +kernel
theorem dX3_move_134 : decode cX3_move 134 = .ok (.invokevirtual 184, 3) := by decide +kernel
theorem dX3_move_137 : decode cX3_move 137 = .ok (.goto 167, 3) := by decide +kernel
theorem dX3_move_140 : decode cX3_move 140 = .ok (.aload_n 0, 1) := by decide +kernel
theorem dX3_move_141 : decode cX3_move 141 = .ok (.aload_n 0, 1) := by decide +kernel
theorem dX3_move_142 : decode cX3_move 142 = .ok (.iload_n 2, 1) := by decide +kernel
theorem dX3_move_143 : decode cX3_move 143 = .ok (.invokevirtual 202, 3) := by decide +kernel
theorem dX3_move_146 : decode cX3_move 146 = .ok (.iload_n 3, 1) := by decide +kernel
theorem dX3_move_147 : decode cX3_move 147 = .ok (.iadd, 1) := by decide +kernel
theorem dX3_move_148 : decode cX3_move 148 = .ok (.i2l, 1) := by decide +kernel
theorem dX3_move_149 : decode cX3_move 149 = .ok (.invokevirtual 184, 3) := by decide +kernel
theorem dX3_move_152 : decode cX3_move 152 = .ok (.goto 152, 3) := by decide +kernel
theorem dX3_move_155 : decode cX3_move 155 = .ok (.aload_n 0, 1) := by decide +kernel
theorem dX3_move_156 : decode cX3_move 156 = .ok (.iload_n 2, 1) := by decide +kernel
theorem dX3_move_157 : decode cX3_move 157 = .ok (.invokevirtual 202, 3) := by decide +kernel
theorem dX3_move_160 : decode cX3_move 160 = .ok (.iload_n 3, 1) := by decide +kernel
theorem dX3_move_161 : decode cX3_move 161 = .ok (.iadd, 1) := by decide +kernel
theorem dX3_move_162 : decode cX3_move 162 = .ok (.istore 4, 2) := by decide +kernel
theorem dX3_move_164 : decode cX3_move 164 = .ok (.aload_n 0, 1) := by decide +kernel
theorem dX3_move_165 : decode cX3_move 165 = .ok (.aload_n 0, 1) := by decide +kernel
theorem dX3_move_166 : decode cX3_move 166 = .ok (.iload 4, 2) := by decide +kernel
theorem dX3_move_168 : decode cX3_move 168 = .ok (.i2l, 1) := by decide +kernel
theorem dX3_move_169 : decode cX3_move 169 = .ok (.invokevirtual 146, 3) := by decide +kernel
theorem dX3_move_172 : decode cX3_move 172 = .ok (.invokevirtual 184, 3) := by decide +kernel
theorem dX3_move_175 : decode cX3_move 175 = .ok (.aload_n 0, 1) := by decide +kernel
theorem dX3_move_176 : decode cX3_move 176 = .ok (.aload_n 0, 1) := by decide +kernel
theorem dX3_move_177 : decode cX3_move 177 = .ok (.iload 4, 2) := by decide +kernel
theorem dX3_move_179 : decode cX3_move 179 = .ok (.iconst 1, 1) := by decide +kernel
theorem dX3_move_180 : decode cX3_move 180 = .ok (.iadd, 1) := by decide +kernel
theorem dX3_move_181 : decode cX3_move 181 = .ok (.i2l, 1) := by decide +kernel
theorem dX3_move_182 : decode cX3_move 182 = .ok (.invokevirtual 146, 3) := by decide +kernel
theorem dX3_move_185 : decode cX3_move 185 = .ok (.invokevirtual 184, 3) := by decide +kernel
theorem dX3_move_188 : decode cX3_move 188 = .ok (.goto 116, 3) := by decide +kernel
theorem dX3_move_191 : decode cX3_move 191 = .ok (.aload_n 0, 1) := by decide +kernel
theorem dX3_move_192 : decode cX3_move 192 = .ok (.aload_n 0, 1) := by decide +kernel
theorem dX3_move_193 : decode cX3_move 193 = .ok (.iload_n 3, 1) := by decide +kernel
theorem dX3_move_194 : decode cX3_move 194 = .ok (.invokevirtual 129, 3) := by decide +kernel
theorem dX3_move_197 : decode cX3_move 197 = .ok (.i2l, 1) := by decide +kernel
theorem dX3_move_198 : decode cX3_move 198 = .ok (.invokevirtual 184, 3) := by decide +kernel
theorem dX3_move_201 : decode cX3_move 201 = .ok (.aload_n 0, 1) := by decide +kernel
theorem dX3_move_202 : decode cX3_move 202 = .ok (.aload_n 0, 1) := by decide +kernel
theorem dX3_move_203 : decode cX3_move 203 = .ok (.iload_n 2, 1) := by decide +kernel
theorem dX3_move_204 : decode cX3_move 204 = .ok (.invokevirtual 202, 3) := by decide +kernel
theorem dX3_move_207 : decode cX3_move 207 = .ok (.i2l, 1) := by decide +kernel
theorem dX3_move_208 : decode cX3_move 208 = .ok (.invokevirtual 184, 3) := by decide +kernel
theorem dX3_move_211 : decode cX3_move 211 = .ok (.goto 93, 3) := by decide +kernel
theorem dX3_move_214 : decode cX3_move 214 = .ok (.aload_n 0, 1) := by decide +kernel
theorem dX3_move_215 : decode cX3_move 215 = .ok (.iload_n 3, 1) := by decide +kernel
theorem dX3_move_216 : decode cX3_move 216 = .ok (.i2l, 1) := by decide +kernel
theorem dX3_move_217 : decode cX3_move 217 = .ok (.invokevirtual 184, 3) := by decide +kernel
theorem dX3_move_220 : decode cX3_move 220 = .ok (.aload_n 0, 1) := by decide +kernel
theorem dX3_move_221 : decode cX3_move 221 = .ok (.aload_n 0, 1) := by decide +kernel
theorem dX3_move_222 : decode cX3_move 222 = .ok (.getfield 143, 3) := by decide +kernel
theorem dX3_move_225 : decode cX3_move 225 = .ok (.i2l, 1) := by decide +kernel
theorem dX3_move_226 : decode cX3_move 226 = .ok (.invokevirtual 184, 3) := by decide +kernel
theorem dX3_move_229 : decode cX3_move 229 = .ok (.goto 75, 3) := by decide +kernel
theorem dX3_move_232 : decode cX3_move 232 = .ok (.aload_n 0, 1) := by decide +kernel
theorem dX3_move_233 : decode cX3_move 233 = .ok (.aload_n 0, 1) := by decide +kernel
theorem dX3_move_234 : decode cX3_move 234 = .ok (.aload_n 0, 1) := by decide +kernel
theorem dX3_move_235 : decode cX3_move 235 = .ok (.invokevirtual 160, 3) := by decide +kernel
theorem dX3_move_238 : decode cX3_move 238 = .ok (.invokevirtual 146, 3) := by decide +kernel
theorem dX3_move_241 : decode cX3_move 241 = .ok (.invokevirtual 184, 3) := by decide +kernel
theorem dX3_move_244 : decode cX3_move 244 = .ok (.goto 60, 3) := by decide +kernel
theorem dX3_move_247 : decode cX3_move 247 = .ok (.aload_n 0, 1) := by decide +kernel
theorem dX3_move_248 : decode cX3_move 248 = .ok (.iload_n 3, 1) := by decide +kernel
theorem dX3_move_249 : decode cX3_move 249 = .ok (.invokevirtual 205, 3) := by decide +kernel
theorem dX3_move_252 : decode cX3_move 252 = .ok (.goto 52, 3) := by decide +kernel
theorem dX3_move_255 : decode cX3_move 255 = .ok (.aload_n 0, 1) := by decide +kernel
theorem dX3_move_256 : decode cX3_move 256 = .ok (.iload_n 3, 1) := by decide +kernel
theorem dX3_move_257 : decode cX3_move 257 = .ok (.invokevirtual 208, 3) := by decide +kernel
theorem dX3_move_260 : decode cX3_move 260 = .ok (.goto 44, 3) := by decide +kernel
theorem dX3_move_263 : decode cX3_move 263 = .ok (.aload_n 0, 1) := by decide +kernel
theorem dX3_move_264 : decode cX3_move 264 = .ok (.aload_n 0, 1) := by decide +kernel
theorem dX3_move_265 : decode cX3_move 265 = .ok (.getfield 117, 3) := by decide +kernel
theorem dX3_move_268 : decode cX3_move 268 = .ok (.iload_n 3, 1) := by decide +kernel
theorem dX3_move_269 : decode cX3_move 269 = .ok (.isub, 1) := by decide +kernel
theorem dX3_move_270 : decode cX3_move 270 = .ok (.iconst 0, 1) := by decide +kernel
theorem dX3_move_271 : decode cX3_move 271 = .ok (.invokestatic 83, 3) := by decide +kernel
theorem dX3_move_274 : decode cX3_move 274 = .ok (.putfield 117, 3) := by decide +kernel
theorem dX3_move_277 : decode cX3_move 277 = .ok (.goto 27, 3) := by decide +kernel
theorem dX3_move_280 : decode cX3_move 280 = .ok (.aload_n 0, 1) := by decide +kernel
theorem dX3_move_281 : decode cX3_move 281 = .ok (.aload_n 0, 1) := by decide +kernel
theorem dX3_move_282 : decode cX3_move 282 = .ok (.invokevirtual 160, 3) := by decide +kernel
theorem dX3_move_285 : decode cX3_move 285 = .ok (.invokevirtual 211, 3) := by decide +kernel
theorem dX3_move_288 : decode cX3_move 288 = .ok (.goto 16, 3) := by decide +kernel
theorem dX3_move_291 : decode cX3_move 291 = .ok (.aload_n 0, 1) := by decide +kernel
theorem dX3_move_292 : decode cX3_move 292 = .ok (.iload_n 3, 1) := by decide +kernel
theorem dX3_move_293 : decode cX3_move 293 = .ok (.bipush 11, 2) := by decide +kernel
theorem dX3_move_295 : decode cX3_move 295 = .ok (.ishr, 1) := by decide +kernel
theorem dX3_move_296 : decode cX3_move 296 = .ok (.iload_n 3, 1) := by decide +kernel
theorem dX3_move_297 : decode cX3_move 297 = .ok (.sipush 2047, 3) := by decide +kernel
theorem dX3_move_300 : decode cX3_move 300 = .ok (.iand, 1) := by decide +kernel
theorem dX3_move_301 : decode cX3_move 301 = .ok (.invokevirtual 214, 3) := by decide +kernel
theorem dX3_move_304 : decode cX3_move 304 = .ok (.return_, 1) := by decide +kernel
def fX3_move (a1 : Int32) (a2 : Int32) (a3 : Int32) (w : Wd) : Option Wd :=
  if a1 = 16 then (lt2 (fX3_pop w) fun x2 w3 => lt (fX3_wrap (-x2) w3) fun x4 => lt (fX3_push x4 w3) fun w5 => some w5) else if a1 = 17 then (lt2 (fX3_pop w) fun x7 w8 => lt (fX3_push (1 - x7) w8) fun w9 => some w9) else if a1 = 18 then (lt2 (fX3_wordAt (gi w 48 11) w) fun x11 w12 => lt (fX3_push x11 w12) fun w13 => lt (si w13 48 11 ((gi w13 48 11) + 1)) fun w14 => some w14) else if a1 = 19 then (bn2 (fX3_frameAt a2 w) fun x16 w17 => lt2 (fX3_read (Int32.toInt64 (x16 + a3)) w17) fun x18 w19 => lt (fX3_push x18 w19) fun w20 => some w20) else if a1 = 20 then (bn2 (fX3_frameAt a2 w) fun x22 w23 => lt (fX3_push (Int32.toInt64 (x22 + a3)) w23) fun w24 => some w24) else if a1 = 21 then (bn2 (fX3_frameAt a2 w) fun x26 w27 => lt ((x26 + a3)) fun x28 => lt2 (fX3_read (Int32.toInt64 x28) w27) fun x29 w30 => lt (fX3_push x29 w30) fun w31 => lt2 (fX3_read (Int32.toInt64 (x28 + 1)) w31) fun x32 w33 => lt (fX3_push x32 w33) fun w34 => some w34) else if a1 = 22 then (lt2 (fX3_codeAt a3 w) fun x36 w37 => lt (fX3_push (Int32.toInt64 x36) w37) fun w38 => bn2 (fX3_frameAt a2 w38) fun x39 w40 => lt (fX3_push (Int32.toInt64 x39) w40) fun w41 => some w41) else if a1 = 23 then (lt (fX3_push (Int32.toInt64 a3) w) fun w43 => lt (fX3_push (Int32.toInt64 (gi w43 48 12)) w43) fun w44 => some w44) else if a1 = 24 then (lt2 (fX3_pop w) fun x46 w47 => lt2 (fX3_read x46 w47) fun x48 w49 => lt (fX3_push x48 w49) fun w50 => some w50) else if a1 = 25 then (bn (fX3_element a3 w) fun w52 => some w52) else if a1 = 26 then (bn (fX3_assign a3 w) fun w54 => some w54) else if a1 = 27 then (lt (fJ9_max_7cf53 ((gi w 48 14) - a3) 0) fun x56 => lt (si w 48 14 x56) fun w57 => some w57) else if a1 = 28 then (lt2 (fX3_pop w) fun x59 w60 => lt (fX3_print x59 w60) fun w61 => some w61) else (bn (fX3_clear (a3 >>> (11 &&& 31)) (a3 &&& 2047) w) fun w62 => some w62)
set_option maxHeartbeats 16000000 in
theorem pX3_move {q : Gq} {l : Launch} {N : Option Value → Wd → Prop} {X : String → Wd → Prop} {w : Wd} {R : Wd} (hN : N none R) {a1 : Int32} {a2 : Int32} {a3 : Int32} (h : fX3_move a1 a2 a3 w = some R) : RT (GA q) l 6 yX3_move cX3_move 5 (none) N X 0 [] [(0, .ref 48), (1, .int a1), (2, .int a2), (3, .int a3)] w := by
  unfold fX3_move at h
  refine r_iload_n (pc := 0) dX3_move_0 rfl 1 rfl ?_
  by_cases hc1 : a1 = 16
  · refine r_tabC (pc := 1) (off := 67) (tgt := 68) (L := [16]) dX3_move_1 hc1 (by decide) rfl ?_
    replace h := if_t hc1 h
    refine r_aload_n (pc := 68) dX3_move_68 rfl 0 rfl ?_
    refine r_aload_n (pc := 69) dX3_move_69 rfl 0 rfl ?_
    replace h := lt2_e h; obtain ⟨x2, w3, ew3, h⟩ := h
    refine r_cVl (pc := 70) wyX3_pop oA48 rfl mlRX3_160 iyX3_pop syX3_pop ⟨(Nat.le_of_ble_eq_true rfl), (Nat.le_of_ble_eq_true rfl)⟩ rfl rfl (Nat.le_of_ble_eq_true rfl) dX3_move_70 (mX3_pop ew3 (pL.mk ?_))
    refine r_lneg (pc := 73) dX3_move_73 ?_
    replace h := lt_e h; obtain ⟨x4, ex4, h⟩ := h
    refine r_cSl (pc := 74) wyX3_wrap mlRX3_181 tyX3_wrap ⟨(Nat.le_of_ble_eq_true rfl), (Nat.le_of_ble_eq_true rfl)⟩ rfl rfl (Nat.le_of_ble_eq_true rfl) dX3_move_74 (mX3_wrap ex4 (pL.mk ?_))
    replace h := lt_e h; obtain ⟨w5, ew5, h⟩ := h
    refine r_cVv (pc := 77) wyX3_push oA48 rfl mlRX3_184 iyX3_push syX3_push ⟨(Nat.le_of_ble_eq_true rfl), (Nat.le_of_ble_eq_true rfl)⟩ rfl rfl (Nat.le_of_ble_eq_true rfl) dX3_move_77 (mX3_push ew5 (pV.mk ?_))
    refine r_goto (pc := 80) dX3_move_80 rfl ?_
    exact rO_v (pc := 304) rfl dX3_move_304 h hN
  replace h := if_f hc1 h
  by_cases hc6 : a1 = 17
  · refine r_tabC (pc := 1) (off := 82) (tgt := 83) (L := [17]) dX3_move_1 hc6 (by decide) rfl ?_
    replace h := if_t hc6 h
    refine r_aload_n (pc := 83) dX3_move_83 rfl 0 rfl ?_
    refine r_lconst (pc := 84) dX3_move_84 kl_1 ?_
    refine r_aload_n (pc := 85) dX3_move_85 rfl 0 rfl ?_
    replace h := lt2_e h; obtain ⟨x7, w8, ew8, h⟩ := h
    refine r_cVl (pc := 86) wyX3_pop oA48 rfl mlRX3_160 iyX3_pop syX3_pop ⟨(Nat.le_of_ble_eq_true rfl), (Nat.le_of_ble_eq_true rfl)⟩ rfl rfl (Nat.le_of_ble_eq_true rfl) dX3_move_86 (mX3_pop ew8 (pL.mk ?_))
    refine r_lsub (pc := 89) dX3_move_89 ?_
    replace h := lt_e h; obtain ⟨w9, ew9, h⟩ := h
    refine r_cVv (pc := 90) wyX3_push oA48 rfl mlRX3_184 iyX3_push syX3_push ⟨(Nat.le_of_ble_eq_true rfl), (Nat.le_of_ble_eq_true rfl)⟩ rfl rfl (Nat.le_of_ble_eq_true rfl) dX3_move_90 (mX3_push ew9 (pV.mk ?_))
    refine r_goto (pc := 93) dX3_move_93 rfl ?_
    exact rO_v (pc := 304) rfl dX3_move_304 h hN
  replace h := if_f hc6 h
  by_cases hc10 : a1 = 18
  · refine r_tabC (pc := 1) (off := 95) (tgt := 96) (L := [18]) dX3_move_1 hc10 (by decide) rfl ?_
    replace h := if_t hc10 h
    refine r_aload_n (pc := 96) dX3_move_96 rfl 0 rfl ?_
    refine r_aload_n (pc := 97) dX3_move_97 rfl 0 rfl ?_
    refine r_aload_n (pc := 98) dX3_move_98 rfl 0 rfl ?_
    refine r_get (pc := 99) (j := 11) (v := .int (gi w 48 11)) oA48 cf3 flRX3_150 rfl dX3_move_99 rfl ?_
    replace h := lt2_e h; obtain ⟨x11, w12, ew12, h⟩ := h
    refine r_cVl (pc := 102) wyX3_wordAt oA48 rfl mlRX3_139 iyX3_wordAt syX3_wordAt ⟨(Nat.le_of_ble_eq_true rfl), (Nat.le_of_ble_eq_true rfl)⟩ rfl rfl (Nat.le_of_ble_eq_true rfl) dX3_move_102 (mX3_wordAt ew12 (pL.mk ?_))
    replace h := lt_e h; obtain ⟨w13, ew13, h⟩ := h
    refine r_cVv (pc := 105) wyX3_push oA48 rfl mlRX3_184 iyX3_push syX3_push ⟨(Nat.le_of_ble_eq_true rfl), (Nat.le_of_ble_eq_true rfl)⟩ rfl rfl (Nat.le_of_ble_eq_true rfl) dX3_move_105 (mX3_push ew13 (pV.mk ?_))
    refine r_aload_n (pc := 108) dX3_move_108 rfl 0 rfl ?_
    refine r_dup (pc := 109) dX3_move_109 rfl ?_
    refine r_get (pc := 110) (j := 11) (v := .int (gi w13 48 11)) oA48 cf3 flRX3_150 rfl dX3_move_110 rfl ?_
    refine r_iconst (pc := 113) dX3_move_113 ki_1 ?_
    refine r_iadd (pc := 114) dX3_move_114 ?_
    replace h := lt_e h; obtain ⟨w14, ew14, h⟩ := h
    refine r_putI (pc := 115) (j := 11) oA48 cf3 flRX3_150 rfl rfl rfl rfl dX3_move_115 ?_
    refine r_w ew14 ?_
    refine r_goto (pc := 118) dX3_move_118 rfl ?_
    exact rO_v (pc := 304) rfl dX3_move_304 h hN
  replace h := if_f hc10 h
  by_cases hc15 : a1 = 19
  · refine r_tabC (pc := 1) (off := 120) (tgt := 121) (L := [19]) dX3_move_1 hc15 (by decide) rfl ?_
    replace h := if_t hc15 h
    refine r_aload_n (pc := 121) dX3_move_121 rfl 0 rfl ?_
    refine r_aload_n (pc := 122) dX3_move_122 rfl 0 rfl ?_
    refine r_aload_n (pc := 123) dX3_move_123 rfl 0 rfl ?_
    refine r_iload_n (pc := 124) dX3_move_124 rfl 2 rfl ?_
    replace h := bn2_e h; obtain ⟨x16, w17, ew17, h⟩ := h
    refine r_cVi (pc := 125) wyX3_frameAt oA48 rfl mlRX3_202 iyX3_frameAt syX3_frameAt ⟨(Nat.le_of_ble_eq_true rfl), (Nat.le_of_ble_eq_true rfl)⟩ rfl rfl (Nat.le_of_ble_eq_true rfl) dX3_move_125 (mX3_frameAt ew17 (pI.mk ?_))
    refine r_iload_n (pc := 128) dX3_move_128 rfl 3 rfl ?_
    refine r_iadd (pc := 129) dX3_move_129 ?_
    refine r_i2l (pc := 130) dX3_move_130 ?_
    replace h := lt2_e h; obtain ⟨x18, w19, ew19, h⟩ := h
    refine r_cVl (pc := 131) wyX3_read oA48 rfl mlRX3_146 iyX3_read syX3_read ⟨(Nat.le_of_ble_eq_true rfl), (Nat.le_of_ble_eq_true rfl)⟩ rfl rfl (Nat.le_of_ble_eq_true rfl) dX3_move_131 (mX3_read ew19 (pL.mk ?_))
    replace h := lt_e h; obtain ⟨w20, ew20, h⟩ := h
    refine r_cVv (pc := 134) wyX3_push oA48 rfl mlRX3_184 iyX3_push syX3_push ⟨(Nat.le_of_ble_eq_true rfl), (Nat.le_of_ble_eq_true rfl)⟩ rfl rfl (Nat.le_of_ble_eq_true rfl) dX3_move_134 (mX3_push ew20 (pV.mk ?_))
    refine r_goto (pc := 137) dX3_move_137 rfl ?_
    exact rO_v (pc := 304) rfl dX3_move_304 h hN
  replace h := if_f hc15 h
  by_cases hc21 : a1 = 20
  · refine r_tabC (pc := 1) (off := 139) (tgt := 140) (L := [20]) dX3_move_1 hc21 (by decide) rfl ?_
    replace h := if_t hc21 h
    refine r_aload_n (pc := 140) dX3_move_140 rfl 0 rfl ?_
    refine r_aload_n (pc := 141) dX3_move_141 rfl 0 rfl ?_
    refine r_iload_n (pc := 142) dX3_move_142 rfl 2 rfl ?_
    replace h := bn2_e h; obtain ⟨x22, w23, ew23, h⟩ := h
    refine r_cVi (pc := 143) wyX3_frameAt oA48 rfl mlRX3_202 iyX3_frameAt syX3_frameAt ⟨(Nat.le_of_ble_eq_true rfl), (Nat.le_of_ble_eq_true rfl)⟩ rfl rfl (Nat.le_of_ble_eq_true rfl) dX3_move_143 (mX3_frameAt ew23 (pI.mk ?_))
    refine r_iload_n (pc := 146) dX3_move_146 rfl 3 rfl ?_
    refine r_iadd (pc := 147) dX3_move_147 ?_
    refine r_i2l (pc := 148) dX3_move_148 ?_
    replace h := lt_e h; obtain ⟨w24, ew24, h⟩ := h
    refine r_cVv (pc := 149) wyX3_push oA48 rfl mlRX3_184 iyX3_push syX3_push ⟨(Nat.le_of_ble_eq_true rfl), (Nat.le_of_ble_eq_true rfl)⟩ rfl rfl (Nat.le_of_ble_eq_true rfl) dX3_move_149 (mX3_push ew24 (pV.mk ?_))
    refine r_goto (pc := 152) dX3_move_152 rfl ?_
    exact rO_v (pc := 304) rfl dX3_move_304 h hN
  replace h := if_f hc21 h
  by_cases hc25 : a1 = 21
  · refine r_tabC (pc := 1) (off := 154) (tgt := 155) (L := [21]) dX3_move_1 hc25 (by decide) rfl ?_
    replace h := if_t hc25 h
    refine r_aload_n (pc := 155) dX3_move_155 rfl 0 rfl ?_
    refine r_iload_n (pc := 156) dX3_move_156 rfl 2 rfl ?_
    replace h := bn2_e h; obtain ⟨x26, w27, ew27, h⟩ := h
    refine r_cVi (pc := 157) wyX3_frameAt oA48 rfl mlRX3_202 iyX3_frameAt syX3_frameAt ⟨(Nat.le_of_ble_eq_true rfl), (Nat.le_of_ble_eq_true rfl)⟩ rfl rfl (Nat.le_of_ble_eq_true rfl) dX3_move_157 (mX3_frameAt ew27 (pI.mk ?_))
    refine r_iload_n (pc := 160) dX3_move_160 rfl 3 rfl ?_
    refine r_iadd (pc := 161) dX3_move_161 ?_
    replace h := lt_e h; obtain ⟨x28, ex28, h⟩ := h
    refine r_topi ex28 ?_
    refine r_istore (pc := 162) (loc' := [(4, .int x28), (0, .ref 48), (1, .int a1), (2, .int a2), (3, .int a3)]) dX3_move_162 (Nat.le_of_ble_eq_true rfl) rfl ?_
    refine r_aload_n (pc := 164) dX3_move_164 rfl 1 rfl ?_
    refine r_aload_n (pc := 165) dX3_move_165 rfl 1 rfl ?_
    refine r_iload (pc := 166) dX3_move_166 0 rfl ?_
    refine r_i2l (pc := 168) dX3_move_168 ?_
    replace h := lt2_e h; obtain ⟨x29, w30, ew30, h⟩ := h
    refine r_cVl (pc := 169) wyX3_read oA48 rfl mlRX3_146 iyX3_read syX3_read ⟨(Nat.le_of_ble_eq_true rfl), (Nat.le_of_ble_eq_true rfl)⟩ rfl rfl (Nat.le_of_ble_eq_true rfl) dX3_move_169 (mX3_read ew30 (pL.mk ?_))
    replace h := lt_e h; obtain ⟨w31, ew31, h⟩ := h
    refine r_cVv (pc := 172) wyX3_push oA48 rfl mlRX3_184 iyX3_push syX3_push ⟨(Nat.le_of_ble_eq_true rfl), (Nat.le_of_ble_eq_true rfl)⟩ rfl rfl (Nat.le_of_ble_eq_true rfl) dX3_move_172 (mX3_push ew31 (pV.mk ?_))
    refine r_aload_n (pc := 175) dX3_move_175 rfl 1 rfl ?_
    refine r_aload_n (pc := 176) dX3_move_176 rfl 1 rfl ?_
    refine r_iload (pc := 177) dX3_move_177 0 rfl ?_
    refine r_iconst (pc := 179) dX3_move_179 ki_1 ?_
    refine r_iadd (pc := 180) dX3_move_180 ?_
    refine r_i2l (pc := 181) dX3_move_181 ?_
    replace h := lt2_e h; obtain ⟨x32, w33, ew33, h⟩ := h
    refine r_cVl (pc := 182) wyX3_read oA48 rfl mlRX3_146 iyX3_read syX3_read ⟨(Nat.le_of_ble_eq_true rfl), (Nat.le_of_ble_eq_true rfl)⟩ rfl rfl (Nat.le_of_ble_eq_true rfl) dX3_move_182 (mX3_read ew33 (pL.mk ?_))
    replace h := lt_e h; obtain ⟨w34, ew34, h⟩ := h
    refine r_cVv (pc := 185) wyX3_push oA48 rfl mlRX3_184 iyX3_push syX3_push ⟨(Nat.le_of_ble_eq_true rfl), (Nat.le_of_ble_eq_true rfl)⟩ rfl rfl (Nat.le_of_ble_eq_true rfl) dX3_move_185 (mX3_push ew34 (pV.mk ?_))
    refine r_goto (pc := 188) dX3_move_188 rfl ?_
    exact rO_v (pc := 304) rfl dX3_move_304 h hN
  replace h := if_f hc25 h
  by_cases hc35 : a1 = 22
  · refine r_tabC (pc := 1) (off := 190) (tgt := 191) (L := [22]) dX3_move_1 hc35 (by decide) rfl ?_
    replace h := if_t hc35 h
    refine r_aload_n (pc := 191) dX3_move_191 rfl 0 rfl ?_
    refine r_aload_n (pc := 192) dX3_move_192 rfl 0 rfl ?_
    refine r_iload_n (pc := 193) dX3_move_193 rfl 3 rfl ?_
    replace h := lt2_e h; obtain ⟨x36, w37, ew37, h⟩ := h
    refine r_cVi (pc := 194) wyX3_codeAt oA48 rfl mlRX3_129 iyX3_codeAt syX3_codeAt ⟨(Nat.le_of_ble_eq_true rfl), (Nat.le_of_ble_eq_true rfl)⟩ rfl rfl (Nat.le_of_ble_eq_true rfl) dX3_move_194 (mX3_codeAt ew37 (pI.mk ?_))
    refine r_i2l (pc := 197) dX3_move_197 ?_
    replace h := lt_e h; obtain ⟨w38, ew38, h⟩ := h
    refine r_cVv (pc := 198) wyX3_push oA48 rfl mlRX3_184 iyX3_push syX3_push ⟨(Nat.le_of_ble_eq_true rfl), (Nat.le_of_ble_eq_true rfl)⟩ rfl rfl (Nat.le_of_ble_eq_true rfl) dX3_move_198 (mX3_push ew38 (pV.mk ?_))
    refine r_aload_n (pc := 201) dX3_move_201 rfl 0 rfl ?_
    refine r_aload_n (pc := 202) dX3_move_202 rfl 0 rfl ?_
    refine r_iload_n (pc := 203) dX3_move_203 rfl 2 rfl ?_
    replace h := bn2_e h; obtain ⟨x39, w40, ew40, h⟩ := h
    refine r_cVi (pc := 204) wyX3_frameAt oA48 rfl mlRX3_202 iyX3_frameAt syX3_frameAt ⟨(Nat.le_of_ble_eq_true rfl), (Nat.le_of_ble_eq_true rfl)⟩ rfl rfl (Nat.le_of_ble_eq_true rfl) dX3_move_204 (mX3_frameAt ew40 (pI.mk ?_))
    refine r_i2l (pc := 207) dX3_move_207 ?_
    replace h := lt_e h; obtain ⟨w41, ew41, h⟩ := h
    refine r_cVv (pc := 208) wyX3_push oA48 rfl mlRX3_184 iyX3_push syX3_push ⟨(Nat.le_of_ble_eq_true rfl), (Nat.le_of_ble_eq_true rfl)⟩ rfl rfl (Nat.le_of_ble_eq_true rfl) dX3_move_208 (mX3_push ew41 (pV.mk ?_))
    refine r_goto (pc := 211) dX3_move_211 rfl ?_
    exact rO_v (pc := 304) rfl dX3_move_304 h hN
  replace h := if_f hc35 h
  by_cases hc42 : a1 = 23
  · refine r_tabC (pc := 1) (off := 213) (tgt := 214) (L := [23]) dX3_move_1 hc42 (by decide) rfl ?_
    replace h := if_t hc42 h
    refine r_aload_n (pc := 214) dX3_move_214 rfl 0 rfl ?_
    refine r_iload_n (pc := 215) dX3_move_215 rfl 3 rfl ?_
    refine r_i2l (pc := 216) dX3_move_216 ?_
    replace h := lt_e h; obtain ⟨w43, ew43, h⟩ := h
    refine r_cVv (pc := 217) wyX3_push oA48 rfl mlRX3_184 iyX3_push syX3_push ⟨(Nat.le_of_ble_eq_true rfl), (Nat.le_of_ble_eq_true rfl)⟩ rfl rfl (Nat.le_of_ble_eq_true rfl) dX3_move_217 (mX3_push ew43 (pV.mk ?_))
    refine r_aload_n (pc := 220) dX3_move_220 rfl 0 rfl ?_
    refine r_aload_n (pc := 221) dX3_move_221 rfl 0 rfl ?_
    refine r_get (pc := 222) (j := 12) (v := .int (gi w43 48 12)) oA48 cf3 flRX3_143 rfl dX3_move_222 rfl ?_
    refine r_i2l (pc := 225) dX3_move_225 ?_
    replace h := lt_e h; obtain ⟨w44, ew44, h⟩ := h
    refine r_cVv (pc := 226) wyX3_push oA48 rfl mlRX3_184 iyX3_push syX3_push ⟨(Nat.le_of_ble_eq_true rfl), (Nat.le_of_ble_eq_true rfl)⟩ rfl rfl (Nat.le_of_ble_eq_true rfl) dX3_move_226 (mX3_push ew44 (pV.mk ?_))
    refine r_goto (pc := 229) dX3_move_229 rfl ?_
    exact rO_v (pc := 304) rfl dX3_move_304 h hN
  replace h := if_f hc42 h
  by_cases hc45 : a1 = 24
  · refine r_tabC (pc := 1) (off := 231) (tgt := 232) (L := [24]) dX3_move_1 hc45 (by decide) rfl ?_
    replace h := if_t hc45 h
    refine r_aload_n (pc := 232) dX3_move_232 rfl 0 rfl ?_
    refine r_aload_n (pc := 233) dX3_move_233 rfl 0 rfl ?_
    refine r_aload_n (pc := 234) dX3_move_234 rfl 0 rfl ?_
    replace h := lt2_e h; obtain ⟨x46, w47, ew47, h⟩ := h
    refine r_cVl (pc := 235) wyX3_pop oA48 rfl mlRX3_160 iyX3_pop syX3_pop ⟨(Nat.le_of_ble_eq_true rfl), (Nat.le_of_ble_eq_true rfl)⟩ rfl rfl (Nat.le_of_ble_eq_true rfl) dX3_move_235 (mX3_pop ew47 (pL.mk ?_))
    replace h := lt2_e h; obtain ⟨x48, w49, ew49, h⟩ := h
    refine r_cVl (pc := 238) wyX3_read oA48 rfl mlRX3_146 iyX3_read syX3_read ⟨(Nat.le_of_ble_eq_true rfl), (Nat.le_of_ble_eq_true rfl)⟩ rfl rfl (Nat.le_of_ble_eq_true rfl) dX3_move_238 (mX3_read ew49 (pL.mk ?_))
    replace h := lt_e h; obtain ⟨w50, ew50, h⟩ := h
    refine r_cVv (pc := 241) wyX3_push oA48 rfl mlRX3_184 iyX3_push syX3_push ⟨(Nat.le_of_ble_eq_true rfl), (Nat.le_of_ble_eq_true rfl)⟩ rfl rfl (Nat.le_of_ble_eq_true rfl) dX3_move_241 (mX3_push ew50 (pV.mk ?_))
    refine r_goto (pc := 244) dX3_move_244 rfl ?_
    exact rO_v (pc := 304) rfl dX3_move_304 h hN
  replace h := if_f hc45 h
  by_cases hc51 : a1 = 25
  · refine r_tabC (pc := 1) (off := 246) (tgt := 247) (L := [25]) dX3_move_1 hc51 (by decide) rfl ?_
    replace h := if_t hc51 h
    refine r_aload_n (pc := 247) dX3_move_247 rfl 0 rfl ?_
    refine r_iload_n (pc := 248) dX3_move_248 rfl 3 rfl ?_
    replace h := bn_e h; obtain ⟨w52, ew52, h⟩ := h
    refine r_cVv (pc := 249) wyX3_element oA48 rfl mlRX3_205 iyX3_element syX3_element ⟨(Nat.le_of_ble_eq_true rfl), (Nat.le_of_ble_eq_true rfl)⟩ rfl rfl (Nat.le_of_ble_eq_true rfl) dX3_move_249 (mX3_element ew52 (pV.mk ?_))
    refine r_goto (pc := 252) dX3_move_252 rfl ?_
    exact rO_v (pc := 304) rfl dX3_move_304 h hN
  replace h := if_f hc51 h
  by_cases hc53 : a1 = 26
  · refine r_tabC (pc := 1) (off := 254) (tgt := 255) (L := [26]) dX3_move_1 hc53 (by decide) rfl ?_
    replace h := if_t hc53 h
    refine r_aload_n (pc := 255) dX3_move_255 rfl 0 rfl ?_
    refine r_iload_n (pc := 256) dX3_move_256 rfl 3 rfl ?_
    replace h := bn_e h; obtain ⟨w54, ew54, h⟩ := h
    refine r_cVv (pc := 257) wyX3_assign oA48 rfl mlRX3_208 iyX3_assign syX3_assign ⟨(Nat.le_of_ble_eq_true rfl), (Nat.le_of_ble_eq_true rfl)⟩ rfl rfl (Nat.le_of_ble_eq_true rfl) dX3_move_257 (mX3_assign ew54 (pV.mk ?_))
    refine r_goto (pc := 260) dX3_move_260 rfl ?_
    exact rO_v (pc := 304) rfl dX3_move_304 h hN
  replace h := if_f hc53 h
  by_cases hc55 : a1 = 27
  · refine r_tabC (pc := 1) (off := 262) (tgt := 263) (L := [27]) dX3_move_1 hc55 (by decide) rfl ?_
    replace h := if_t hc55 h
    refine r_aload_n (pc := 263) dX3_move_263 rfl 0 rfl ?_
    refine r_aload_n (pc := 264) dX3_move_264 rfl 0 rfl ?_
    refine r_get (pc := 265) (j := 14) (v := .int (gi w 48 14)) oA48 cf3 flRX3_117 rfl dX3_move_265 rfl ?_
    refine r_iload_n (pc := 268) dX3_move_268 rfl 3 rfl ?_
    refine r_isub (pc := 269) dX3_move_269 ?_
    refine r_iconst (pc := 270) dX3_move_270 ki_0 ?_
    replace h := lt_e h; obtain ⟨x56, ex56, h⟩ := h
    refine r_cSi (pc := 271) wyJ9_max_7cf53 mlRX3_83 tyJ9_max_7cf53 ⟨(Nat.le_of_ble_eq_true rfl), (Nat.le_of_ble_eq_true rfl)⟩ rfl rfl (Nat.le_of_ble_eq_true rfl) dX3_move_271 (mJ9_max_7cf53 ex56 (pI.mk ?_))
    replace h := lt_e h; obtain ⟨w57, ew57, h⟩ := h
    refine r_putI (pc := 274) (j := 14) oA48 cf3 flRX3_117 rfl rfl rfl rfl dX3_move_274 ?_
    refine r_w ew57 ?_
    refine r_goto (pc := 277) dX3_move_277 rfl ?_
    exact rO_v (pc := 304) rfl dX3_move_304 h hN
  replace h := if_f hc55 h
  by_cases hc58 : a1 = 28
  · refine r_tabC (pc := 1) (off := 279) (tgt := 280) (L := [28]) dX3_move_1 hc58 (by decide) rfl ?_
    replace h := if_t hc58 h
    refine r_aload_n (pc := 280) dX3_move_280 rfl 0 rfl ?_
    refine r_aload_n (pc := 281) dX3_move_281 rfl 0 rfl ?_
    replace h := lt2_e h; obtain ⟨x59, w60, ew60, h⟩ := h
    refine r_cVl (pc := 282) wyX3_pop oA48 rfl mlRX3_160 iyX3_pop syX3_pop ⟨(Nat.le_of_ble_eq_true rfl), (Nat.le_of_ble_eq_true rfl)⟩ rfl rfl (Nat.le_of_ble_eq_true rfl) dX3_move_282 (mX3_pop ew60 (pL.mk ?_))
    replace h := lt_e h; obtain ⟨w61, ew61, h⟩ := h
    refine r_cVv (pc := 285) wyX3_print oA48 rfl mlRX3_211 iyX3_print syX3_print ⟨(Nat.le_of_ble_eq_true rfl), (Nat.le_of_ble_eq_true rfl)⟩ rfl rfl (Nat.le_of_ble_eq_true rfl) dX3_move_285 (mX3_print ew61 (pV.mk ?_))
    refine r_goto (pc := 288) dX3_move_288 rfl ?_
    exact rO_v (pc := 304) rfl dX3_move_304 h hN
  replace h := if_f hc58 h
  refine r_tabD (pc := 1) (tgt := 291) (K := [[16], [17], [18], [19], [20], [21], [22], [23], [24], [25], [26], [27], [28]]) dX3_move_1 ⟨hc1, hc6, hc10, hc15, hc21, hc25, hc35, hc42, hc45, hc51, hc53, hc55, hc58, trivial⟩ (by decide) (by decide) rfl ?_
  refine r_aload_n (pc := 291) dX3_move_291 rfl 0 rfl ?_
  refine r_iload_n (pc := 292) dX3_move_292 rfl 3 rfl ?_
  refine r_bipush (pc := 293) dX3_move_293 kb_11 ?_
  refine r_ishr (pc := 295) dX3_move_295 ?_
  refine r_iload_n (pc := 296) dX3_move_296 rfl 3 rfl ?_
  refine r_sipush (pc := 297) dX3_move_297 ks_2047 ?_
  refine r_iand (pc := 300) dX3_move_300 ?_
  replace h := bn_e h; obtain ⟨w62, ew62, h⟩ := h
  refine r_cVv (pc := 301) wyX3_clear oA48 rfl mlRX3_214 iyX3_clear syX3_clear ⟨(Nat.le_of_ble_eq_true rfl), (Nat.le_of_ble_eq_true rfl)⟩ rfl rfl (Nat.le_of_ble_eq_true rfl) dX3_move_301 (mX3_clear ew62 (pV.mk ?_))
  exact rO_v (pc := 304) rfl dX3_move_304 h hN
theorem mX3_move {q : Gq} {l : Launch} {N : Option Value → Wd → Prop} {X : String → Wd → Prop} {a1 : Int32} {a2 : Int32} {a3 : Int32} {w : Wd} {u : Wd} (h : fX3_move a1 a2 a3 w = some u) (hN : N none u) : Ct (GA q) l 6 yX3_move cX3_move 5 (none) [.ref 48, .int a1, .int a2, .int a3] w N X := Ct.of (by decide) (Nat.le_of_ble_eq_true rfl) (pX3_move hN h)
/-! AlgolMill$Machine.tick ()V: O, 9 -/
theorem dX3_tick_0 : decode cX3_tick 0 = .ok (.aload_n 0, 1) := by decide +kernel
theorem dX3_tick_1 : decode cX3_tick 1 = .ok (.aload_n 0, 1) := by decide +kernel
theorem dX3_tick_2 : decode cX3_tick 2 = .ok (.getfield 150, 3) := by decide +kernel
theorem dX3_tick_5 : decode cX3_tick 5 = .ok (.invokevirtual 139, 3) := by decide +kernel
theorem dX3_tick_8 : decode cX3_tick 8 = .ok (.lstore_n 1, 1) := by decide +kernel
theorem dX3_tick_9 : decode cX3_tick 9 = .ok (.aload_n 0, 1) := by decide +kernel
theorem dX3_tick_10 : decode cX3_tick 10 = .ok (.dup, 1) := by decide +kernel
theorem dX3_tick_11 : decode cX3_tick 11 = .ok (.getfield 150, 3) := by decide +kernel
theorem dX3_tick_14 : decode cX3_tick 14 = .ok (.iconst 1, 1) := by decide +kernel
theorem dX3_tick_15 : decode cX3_tick 15 = .ok (.iadd, 1) := by decide +kernel
theorem dX3_tick_16 : decode cX3_tick 16 = .ok (.putfield 150, 3) := by decide +kernel
theorem dX3_tick_19 : decode cX3_tick 19 = .ok (.lload_n 1, 1) := by decide +kernel
theorem dX3_tick_20 : decode cX3_tick 20 = .ok (.invokestatic 153, 3) := by decide +kernel
theorem dX3_tick_23 : decode cX3_tick 23 = .ok (.istore_n 3, 1) := by decide +kernel
theorem dX3_tick_24 : decode cX3_tick 24 = .ok (.lload_n 1, 1) := by decide +kernel
theorem dX3_tick_25 : decode cX3_tick 25 = .ok (.invokestatic 157, 3) := by decide +kernel
theorem dX3_tick_28 : decode cX3_tick 28 = .ok (.istore 4, 2) := by decide +kernel
theorem dX3_tick_30 : decode cX3_tick 30 = .ok (.iload_n 3, 1) := by decide +kernel
theorem dX3_tick_31 : decode cX3_tick 31 = .ok (.bipush 16, 2) := by decide +kernel
theorem dX3_tick_33 : decode cX3_tick 33 = .ok (.if_icmp .ge 27, 3) := by decide +kernel
theorem dX3_tick_36 : decode cX3_tick 36 = .ok (.aload_n 0, 1) := by decide +kernel
theorem dX3_tick_37 : decode cX3_tick 37 = .ok (.invokevirtual 160, 3) := by decide +kernel
theorem dX3_tick_40 : decode cX3_tick 40 = .ok (.lstore 5, 2) := by decide +kernel
theorem dX3_tick_42 : decode cX3_tick 42 = .ok (.aload_n 0, 1) := by decide +kernel
theorem dX3_tick_43 : decode cX3_tick 43 = .ok (.invokevirtual 160, 3) := by decide +kernel
theorem dX3_tick_46 : decode cX3_tick 46 = .ok (.lstore 7, 2) := by decide +kernel
theorem dX3_tick_48 : decode cX3_tick 48 = .ok (.aload_n 0, 1) := by decide +kernel
theorem dX3_tick_49 : decode cX3_tick 49 = .ok (.iload_n 3, 1) := by decide +kernel
theorem dX3_tick_50 : decode cX3_tick 50 = .ok (.lload 7, 2) := by decide +kernel
theorem dX3_tick_52 : decode cX3_tick 52 = .ok (.lload 5, 2) := by decide +kernel
theorem dX3_tick_54 : decode cX3_tick 54 = .ok (.invokevirtual 164, 3) := by decide +kernel
theorem dX3_tick_57 : decode cX3_tick 57 = .ok (.goto 50, 3) := by decide +kernel
theorem dX3_tick_60 : decode cX3_tick 60 = .ok (.iload_n 3, 1) := by decide +kernel
theorem dX3_tick_61 : decode cX3_tick 61 = .ok (.bipush 30, 2) := by decide +kernel
theorem dX3_tick_63 : decode cX3_tick 63 = .ok (.if_icmp .ge 17, 3) := by decide +kernel
theorem dX3_tick_66 : decode cX3_tick 66 = .ok (.aload_n 0, 1) := by decide +kernel
theorem dX3_tick_67 : decode cX3_tick 67 = .ok (.iload_n 3, 1) := by decide +kernel
theorem dX3_tick_68 : decode cX3_tick 68 = .ok (.lload_n 1, 1) := by decide +kernel
theorem dX3_tick_69 : decode cX3_tick 69 = .ok (.invokestatic 168, 3) := by decide +kernel
theorem dX3_tick_72 : decode cX3_tick 72 = .ok (.iload 4, 2) := by decide +kernel
theorem dX3_tick_74 : decode cX3_tick 74 = .ok (.invokevirtual 171, 3) := by decide +kernel
theorem dX3_tick_77 : decode cX3_tick 77 = .ok (.goto 30, 3) := by decide +kernel
theorem dX3_tick_80 : decode cX3_tick 80 = .ok (.iload_n 3, 1) := by decide +kernel
theorem dX3_tick_81 : decode cX3_tick 81 = .ok (.bipush 40, 2) := by decide +kernel
theorem dX3_tick_83 : decode cX3_tick 83 = .ok (.if_icmp .ge 17, 3) := by decide +kernel
theorem dX3_tick_86 : decode cX3_tick 86 = .ok (.aload_n 0, 1) := by decide +kernel
theorem dX3_tick_87 : decode cX3_tick 87 = .ok (.iload_n 3, 1) := by decide +kernel
theorem dX3_tick_88 : decode cX3_tick 88 = .ok (.lload_n 1, 1) := by decide +kernel
theorem dX3_tick_89 : decode cX3_tick 89 = .ok (.invokestatic 168, 3) := by decide +kernel
theorem dX3_tick_92 : decode cX3_tick 92 = .ok (.iload 4, 2) := by decide +kernel
theorem dX3_tick_94 : decode cX3_tick 94 = .ok (.invokevirtual 175, 3) := by decide +kernel
theorem dX3_tick_97 : decode cX3_tick 97 = .ok (.goto 10, 3) := by decide +kernel
theorem dX3_tick_100 : decode cX3_tick 100 = .ok (.aload_n 0, 1) := by decide +kernel
theorem dX3_tick_101 : decode cX3_tick 101 = .ok (.iload_n 3, 1) := by decide +kernel
theorem dX3_tick_102 : decode cX3_tick 102 = .ok (.iload 4, 2) := by decide +kernel
theorem dX3_tick_104 : decode cX3_tick 104 = .ok (.invokevirtual 178, 3) := by decide +kernel
theorem dX3_tick_107 : decode cX3_tick 107 = .ok (.return_, 1) := by decide +kernel
def fX3_tick (w : Wd) : Option Wd :=
  lt2 (fX3_wordAt (gi w 48 11) w) fun x1 w2 => lt (si w2 48 11 ((gi w2 48 11) + 1)) fun w3 => lt (fX0_what x1 w3) fun x4 => lt (fX0_operand x1 w3) fun x5 => if 16 ≤ x4 then (if 30 ≤ x4 then (if 40 ≤ x4 then (bn (fX3_flow x4 x5 w3) fun w9 => some w9) else (lt (fX0_hops x1 w3) fun x10 => bn (fX3_jump x4 x10 x5 w3) fun w11 => some w11)) else (lt (fX0_hops x1 w3) fun x12 => bn (fX3_move x4 x12 x5 w3) fun w13 => some w13)) else (lt2 (fX3_pop w3) fun x14 w15 => lt2 (fX3_pop w15) fun x16 w17 => bn (fX3_calculate x4 x16 x14 w17) fun w18 => some w18)
theorem pX3_tick {q : Gq} {l : Launch} {N : Option Value → Wd → Prop} {X : String → Wd → Prop} {w : Wd} {R : Wd} (hN : N none R) (h : fX3_tick w = some R) : RT (GA q) l 9 yX3_tick cX3_tick 9 (none) N X 0 [] [(0, .ref 48)] w := by
  unfold fX3_tick at h
  refine r_aload_n (pc := 0) dX3_tick_0 rfl 0 rfl ?_
  refine r_aload_n (pc := 1) dX3_tick_1 rfl 0 rfl ?_
  refine r_get (pc := 2) (j := 11) (v := .int (gi w 48 11)) oA48 cf3 flRX3_150 rfl dX3_tick_2 rfl ?_
  replace h := lt2_e h; obtain ⟨x1, w2, ew2, h⟩ := h
  refine r_cVl (pc := 5) wyX3_wordAt oA48 rfl mlRX3_139 iyX3_wordAt syX3_wordAt ⟨(Nat.le_of_ble_eq_true rfl), (Nat.le_of_ble_eq_true rfl)⟩ rfl rfl (Nat.le_of_ble_eq_true rfl) dX3_tick_5 (mX3_wordAt ew2 (pL.mk ?_))
  refine r_lstore_n (pc := 8) (loc' := [(1, .long x1), (0, .ref 48)]) dX3_tick_8 rfl (Nat.le_of_ble_eq_true rfl) rfl ?_
  refine r_aload_n (pc := 9) dX3_tick_9 rfl 1 rfl ?_
  refine r_dup (pc := 10) dX3_tick_10 rfl ?_
  refine r_get (pc := 11) (j := 11) (v := .int (gi w2 48 11)) oA48 cf3 flRX3_150 rfl dX3_tick_11 rfl ?_
  refine r_iconst (pc := 14) dX3_tick_14 ki_1 ?_
  refine r_iadd (pc := 15) dX3_tick_15 ?_
  replace h := lt_e h; obtain ⟨w3, ew3, h⟩ := h
  refine r_putI (pc := 16) (j := 11) oA48 cf3 flRX3_150 rfl rfl rfl rfl dX3_tick_16 ?_
  refine r_w ew3 ?_
  refine r_lload_n (pc := 19) dX3_tick_19 rfl 0 rfl ?_
  replace h := lt_e h; obtain ⟨x4, ex4, h⟩ := h
  refine r_cSi (pc := 20) wyX0_what mlRX3_153 tyX0_what ⟨(Nat.le_of_ble_eq_true rfl), (Nat.le_of_ble_eq_true rfl)⟩ rfl rfl (Nat.le_of_ble_eq_true rfl) dX3_tick_20 (mX0_what ex4 (pI.mk ?_))
  refine r_istore_n (pc := 23) (loc' := [(3, .int x4), (1, .long x1), (0, .ref 48)]) dX3_tick_23 rfl (Nat.le_of_ble_eq_true rfl) rfl ?_
  refine r_lload_n (pc := 24) dX3_tick_24 rfl 1 rfl ?_
  replace h := lt_e h; obtain ⟨x5, ex5, h⟩ := h
  refine r_cSi (pc := 25) wyX0_operand mlRX3_157 tyX0_operand ⟨(Nat.le_of_ble_eq_true rfl), (Nat.le_of_ble_eq_true rfl)⟩ rfl rfl (Nat.le_of_ble_eq_true rfl) dX3_tick_25 (mX0_operand ex5 (pI.mk ?_))
  refine r_istore (pc := 28) (loc' := [(4, .int x5), (3, .int x4), (1, .long x1), (0, .ref 48)]) dX3_tick_28 (Nat.le_of_ble_eq_true rfl) rfl ?_
  refine r_iload_n (pc := 30) dX3_tick_30 rfl 1 rfl ?_
  refine r_bipush (pc := 31) dX3_tick_31 kb_16 ?_
  refine r_icmp_ge (pc := 33) dX3_tick_33 rfl (fun hc6 => ?_) (fun hc6 => ?_)
  · replace h := if_t hc6 h
    refine r_iload_n (pc := 60) dX3_tick_60 rfl 1 rfl ?_
    refine r_bipush (pc := 61) dX3_tick_61 kb_30 ?_
    refine r_icmp_ge (pc := 63) dX3_tick_63 rfl (fun hc7 => ?_) (fun hc7 => ?_)
    · replace h := if_t hc7 h
      refine r_iload_n (pc := 80) dX3_tick_80 rfl 1 rfl ?_
      refine r_bipush (pc := 81) dX3_tick_81 kb_40 ?_
      refine r_icmp_ge (pc := 83) dX3_tick_83 rfl (fun hc8 => ?_) (fun hc8 => ?_)
      · replace h := if_t hc8 h
        refine r_aload_n (pc := 100) dX3_tick_100 rfl 3 rfl ?_
        refine r_iload_n (pc := 101) dX3_tick_101 rfl 1 rfl ?_
        refine r_iload (pc := 102) dX3_tick_102 0 rfl ?_
        replace h := bn_e h; obtain ⟨w9, ew9, h⟩ := h
        refine r_cVv (pc := 104) wyX3_flow oA48 rfl mlRX3_178 iyX3_flow syX3_flow ⟨(Nat.le_of_ble_eq_true rfl), (Nat.le_of_ble_eq_true rfl)⟩ rfl rfl (Nat.le_of_ble_eq_true rfl) dX3_tick_104 (mX3_flow ew9 (pV.mk ?_))
        exact rO_v (pc := 107) rfl dX3_tick_107 h hN
      replace h := if_f hc8 h
      refine r_aload_n (pc := 86) dX3_tick_86 rfl 3 rfl ?_
      refine r_iload_n (pc := 87) dX3_tick_87 rfl 1 rfl ?_
      refine r_lload_n (pc := 88) dX3_tick_88 rfl 2 rfl ?_
      replace h := lt_e h; obtain ⟨x10, ex10, h⟩ := h
      refine r_cSi (pc := 89) wyX0_hops mlRX3_168 tyX0_hops ⟨(Nat.le_of_ble_eq_true rfl), (Nat.le_of_ble_eq_true rfl)⟩ rfl rfl (Nat.le_of_ble_eq_true rfl) dX3_tick_89 (mX0_hops ex10 (pI.mk ?_))
      refine r_iload (pc := 92) dX3_tick_92 0 rfl ?_
      replace h := bn_e h; obtain ⟨w11, ew11, h⟩ := h
      refine r_cVv (pc := 94) wyX3_jump oA48 rfl mlRX3_175 iyX3_jump syX3_jump ⟨(Nat.le_of_ble_eq_true rfl), (Nat.le_of_ble_eq_true rfl)⟩ rfl rfl (Nat.le_of_ble_eq_true rfl) dX3_tick_94 (mX3_jump ew11 (pV.mk ?_))
      refine r_goto (pc := 97) dX3_tick_97 rfl ?_
      exact rO_v (pc := 107) rfl dX3_tick_107 h hN
    replace h := if_f hc7 h
    refine r_aload_n (pc := 66) dX3_tick_66 rfl 3 rfl ?_
    refine r_iload_n (pc := 67) dX3_tick_67 rfl 1 rfl ?_
    refine r_lload_n (pc := 68) dX3_tick_68 rfl 2 rfl ?_
    replace h := lt_e h; obtain ⟨x12, ex12, h⟩ := h
    refine r_cSi (pc := 69) wyX0_hops mlRX3_168 tyX0_hops ⟨(Nat.le_of_ble_eq_true rfl), (Nat.le_of_ble_eq_true rfl)⟩ rfl rfl (Nat.le_of_ble_eq_true rfl) dX3_tick_69 (mX0_hops ex12 (pI.mk ?_))
    refine r_iload (pc := 72) dX3_tick_72 0 rfl ?_
    replace h := bn_e h; obtain ⟨w13, ew13, h⟩ := h
    refine r_cVv (pc := 74) wyX3_move oA48 rfl mlRX3_171 iyX3_move syX3_move ⟨(Nat.le_of_ble_eq_true rfl), (Nat.le_of_ble_eq_true rfl)⟩ rfl rfl (Nat.le_of_ble_eq_true rfl) dX3_tick_74 (mX3_move ew13 (pV.mk ?_))
    refine r_goto (pc := 77) dX3_tick_77 rfl ?_
    exact rO_v (pc := 107) rfl dX3_tick_107 h hN
  replace h := if_f hc6 h
  refine r_aload_n (pc := 36) dX3_tick_36 rfl 3 rfl ?_
  replace h := lt2_e h; obtain ⟨x14, w15, ew15, h⟩ := h
  refine r_cVl (pc := 37) wyX3_pop oA48 rfl mlRX3_160 iyX3_pop syX3_pop ⟨(Nat.le_of_ble_eq_true rfl), (Nat.le_of_ble_eq_true rfl)⟩ rfl rfl (Nat.le_of_ble_eq_true rfl) dX3_tick_37 (mX3_pop ew15 (pL.mk ?_))
  refine r_lstore (pc := 40) (loc' := [(5, .long x14), (4, .int x5), (3, .int x4), (1, .long x1), (0, .ref 48)]) dX3_tick_40 (Nat.le_of_ble_eq_true rfl) rfl ?_
  refine r_aload_n (pc := 42) dX3_tick_42 rfl 4 rfl ?_
  replace h := lt2_e h; obtain ⟨x16, w17, ew17, h⟩ := h
  refine r_cVl (pc := 43) wyX3_pop oA48 rfl mlRX3_160 iyX3_pop syX3_pop ⟨(Nat.le_of_ble_eq_true rfl), (Nat.le_of_ble_eq_true rfl)⟩ rfl rfl (Nat.le_of_ble_eq_true rfl) dX3_tick_43 (mX3_pop ew17 (pL.mk ?_))
  refine r_lstore (pc := 46) (loc' := [(7, .long x16), (5, .long x14), (4, .int x5), (3, .int x4), (1, .long x1), (0, .ref 48)]) dX3_tick_46 (Nat.le_of_ble_eq_true rfl) rfl ?_
  refine r_aload_n (pc := 48) dX3_tick_48 rfl 5 rfl ?_
  refine r_iload_n (pc := 49) dX3_tick_49 rfl 3 rfl ?_
  refine r_lload (pc := 50) dX3_tick_50 0 rfl ?_
  refine r_lload (pc := 52) dX3_tick_52 1 rfl ?_
  replace h := bn_e h; obtain ⟨w18, ew18, h⟩ := h
  refine r_cVv (pc := 54) wyX3_calculate oA48 rfl mlRX3_164 iyX3_calculate syX3_calculate ⟨(Nat.le_of_ble_eq_true rfl), (Nat.le_of_ble_eq_true rfl)⟩ rfl rfl (Nat.le_of_ble_eq_true rfl) dX3_tick_54 (mX3_calculate ew18 (pV.mk ?_))
  refine r_goto (pc := 57) dX3_tick_57 rfl ?_
  exact rO_v (pc := 107) rfl dX3_tick_107 h hN
theorem mX3_tick {q : Gq} {l : Launch} {N : Option Value → Wd → Prop} {X : String → Wd → Prop} {w : Wd} {u : Wd} (h : fX3_tick w = some u) (hN : N none u) : Ct (GA q) l 9 yX3_tick cX3_tick 9 (none) [.ref 48] w N X := Ct.of (by decide) (Nat.le_of_ble_eq_true rfl) (pX3_tick hN h)
/-! AlgolMill$Machine.go (I)I: O, 10 -/
theorem dX3_go_0 : decode cX3_go 0 = .ok (.aload_n 0, 1) := by decide +kernel
theorem dX3_go_1 : decode cX3_go 1 = .ok (.iload_n 1, 1) := by decide +kernel
theorem dX3_go_2 : decode cX3_go 2 = .ok (.invokevirtual 86, 3) := by decide +kernel
theorem dX3_go_5 : decode cX3_go 5 = .ok (.iload_n 1, 1) := by decide +kernel
theorem dX3_go_6 : decode cX3_go 6 = .ok (.i2l, 1) := by decide +kernel
theorem dX3_go_7 : decode cX3_go 7 = .ok (.ldc2_w 90, 3) := by decide +kernel
theorem dX3_go_10 : decode cX3_go 10 = .ok (.ladd, 1) := by decide +kernel
theorem dX3_go_11 : decode cX3_go 11 = .ok (.ldc2_w 92, 3) := by decide +kernel
theorem dX3_go_14 : decode cX3_go 14 = .ok (.lmul, 1) := by decide +kernel
theorem dX3_go_15 : decode cX3_go 15 = .ok (.ldc2_w 94, 3) := by decide +kernel
theorem dX3_go_18 : decode cX3_go 18 = .ok (.lmul, 1) := by decide +kernel
theorem dX3_go_19 : decode cX3_go 19 = .ok (.lstore_n 2, 1) := by decide +kernel
theorem dX3_go_20 : decode cX3_go 20 = .ok (.lconst 0, 1) := by decide +kernel
theorem dX3_go_21 : decode cX3_go 21 = .ok (.lstore 4, 2) := by decide +kernel
theorem dX3_go_23 : decode cX3_go 23 = .ok (.aload_n 0, 1) := by decide +kernel
theorem dX3_go_24 : decode cX3_go 24 = .ok (.getfield 96, 3) := by decide +kernel
theorem dX3_go_27 : decode cX3_go 27 = .ok (.bipush (-2), 2) := by decide +kernel
theorem dX3_go_29 : decode cX3_go 29 = .ok (.if_icmp .ne 23, 3) := by decide +kernel
theorem dX3_go_32 : decode cX3_go 32 = .ok (.lload 4, 2) := by decide +kernel
theorem dX3_go_34 : decode cX3_go 34 = .ok (.lload_n 2, 1) := by decide +kernel
theorem dX3_go_35 : decode cX3_go 35 = .ok (.lcmp, 1) := by decide +kernel
theorem dX3_go_36 : decode cX3_go 36 = .ok (.ifCond .ge 16, 3) := by decide +kernel
theorem dX3_go_39 : decode cX3_go 39 = .ok (.aload_n 0, 1) := by decide +kernel
theorem dX3_go_40 : decode cX3_go 40 = .ok (.invokevirtual 99, 3) := by decide +kernel
theorem dX3_go_43 : decode cX3_go 43 = .ok (.lload 4, 2) := by decide +kernel
theorem dX3_go_45 : decode cX3_go 45 = .ok (.lconst 1, 1) := by decide +kernel
theorem dX3_go_46 : decode cX3_go 46 = .ok (.ladd, 1) := by decide +kernel
theorem dX3_go_47 : decode cX3_go 47 = .ok (.lstore 4, 2) := by decide +kernel
theorem dX3_go_49 : decode cX3_go 49 = .ok (.goto (-26), 3) := by decide +kernel
theorem dX3_go_52 : decode cX3_go 52 = .ok (.aload_n 0, 1) := by decide +kernel
theorem dX3_go_53 : decode cX3_go 53 = .ok (.getfield 96, 3) := by decide +kernel
theorem dX3_go_56 : decode cX3_go 56 = .ok (.bipush (-2), 2) := by decide +kernel
theorem dX3_go_58 : decode cX3_go 58 = .ok (.if_icmp .ne 7, 3) := by decide +kernel
theorem dX3_go_61 : decode cX3_go 61 = .ok (.aload_n 0, 1) := by decide +kernel
theorem dX3_go_62 : decode cX3_go 62 = .ok (.invokevirtual 102, 3) := by decide +kernel
theorem dX3_go_65 : decode cX3_go 65 = .ok (.aload_n 0, 1) := by decide +kernel
theorem dX3_go_66 : decode cX3_go 66 = .ok (.getfield 96, 3) := by decide +kernel
theorem dX3_go_69 : decode cX3_go 69 = .ok (.ireturn, 1) := by decide +kernel
def fX3_go_52 (w : Wd) : Option (Int32 × Wd) :=
  if (gi w 48 10) = (-2) then (lt (fX3_oddity w) fun w2 => some ((gi w2 48 10), w2)) else (some ((gi w 48 10), w))
theorem pX3_go_52 {q : Gq} {l : Launch} {N : Option Value → Wd → Prop} {X : String → Wd → Prop} {w : Wd} {R : Int32 × Wd} (hN : N (some (.int R.1)) R.2) (h : fX3_go_52 w = some R) : RT (GA q) l 10 yX3_go cX3_go 6 ((some .int)) N X 52 [] [(0, .ref 48)] w := by
  unfold fX3_go_52 at h
  refine r_aload_n (pc := 52) dX3_go_52 rfl 0 rfl ?_
  refine r_get (pc := 53) (j := 10) (v := .int (gi w 48 10)) oA48 cf3 flRX3_96 rfl dX3_go_53 rfl ?_
  refine r_bipush (pc := 56) dX3_go_56 kb_m2 ?_
  refine r_icmp_ne (pc := 58) dX3_go_58 rfl (fun hc1 => ?_) (fun hc1 => ?_)
  · replace h := if_f hc1 h
    refine r_aload_n (pc := 65) dX3_go_65 rfl 0 rfl ?_
    refine r_get (pc := 66) (j := 10) (v := .int (gi w 48 10)) oA48 cf3 flRX3_96 rfl dX3_go_66 rfl ?_
    exact rO_i (pc := 69) rfl dX3_go_69 h hN
  replace h := if_t hc1 h
  refine r_aload_n (pc := 61) dX3_go_61 rfl 0 rfl ?_
  replace h := lt_e h; obtain ⟨w2, ew2, h⟩ := h
  refine r_cVv (pc := 62) wyX3_oddity oA48 rfl mlRX3_102 iyX3_oddity syX3_oddity ⟨(Nat.le_of_ble_eq_true rfl), (Nat.le_of_ble_eq_true rfl)⟩ rfl rfl (Nat.le_of_ble_eq_true rfl) dX3_go_62 (mX3_oddity ew2 (pV.mk ?_))
  refine r_aload_n (pc := 65) dX3_go_65 rfl 0 rfl ?_
  refine r_get (pc := 66) (j := 10) (v := .int (gi w2 48 10)) oA48 cf3 flRX3_96 rfl dX3_go_66 rfl ?_
  exact rO_i (pc := 69) rfl dX3_go_69 h hN
def fX3_go_23 (k_23 : Int64 → Int64 → Wd → Option (Int32 × Wd)) (a2 : Int64) (a4 : Int64) (w : Wd) : Option (Int32 × Wd) :=
  if (gi w 48 10) = (-2) then (if a2 ≤ a4 then (fX3_go_52 w) else (bn (fX3_tick w) fun w3 => lt ((a4 + 1)) fun x4 => k_23 a2 x4 w3)) else (fX3_go_52 w)
theorem pX3_go_23 {q : Gq} {l : Launch} {N : Option Value → Wd → Prop} {X : String → Wd → Prop} {w : Wd} {R : Int32 × Wd} (hN : N (some (.int R.1)) R.2) {k_23 : Int64 → Int64 → Wd → Option (Int32 × Wd)} (hk_23 : ∀ (a2 : Int64) (a4 : Int64) (w : Wd), k_23 a2 a4 w = some R → RT (GA q) l 10 yX3_go cX3_go 6 ((some .int)) N X 23 [] [(0, .ref 48), (2, .long a2), (4, .long a4)] w) {a2 : Int64} {a4 : Int64} (h : fX3_go_23 k_23 a2 a4 w = some R) : RT (GA q) l 10 yX3_go cX3_go 6 ((some .int)) N X 23 [] [(0, .ref 48), (2, .long a2), (4, .long a4)] w := by
  unfold fX3_go_23 at h
  refine r_aload_n (pc := 23) dX3_go_23 rfl 0 rfl ?_
  refine r_get (pc := 24) (j := 10) (v := .int (gi w 48 10)) oA48 cf3 flRX3_96 rfl dX3_go_24 rfl ?_
  refine r_bipush (pc := 27) dX3_go_27 kb_m2 ?_
  refine r_icmp_ne (pc := 29) dX3_go_29 rfl (fun hc1 => ?_) (fun hc1 => ?_)
  · replace h := if_f hc1 h
    refine r_drop (loc' := [(0, .ref 48)]) [0] rfl ?_
    exact pX3_go_52 hN h
  replace h := if_t hc1 h
  refine r_lload (pc := 32) dX3_go_32 2 rfl ?_
  refine r_lload_n (pc := 34) dX3_go_34 rfl 1 rfl ?_
  refine r_l_ge (pc := 35) dX3_go_35 dX3_go_36 rfl (fun hc2 => ?_) (fun hc2 => ?_)
  · replace h := if_t hc2 h
    refine r_drop (loc' := [(0, .ref 48)]) [0] rfl ?_
    exact pX3_go_52 hN h
  replace h := if_f hc2 h
  refine r_aload_n (pc := 39) dX3_go_39 rfl 0 rfl ?_
  replace h := bn_e h; obtain ⟨w3, ew3, h⟩ := h
  refine r_cVv (pc := 40) wyX3_tick oA48 rfl mlRX3_99 iyX3_tick syX3_tick ⟨(Nat.le_of_ble_eq_true rfl), (Nat.le_of_ble_eq_true rfl)⟩ rfl rfl (Nat.le_of_ble_eq_true rfl) dX3_go_40 (mX3_tick ew3 (pV.mk ?_))
  refine r_lload (pc := 43) dX3_go_43 2 rfl ?_
  refine r_lconst (pc := 45) dX3_go_45 kl_1 ?_
  refine r_ladd (pc := 46) dX3_go_46 ?_
  replace h := lt_e h; obtain ⟨x4, ex4, h⟩ := h
  refine r_topl ex4 ?_
  refine r_lstore (pc := 47) (loc' := [(4, .long x4), (0, .ref 48), (2, .long a2)]) dX3_go_47 (Nat.le_of_ble_eq_true rfl) rfl ?_
  refine r_goto (pc := 49) dX3_go_49 rfl ?_
  refine r_drop (loc' := [(0, .ref 48), (2, .long a2), (4, .long x4)]) [1, 2, 0] rfl ?_
  exact hk_23 a2 x4 w3 h
def oX3_go_23 : Nat → Int64 → Int64 → Wd → Option (Int32 × Wd)
  | 0 => fun _ _ _ => none
  | n + 1 => fX3_go_23 (oX3_go_23 n)
theorem qX3_go_23 {q : Gq} {l : Launch} {N : Option Value → Wd → Prop} {X : String → Wd → Prop} {R : Int32 × Wd} (hN : N (some (.int R.1)) R.2) : ∀ (n : Nat) (a2 : Int64) (a4 : Int64) (w : Wd), oX3_go_23 n a2 a4 w = some R → RT (GA q) l 10 yX3_go cX3_go 6 ((some .int)) N X 23 [] [(0, .ref 48), (2, .long a2), (4, .long a4)] w := by
  intro n
  induction n with
  | zero =>
    intro a2 a4 w h
    exact absurd h (fun q => nomatch q)
  | succ n ih =>
    intro a2 a4 w h
    exact pX3_go_23 hN ih h
def fX3_go (a1 : Int32) (w : Wd) : Option (Int32 × Wd) :=
  bn (fX3_start a1 w) fun w1 => lt (((((Int32.toInt64 a1) + 2) * 4) * 36872)) fun x2 => oX3_go_23 FU x2 0 w1
theorem pX3_go {q : Gq} {l : Launch} {N : Option Value → Wd → Prop} {X : String → Wd → Prop} {w : Wd} {R : Int32 × Wd} (hN : N (some (.int R.1)) R.2) {a1 : Int32} (h : fX3_go a1 w = some R) : RT (GA q) l 10 yX3_go cX3_go 6 ((some .int)) N X 0 [] [(0, .ref 48), (1, .int a1)] w := by
  unfold fX3_go at h
  refine r_aload_n (pc := 0) dX3_go_0 rfl 0 rfl ?_
  refine r_iload_n (pc := 1) dX3_go_1 rfl 1 rfl ?_
  replace h := bn_e h; obtain ⟨w1, ew1, h⟩ := h
  refine r_cVv (pc := 2) wyX3_start oA48 rfl mlRX3_86 iyX3_start syX3_start ⟨(Nat.le_of_ble_eq_true rfl), (Nat.le_of_ble_eq_true rfl)⟩ rfl rfl (Nat.le_of_ble_eq_true rfl) dX3_go_2 (mX3_start ew1 (pV.mk ?_))
  refine r_iload_n (pc := 5) dX3_go_5 rfl 1 rfl ?_
  refine r_i2l (pc := 6) dX3_go_6 ?_
  refine r_ldc2 (pc := 7) dX3_go_7 kcRX3_90 ?_
  refine r_ladd (pc := 10) dX3_go_10 ?_
  refine r_ldc2 (pc := 11) dX3_go_11 kcRX3_92 ?_
  refine r_lmul (pc := 14) dX3_go_14 ?_
  refine r_ldc2 (pc := 15) dX3_go_15 kcRX3_94 ?_
  refine r_lmul (pc := 18) dX3_go_18 ?_
  replace h := lt_e h; obtain ⟨x2, ex2, h⟩ := h
  refine r_topl ex2 ?_
  refine r_lstore_n (pc := 19) (loc' := [(2, .long x2), (0, .ref 48), (1, .int a1)]) dX3_go_19 rfl (Nat.le_of_ble_eq_true rfl) rfl ?_
  refine r_lconst (pc := 20) dX3_go_20 kl_0 ?_
  refine r_lstore (pc := 21) (loc' := [(4, .long 0), (2, .long x2), (0, .ref 48), (1, .int a1)]) dX3_go_21 (Nat.le_of_ble_eq_true rfl) rfl ?_
  refine r_drop (loc' := [(0, .ref 48), (2, .long x2), (4, .long 0)]) [2, 1, 0] rfl ?_
  exact qX3_go_23 hN FU x2 0 w1 h
theorem mX3_go {q : Gq} {l : Launch} {N : Option Value → Wd → Prop} {X : String → Wd → Prop} {a1 : Int32} {w : Wd} {x : Int32} {u : Wd} (h : fX3_go a1 w = some (x, u)) (hN : N (some (.int x)) u) : Ct (GA q) l 10 yX3_go cX3_go 6 ((some .int)) [.ref 48, .int a1] w N X := Ct.of (by decide) (Nat.le_of_ble_eq_true rfl) (pX3_go hN h)
