/-! Nest -/
theorem kb_6 : (Int8.ofInt 6).toInt32 = 6 := by decide
theorem ki_2 : Int32.ofInt 2 = 2 := by decide
theorem ki_m1 : Int32.ofInt (-1) = (-1) := by decide
/-! AlgolMill$Nest.enter (I)V: S, 1 -/
theorem dX5_enter_0 : decode cX5_enter 0 = .ok (.aload_n 0, 1) := by decide +kernel
theorem dX5_enter_1 : decode cX5_enter 1 = .ok (.dup, 1) := by decide +kernel
theorem dX5_enter_2 : decode cX5_enter 2 = .ok (.getfield 25, 3) := by decide +kernel
theorem dX5_enter_5 : decode cX5_enter 5 = .ok (.iconst 1, 1) := by decide +kernel
theorem dX5_enter_6 : decode cX5_enter 6 = .ok (.iadd, 1) := by decide +kernel
theorem dX5_enter_7 : decode cX5_enter 7 = .ok (.putfield 25, 3) := by decide +kernel
theorem dX5_enter_10 : decode cX5_enter 10 = .ok (.aload_n 0, 1) := by decide +kernel
theorem dX5_enter_11 : decode cX5_enter 11 = .ok (.getfield 9, 3) := by decide +kernel
theorem dX5_enter_14 : decode cX5_enter 14 = .ok (.aload_n 0, 1) := by decide +kernel
theorem dX5_enter_15 : decode cX5_enter 15 = .ok (.getfield 25, 3) := by decide +kernel
theorem dX5_enter_18 : decode cX5_enter 18 = .ok (.iload_n 1, 1) := by decide +kernel
theorem dX5_enter_19 : decode cX5_enter 19 = .ok (.invokestatic 33, 3) := by decide +kernel
theorem dX5_enter_22 : decode cX5_enter 22 = .ok (.aload_n 0, 1) := by decide +kernel
theorem dX5_enter_23 : decode cX5_enter 23 = .ok (.getfield 13, 3) := by decide +kernel
theorem dX5_enter_26 : decode cX5_enter 26 = .ok (.aload_n 0, 1) := by decide +kernel
theorem dX5_enter_27 : decode cX5_enter 27 = .ok (.getfield 25, 3) := by decide +kernel
theorem dX5_enter_30 : decode cX5_enter 30 = .ok (.bipush 6, 2) := by decide +kernel
theorem dX5_enter_32 : decode cX5_enter 32 = .ok (.invokestatic 33, 3) := by decide +kernel
theorem dX5_enter_35 : decode cX5_enter 35 = .ok (.aload_n 0, 1) := by decide +kernel
theorem dX5_enter_36 : decode cX5_enter 36 = .ok (.getfield 16, 3) := by decide +kernel
theorem dX5_enter_39 : decode cX5_enter 39 = .ok (.aload_n 0, 1) := by decide +kernel
theorem dX5_enter_40 : decode cX5_enter 40 = .ok (.getfield 25, 3) := by decide +kernel
theorem dX5_enter_43 : decode cX5_enter 43 = .ok (.bipush 6, 2) := by decide +kernel
theorem dX5_enter_45 : decode cX5_enter 45 = .ok (.invokestatic 33, 3) := by decide +kernel
theorem dX5_enter_48 : decode cX5_enter 48 = .ok (.aload_n 0, 1) := by decide +kernel
theorem dX5_enter_49 : decode cX5_enter 49 = .ok (.getfield 19, 3) := by decide +kernel
theorem dX5_enter_52 : decode cX5_enter 52 = .ok (.aload_n 0, 1) := by decide +kernel
theorem dX5_enter_53 : decode cX5_enter 53 = .ok (.getfield 25, 3) := by decide +kernel
theorem dX5_enter_56 : decode cX5_enter 56 = .ok (.iconst 0, 1) := by decide +kernel
theorem dX5_enter_57 : decode cX5_enter 57 = .ok (.invokestatic 33, 3) := by decide +kernel
theorem dX5_enter_60 : decode cX5_enter 60 = .ok (.aload_n 0, 1) := by decide +kernel
theorem dX5_enter_61 : decode cX5_enter 61 = .ok (.getfield 22, 3) := by decide +kernel
theorem dX5_enter_64 : decode cX5_enter 64 = .ok (.aload_n 0, 1) := by decide +kernel
theorem dX5_enter_65 : decode cX5_enter 65 = .ok (.getfield 25, 3) := by decide +kernel
theorem dX5_enter_68 : decode cX5_enter 68 = .ok (.iconst 2, 1) := by decide +kernel
theorem dX5_enter_69 : decode cX5_enter 69 = .ok (.invokestatic 33, 3) := by decide +kernel
theorem dX5_enter_72 : decode cX5_enter 72 = .ok (.return_, 1) := by decide +kernel
def fX5_enter (a1 : Int32) (w : Wd) : Wd :=
  lt (si w 34 5 ((gi w 34 5) + 1)) fun w1 => lt (rsi w1 35 64 (gi w1 34 5) a1) fun w2 => lt (rsi w2 36 64 (gi w2 34 5) 6) fun w3 => lt (rsi w3 37 64 (gi w3 34 5) 6) fun w4 => lt (rsi w4 38 64 (gi w4 34 5) 0) fun w5 => lt (rsi w5 39 64 (gi w5 34 5) 2) fun w6 => w6
theorem pX5_enter {q : Gq} {l : Launch} {N : Option Value → Wd → Prop} {X : String → Wd → Prop} {w : Wd} {R : Wd} (hN : N none R) {a1 : Int32} (h : fX5_enter a1 w = R) : RT (GA q) l 1 yX5_enter cX5_enter 2 (none) N X 0 [] [(0, .ref 34), (1, .int a1)] w := by
  unfold fX5_enter at h
  refine r_aload_n (pc := 0) dX5_enter_0 rfl 0 rfl ?_
  refine r_dup (pc := 1) dX5_enter_1 rfl ?_
  refine r_get (pc := 2) (j := 5) (v := .int (gi w 34 5)) oA34 cf5 flRX5_25 rfl dX5_enter_2 rfl ?_
  refine r_iconst (pc := 5) dX5_enter_5 ki_1 ?_
  refine r_iadd (pc := 6) dX5_enter_6 ?_
  replace h := lt_e h; obtain ⟨w1, ew1, h⟩ := h
  refine r_putI (pc := 7) (j := 5) oA34 cf5 flRX5_25 rfl rfl rfl rfl dX5_enter_7 ?_
  refine r_w ew1 ?_
  refine r_aload_n (pc := 10) dX5_enter_10 rfl 0 rfl ?_
  refine r_get (pc := 11) (j := 0) (v := .ref 35) oA34 cf5 flRX5_9 rfl dX5_enter_11 rfl ?_
  refine r_aload_n (pc := 14) dX5_enter_14 rfl 0 rfl ?_
  refine r_get (pc := 15) (j := 5) (v := .int (gi w1 34 5)) oA34 cf5 flRX5_25 rfl dX5_enter_15 rfl ?_
  refine r_iload_n (pc := 18) dX5_enter_18 rfl 1 rfl ?_
  replace h := lt_e h; obtain ⟨w2, ew2, h⟩ := h
  refine r_cSv (pc := 19) wyX6_set mlRX5_33 tyX6_set ⟨(Nat.le_of_ble_eq_true rfl), (Nat.le_of_ble_eq_true rfl)⟩ rfl rfl (Nat.le_of_ble_eq_true rfl) dX5_enter_19 (mX6_set aA35 (Nat.le_of_ble_eq_true rfl) ew2 (pV.mk ?_))
  refine r_aload_n (pc := 22) dX5_enter_22 rfl 0 rfl ?_
  refine r_get (pc := 23) (j := 1) (v := .ref 36) oA34 cf5 flRX5_13 rfl dX5_enter_23 rfl ?_
  refine r_aload_n (pc := 26) dX5_enter_26 rfl 0 rfl ?_
  refine r_get (pc := 27) (j := 5) (v := .int (gi w2 34 5)) oA34 cf5 flRX5_25 rfl dX5_enter_27 rfl ?_
  refine r_bipush (pc := 30) dX5_enter_30 kb_6 ?_
  replace h := lt_e h; obtain ⟨w3, ew3, h⟩ := h
  refine r_cSv (pc := 32) wyX6_set mlRX5_33 tyX6_set ⟨(Nat.le_of_ble_eq_true rfl), (Nat.le_of_ble_eq_true rfl)⟩ rfl rfl (Nat.le_of_ble_eq_true rfl) dX5_enter_32 (mX6_set aA36 (Nat.le_of_ble_eq_true rfl) ew3 (pV.mk ?_))
  refine r_aload_n (pc := 35) dX5_enter_35 rfl 0 rfl ?_
  refine r_get (pc := 36) (j := 2) (v := .ref 37) oA34 cf5 flRX5_16 rfl dX5_enter_36 rfl ?_
  refine r_aload_n (pc := 39) dX5_enter_39 rfl 0 rfl ?_
  refine r_get (pc := 40) (j := 5) (v := .int (gi w3 34 5)) oA34 cf5 flRX5_25 rfl dX5_enter_40 rfl ?_
  refine r_bipush (pc := 43) dX5_enter_43 kb_6 ?_
  replace h := lt_e h; obtain ⟨w4, ew4, h⟩ := h
  refine r_cSv (pc := 45) wyX6_set mlRX5_33 tyX6_set ⟨(Nat.le_of_ble_eq_true rfl), (Nat.le_of_ble_eq_true rfl)⟩ rfl rfl (Nat.le_of_ble_eq_true rfl) dX5_enter_45 (mX6_set aA37 (Nat.le_of_ble_eq_true rfl) ew4 (pV.mk ?_))
  refine r_aload_n (pc := 48) dX5_enter_48 rfl 0 rfl ?_
  refine r_get (pc := 49) (j := 3) (v := .ref 38) oA34 cf5 flRX5_19 rfl dX5_enter_49 rfl ?_
  refine r_aload_n (pc := 52) dX5_enter_52 rfl 0 rfl ?_
  refine r_get (pc := 53) (j := 5) (v := .int (gi w4 34 5)) oA34 cf5 flRX5_25 rfl dX5_enter_53 rfl ?_
  refine r_iconst (pc := 56) dX5_enter_56 ki_0 ?_
  replace h := lt_e h; obtain ⟨w5, ew5, h⟩ := h
  refine r_cSv (pc := 57) wyX6_set mlRX5_33 tyX6_set ⟨(Nat.le_of_ble_eq_true rfl), (Nat.le_of_ble_eq_true rfl)⟩ rfl rfl (Nat.le_of_ble_eq_true rfl) dX5_enter_57 (mX6_set aA38 (Nat.le_of_ble_eq_true rfl) ew5 (pV.mk ?_))
  refine r_aload_n (pc := 60) dX5_enter_60 rfl 0 rfl ?_
  refine r_get (pc := 61) (j := 4) (v := .ref 39) oA34 cf5 flRX5_22 rfl dX5_enter_61 rfl ?_
  refine r_aload_n (pc := 64) dX5_enter_64 rfl 0 rfl ?_
  refine r_get (pc := 65) (j := 5) (v := .int (gi w5 34 5)) oA34 cf5 flRX5_25 rfl dX5_enter_65 rfl ?_
  refine r_iconst (pc := 68) dX5_enter_68 ki_2 ?_
  replace h := lt_e h; obtain ⟨w6, ew6, h⟩ := h
  refine r_cSv (pc := 69) wyX6_set mlRX5_33 tyX6_set ⟨(Nat.le_of_ble_eq_true rfl), (Nat.le_of_ble_eq_true rfl)⟩ rfl rfl (Nat.le_of_ble_eq_true rfl) dX5_enter_69 (mX6_set aA39 (Nat.le_of_ble_eq_true rfl) ew6 (pV.mk ?_))
  exact rS_v (pc := 72) rfl dX5_enter_72 h hN
theorem mX5_enter {q : Gq} {l : Launch} {N : Option Value → Wd → Prop} {X : String → Wd → Prop} {a1 : Int32} {w : Wd} {u : Wd} (h : fX5_enter a1 w = u) (hN : N none u) : Ct (GA q) l 1 yX5_enter cX5_enter 2 (none) [.ref 34, .int a1] w N X := Ct.of (by decide) (Nat.le_of_ble_eq_true rfl) (pX5_enter hN h)
/-! AlgolMill$Nest.restart ()V: S, 2 -/
theorem dX5_restart_0 : decode cX5_restart 0 = .ok (.aload_n 0, 1) := by decide +kernel
theorem dX5_restart_1 : decode cX5_restart 1 = .ok (.iconst (-1), 1) := by decide +kernel
theorem dX5_restart_2 : decode cX5_restart 2 = .ok (.putfield 25, 3) := by decide +kernel
theorem dX5_restart_5 : decode cX5_restart 5 = .ok (.aload_n 0, 1) := by decide +kernel
theorem dX5_restart_6 : decode cX5_restart 6 = .ok (.iconst 0, 1) := by decide +kernel
theorem dX5_restart_7 : decode cX5_restart 7 = .ok (.invokevirtual 29, 3) := by decide +kernel
theorem dX5_restart_10 : decode cX5_restart 10 = .ok (.return_, 1) := by decide +kernel
def fX5_restart (w : Wd) : Wd :=
  lt (si w 34 5 (-1)) fun w1 => lt (fX5_enter 0 w1) fun w2 => w2
theorem pX5_restart {q : Gq} {l : Launch} {N : Option Value → Wd → Prop} {X : String → Wd → Prop} {w : Wd} {R : Wd} (hN : N none R) (h : fX5_restart w = R) : RT (GA q) l 2 yX5_restart cX5_restart 1 (none) N X 0 [] [(0, .ref 34)] w := by
  unfold fX5_restart at h
  refine r_aload_n (pc := 0) dX5_restart_0 rfl 0 rfl ?_
  refine r_iconst (pc := 1) dX5_restart_1 ki_m1 ?_
  replace h := lt_e h; obtain ⟨w1, ew1, h⟩ := h
  refine r_putI (pc := 2) (j := 5) oA34 cf5 flRX5_25 rfl rfl rfl rfl dX5_restart_2 ?_
  refine r_w ew1 ?_
  refine r_aload_n (pc := 5) dX5_restart_5 rfl 0 rfl ?_
  refine r_iconst (pc := 6) dX5_restart_6 ki_0 ?_
  replace h := lt_e h; obtain ⟨w2, ew2, h⟩ := h
  refine r_cVv (pc := 7) wyX5_enter oA34 rfl mlRX5_29 iyX5_enter syX5_enter ⟨(Nat.le_of_ble_eq_true rfl), (Nat.le_of_ble_eq_true rfl)⟩ rfl rfl (Nat.le_of_ble_eq_true rfl) dX5_restart_7 (mX5_enter ew2 (pV.mk ?_))
  exact rS_v (pc := 10) rfl dX5_restart_10 h hN
theorem mX5_restart {q : Gq} {l : Launch} {N : Option Value → Wd → Prop} {X : String → Wd → Prop} {w : Wd} {u : Wd} (h : fX5_restart w = u) (hN : N none u) : Ct (GA q) l 2 yX5_restart cX5_restart 1 (none) [.ref 34] w N X := Ct.of (by decide) (Nat.le_of_ble_eq_true rfl) (pX5_restart hN h)
/-! AlgolMill$Nest.leave ()V: S, 0 -/
theorem dX5_leave_0 : decode cX5_leave 0 = .ok (.aload_n 0, 1) := by decide +kernel
theorem dX5_leave_1 : decode cX5_leave 1 = .ok (.dup, 1) := by decide +kernel
theorem dX5_leave_2 : decode cX5_leave 2 = .ok (.getfield 25, 3) := by decide +kernel
theorem dX5_leave_5 : decode cX5_leave 5 = .ok (.iconst 1, 1) := by decide +kernel
theorem dX5_leave_6 : decode cX5_leave 6 = .ok (.isub, 1) := by decide +kernel
theorem dX5_leave_7 : decode cX5_leave 7 = .ok (.putfield 25, 3) := by decide +kernel
theorem dX5_leave_10 : decode cX5_leave 10 = .ok (.return_, 1) := by decide +kernel
def fX5_leave (w : Wd) : Wd :=
  lt (si w 34 5 ((gi w 34 5) - 1)) fun w1 => w1
theorem pX5_leave {q : Gq} {l : Launch} {N : Option Value → Wd → Prop} {X : String → Wd → Prop} {w : Wd} {R : Wd} (hN : N none R) (h : fX5_leave w = R) : RT (GA q) l 0 yX5_leave cX5_leave 1 (none) N X 0 [] [(0, .ref 34)] w := by
  unfold fX5_leave at h
  refine r_aload_n (pc := 0) dX5_leave_0 rfl 0 rfl ?_
  refine r_dup (pc := 1) dX5_leave_1 rfl ?_
  refine r_get (pc := 2) (j := 5) (v := .int (gi w 34 5)) oA34 cf5 flRX5_25 rfl dX5_leave_2 rfl ?_
  refine r_iconst (pc := 5) dX5_leave_5 ki_1 ?_
  refine r_isub (pc := 6) dX5_leave_6 ?_
  replace h := lt_e h; obtain ⟨w1, ew1, h⟩ := h
  refine r_putI (pc := 7) (j := 5) oA34 cf5 flRX5_25 rfl rfl rfl rfl dX5_leave_7 ?_
  refine r_w ew1 ?_
  exact rS_v (pc := 10) rfl dX5_leave_10 h hN
theorem mX5_leave {q : Gq} {l : Launch} {N : Option Value → Wd → Prop} {X : String → Wd → Prop} {w : Wd} {u : Wd} (h : fX5_leave w = u) (hN : N none u) : Ct (GA q) l 0 yX5_leave cX5_leave 1 (none) [.ref 34] w N X := Ct.of (by decide) (Nat.le_of_ble_eq_true rfl) (pX5_leave hN h)
/-! AlgolMill$Nest.level ()I: P, 0 -/
theorem dX5_level_0 : decode cX5_level 0 = .ok (.aload_n 0, 1) := by decide +kernel
theorem dX5_level_1 : decode cX5_level 1 = .ok (.getfield 25, 3) := by decide +kernel
theorem dX5_level_4 : decode cX5_level 4 = .ok (.ireturn, 1) := by decide +kernel
def fX5_level (w : Wd) : Int32 :=
  (gi w 34 5)
theorem pX5_level {q : Gq} {l : Launch} {N : Option Value → Wd → Prop} {X : String → Wd → Prop} {w : Wd} {R : Int32} (hN : N (some (.int R)) w) (h : fX5_level w = R) : RT (GA q) l 0 yX5_level cX5_level 1 ((some .int)) N X 0 [] [(0, .ref 34)] w := by
  unfold fX5_level at h
  refine r_aload_n (pc := 0) dX5_level_0 rfl 0 rfl ?_
  refine r_get (pc := 1) (j := 5) (v := .int (gi w 34 5)) oA34 cf5 flRX5_25 rfl dX5_level_1 rfl ?_
  exact rP_i (pc := 4) rfl dX5_level_4 h hN
theorem mX5_level {q : Gq} {l : Launch} {N : Option Value → Wd → Prop} {X : String → Wd → Prop} {w : Wd} {x : Int32} (h : fX5_level w = x) (hN : N (some (.int x)) w) : Ct (GA q) l 0 yX5_level cX5_level 1 ((some .int)) [.ref 34] w N X := Ct.of (by decide) (Nat.le_of_ble_eq_true rfl) (pX5_level hN h)
/-! AlgolMill$Nest.procedureAt (I)I: P, 1 -/
theorem dX5_procedureAt_0 : decode cX5_procedureAt 0 = .ok (.iload_n 1, 1) := by decide +kernel
theorem dX5_procedureAt_1 : decode cX5_procedureAt 1 = .ok (.aload_n 0, 1) := by decide +kernel
theorem dX5_procedureAt_2 : decode cX5_procedureAt 2 = .ok (.getfield 25, 3) := by decide +kernel
theorem dX5_procedureAt_5 : decode cX5_procedureAt 5 = .ok (.if_icmp .gt 14, 3) := by decide +kernel
theorem dX5_procedureAt_8 : decode cX5_procedureAt 8 = .ok (.aload_n 0, 1) := by decide +kernel
theorem dX5_procedureAt_9 : decode cX5_procedureAt 9 = .ok (.getfield 9, 3) := by decide +kernel
theorem dX5_procedureAt_12 : decode cX5_procedureAt 12 = .ok (.iload_n 1, 1) := by decide +kernel
theorem dX5_procedureAt_13 : decode cX5_procedureAt 13 = .ok (.invokestatic 41, 3) := by decide +kernel
theorem dX5_procedureAt_16 : decode cX5_procedureAt 16 = .ok (.goto 4, 3) := by decide +kernel
theorem dX5_procedureAt_19 : decode cX5_procedureAt 19 = .ok (.iconst 0, 1) := by decide +kernel
theorem dX5_procedureAt_20 : decode cX5_procedureAt 20 = .ok (.ireturn, 1) := by decide +kernel
def fX5_procedureAt (a1 : Int32) (w : Wd) : Int32 :=
  if (gi w 34 5) < a1 then (0) else (lt (rgi w 35 64 a1) fun x2 => x2)
theorem pX5_procedureAt {q : Gq} {l : Launch} {N : Option Value → Wd → Prop} {X : String → Wd → Prop} {w : Wd} {R : Int32} (hN : N (some (.int R)) w) {a1 : Int32} (h : fX5_procedureAt a1 w = R) : RT (GA q) l 1 yX5_procedureAt cX5_procedureAt 2 ((some .int)) N X 0 [] [(0, .ref 34), (1, .int a1)] w := by
  unfold fX5_procedureAt at h
  refine r_iload_n (pc := 0) dX5_procedureAt_0 rfl 1 rfl ?_
  refine r_aload_n (pc := 1) dX5_procedureAt_1 rfl 0 rfl ?_
  refine r_get (pc := 2) (j := 5) (v := .int (gi w 34 5)) oA34 cf5 flRX5_25 rfl dX5_procedureAt_2 rfl ?_
  refine r_icmp_gt (pc := 5) dX5_procedureAt_5 rfl (fun hc1 => ?_) (fun hc1 => ?_)
  · replace h := if_t hc1 h
    refine r_iconst (pc := 19) dX5_procedureAt_19 ki_0 ?_
    exact rP_i (pc := 20) rfl dX5_procedureAt_20 h hN
  replace h := if_f hc1 h
  refine r_aload_n (pc := 8) dX5_procedureAt_8 rfl 0 rfl ?_
  refine r_get (pc := 9) (j := 0) (v := .ref 35) oA34 cf5 flRX5_9 rfl dX5_procedureAt_9 rfl ?_
  refine r_iload_n (pc := 12) dX5_procedureAt_12 rfl 1 rfl ?_
  replace h := lt_e h; obtain ⟨x2, ex2, h⟩ := h
  refine r_cSi (pc := 13) wyX6_get mlRX5_41 tyX6_get ⟨(Nat.le_of_ble_eq_true rfl), (Nat.le_of_ble_eq_true rfl)⟩ rfl rfl (Nat.le_of_ble_eq_true rfl) dX5_procedureAt_13 (mX6_get aA35 (Nat.le_of_ble_eq_true rfl) ex2 (pI.mk ?_))
  refine r_goto (pc := 16) dX5_procedureAt_16 rfl ?_
  exact rP_i (pc := 20) rfl dX5_procedureAt_20 h hN
theorem mX5_procedureAt {q : Gq} {l : Launch} {N : Option Value → Wd → Prop} {X : String → Wd → Prop} {a1 : Int32} {w : Wd} {x : Int32} (h : fX5_procedureAt a1 w = x) (hN : N (some (.int x)) w) : Ct (GA q) l 1 yX5_procedureAt cX5_procedureAt 2 ((some .int)) [.ref 34, .int a1] w N X := Ct.of (by decide) (Nat.le_of_ble_eq_true rfl) (pX5_procedureAt hN h)
/-! AlgolMill$Nest.slot ()I: P, 1 -/
theorem dX5_slot_0 : decode cX5_slot 0 = .ok (.aload_n 0, 1) := by decide +kernel
theorem dX5_slot_1 : decode cX5_slot 1 = .ok (.getfield 13, 3) := by decide +kernel
theorem dX5_slot_4 : decode cX5_slot 4 = .ok (.aload_n 0, 1) := by decide +kernel
theorem dX5_slot_5 : decode cX5_slot 5 = .ok (.getfield 25, 3) := by decide +kernel
theorem dX5_slot_8 : decode cX5_slot 8 = .ok (.invokestatic 41, 3) := by decide +kernel
theorem dX5_slot_11 : decode cX5_slot 11 = .ok (.ireturn, 1) := by decide +kernel
def fX5_slot (w : Wd) : Int32 :=
  lt (rgi w 36 64 (gi w 34 5)) fun x1 => x1
theorem pX5_slot {q : Gq} {l : Launch} {N : Option Value → Wd → Prop} {X : String → Wd → Prop} {w : Wd} {R : Int32} (hN : N (some (.int R)) w) (h : fX5_slot w = R) : RT (GA q) l 1 yX5_slot cX5_slot 1 ((some .int)) N X 0 [] [(0, .ref 34)] w := by
  unfold fX5_slot at h
  refine r_aload_n (pc := 0) dX5_slot_0 rfl 0 rfl ?_
  refine r_get (pc := 1) (j := 1) (v := .ref 36) oA34 cf5 flRX5_13 rfl dX5_slot_1 rfl ?_
  refine r_aload_n (pc := 4) dX5_slot_4 rfl 0 rfl ?_
  refine r_get (pc := 5) (j := 5) (v := .int (gi w 34 5)) oA34 cf5 flRX5_25 rfl dX5_slot_5 rfl ?_
  replace h := lt_e h; obtain ⟨x1, ex1, h⟩ := h
  refine r_cSi (pc := 8) wyX6_get mlRX5_41 tyX6_get ⟨(Nat.le_of_ble_eq_true rfl), (Nat.le_of_ble_eq_true rfl)⟩ rfl rfl (Nat.le_of_ble_eq_true rfl) dX5_slot_8 (mX6_get aA36 (Nat.le_of_ble_eq_true rfl) ex1 (pI.mk ?_))
  exact rP_i (pc := 11) rfl dX5_slot_11 h hN
theorem mX5_slot {q : Gq} {l : Launch} {N : Option Value → Wd → Prop} {X : String → Wd → Prop} {w : Wd} {x : Int32} (h : fX5_slot w = x) (hN : N (some (.int x)) w) : Ct (GA q) l 1 yX5_slot cX5_slot 1 ((some .int)) [.ref 34] w N X := Ct.of (by decide) (Nat.le_of_ble_eq_true rfl) (pX5_slot hN h)
/-! AlgolMill$Nest.take (I)I: S, 2 -/
theorem dX5_take_0 : decode cX5_take 0 = .ok (.aload_n 0, 1) := by decide +kernel
theorem dX5_take_1 : decode cX5_take 1 = .ok (.invokevirtual 45, 3) := by decide +kernel
theorem dX5_take_4 : decode cX5_take 4 = .ok (.istore_n 2, 1) := by decide +kernel
theorem dX5_take_5 : decode cX5_take 5 = .ok (.aload_n 0, 1) := by decide +kernel
theorem dX5_take_6 : decode cX5_take 6 = .ok (.getfield 13, 3) := by decide +kernel
theorem dX5_take_9 : decode cX5_take 9 = .ok (.aload_n 0, 1) := by decide +kernel
theorem dX5_take_10 : decode cX5_take 10 = .ok (.getfield 25, 3) := by decide +kernel
theorem dX5_take_13 : decode cX5_take 13 = .ok (.iload_n 2, 1) := by decide +kernel
theorem dX5_take_14 : decode cX5_take 14 = .ok (.iload_n 1, 1) := by decide +kernel
theorem dX5_take_15 : decode cX5_take 15 = .ok (.iadd, 1) := by decide +kernel
theorem dX5_take_16 : decode cX5_take 16 = .ok (.invokestatic 33, 3) := by decide +kernel
theorem dX5_take_19 : decode cX5_take 19 = .ok (.aload_n 0, 1) := by decide +kernel
theorem dX5_take_20 : decode cX5_take 20 = .ok (.getfield 16, 3) := by decide +kernel
theorem dX5_take_23 : decode cX5_take 23 = .ok (.aload_n 0, 1) := by decide +kernel
theorem dX5_take_24 : decode cX5_take 24 = .ok (.getfield 25, 3) := by decide +kernel
theorem dX5_take_27 : decode cX5_take 27 = .ok (.aload_n 0, 1) := by decide +kernel
theorem dX5_take_28 : decode cX5_take 28 = .ok (.getfield 16, 3) := by decide +kernel
theorem dX5_take_31 : decode cX5_take 31 = .ok (.aload_n 0, 1) := by decide +kernel
theorem dX5_take_32 : decode cX5_take 32 = .ok (.getfield 25, 3) := by decide +kernel
theorem dX5_take_35 : decode cX5_take 35 = .ok (.invokestatic 41, 3) := by decide +kernel
theorem dX5_take_38 : decode cX5_take 38 = .ok (.iload_n 2, 1) := by decide +kernel
theorem dX5_take_39 : decode cX5_take 39 = .ok (.iload_n 1, 1) := by decide +kernel
theorem dX5_take_40 : decode cX5_take 40 = .ok (.iadd, 1) := by decide +kernel
theorem dX5_take_41 : decode cX5_take 41 = .ok (.invokestatic 49, 3) := by decide +kernel
theorem dX5_take_44 : decode cX5_take 44 = .ok (.invokestatic 33, 3) := by decide +kernel
theorem dX5_take_47 : decode cX5_take 47 = .ok (.iload_n 2, 1) := by decide +kernel
theorem dX5_take_48 : decode cX5_take 48 = .ok (.ireturn, 1) := by decide +kernel
def fX5_take (a1 : Int32) (w : Wd) : Int32 × Wd :=
  lt (fX5_slot w) fun x1 => lt (rsi w 36 64 (gi w 34 5) (x1 + a1)) fun w2 => lt (rgi w2 37 64 (gi w2 34 5)) fun x3 => lt (fJ9_max_7cf53 x3 (x1 + a1)) fun x4 => lt (rsi w2 37 64 (gi w2 34 5) x4) fun w5 => (x1, w5)
theorem pX5_take {q : Gq} {l : Launch} {N : Option Value → Wd → Prop} {X : String → Wd → Prop} {w : Wd} {R : Int32 × Wd} (hN : N (some (.int R.1)) R.2) {a1 : Int32} (h : fX5_take a1 w = R) : RT (GA q) l 2 yX5_take cX5_take 3 ((some .int)) N X 0 [] [(0, .ref 34), (1, .int a1)] w := by
  unfold fX5_take at h
  refine r_aload_n (pc := 0) dX5_take_0 rfl 0 rfl ?_
  replace h := lt_e h; obtain ⟨x1, ex1, h⟩ := h
  refine r_cVi (pc := 1) wyX5_slot oA34 rfl mlRX5_45 iyX5_slot syX5_slot ⟨(Nat.le_of_ble_eq_true rfl), (Nat.le_of_ble_eq_true rfl)⟩ rfl rfl (Nat.le_of_ble_eq_true rfl) dX5_take_1 (mX5_slot ex1 (pI.mk ?_))
  refine r_istore_n (pc := 4) (loc' := [(2, .int x1), (0, .ref 34), (1, .int a1)]) dX5_take_4 rfl (Nat.le_of_ble_eq_true rfl) rfl ?_
  refine r_aload_n (pc := 5) dX5_take_5 rfl 1 rfl ?_
  refine r_get (pc := 6) (j := 1) (v := .ref 36) oA34 cf5 flRX5_13 rfl dX5_take_6 rfl ?_
  refine r_aload_n (pc := 9) dX5_take_9 rfl 1 rfl ?_
  refine r_get (pc := 10) (j := 5) (v := .int (gi w 34 5)) oA34 cf5 flRX5_25 rfl dX5_take_10 rfl ?_
  refine r_iload_n (pc := 13) dX5_take_13 rfl 0 rfl ?_
  refine r_iload_n (pc := 14) dX5_take_14 rfl 2 rfl ?_
  refine r_iadd (pc := 15) dX5_take_15 ?_
  replace h := lt_e h; obtain ⟨w2, ew2, h⟩ := h
  refine r_cSv (pc := 16) wyX6_set mlRX5_33 tyX6_set ⟨(Nat.le_of_ble_eq_true rfl), (Nat.le_of_ble_eq_true rfl)⟩ rfl rfl (Nat.le_of_ble_eq_true rfl) dX5_take_16 (mX6_set aA36 (Nat.le_of_ble_eq_true rfl) ew2 (pV.mk ?_))
  refine r_aload_n (pc := 19) dX5_take_19 rfl 1 rfl ?_
  refine r_get (pc := 20) (j := 2) (v := .ref 37) oA34 cf5 flRX5_16 rfl dX5_take_20 rfl ?_
  refine r_aload_n (pc := 23) dX5_take_23 rfl 1 rfl ?_
  refine r_get (pc := 24) (j := 5) (v := .int (gi w2 34 5)) oA34 cf5 flRX5_25 rfl dX5_take_24 rfl ?_
  refine r_aload_n (pc := 27) dX5_take_27 rfl 1 rfl ?_
  refine r_get (pc := 28) (j := 2) (v := .ref 37) oA34 cf5 flRX5_16 rfl dX5_take_28 rfl ?_
  refine r_aload_n (pc := 31) dX5_take_31 rfl 1 rfl ?_
  refine r_get (pc := 32) (j := 5) (v := .int (gi w2 34 5)) oA34 cf5 flRX5_25 rfl dX5_take_32 rfl ?_
  replace h := lt_e h; obtain ⟨x3, ex3, h⟩ := h
  refine r_cSi (pc := 35) wyX6_get mlRX5_41 tyX6_get ⟨(Nat.le_of_ble_eq_true rfl), (Nat.le_of_ble_eq_true rfl)⟩ rfl rfl (Nat.le_of_ble_eq_true rfl) dX5_take_35 (mX6_get aA37 (Nat.le_of_ble_eq_true rfl) ex3 (pI.mk ?_))
  refine r_iload_n (pc := 38) dX5_take_38 rfl 0 rfl ?_
  refine r_iload_n (pc := 39) dX5_take_39 rfl 2 rfl ?_
  refine r_iadd (pc := 40) dX5_take_40 ?_
  replace h := lt_e h; obtain ⟨x4, ex4, h⟩ := h
  refine r_cSi (pc := 41) wyJ9_max_7cf53 mlRX5_49 tyJ9_max_7cf53 ⟨(Nat.le_of_ble_eq_true rfl), (Nat.le_of_ble_eq_true rfl)⟩ rfl rfl (Nat.le_of_ble_eq_true rfl) dX5_take_41 (mJ9_max_7cf53 ex4 (pI.mk ?_))
  replace h := lt_e h; obtain ⟨w5, ew5, h⟩ := h
  refine r_cSv (pc := 44) wyX6_set mlRX5_33 tyX6_set ⟨(Nat.le_of_ble_eq_true rfl), (Nat.le_of_ble_eq_true rfl)⟩ rfl rfl (Nat.le_of_ble_eq_true rfl) dX5_take_44 (mX6_set aA37 (Nat.le_of_ble_eq_true rfl) ew5 (pV.mk ?_))
  refine r_iload_n (pc := 47) dX5_take_47 rfl 0 rfl ?_
  exact rS_i (pc := 48) rfl dX5_take_48 h hN
theorem mX5_take {q : Gq} {l : Launch} {N : Option Value → Wd → Prop} {X : String → Wd → Prop} {a1 : Int32} {w : Wd} {x : Int32} {u : Wd} (h : fX5_take a1 w = (x, u)) (hN : N (some (.int x)) u) : Ct (GA q) l 2 yX5_take cX5_take 3 ((some .int)) [.ref 34, .int a1] w N X := Ct.of (by decide) (Nat.le_of_ble_eq_true rfl) (pX5_take hN h)
/-! AlgolMill$Nest.giveBack (I)V: S, 1 -/
theorem dX5_giveBack_0 : decode cX5_giveBack 0 = .ok (.aload_n 0, 1) := by decide +kernel
theorem dX5_giveBack_1 : decode cX5_giveBack 1 = .ok (.getfield 13, 3) := by decide +kernel
theorem dX5_giveBack_4 : decode cX5_giveBack 4 = .ok (.aload_n 0, 1) := by decide +kernel
theorem dX5_giveBack_5 : decode cX5_giveBack 5 = .ok (.getfield 25, 3) := by decide +kernel
theorem dX5_giveBack_8 : decode cX5_giveBack 8 = .ok (.iload_n 1, 1) := by decide +kernel
theorem dX5_giveBack_9 : decode cX5_giveBack 9 = .ok (.invokestatic 33, 3) := by decide +kernel
theorem dX5_giveBack_12 : decode cX5_giveBack 12 = .ok (.return_, 1) := by decide +kernel
def fX5_giveBack (a1 : Int32) (w : Wd) : Wd :=
  lt (rsi w 36 64 (gi w 34 5) a1) fun w1 => w1
theorem pX5_giveBack {q : Gq} {l : Launch} {N : Option Value → Wd → Prop} {X : String → Wd → Prop} {w : Wd} {R : Wd} (hN : N none R) {a1 : Int32} (h : fX5_giveBack a1 w = R) : RT (GA q) l 1 yX5_giveBack cX5_giveBack 2 (none) N X 0 [] [(0, .ref 34), (1, .int a1)] w := by
  unfold fX5_giveBack at h
  refine r_aload_n (pc := 0) dX5_giveBack_0 rfl 0 rfl ?_
  refine r_get (pc := 1) (j := 1) (v := .ref 36) oA34 cf5 flRX5_13 rfl dX5_giveBack_1 rfl ?_
  refine r_aload_n (pc := 4) dX5_giveBack_4 rfl 0 rfl ?_
  refine r_get (pc := 5) (j := 5) (v := .int (gi w 34 5)) oA34 cf5 flRX5_25 rfl dX5_giveBack_5 rfl ?_
  refine r_iload_n (pc := 8) dX5_giveBack_8 rfl 1 rfl ?_
  replace h := lt_e h; obtain ⟨w1, ew1, h⟩ := h
  refine r_cSv (pc := 9) wyX6_set mlRX5_33 tyX6_set ⟨(Nat.le_of_ble_eq_true rfl), (Nat.le_of_ble_eq_true rfl)⟩ rfl rfl (Nat.le_of_ble_eq_true rfl) dX5_giveBack_9 (mX6_set aA36 (Nat.le_of_ble_eq_true rfl) ew1 (pV.mk ?_))
  exact rS_v (pc := 12) rfl dX5_giveBack_12 h hN
theorem mX5_giveBack {q : Gq} {l : Launch} {N : Option Value → Wd → Prop} {X : String → Wd → Prop} {a1 : Int32} {w : Wd} {u : Wd} (h : fX5_giveBack a1 w = u) (hN : N none u) : Ct (GA q) l 1 yX5_giveBack cX5_giveBack 2 (none) [.ref 34, .int a1] w N X := Ct.of (by decide) (Nat.le_of_ble_eq_true rfl) (pX5_giveBack hN h)
/-! AlgolMill$Nest.size ()I: P, 1 -/
theorem dX5_size_0 : decode cX5_size 0 = .ok (.aload_n 0, 1) := by decide +kernel
theorem dX5_size_1 : decode cX5_size 1 = .ok (.getfield 16, 3) := by decide +kernel
theorem dX5_size_4 : decode cX5_size 4 = .ok (.aload_n 0, 1) := by decide +kernel
theorem dX5_size_5 : decode cX5_size 5 = .ok (.getfield 25, 3) := by decide +kernel
theorem dX5_size_8 : decode cX5_size 8 = .ok (.invokestatic 41, 3) := by decide +kernel
theorem dX5_size_11 : decode cX5_size 11 = .ok (.ireturn, 1) := by decide +kernel
def fX5_size (w : Wd) : Int32 :=
  lt (rgi w 37 64 (gi w 34 5)) fun x1 => x1
theorem pX5_size {q : Gq} {l : Launch} {N : Option Value → Wd → Prop} {X : String → Wd → Prop} {w : Wd} {R : Int32} (hN : N (some (.int R)) w) (h : fX5_size w = R) : RT (GA q) l 1 yX5_size cX5_size 1 ((some .int)) N X 0 [] [(0, .ref 34)] w := by
  unfold fX5_size at h
  refine r_aload_n (pc := 0) dX5_size_0 rfl 0 rfl ?_
  refine r_get (pc := 1) (j := 2) (v := .ref 37) oA34 cf5 flRX5_16 rfl dX5_size_1 rfl ?_
  refine r_aload_n (pc := 4) dX5_size_4 rfl 0 rfl ?_
  refine r_get (pc := 5) (j := 5) (v := .int (gi w 34 5)) oA34 cf5 flRX5_25 rfl dX5_size_5 rfl ?_
  replace h := lt_e h; obtain ⟨x1, ex1, h⟩ := h
  refine r_cSi (pc := 8) wyX6_get mlRX5_41 tyX6_get ⟨(Nat.le_of_ble_eq_true rfl), (Nat.le_of_ble_eq_true rfl)⟩ rfl rfl (Nat.le_of_ble_eq_true rfl) dX5_size_8 (mX6_get aA37 (Nat.le_of_ble_eq_true rfl) ex1 (pI.mk ?_))
  exact rP_i (pc := 11) rfl dX5_size_11 h hN
theorem mX5_size {q : Gq} {l : Launch} {N : Option Value → Wd → Prop} {X : String → Wd → Prop} {w : Wd} {x : Int32} (h : fX5_size w = x) (hN : N (some (.int x)) w) : Ct (GA q) l 1 yX5_size cX5_size 1 ((some .int)) [.ref 34] w N X := Ct.of (by decide) (Nat.le_of_ble_eq_true rfl) (pX5_size hN h)
/-! AlgolMill$Nest.oneNameMore ()I: S, 1 -/
theorem dX5_oneNameMore_0 : decode cX5_oneNameMore 0 = .ok (.aload_n 0, 1) := by decide +kernel
theorem dX5_oneNameMore_1 : decode cX5_oneNameMore 1 = .ok (.getfield 19, 3) := by decide +kernel
theorem dX5_oneNameMore_4 : decode cX5_oneNameMore 4 = .ok (.aload_n 0, 1) := by decide +kernel
theorem dX5_oneNameMore_5 : decode cX5_oneNameMore 5 = .ok (.getfield 25, 3) := by decide +kernel
theorem dX5_oneNameMore_8 : decode cX5_oneNameMore 8 = .ok (.aload_n 0, 1) := by decide +kernel
theorem dX5_oneNameMore_9 : decode cX5_oneNameMore 9 = .ok (.getfield 19, 3) := by decide +kernel
theorem dX5_oneNameMore_12 : decode cX5_oneNameMore 12 = .ok (.aload_n 0, 1) := by decide +kernel
theorem dX5_oneNameMore_13 : decode cX5_oneNameMore 13 = .ok (.getfield 25, 3) := by decide +kernel
theorem dX5_oneNameMore_16 : decode cX5_oneNameMore 16 = .ok (.invokestatic 41, 3) := by decide +kernel
theorem dX5_oneNameMore_19 : decode cX5_oneNameMore 19 = .ok (.iconst 1, 1) := by decide +kernel
theorem dX5_oneNameMore_20 : decode cX5_oneNameMore 20 = .ok (.iadd, 1) := by decide +kernel
theorem dX5_oneNameMore_21 : decode cX5_oneNameMore 21 = .ok (.invokestatic 33, 3) := by decide +kernel
theorem dX5_oneNameMore_24 : decode cX5_oneNameMore 24 = .ok (.aload_n 0, 1) := by decide +kernel
theorem dX5_oneNameMore_25 : decode cX5_oneNameMore 25 = .ok (.getfield 19, 3) := by decide +kernel
theorem dX5_oneNameMore_28 : decode cX5_oneNameMore 28 = .ok (.aload_n 0, 1) := by decide +kernel
theorem dX5_oneNameMore_29 : decode cX5_oneNameMore 29 = .ok (.getfield 25, 3) := by decide +kernel
theorem dX5_oneNameMore_32 : decode cX5_oneNameMore 32 = .ok (.invokestatic 41, 3) := by decide +kernel
theorem dX5_oneNameMore_35 : decode cX5_oneNameMore 35 = .ok (.ireturn, 1) := by decide +kernel
def fX5_oneNameMore (w : Wd) : Int32 × Wd :=
  lt (rgi w 38 64 (gi w 34 5)) fun x1 => lt (rsi w 38 64 (gi w 34 5) (x1 + 1)) fun w2 => lt (rgi w2 38 64 (gi w2 34 5)) fun x3 => (x3, w2)
theorem pX5_oneNameMore {q : Gq} {l : Launch} {N : Option Value → Wd → Prop} {X : String → Wd → Prop} {w : Wd} {R : Int32 × Wd} (hN : N (some (.int R.1)) R.2) (h : fX5_oneNameMore w = R) : RT (GA q) l 1 yX5_oneNameMore cX5_oneNameMore 1 ((some .int)) N X 0 [] [(0, .ref 34)] w := by
  unfold fX5_oneNameMore at h
  refine r_aload_n (pc := 0) dX5_oneNameMore_0 rfl 0 rfl ?_
  refine r_get (pc := 1) (j := 3) (v := .ref 38) oA34 cf5 flRX5_19 rfl dX5_oneNameMore_1 rfl ?_
  refine r_aload_n (pc := 4) dX5_oneNameMore_4 rfl 0 rfl ?_
  refine r_get (pc := 5) (j := 5) (v := .int (gi w 34 5)) oA34 cf5 flRX5_25 rfl dX5_oneNameMore_5 rfl ?_
  refine r_aload_n (pc := 8) dX5_oneNameMore_8 rfl 0 rfl ?_
  refine r_get (pc := 9) (j := 3) (v := .ref 38) oA34 cf5 flRX5_19 rfl dX5_oneNameMore_9 rfl ?_
  refine r_aload_n (pc := 12) dX5_oneNameMore_12 rfl 0 rfl ?_
  refine r_get (pc := 13) (j := 5) (v := .int (gi w 34 5)) oA34 cf5 flRX5_25 rfl dX5_oneNameMore_13 rfl ?_
  replace h := lt_e h; obtain ⟨x1, ex1, h⟩ := h
  refine r_cSi (pc := 16) wyX6_get mlRX5_41 tyX6_get ⟨(Nat.le_of_ble_eq_true rfl), (Nat.le_of_ble_eq_true rfl)⟩ rfl rfl (Nat.le_of_ble_eq_true rfl) dX5_oneNameMore_16 (mX6_get aA38 (Nat.le_of_ble_eq_true rfl) ex1 (pI.mk ?_))
  refine r_iconst (pc := 19) dX5_oneNameMore_19 ki_1 ?_
  refine r_iadd (pc := 20) dX5_oneNameMore_20 ?_
  replace h := lt_e h; obtain ⟨w2, ew2, h⟩ := h
  refine r_cSv (pc := 21) wyX6_set mlRX5_33 tyX6_set ⟨(Nat.le_of_ble_eq_true rfl), (Nat.le_of_ble_eq_true rfl)⟩ rfl rfl (Nat.le_of_ble_eq_true rfl) dX5_oneNameMore_21 (mX6_set aA38 (Nat.le_of_ble_eq_true rfl) ew2 (pV.mk ?_))
  refine r_aload_n (pc := 24) dX5_oneNameMore_24 rfl 0 rfl ?_
  refine r_get (pc := 25) (j := 3) (v := .ref 38) oA34 cf5 flRX5_19 rfl dX5_oneNameMore_25 rfl ?_
  refine r_aload_n (pc := 28) dX5_oneNameMore_28 rfl 0 rfl ?_
  refine r_get (pc := 29) (j := 5) (v := .int (gi w2 34 5)) oA34 cf5 flRX5_25 rfl dX5_oneNameMore_29 rfl ?_
  replace h := lt_e h; obtain ⟨x3, ex3, h⟩ := h
  refine r_cSi (pc := 32) wyX6_get mlRX5_41 tyX6_get ⟨(Nat.le_of_ble_eq_true rfl), (Nat.le_of_ble_eq_true rfl)⟩ rfl rfl (Nat.le_of_ble_eq_true rfl) dX5_oneNameMore_32 (mX6_get aA38 (Nat.le_of_ble_eq_true rfl) ex3 (pI.mk ?_))
  exact rS_i (pc := 35) rfl dX5_oneNameMore_35 h hN
theorem mX5_oneNameMore {q : Gq} {l : Launch} {N : Option Value → Wd → Prop} {X : String → Wd → Prop} {w : Wd} {x : Int32} {u : Wd} (h : fX5_oneNameMore w = (x, u)) (hN : N (some (.int x)) u) : Ct (GA q) l 1 yX5_oneNameMore cX5_oneNameMore 1 ((some .int)) [.ref 34] w N X := Ct.of (by decide) (Nat.le_of_ble_eq_true rfl) (pX5_oneNameMore hN h)
/-! AlgolMill$Nest.keep ()I: P, 1 -/
theorem dX5_keep_0 : decode cX5_keep 0 = .ok (.aload_n 0, 1) := by decide +kernel
theorem dX5_keep_1 : decode cX5_keep 1 = .ok (.getfield 22, 3) := by decide +kernel
theorem dX5_keep_4 : decode cX5_keep 4 = .ok (.aload_n 0, 1) := by decide +kernel
theorem dX5_keep_5 : decode cX5_keep 5 = .ok (.getfield 25, 3) := by decide +kernel
theorem dX5_keep_8 : decode cX5_keep 8 = .ok (.invokestatic 41, 3) := by decide +kernel
theorem dX5_keep_11 : decode cX5_keep 11 = .ok (.ireturn, 1) := by decide +kernel
def fX5_keep (w : Wd) : Int32 :=
  lt (rgi w 39 64 (gi w 34 5)) fun x1 => x1
theorem pX5_keep {q : Gq} {l : Launch} {N : Option Value → Wd → Prop} {X : String → Wd → Prop} {w : Wd} {R : Int32} (hN : N (some (.int R)) w) (h : fX5_keep w = R) : RT (GA q) l 1 yX5_keep cX5_keep 1 ((some .int)) N X 0 [] [(0, .ref 34)] w := by
  unfold fX5_keep at h
  refine r_aload_n (pc := 0) dX5_keep_0 rfl 0 rfl ?_
  refine r_get (pc := 1) (j := 4) (v := .ref 39) oA34 cf5 flRX5_22 rfl dX5_keep_1 rfl ?_
  refine r_aload_n (pc := 4) dX5_keep_4 rfl 0 rfl ?_
  refine r_get (pc := 5) (j := 5) (v := .int (gi w 34 5)) oA34 cf5 flRX5_25 rfl dX5_keep_5 rfl ?_
  replace h := lt_e h; obtain ⟨x1, ex1, h⟩ := h
  refine r_cSi (pc := 8) wyX6_get mlRX5_41 tyX6_get ⟨(Nat.le_of_ble_eq_true rfl), (Nat.le_of_ble_eq_true rfl)⟩ rfl rfl (Nat.le_of_ble_eq_true rfl) dX5_keep_8 (mX6_get aA39 (Nat.le_of_ble_eq_true rfl) ex1 (pI.mk ?_))
  exact rP_i (pc := 11) rfl dX5_keep_11 h hN
theorem mX5_keep {q : Gq} {l : Launch} {N : Option Value → Wd → Prop} {X : String → Wd → Prop} {w : Wd} {x : Int32} (h : fX5_keep w = x) (hN : N (some (.int x)) w) : Ct (GA q) l 1 yX5_keep cX5_keep 1 ((some .int)) [.ref 34] w N X := Ct.of (by decide) (Nat.le_of_ble_eq_true rfl) (pX5_keep hN h)
/-! AlgolMill$Nest.keepAt (I)V: S, 1 -/
theorem dX5_keepAt_0 : decode cX5_keepAt 0 = .ok (.aload_n 0, 1) := by decide +kernel
theorem dX5_keepAt_1 : decode cX5_keepAt 1 = .ok (.getfield 22, 3) := by decide +kernel
theorem dX5_keepAt_4 : decode cX5_keepAt 4 = .ok (.aload_n 0, 1) := by decide +kernel
theorem dX5_keepAt_5 : decode cX5_keepAt 5 = .ok (.getfield 25, 3) := by decide +kernel
theorem dX5_keepAt_8 : decode cX5_keepAt 8 = .ok (.iload_n 1, 1) := by decide +kernel
theorem dX5_keepAt_9 : decode cX5_keepAt 9 = .ok (.invokestatic 33, 3) := by decide +kernel
theorem dX5_keepAt_12 : decode cX5_keepAt 12 = .ok (.return_, 1) := by decide +kernel
def fX5_keepAt (a1 : Int32) (w : Wd) : Wd :=
  lt (rsi w 39 64 (gi w 34 5) a1) fun w1 => w1
theorem pX5_keepAt {q : Gq} {l : Launch} {N : Option Value → Wd → Prop} {X : String → Wd → Prop} {w : Wd} {R : Wd} (hN : N none R) {a1 : Int32} (h : fX5_keepAt a1 w = R) : RT (GA q) l 1 yX5_keepAt cX5_keepAt 2 (none) N X 0 [] [(0, .ref 34), (1, .int a1)] w := by
  unfold fX5_keepAt at h
  refine r_aload_n (pc := 0) dX5_keepAt_0 rfl 0 rfl ?_
  refine r_get (pc := 1) (j := 4) (v := .ref 39) oA34 cf5 flRX5_22 rfl dX5_keepAt_1 rfl ?_
  refine r_aload_n (pc := 4) dX5_keepAt_4 rfl 0 rfl ?_
  refine r_get (pc := 5) (j := 5) (v := .int (gi w 34 5)) oA34 cf5 flRX5_25 rfl dX5_keepAt_5 rfl ?_
  refine r_iload_n (pc := 8) dX5_keepAt_8 rfl 1 rfl ?_
  replace h := lt_e h; obtain ⟨w1, ew1, h⟩ := h
  refine r_cSv (pc := 9) wyX6_set mlRX5_33 tyX6_set ⟨(Nat.le_of_ble_eq_true rfl), (Nat.le_of_ble_eq_true rfl)⟩ rfl rfl (Nat.le_of_ble_eq_true rfl) dX5_keepAt_9 (mX6_set aA39 (Nat.le_of_ble_eq_true rfl) ew1 (pV.mk ?_))
  exact rS_v (pc := 12) rfl dX5_keepAt_12 h hN
theorem mX5_keepAt {q : Gq} {l : Launch} {N : Option Value → Wd → Prop} {X : String → Wd → Prop} {a1 : Int32} {w : Wd} {u : Wd} (h : fX5_keepAt a1 w = u) (hN : N none u) : Ct (GA q) l 1 yX5_keepAt cX5_keepAt 2 (none) [.ref 34, .int a1] w N X := Ct.of (by decide) (Nat.le_of_ble_eq_true rfl) (pX5_keepAt hN h)
