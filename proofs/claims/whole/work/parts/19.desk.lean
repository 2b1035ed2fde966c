/-! Desk -/
theorem kb_19 : (Int8.ofInt 19).toInt32 = 19 := by decide
theorem kb_20 : (Int8.ofInt 20).toInt32 = 20 := by decide
theorem kb_21 : (Int8.ofInt 21).toInt32 = 21 := by decide
theorem kb_63 : (Int8.ofInt 63).toInt32 = 63 := by decide
/-! AlgolMill$Desk.clear ()V: O, 3 -/
theorem dX1_clear_0 : decode cX1_clear 0 = .ok (.aload_n 0, 1) := by decide +kernel
theorem dX1_clear_1 : decode cX1_clear 1 = .ok (.iconst 0, 1) := by decide +kernel
theorem dX1_clear_2 : decode cX1_clear 2 = .ok (.putfield 46, 3) := by decide +kernel
theorem dX1_clear_5 : decode cX1_clear 5 = .ok (.aload_n 0, 1) := by decide +kernel
theorem dX1_clear_6 : decode cX1_clear 6 = .ok (.iconst (-1), 1) := by decide +kernel
theorem dX1_clear_7 : decode cX1_clear 7 = .ok (.putfield 50, 3) := by decide +kernel
theorem dX1_clear_10 : decode cX1_clear 10 = .ok (.aload_n 0, 1) := by decide +kernel
theorem dX1_clear_11 : decode cX1_clear 11 = .ok (.getfield 19, 3) := by decide +kernel
theorem dX1_clear_14 : decode cX1_clear 14 = .ok (.aload_n 0, 1) := by decide +kernel
theorem dX1_clear_15 : decode cX1_clear 15 = .ok (.getfield 10, 3) := by decide +kernel
theorem dX1_clear_18 : decode cX1_clear 18 = .ok (.invokevirtual 53, 3) := by decide +kernel
theorem dX1_clear_21 : decode cX1_clear 21 = .ok (.invokevirtual 57, 3) := by decide +kernel
theorem dX1_clear_24 : decode cX1_clear 24 = .ok (.aload_n 0, 1) := by decide +kernel
theorem dX1_clear_25 : decode cX1_clear 25 = .ok (.getfield 28, 3) := by decide +kernel
theorem dX1_clear_28 : decode cX1_clear 28 = .ok (.invokevirtual 61, 3) := by decide +kernel
theorem dX1_clear_31 : decode cX1_clear 31 = .ok (.return_, 1) := by decide +kernel
def fX1_clear (w : Wd) : Option Wd :=
  lt (si w 3 6 0) fun w1 => lt (si w1 3 7 (-1)) fun w2 => lt (fX9_size w2) fun x3 => bn (fX8_clear x3 w2) fun w4 => bn (fX7_clear w4) fun w5 => some w5
theorem pX1_clear {q : Gq} {l : Launch} {N : Option Value → Wd → Prop} {X : String → Wd → Prop} {w : Wd} {R : Wd} (hN : N none R) (h : fX1_clear w = some R) : RT (GA q) l 3 yX1_clear cX1_clear 1 (none) N X 0 [] [(0, .ref 3)] w := by
  unfold fX1_clear at h
  refine r_aload_n (pc := 0) dX1_clear_0 rfl 0 rfl ?_
  refine r_iconst (pc := 1) dX1_clear_1 ki_0 ?_
  replace h := lt_e h; obtain ⟨w1, ew1, h⟩ := h
  refine r_putI (pc := 2) (j := 6) oA3 cf1 flRX1_46 rfl rfl rfl rfl dX1_clear_2 ?_
  refine r_w ew1 ?_
  refine r_aload_n (pc := 5) dX1_clear_5 rfl 0 rfl ?_
  refine r_iconst (pc := 6) dX1_clear_6 ki_m1 ?_
  replace h := lt_e h; obtain ⟨w2, ew2, h⟩ := h
  refine r_putI (pc := 7) (j := 7) oA3 cf1 flRX1_50 rfl rfl rfl rfl dX1_clear_7 ?_
  refine r_w ew2 ?_
  refine r_aload_n (pc := 10) dX1_clear_10 rfl 0 rfl ?_
  refine r_get (pc := 11) (j := 1) (v := .ref 13) oA3 cf1 flRX1_19 rfl dX1_clear_11 rfl ?_
  refine r_aload_n (pc := 14) dX1_clear_14 rfl 0 rfl ?_
  refine r_get (pc := 15) (j := 0) (v := .ref 4) oA3 cf1 flRX1_10 rfl dX1_clear_15 rfl ?_
  replace h := lt_e h; obtain ⟨x3, ex3, h⟩ := h
  refine r_cVi (pc := 18) wyX9_size oA4 rfl mlRX1_53 iyX9_size syX9_size ⟨(Nat.le_of_ble_eq_true rfl), (Nat.le_of_ble_eq_true rfl)⟩ rfl rfl (Nat.le_of_ble_eq_true rfl) dX1_clear_18 (mX9_size ex3 (pI.mk ?_))
  replace h := bn_e h; obtain ⟨w4, ew4, h⟩ := h
  refine r_cVv (pc := 21) wyX8_clear oA13 rfl mlRX1_57 iyX8_clear syX8_clear ⟨(Nat.le_of_ble_eq_true rfl), (Nat.le_of_ble_eq_true rfl)⟩ rfl rfl (Nat.le_of_ble_eq_true rfl) dX1_clear_21 (mX8_clear ew4 (pV.mk ?_))
  refine r_aload_n (pc := 24) dX1_clear_24 rfl 0 rfl ?_
  refine r_get (pc := 25) (j := 2) (v := .ref 26) oA3 cf1 flRX1_28 rfl dX1_clear_25 rfl ?_
  replace h := bn_e h; obtain ⟨w5, ew5, h⟩ := h
  refine r_cVv (pc := 28) wyX7_clear oA26 rfl mlRX1_61 iyX7_clear syX7_clear ⟨(Nat.le_of_ble_eq_true rfl), (Nat.le_of_ble_eq_true rfl)⟩ rfl rfl (Nat.le_of_ble_eq_true rfl) dX1_clear_28 (mX7_clear ew5 (pV.mk ?_))
  exact rO_v (pc := 31) rfl dX1_clear_31 h hN
theorem mX1_clear {q : Gq} {l : Launch} {N : Option Value → Wd → Prop} {X : String → Wd → Prop} {w : Wd} {u : Wd} (h : fX1_clear w = some u) (hN : N none u) : Ct (GA q) l 3 yX1_clear cX1_clear 1 (none) [.ref 3] w N X := Ct.of (by decide) (Nat.le_of_ble_eq_true rfl) (pX1_clear hN h)
/-! AlgolMill$Desk.restart (Z)V: S, 3 -/
theorem dX1_restart_0 : decode cX1_restart 0 = .ok (.aload_n 0, 1) := by decide +kernel
theorem dX1_restart_1 : decode cX1_restart 1 = .ok (.iload_n 1, 1) := by decide +kernel
theorem dX1_restart_2 : decode cX1_restart 2 = .ok (.putfield 63, 3) := by decide +kernel
theorem dX1_restart_5 : decode cX1_restart 5 = .ok (.aload_n 0, 1) := by decide +kernel
theorem dX1_restart_6 : decode cX1_restart 6 = .ok (.getfield 10, 3) := by decide +kernel
theorem dX1_restart_9 : decode cX1_restart 9 = .ok (.invokevirtual 67, 3) := by decide +kernel
theorem dX1_restart_12 : decode cX1_restart 12 = .ok (.aload_n 0, 1) := by decide +kernel
theorem dX1_restart_13 : decode cX1_restart 13 = .ok (.getfield 28, 3) := by decide +kernel
theorem dX1_restart_16 : decode cX1_restart 16 = .ok (.invokevirtual 70, 3) := by decide +kernel
theorem dX1_restart_19 : decode cX1_restart 19 = .ok (.aload_n 0, 1) := by decide +kernel
theorem dX1_restart_20 : decode cX1_restart 20 = .ok (.getfield 35, 3) := by decide +kernel
theorem dX1_restart_23 : decode cX1_restart 23 = .ok (.invokevirtual 73, 3) := by decide +kernel
theorem dX1_restart_26 : decode cX1_restart 26 = .ok (.aload_n 0, 1) := by decide +kernel
theorem dX1_restart_27 : decode cX1_restart 27 = .ok (.getfield 42, 3) := by decide +kernel
theorem dX1_restart_30 : decode cX1_restart 30 = .ok (.aload_n 0, 1) := by decide +kernel
theorem dX1_restart_31 : decode cX1_restart 31 = .ok (.getfield 19, 3) := by decide +kernel
theorem dX1_restart_34 : decode cX1_restart 34 = .ok (.invokevirtual 74, 3) := by decide +kernel
theorem dX1_restart_37 : decode cX1_restart 37 = .ok (.invokevirtual 75, 3) := by decide +kernel
theorem dX1_restart_40 : decode cX1_restart 40 = .ok (.return_, 1) := by decide +kernel
def fX1_restart (a1 : Bool) (w : Wd) : Wd :=
  lt (si w 3 5 (b2i a1)) fun w1 => lt (fX9_rewind w1) fun w2 => lt (fX7_restart w2) fun w3 => lt (fX5_restart w3) fun w4 => lt (fX8_size w4) fun x5 => lt (fX0_restart x5 w4) fun w6 => w6
theorem pX1_restart {q : Gq} {l : Launch} {N : Option Value → Wd → Prop} {X : String → Wd → Prop} {w : Wd} {R : Wd} (hN : N none R) {a1 : Bool} (h : fX1_restart a1 w = R) : RT (GA q) l 3 yX1_restart cX1_restart 2 (none) N X 0 [] [(0, .ref 3), (1, .int (b2i a1))] w := by
  unfold fX1_restart at h
  refine r_aload_n (pc := 0) dX1_restart_0 rfl 0 rfl ?_
  refine r_iload_n (pc := 1) dX1_restart_1 rfl 1 rfl ?_
  replace h := lt_e h; obtain ⟨w1, ew1, h⟩ := h
  refine r_putI (pc := 2) (j := 5) oA3 cf1 flRX1_63 rfl rfl (b2i_nar _) (b2i_fit _) dX1_restart_2 ?_
  refine r_w ew1 ?_
  refine r_aload_n (pc := 5) dX1_restart_5 rfl 0 rfl ?_
  refine r_get (pc := 6) (j := 0) (v := .ref 4) oA3 cf1 flRX1_10 rfl dX1_restart_6 rfl ?_
  replace h := lt_e h; obtain ⟨w2, ew2, h⟩ := h
  refine r_cVv (pc := 9) wyX9_rewind oA4 rfl mlRX1_67 iyX9_rewind syX9_rewind ⟨(Nat.le_of_ble_eq_true rfl), (Nat.le_of_ble_eq_true rfl)⟩ rfl rfl (Nat.le_of_ble_eq_true rfl) dX1_restart_9 (mX9_rewind ew2 (pV.mk ?_))
  refine r_aload_n (pc := 12) dX1_restart_12 rfl 0 rfl ?_
  refine r_get (pc := 13) (j := 2) (v := .ref 26) oA3 cf1 flRX1_28 rfl dX1_restart_13 rfl ?_
  replace h := lt_e h; obtain ⟨w3, ew3, h⟩ := h
  refine r_cVv (pc := 16) wyX7_restart oA26 rfl mlRX1_70 iyX7_restart syX7_restart ⟨(Nat.le_of_ble_eq_true rfl), (Nat.le_of_ble_eq_true rfl)⟩ rfl rfl (Nat.le_of_ble_eq_true rfl) dX1_restart_16 (mX7_restart ew3 (pV.mk ?_))
  refine r_aload_n (pc := 19) dX1_restart_19 rfl 0 rfl ?_
  refine r_get (pc := 20) (j := 3) (v := .ref 34) oA3 cf1 flRX1_35 rfl dX1_restart_20 rfl ?_
  replace h := lt_e h; obtain ⟨w4, ew4, h⟩ := h
  refine r_cVv (pc := 23) wyX5_restart oA34 rfl mlRX1_73 iyX5_restart syX5_restart ⟨(Nat.le_of_ble_eq_true rfl), (Nat.le_of_ble_eq_true rfl)⟩ rfl rfl (Nat.le_of_ble_eq_true rfl) dX1_restart_23 (mX5_restart ew4 (pV.mk ?_))
  refine r_aload_n (pc := 26) dX1_restart_26 rfl 0 rfl ?_
  refine r_get (pc := 27) (j := 4) (v := .ref 40) oA3 cf1 flRX1_42 rfl dX1_restart_27 rfl ?_
  refine r_aload_n (pc := 30) dX1_restart_30 rfl 0 rfl ?_
  refine r_get (pc := 31) (j := 1) (v := .ref 13) oA3 cf1 flRX1_19 rfl dX1_restart_31 rfl ?_
  replace h := lt_e h; obtain ⟨x5, ex5, h⟩ := h
  refine r_cVi (pc := 34) wyX8_size oA13 rfl mlRX1_74 iyX8_size syX8_size ⟨(Nat.le_of_ble_eq_true rfl), (Nat.le_of_ble_eq_true rfl)⟩ rfl rfl (Nat.le_of_ble_eq_true rfl) dX1_restart_34 (mX8_size ex5 (pI.mk ?_))
  replace h := lt_e h; obtain ⟨w6, ew6, h⟩ := h
  refine r_cVv (pc := 37) wyX0_restart oA40 rfl mlRX1_75 iyX0_restart syX0_restart ⟨(Nat.le_of_ble_eq_true rfl), (Nat.le_of_ble_eq_true rfl)⟩ rfl rfl (Nat.le_of_ble_eq_true rfl) dX1_restart_37 (mX0_restart ew6 (pV.mk ?_))
  exact rS_v (pc := 40) rfl dX1_restart_40 h hN
theorem mX1_restart {q : Gq} {l : Launch} {N : Option Value → Wd → Prop} {X : String → Wd → Prop} {a1 : Bool} {w : Wd} {u : Wd} (h : fX1_restart a1 w = u) (hN : N none u) : Ct (GA q) l 3 yX1_restart cX1_restart 2 (none) [.ref 3, .int (b2i a1)] w N X := Ct.of (by decide) (Nat.le_of_ble_eq_true rfl) (pX1_restart hN h)
/-! AlgolMill$Desk.note (II)V: S, 2 -/
theorem dX1_note_0 : decode cX1_note 0 = .ok (.aload_n 0, 1) := by decide +kernel
theorem dX1_note_1 : decode cX1_note 1 = .ok (.getfield 10, 3) := by decide +kernel
theorem dX1_note_4 : decode cX1_note 4 = .ok (.iload_n 1, 1) := by decide +kernel
theorem dX1_note_5 : decode cX1_note 5 = .ok (.invokevirtual 77, 3) := by decide +kernel
theorem dX1_note_8 : decode cX1_note 8 = .ok (.istore_n 3, 1) := by decide +kernel
theorem dX1_note_9 : decode cX1_note 9 = .ok (.aload_n 0, 1) := by decide +kernel
theorem dX1_note_10 : decode cX1_note 10 = .ok (.getfield 46, 3) := by decide +kernel
theorem dX1_note_13 : decode cX1_note 13 = .ok (.ifCond .eq 27, 3) := by decide +kernel
theorem dX1_note_16 : decode cX1_note 16 = .ok (.iload_n 3, 1) := by decide +kernel
theorem dX1_note_17 : decode cX1_note 17 = .ok (.aload_n 0, 1) := by decide +kernel
theorem dX1_note_18 : decode cX1_note 18 = .ok (.getfield 50, 3) := by decide +kernel
theorem dX1_note_21 : decode cX1_note 21 = .ok (.if_icmp .lt 19, 3) := by decide +kernel
theorem dX1_note_24 : decode cX1_note 24 = .ok (.iload_n 3, 1) := by decide +kernel
theorem dX1_note_25 : decode cX1_note 25 = .ok (.aload_n 0, 1) := by decide +kernel
theorem dX1_note_26 : decode cX1_note 26 = .ok (.getfield 50, 3) := by decide +kernel
theorem dX1_note_29 : decode cX1_note 29 = .ok (.if_icmp .ne 21, 3) := by decide +kernel
theorem dX1_note_32 : decode cX1_note 32 = .ok (.iload_n 2, 1) := by decide +kernel
theorem dX1_note_33 : decode cX1_note 33 = .ok (.aload_n 0, 1) := by decide +kernel
theorem dX1_note_34 : decode cX1_note 34 = .ok (.getfield 46, 3) := by decide +kernel
theorem dX1_note_37 : decode cX1_note 37 = .ok (.if_icmp .ge 13, 3) := by decide +kernel
theorem dX1_note_40 : decode cX1_note 40 = .ok (.aload_n 0, 1) := by decide +kernel
theorem dX1_note_41 : decode cX1_note 41 = .ok (.iload_n 2, 1) := by decide +kernel
theorem dX1_note_42 : decode cX1_note 42 = .ok (.putfield 46, 3) := by decide +kernel
theorem dX1_note_45 : decode cX1_note 45 = .ok (.aload_n 0, 1) := by decide +kernel
theorem dX1_note_46 : decode cX1_note 46 = .ok (.iload_n 3, 1) := by decide +kernel
theorem dX1_note_47 : decode cX1_note 47 = .ok (.putfield 50, 3) := by decide +kernel
theorem dX1_note_50 : decode cX1_note 50 = .ok (.return_, 1) := by decide +kernel
def fX1_note (a1 : Int32) (a2 : Int32) (w : Wd) : Wd :=
  lt (fX9_where a1 w) fun x1 => if (gi w 3 6) = 0 then (lt (si w 3 6 a2) fun w3 => lt (si w3 3 7 x1) fun w4 => w4) else (if x1 < (gi w 3 7) then (lt (si w 3 6 a2) fun w6 => lt (si w6 3 7 x1) fun w7 => w7) else (if x1 = (gi w 3 7) then (if (gi w 3 6) ≤ a2 then (w) else (lt (si w 3 6 a2) fun w10 => lt (si w10 3 7 x1) fun w11 => w11)) else (w)))
theorem pX1_note {q : Gq} {l : Launch} {N : Option Value → Wd → Prop} {X : String → Wd → Prop} {w : Wd} {R : Wd} (hN : N none R) {a1 : Int32} {a2 : Int32} (h : fX1_note a1 a2 w = R) : RT (GA q) l 2 yX1_note cX1_note 4 (none) N X 0 [] [(0, .ref 3), (1, .int a1), (2, .int a2)] w := by
  unfold fX1_note at h
  refine r_aload_n (pc := 0) dX1_note_0 rfl 0 rfl ?_
  refine r_get (pc := 1) (j := 0) (v := .ref 4) oA3 cf1 flRX1_10 rfl dX1_note_1 rfl ?_
  refine r_iload_n (pc := 4) dX1_note_4 rfl 1 rfl ?_
  replace h := lt_e h; obtain ⟨x1, ex1, h⟩ := h
  refine r_cVi (pc := 5) wyX9_where oA4 rfl mlRX1_77 iyX9_where syX9_where ⟨(Nat.le_of_ble_eq_true rfl), (Nat.le_of_ble_eq_true rfl)⟩ rfl rfl (Nat.le_of_ble_eq_true rfl) dX1_note_5 (mX9_where ex1 (pI.mk ?_))
  refine r_istore_n (pc := 8) (loc' := [(3, .int x1), (0, .ref 3), (1, .int a1), (2, .int a2)]) dX1_note_8 rfl (Nat.le_of_ble_eq_true rfl) rfl ?_
  refine r_aload_n (pc := 9) dX1_note_9 rfl 1 rfl ?_
  refine r_get (pc := 10) (j := 6) (v := .int (gi w 3 6)) oA3 cf1 flRX1_46 rfl dX1_note_10 rfl ?_
  refine r_if_eq (pc := 13) dX1_note_13 rfl (fun hc2 => ?_) (fun hc2 => ?_)
  · replace h := if_t hc2 h
    refine r_aload_n (pc := 40) dX1_note_40 rfl 1 rfl ?_
    refine r_iload_n (pc := 41) dX1_note_41 rfl 3 rfl ?_
    replace h := lt_e h; obtain ⟨w3, ew3, h⟩ := h
    refine r_putI (pc := 42) (j := 6) oA3 cf1 flRX1_46 rfl rfl rfl rfl dX1_note_42 ?_
    refine r_w ew3 ?_
    refine r_aload_n (pc := 45) dX1_note_45 rfl 1 rfl ?_
    refine r_iload_n (pc := 46) dX1_note_46 rfl 0 rfl ?_
    replace h := lt_e h; obtain ⟨w4, ew4, h⟩ := h
    refine r_putI (pc := 47) (j := 7) oA3 cf1 flRX1_50 rfl rfl rfl rfl dX1_note_47 ?_
    refine r_w ew4 ?_
    exact rS_v (pc := 50) rfl dX1_note_50 h hN
  replace h := if_f hc2 h
  refine r_iload_n (pc := 16) dX1_note_16 rfl 0 rfl ?_
  refine r_aload_n (pc := 17) dX1_note_17 rfl 1 rfl ?_
  refine r_get (pc := 18) (j := 7) (v := .int (gi w 3 7)) oA3 cf1 flRX1_50 rfl dX1_note_18 rfl ?_
  refine r_icmp_lt (pc := 21) dX1_note_21 rfl (fun hc5 => ?_) (fun hc5 => ?_)
  · replace h := if_t hc5 h
    refine r_aload_n (pc := 40) dX1_note_40 rfl 1 rfl ?_
    refine r_iload_n (pc := 41) dX1_note_41 rfl 3 rfl ?_
    replace h := lt_e h; obtain ⟨w6, ew6, h⟩ := h
    refine r_putI (pc := 42) (j := 6) oA3 cf1 flRX1_46 rfl rfl rfl rfl dX1_note_42 ?_
    refine r_w ew6 ?_
    refine r_aload_n (pc := 45) dX1_note_45 rfl 1 rfl ?_
    refine r_iload_n (pc := 46) dX1_note_46 rfl 0 rfl ?_
    replace h := lt_e h; obtain ⟨w7, ew7, h⟩ := h
    refine r_putI (pc := 47) (j := 7) oA3 cf1 flRX1_50 rfl rfl rfl rfl dX1_note_47 ?_
    refine r_w ew7 ?_
    exact rS_v (pc := 50) rfl dX1_note_50 h hN
  replace h := if_f hc5 h
  refine r_iload_n (pc := 24) dX1_note_24 rfl 0 rfl ?_
  refine r_aload_n (pc := 25) dX1_note_25 rfl 1 rfl ?_
  refine r_get (pc := 26) (j := 7) (v := .int (gi w 3 7)) oA3 cf1 flRX1_50 rfl dX1_note_26 rfl ?_
  refine r_icmp_ne (pc := 29) dX1_note_29 rfl (fun hc8 => ?_) (fun hc8 => ?_)
  · replace h := if_f hc8 h
    exact rS_v (pc := 50) rfl dX1_note_50 h hN
  replace h := if_t hc8 h
  refine r_iload_n (pc := 32) dX1_note_32 rfl 3 rfl ?_
  refine r_aload_n (pc := 33) dX1_note_33 rfl 1 rfl ?_
  refine r_get (pc := 34) (j := 6) (v := .int (gi w 3 6)) oA3 cf1 flRX1_46 rfl dX1_note_34 rfl ?_
  refine r_icmp_ge (pc := 37) dX1_note_37 rfl (fun hc9 => ?_) (fun hc9 => ?_)
  · replace h := if_t hc9 h
    exact rS_v (pc := 50) rfl dX1_note_50 h hN
  replace h := if_f hc9 h
  refine r_aload_n (pc := 40) dX1_note_40 rfl 1 rfl ?_
  refine r_iload_n (pc := 41) dX1_note_41 rfl 3 rfl ?_
  replace h := lt_e h; obtain ⟨w10, ew10, h⟩ := h
  refine r_putI (pc := 42) (j := 6) oA3 cf1 flRX1_46 rfl rfl rfl rfl dX1_note_42 ?_
  refine r_w ew10 ?_
  refine r_aload_n (pc := 45) dX1_note_45 rfl 1 rfl ?_
  refine r_iload_n (pc := 46) dX1_note_46 rfl 0 rfl ?_
  replace h := lt_e h; obtain ⟨w11, ew11, h⟩ := h
  refine r_putI (pc := 47) (j := 7) oA3 cf1 flRX1_50 rfl rfl rfl rfl dX1_note_47 ?_
  refine r_w ew11 ?_
  exact rS_v (pc := 50) rfl dX1_note_50 h hN
theorem mX1_note {q : Gq} {l : Launch} {N : Option Value → Wd → Prop} {X : String → Wd → Prop} {a1 : Int32} {a2 : Int32} {w : Wd} {u : Wd} (h : fX1_note a1 a2 w = u) (hN : N none u) : Ct (GA q) l 2 yX1_note cX1_note 4 (none) [.ref 3, .int a1, .int a2] w N X := Ct.of (by decide) (Nat.le_of_ble_eq_true rfl) (pX1_note hN h)
/-! AlgolMill$Desk.wrong (II)V: S, 3 -/
theorem dX1_wrong_0 : decode cX1_wrong 0 = .ok (.aload_n 0, 1) := by decide +kernel
theorem dX1_wrong_1 : decode cX1_wrong 1 = .ok (.getfield 63, 3) := by decide +kernel
theorem dX1_wrong_4 : decode cX1_wrong 4 = .ok (.ifCond .eq 9, 3) := by decide +kernel
theorem dX1_wrong_7 : decode cX1_wrong 7 = .ok (.aload_n 0, 1) := by decide +kernel
theorem dX1_wrong_8 : decode cX1_wrong 8 = .ok (.iload_n 1, 1) := by decide +kernel
theorem dX1_wrong_9 : decode cX1_wrong 9 = .ok (.iload_n 2, 1) := by decide +kernel
theorem dX1_wrong_10 : decode cX1_wrong 10 = .ok (.invokevirtual 81, 3) := by decide +kernel
theorem dX1_wrong_13 : decode cX1_wrong 13 = .ok (.return_, 1) := by decide +kernel
def fX1_wrong (a1 : Int32) (a2 : Int32) (w : Wd) : Wd :=
  if (gi w 3 5) = 0 then (w) else (lt (fX1_note a1 a2 w) fun w2 => w2)
theorem pX1_wrong {q : Gq} {l : Launch} {N : Option Value → Wd → Prop} {X : String → Wd → Prop} {w : Wd} {R : Wd} (hN : N none R) {a1 : Int32} {a2 : Int32} (h : fX1_wrong a1 a2 w = R) : RT (GA q) l 3 yX1_wrong cX1_wrong 3 (none) N X 0 [] [(0, .ref 3), (1, .int a1), (2, .int a2)] w := by
  unfold fX1_wrong at h
  refine r_aload_n (pc := 0) dX1_wrong_0 rfl 0 rfl ?_
  refine r_get (pc := 1) (j := 5) (v := .int (gi w 3 5)) oA3 cf1 flRX1_63 rfl dX1_wrong_1 rfl ?_
  refine r_if_eq (pc := 4) dX1_wrong_4 rfl (fun hc1 => ?_) (fun hc1 => ?_)
  · replace h := if_t hc1 h
    exact rS_v (pc := 13) rfl dX1_wrong_13 h hN
  replace h := if_f hc1 h
  refine r_aload_n (pc := 7) dX1_wrong_7 rfl 0 rfl ?_
  refine r_iload_n (pc := 8) dX1_wrong_8 rfl 1 rfl ?_
  refine r_iload_n (pc := 9) dX1_wrong_9 rfl 2 rfl ?_
  replace h := lt_e h; obtain ⟨w2, ew2, h⟩ := h
  refine r_cVv (pc := 10) wyX1_note oA3 rfl mlRX1_81 iyX1_note syX1_note ⟨(Nat.le_of_ble_eq_true rfl), (Nat.le_of_ble_eq_true rfl)⟩ rfl rfl (Nat.le_of_ble_eq_true rfl) dX1_wrong_10 (mX1_note ew2 (pV.mk ?_))
  exact rS_v (pc := 13) rfl dX1_wrong_13 h hN
theorem mX1_wrong {q : Gq} {l : Launch} {N : Option Value → Wd → Prop} {X : String → Wd → Prop} {a1 : Int32} {a2 : Int32} {w : Wd} {u : Wd} (h : fX1_wrong a1 a2 w = u) (hN : N none u) : Ct (GA q) l 3 yX1_wrong cX1_wrong 3 (none) [.ref 3, .int a1, .int a2] w N X := Ct.of (by decide) (Nat.le_of_ble_eq_true rfl) (pX1_wrong hN h)
/-! AlgolMill$Desk.find (I)I: S, 3 -/
theorem dX1_find_0 : decode cX1_find 0 = .ok (.aload_n 0, 1) := by decide +kernel
theorem dX1_find_1 : decode cX1_find 1 = .ok (.getfield 63, 3) := by decide +kernel
theorem dX1_find_4 : decode cX1_find 4 = .ok (.ifCond .ne 5, 3) := by decide +kernel
theorem dX1_find_7 : decode cX1_find 7 = .ok (.iconst 0, 1) := by decide +kernel
theorem dX1_find_8 : decode cX1_find 8 = .ok (.ireturn, 1) := by decide +kernel
theorem dX1_find_9 : decode cX1_find 9 = .ok (.aload_n 0, 1) := by decide +kernel
theorem dX1_find_10 : decode cX1_find 10 = .ok (.getfield 28, 3) := by decide +kernel
theorem dX1_find_13 : decode cX1_find 13 = .ok (.aload_n 0, 1) := by decide +kernel
theorem dX1_find_14 : decode cX1_find 14 = .ok (.getfield 10, 3) := by decide +kernel
theorem dX1_find_17 : decode cX1_find 17 = .ok (.iload_n 1, 1) := by decide +kernel
theorem dX1_find_18 : decode cX1_find 18 = .ok (.invokevirtual 85, 3) := by decide +kernel
theorem dX1_find_21 : decode cX1_find 21 = .ok (.invokevirtual 88, 3) := by decide +kernel
theorem dX1_find_24 : decode cX1_find 24 = .ok (.istore_n 2, 1) := by decide +kernel
theorem dX1_find_25 : decode cX1_find 25 = .ok (.iload_n 2, 1) := by decide +kernel
theorem dX1_find_26 : decode cX1_find 26 = .ok (.ifCond .ne 9, 3) := by decide +kernel
theorem dX1_find_29 : decode cX1_find 29 = .ok (.aload_n 0, 1) := by decide +kernel
theorem dX1_find_30 : decode cX1_find 30 = .ok (.iload_n 1, 1) := by decide +kernel
theorem dX1_find_31 : decode cX1_find 31 = .ok (.iconst 2, 1) := by decide +kernel
theorem dX1_find_32 : decode cX1_find 32 = .ok (.invokevirtual 81, 3) := by decide +kernel
theorem dX1_find_35 : decode cX1_find 35 = .ok (.iload_n 2, 1) := by decide +kernel
theorem dX1_find_36 : decode cX1_find 36 = .ok (.ireturn, 1) := by decide +kernel
def fX1_find (a1 : Int32) (w : Wd) : Int32 × Wd :=
  if (gi w 3 5) = 0 then ((0, w)) else (lt (fX9_nameOf a1 w) fun x2 => lt (fX7_find x2 w) fun x3 => if x3 = 0 then (lt (fX1_note a1 2 w) fun w5 => (x3, w5)) else ((x3, w)))
theorem pX1_find {q : Gq} {l : Launch} {N : Option Value → Wd → Prop} {X : String → Wd → Prop} {w : Wd} {R : Int32 × Wd} (hN : N (some (.int R.1)) R.2) {a1 : Int32} (h : fX1_find a1 w = R) : RT (GA q) l 3 yX1_find cX1_find 3 ((some .int)) N X 0 [] [(0, .ref 3), (1, .int a1)] w := by
  unfold fX1_find at h
  refine r_aload_n (pc := 0) dX1_find_0 rfl 0 rfl ?_
  refine r_get (pc := 1) (j := 5) (v := .int (gi w 3 5)) oA3 cf1 flRX1_63 rfl dX1_find_1 rfl ?_
  refine r_if_ne (pc := 4) dX1_find_4 rfl (fun hc1 => ?_) (fun hc1 => ?_)
  · replace h := if_f hc1 h
    refine r_aload_n (pc := 9) dX1_find_9 rfl 0 rfl ?_
    refine r_get (pc := 10) (j := 2) (v := .ref 26) oA3 cf1 flRX1_28 rfl dX1_find_10 rfl ?_
    refine r_aload_n (pc := 13) dX1_find_13 rfl 0 rfl ?_
    refine r_get (pc := 14) (j := 0) (v := .ref 4) oA3 cf1 flRX1_10 rfl dX1_find_14 rfl ?_
    refine r_iload_n (pc := 17) dX1_find_17 rfl 1 rfl ?_
    replace h := lt_e h; obtain ⟨x2, ex2, h⟩ := h
    refine r_cVi (pc := 18) wyX9_nameOf oA4 rfl mlRX1_85 iyX9_nameOf syX9_nameOf ⟨(Nat.le_of_ble_eq_true rfl), (Nat.le_of_ble_eq_true rfl)⟩ rfl rfl (Nat.le_of_ble_eq_true rfl) dX1_find_18 (mX9_nameOf ex2 (pI.mk ?_))
    replace h := lt_e h; obtain ⟨x3, ex3, h⟩ := h
    refine r_cVi (pc := 21) wyX7_find oA26 rfl mlRX1_88 iyX7_find syX7_find ⟨(Nat.le_of_ble_eq_true rfl), (Nat.le_of_ble_eq_true rfl)⟩ rfl rfl (Nat.le_of_ble_eq_true rfl) dX1_find_21 (mX7_find ex3 (pI.mk ?_))
    refine r_istore_n (pc := 24) (loc' := [(2, .int x3), (0, .ref 3), (1, .int a1)]) dX1_find_24 rfl (Nat.le_of_ble_eq_true rfl) rfl ?_
    refine r_iload_n (pc := 25) dX1_find_25 rfl 0 rfl ?_
    refine r_if_ne (pc := 26) dX1_find_26 rfl (fun hc4 => ?_) (fun hc4 => ?_)
    · replace h := if_f hc4 h
      refine r_iload_n (pc := 35) dX1_find_35 rfl 0 rfl ?_
      exact rS_i (pc := 36) rfl dX1_find_36 h hN
    replace h := if_t hc4 h
    refine r_aload_n (pc := 29) dX1_find_29 rfl 1 rfl ?_
    refine r_iload_n (pc := 30) dX1_find_30 rfl 2 rfl ?_
    refine r_iconst (pc := 31) dX1_find_31 ki_2 ?_
    replace h := lt_e h; obtain ⟨w5, ew5, h⟩ := h
    refine r_cVv (pc := 32) wyX1_note oA3 rfl mlRX1_81 iyX1_note syX1_note ⟨(Nat.le_of_ble_eq_true rfl), (Nat.le_of_ble_eq_true rfl)⟩ rfl rfl (Nat.le_of_ble_eq_true rfl) dX1_find_32 (mX1_note ew5 (pV.mk ?_))
    refine r_iload_n (pc := 35) dX1_find_35 rfl 0 rfl ?_
    exact rS_i (pc := 36) rfl dX1_find_36 h hN
  replace h := if_t hc1 h
  refine r_iconst (pc := 7) dX1_find_7 ki_0 ?_
  exact rS_i (pc := 8) rfl dX1_find_8 h hN
theorem mX1_find {q : Gq} {l : Launch} {N : Option Value → Wd → Prop} {X : String → Wd → Prop} {a1 : Int32} {w : Wd} {x : Int32} {u : Wd} (h : fX1_find a1 w = (x, u)) (hN : N (some (.int x)) u) : Ct (GA q) l 3 yX1_find cX1_find 3 ((some .int)) [.ref 3, .int a1] w N X := Ct.of (by decide) (Nat.le_of_ble_eq_true rfl) (pX1_find hN h)
/-! AlgolMill$Desk.isSort (II)Z: P, 2 -/
theorem dX1_isSort_0 : decode cX1_isSort 0 = .ok (.aload_n 0, 1) := by decide +kernel
theorem dX1_isSort_1 : decode cX1_isSort 1 = .ok (.getfield 19, 3) := by decide +kernel
theorem dX1_isSort_4 : decode cX1_isSort 4 = .ok (.iload_n 1, 1) := by decide +kernel
theorem dX1_isSort_5 : decode cX1_isSort 5 = .ok (.invokevirtual 91, 3) := by decide +kernel
theorem dX1_isSort_8 : decode cX1_isSort 8 = .ok (.iload_n 2, 1) := by decide +kernel
theorem dX1_isSort_9 : decode cX1_isSort 9 = .ok (.if_icmp .eq 14, 3) := by decide +kernel
theorem dX1_isSort_12 : decode cX1_isSort 12 = .ok (.aload_n 0, 1) := by decide +kernel
theorem dX1_isSort_13 : decode cX1_isSort 13 = .ok (.getfield 19, 3) := by decide +kernel
theorem dX1_isSort_16 : decode cX1_isSort 16 = .ok (.iload_n 1, 1) := by decide +kernel
theorem dX1_isSort_17 : decode cX1_isSort 17 = .ok (.invokevirtual 91, 3) := by decide +kernel
theorem dX1_isSort_20 : decode cX1_isSort 20 = .ok (.ifCond .ne 7, 3) := by decide +kernel
theorem dX1_isSort_23 : decode cX1_isSort 23 = .ok (.iconst 1, 1) := by decide +kernel
theorem dX1_isSort_24 : decode cX1_isSort 24 = .ok (.goto 4, 3) := by decide +kernel
theorem dX1_isSort_27 : decode cX1_isSort 27 = .ok (.iconst 0, 1) := by decide +kernel
theorem dX1_isSort_28 : decode cX1_isSort 28 = .ok (.ireturn, 1) := by decide +kernel
def fX1_isSort (a1 : Int32) (a2 : Int32) (w : Wd) : Bool :=
  lt (fX8_sort a1 w) fun x1 => if x1 = a2 then (true) else (lt (fX8_sort a1 w) fun x3 => if x3 = 0 then (true) else (false))
theorem pX1_isSort {q : Gq} {l : Launch} {N : Option Value → Wd → Prop} {X : String → Wd → Prop} {w : Wd} {R : Bool} (hN : N (some (.int (b2i R))) w) {a1 : Int32} {a2 : Int32} (h : fX1_isSort a1 a2 w = R) : RT (GA q) l 2 yX1_isSort cX1_isSort 3 ((some .boolean)) N X 0 [] [(0, .ref 3), (1, .int a1), (2, .int a2)] w := by
  unfold fX1_isSort at h
  refine r_aload_n (pc := 0) dX1_isSort_0 rfl 0 rfl ?_
  refine r_get (pc := 1) (j := 1) (v := .ref 13) oA3 cf1 flRX1_19 rfl dX1_isSort_1 rfl ?_
  refine r_iload_n (pc := 4) dX1_isSort_4 rfl 1 rfl ?_
  replace h := lt_e h; obtain ⟨x1, ex1, h⟩ := h
  refine r_cVi (pc := 5) wyX8_sort oA13 rfl mlRX1_91 iyX8_sort syX8_sort ⟨(Nat.le_of_ble_eq_true rfl), (Nat.le_of_ble_eq_true rfl)⟩ rfl rfl (Nat.le_of_ble_eq_true rfl) dX1_isSort_5 (mX8_sort ex1 (pI.mk ?_))
  refine r_iload_n (pc := 8) dX1_isSort_8 rfl 2 rfl ?_
  refine r_icmp_eq (pc := 9) dX1_isSort_9 rfl (fun hc2 => ?_) (fun hc2 => ?_)
  · replace h := if_t hc2 h
    refine r_iconst (pc := 23) dX1_isSort_23 ki_1 ?_
    refine r_goto (pc := 24) dX1_isSort_24 rfl ?_
    exact rP_z (pc := 28) (x := true) rfl dX1_isSort_28 h hN
  replace h := if_f hc2 h
  refine r_aload_n (pc := 12) dX1_isSort_12 rfl 0 rfl ?_
  refine r_get (pc := 13) (j := 1) (v := .ref 13) oA3 cf1 flRX1_19 rfl dX1_isSort_13 rfl ?_
  refine r_iload_n (pc := 16) dX1_isSort_16 rfl 1 rfl ?_
  replace h := lt_e h; obtain ⟨x3, ex3, h⟩ := h
  refine r_cVi (pc := 17) wyX8_sort oA13 rfl mlRX1_91 iyX8_sort syX8_sort ⟨(Nat.le_of_ble_eq_true rfl), (Nat.le_of_ble_eq_true rfl)⟩ rfl rfl (Nat.le_of_ble_eq_true rfl) dX1_isSort_17 (mX8_sort ex3 (pI.mk ?_))
  refine r_if_ne (pc := 20) dX1_isSort_20 rfl (fun hc4 => ?_) (fun hc4 => ?_)
  · replace h := if_f hc4 h
    refine r_iconst (pc := 27) dX1_isSort_27 ki_0 ?_
    exact rP_z (pc := 28) (x := false) rfl dX1_isSort_28 h hN
  replace h := if_t hc4 h
  refine r_iconst (pc := 23) dX1_isSort_23 ki_1 ?_
  refine r_goto (pc := 24) dX1_isSort_24 rfl ?_
  exact rP_z (pc := 28) (x := true) rfl dX1_isSort_28 h hN
theorem mX1_isSort {q : Gq} {l : Launch} {N : Option Value → Wd → Prop} {X : String → Wd → Prop} {a1 : Int32} {a2 : Int32} {w : Wd} {x : Bool} (h : fX1_isSort a1 a2 w = x) (hN : N (some (.int (b2i x))) w) : Ct (GA q) l 2 yX1_isSort cX1_isSort 3 ((some .boolean)) [.ref 3, .int a1, .int a2] w N X := Ct.of (by decide) (Nat.le_of_ble_eq_true rfl) (pX1_isSort hN h)
/-! AlgolMill$Desk.check (III)V: S, 4 -/
theorem dX1_check_0 : decode cX1_check 0 = .ok (.iload_n 1, 1) := by decide +kernel
theorem dX1_check_1 : decode cX1_check 1 = .ok (.ifCond .eq 18, 3) := by decide +kernel
theorem dX1_check_4 : decode cX1_check 4 = .ok (.iload_n 2, 1) := by decide +kernel
theorem dX1_check_5 : decode cX1_check 5 = .ok (.ifCond .eq 14, 3) := by decide +kernel
theorem dX1_check_8 : decode cX1_check 8 = .ok (.iload_n 1, 1) := by decide +kernel
theorem dX1_check_9 : decode cX1_check 9 = .ok (.iload_n 2, 1) := by decide +kernel
theorem dX1_check_10 : decode cX1_check 10 = .ok (.if_icmp .eq 9, 3) := by decide +kernel
theorem dX1_check_13 : decode cX1_check 13 = .ok (.aload_n 0, 1) := by decide +kernel
theorem dX1_check_14 : decode cX1_check 14 = .ok (.iload_n 3, 1) := by decide +kernel
theorem dX1_check_15 : decode cX1_check 15 = .ok (.iconst 4, 1) := by decide +kernel
theorem dX1_check_16 : decode cX1_check 16 = .ok (.invokevirtual 94, 3) := by decide +kernel
theorem dX1_check_19 : decode cX1_check 19 = .ok (.return_, 1) := by decide +kernel
def fX1_check (a1 : Int32) (a2 : Int32) (a3 : Int32) (w : Wd) : Wd :=
  if a1 = 0 then (w) else (if a2 = 0 then (w) else (if a1 = a2 then (w) else (lt (fX1_wrong a3 4 w) fun w4 => w4)))
theorem pX1_check {q : Gq} {l : Launch} {N : Option Value → Wd → Prop} {X : String → Wd → Prop} {w : Wd} {R : Wd} (hN : N none R) {a1 : Int32} {a2 : Int32} {a3 : Int32} (h : fX1_check a1 a2 a3 w = R) : RT (GA q) l 4 yX1_check cX1_check 4 (none) N X 0 [] [(0, .ref 3), (1, .int a1), (2, .int a2), (3, .int a3)] w := by
  unfold fX1_check at h
  refine r_iload_n (pc := 0) dX1_check_0 rfl 1 rfl ?_
  refine r_if_eq (pc := 1) dX1_check_1 rfl (fun hc1 => ?_) (fun hc1 => ?_)
  · replace h := if_t hc1 h
    exact rS_v (pc := 19) rfl dX1_check_19 h hN
  replace h := if_f hc1 h
  refine r_iload_n (pc := 4) dX1_check_4 rfl 2 rfl ?_
  refine r_if_eq (pc := 5) dX1_check_5 rfl (fun hc2 => ?_) (fun hc2 => ?_)
  · replace h := if_t hc2 h
    exact rS_v (pc := 19) rfl dX1_check_19 h hN
  replace h := if_f hc2 h
  refine r_iload_n (pc := 8) dX1_check_8 rfl 1 rfl ?_
  refine r_iload_n (pc := 9) dX1_check_9 rfl 2 rfl ?_
  refine r_icmp_eq (pc := 10) dX1_check_10 rfl (fun hc3 => ?_) (fun hc3 => ?_)
  · replace h := if_t hc3 h
    exact rS_v (pc := 19) rfl dX1_check_19 h hN
  replace h := if_f hc3 h
  refine r_aload_n (pc := 13) dX1_check_13 rfl 0 rfl ?_
  refine r_iload_n (pc := 14) dX1_check_14 rfl 3 rfl ?_
  refine r_iconst (pc := 15) dX1_check_15 ki_4 ?_
  replace h := lt_e h; obtain ⟨w4, ew4, h⟩ := h
  refine r_cVv (pc := 16) wyX1_wrong oA3 rfl mlRX1_94 iyX1_wrong syX1_wrong ⟨(Nat.le_of_ble_eq_true rfl), (Nat.le_of_ble_eq_true rfl)⟩ rfl rfl (Nat.le_of_ble_eq_true rfl) dX1_check_16 (mX1_wrong ew4 (pV.mk ?_))
  exact rS_v (pc := 19) rfl dX1_check_19 h hN
theorem mX1_check {q : Gq} {l : Launch} {N : Option Value → Wd → Prop} {X : String → Wd → Prop} {a1 : Int32} {a2 : Int32} {a3 : Int32} {w : Wd} {u : Wd} (h : fX1_check a1 a2 a3 w = u) (hN : N none u) : Ct (GA q) l 4 yX1_check cX1_check 4 (none) [.ref 3, .int a1, .int a2, .int a3] w N X := Ct.of (by decide) (Nat.le_of_ble_eq_true rfl) (pX1_check hN h)
/-! AlgolMill$Desk.hops (I)I: P, 2 -/
theorem dX1_hops_0 : decode cX1_hops 0 = .ok (.aload_n 0, 1) := by decide +kernel
theorem dX1_hops_1 : decode cX1_hops 1 = .ok (.getfield 19, 3) := by decide +kernel
theorem dX1_hops_4 : decode cX1_hops 4 = .ok (.iload_n 1, 1) := by decide +kernel
theorem dX1_hops_5 : decode cX1_hops 5 = .ok (.invokevirtual 97, 3) := by decide +kernel
theorem dX1_hops_8 : decode cX1_hops 8 = .ok (.ifCond .eq 8, 3) := by decide +kernel
theorem dX1_hops_11 : decode cX1_hops 11 = .ok (.bipush 63, 2) := by decide +kernel
theorem dX1_hops_13 : decode cX1_hops 13 = .ok (.goto 19, 3) := by decide +kernel
theorem dX1_hops_16 : decode cX1_hops 16 = .ok (.aload_n 0, 1) := by decide +kernel
theorem dX1_hops_17 : decode cX1_hops 17 = .ok (.getfield 35, 3) := by decide +kernel
theorem dX1_hops_20 : decode cX1_hops 20 = .ok (.invokevirtual 101, 3) := by decide +kernel
theorem dX1_hops_23 : decode cX1_hops 23 = .ok (.aload_n 0, 1) := by decide +kernel
theorem dX1_hops_24 : decode cX1_hops 24 = .ok (.getfield 19, 3) := by decide +kernel
theorem dX1_hops_27 : decode cX1_hops 27 = .ok (.iload_n 1, 1) := by decide +kernel
theorem dX1_hops_28 : decode cX1_hops 28 = .ok (.invokevirtual 104, 3) := by decide +kernel
theorem dX1_hops_31 : decode cX1_hops 31 = .ok (.isub, 1) := by decide +kernel
theorem dX1_hops_32 : decode cX1_hops 32 = .ok (.ireturn, 1) := by decide +kernel
def fX1_hops (a1 : Int32) (w : Wd) : Int32 :=
  lt (fX8_isOwn a1 w) fun x1 => if x1 = true then (63) else (lt (fX5_level w) fun x3 => lt (fX8_level a1 w) fun x4 => (x3 - x4))
theorem pX1_hops {q : Gq} {l : Launch} {N : Option Value → Wd → Prop} {X : String → Wd → Prop} {w : Wd} {R : Int32} (hN : N (some (.int R)) w) {a1 : Int32} (h : fX1_hops a1 w = R) : RT (GA q) l 2 yX1_hops cX1_hops 2 ((some .int)) N X 0 [] [(0, .ref 3), (1, .int a1)] w := by
  unfold fX1_hops at h
  refine r_aload_n (pc := 0) dX1_hops_0 rfl 0 rfl ?_
  refine r_get (pc := 1) (j := 1) (v := .ref 13) oA3 cf1 flRX1_19 rfl dX1_hops_1 rfl ?_
  refine r_iload_n (pc := 4) dX1_hops_4 rfl 1 rfl ?_
  replace h := lt_e h; obtain ⟨x1, ex1, h⟩ := h
  refine r_cVi (pc := 5) wyX8_isOwn oA13 rfl mlRX1_97 iyX8_isOwn syX8_isOwn ⟨(Nat.le_of_ble_eq_true rfl), (Nat.le_of_ble_eq_true rfl)⟩ rfl rfl (Nat.le_of_ble_eq_true rfl) dX1_hops_5 (mX8_isOwn ex1 (pI.mk ?_))
  refine r_z_eq (pc := 8) dX1_hops_8 rfl (fun hc2 => ?_) (fun hc2 => ?_)
  · replace h := if_f hc2 h
    refine r_aload_n (pc := 16) dX1_hops_16 rfl 0 rfl ?_
    refine r_get (pc := 17) (j := 3) (v := .ref 34) oA3 cf1 flRX1_35 rfl dX1_hops_17 rfl ?_
    replace h := lt_e h; obtain ⟨x3, ex3, h⟩ := h
    refine r_cVi (pc := 20) wyX5_level oA34 rfl mlRX1_101 iyX5_level syX5_level ⟨(Nat.le_of_ble_eq_true rfl), (Nat.le_of_ble_eq_true rfl)⟩ rfl rfl (Nat.le_of_ble_eq_true rfl) dX1_hops_20 (mX5_level ex3 (pI.mk ?_))
    refine r_aload_n (pc := 23) dX1_hops_23 rfl 0 rfl ?_
    refine r_get (pc := 24) (j := 1) (v := .ref 13) oA3 cf1 flRX1_19 rfl dX1_hops_24 rfl ?_
    refine r_iload_n (pc := 27) dX1_hops_27 rfl 1 rfl ?_
    replace h := lt_e h; obtain ⟨x4, ex4, h⟩ := h
    refine r_cVi (pc := 28) wyX8_level oA13 rfl mlRX1_104 iyX8_level syX8_level ⟨(Nat.le_of_ble_eq_true rfl), (Nat.le_of_ble_eq_true rfl)⟩ rfl rfl (Nat.le_of_ble_eq_true rfl) dX1_hops_28 (mX8_level ex4 (pI.mk ?_))
    refine r_isub (pc := 31) dX1_hops_31 ?_
    exact rP_i (pc := 32) rfl dX1_hops_32 h hN
  replace h := if_t hc2 h
  refine r_bipush (pc := 11) dX1_hops_11 kb_63 ?_
  refine r_goto (pc := 13) dX1_hops_13 rfl ?_
  exact rP_i (pc := 32) rfl dX1_hops_32 h hN
theorem mX1_hops {q : Gq} {l : Launch} {N : Option Value → Wd → Prop} {X : String → Wd → Prop} {a1 : Int32} {w : Wd} {x : Int32} (h : fX1_hops a1 w = x) (hN : N (some (.int x)) w) : Ct (GA q) l 2 yX1_hops cX1_hops 2 ((some .int)) [.ref 3, .int a1] w N X := Ct.of (by decide) (Nat.le_of_ble_eq_true rfl) (pX1_hops hN h)
/-! AlgolMill$Desk.putSymbol (I)V: S, 3 -/
theorem dX1_putSymbol_0 : decode cX1_putSymbol 0 = .ok (.aload_n 0, 1) := by decide +kernel
theorem dX1_putSymbol_1 : decode cX1_putSymbol 1 = .ok (.getfield 19, 3) := by decide +kernel
theorem dX1_putSymbol_4 : decode cX1_putSymbol 4 = .ok (.iload_n 1, 1) := by decide +kernel
theorem dX1_putSymbol_5 : decode cX1_putSymbol 5 = .ok (.invokevirtual 91, 3) := by decide +kernel
theorem dX1_putSymbol_8 : decode cX1_putSymbol 8 = .ok (.iconst 2, 1) := by decide +kernel
theorem dX1_putSymbol_9 : decode cX1_putSymbol 9 = .ok (.if_icmp .ne 45, 3) := by decide +kernel
theorem dX1_putSymbol_12 : decode cX1_putSymbol 12 = .ok (.aload_n 0, 1) := by decide +kernel
theorem dX1_putSymbol_13 : decode cX1_putSymbol 13 = .ok (.getfield 42, 3) := by decide +kernel
theorem dX1_putSymbol_16 : decode cX1_putSymbol 16 = .ok (.aload_n 0, 1) := by decide +kernel
theorem dX1_putSymbol_17 : decode cX1_putSymbol 17 = .ok (.getfield 19, 3) := by decide +kernel
theorem dX1_putSymbol_20 : decode cX1_putSymbol 20 = .ok (.iload_n 1, 1) := by decide +kernel
theorem dX1_putSymbol_21 : decode cX1_putSymbol 21 = .ok (.invokevirtual 106, 3) := by decide +kernel
theorem dX1_putSymbol_24 : decode cX1_putSymbol 24 = .ok (.ifCond .eq 8, 3) := by decide +kernel
theorem dX1_putSymbol_27 : decode cX1_putSymbol 27 = .ok (.bipush 19, 2) := by decide +kernel
theorem dX1_putSymbol_29 : decode cX1_putSymbol 29 = .ok (.goto 5, 3) := by decide +kernel
theorem dX1_putSymbol_32 : decode cX1_putSymbol 32 = .ok (.bipush 20, 2) := by decide +kernel
theorem dX1_putSymbol_34 : decode cX1_putSymbol 34 = .ok (.aload_n 0, 1) := by decide +kernel
theorem dX1_putSymbol_35 : decode cX1_putSymbol 35 = .ok (.iload_n 1, 1) := by decide +kernel
theorem dX1_putSymbol_36 : decode cX1_putSymbol 36 = .ok (.invokevirtual 109, 3) := by decide +kernel
theorem dX1_putSymbol_39 : decode cX1_putSymbol 39 = .ok (.aload_n 0, 1) := by decide +kernel
theorem dX1_putSymbol_40 : decode cX1_putSymbol 40 = .ok (.getfield 19, 3) := by decide +kernel
theorem dX1_putSymbol_43 : decode cX1_putSymbol 43 = .ok (.iload_n 1, 1) := by decide +kernel
theorem dX1_putSymbol_44 : decode cX1_putSymbol 44 = .ok (.invokevirtual 112, 3) := by decide +kernel
theorem dX1_putSymbol_47 : decode cX1_putSymbol 47 = .ok (.invokevirtual 115, 3) := by decide +kernel
theorem dX1_putSymbol_50 : decode cX1_putSymbol 50 = .ok (.pop, 1) := by decide +kernel
theorem dX1_putSymbol_51 : decode cX1_putSymbol 51 = .ok (.goto 56, 3) := by decide +kernel
theorem dX1_putSymbol_54 : decode cX1_putSymbol 54 = .ok (.aload_n 0, 1) := by decide +kernel
theorem dX1_putSymbol_55 : decode cX1_putSymbol 55 = .ok (.getfield 19, 3) := by decide +kernel
theorem dX1_putSymbol_58 : decode cX1_putSymbol 58 = .ok (.iload_n 1, 1) := by decide +kernel
theorem dX1_putSymbol_59 : decode cX1_putSymbol 59 = .ok (.invokevirtual 106, 3) := by decide +kernel
theorem dX1_putSymbol_62 : decode cX1_putSymbol 62 = .ok (.ifCond .eq 29, 3) := by decide +kernel
theorem dX1_putSymbol_65 : decode cX1_putSymbol 65 = .ok (.aload_n 0, 1) := by decide +kernel
theorem dX1_putSymbol_66 : decode cX1_putSymbol 66 = .ok (.getfield 42, 3) := by decide +kernel
theorem dX1_putSymbol_69 : decode cX1_putSymbol 69 = .ok (.bipush 21, 2) := by decide +kernel
theorem dX1_putSymbol_71 : decode cX1_putSymbol 71 = .ok (.aload_n 0, 1) := by decide +kernel
theorem dX1_putSymbol_72 : decode cX1_putSymbol 72 = .ok (.iload_n 1, 1) := by decide +kernel
theorem dX1_putSymbol_73 : decode cX1_putSymbol 73 = .ok (.invokevirtual 109, 3) := by decide +kernel
theorem dX1_putSymbol_76 : decode cX1_putSymbol 76 = .ok (.aload_n 0, 1) := by decide +kernel
theorem dX1_putSymbol_77 : decode cX1_putSymbol 77 = .ok (.getfield 19, 3) := by decide +kernel
theorem dX1_putSymbol_80 : decode cX1_putSymbol 80 = .ok (.iload_n 1, 1) := by decide +kernel
theorem dX1_putSymbol_81 : decode cX1_putSymbol 81 = .ok (.invokevirtual 112, 3) := by decide +kernel
theorem dX1_putSymbol_84 : decode cX1_putSymbol 84 = .ok (.invokevirtual 115, 3) := by decide +kernel
theorem dX1_putSymbol_87 : decode cX1_putSymbol 87 = .ok (.pop, 1) := by decide +kernel
theorem dX1_putSymbol_88 : decode cX1_putSymbol 88 = .ok (.goto 19, 3) := by decide +kernel
theorem dX1_putSymbol_91 : decode cX1_putSymbol 91 = .ok (.aload_n 0, 1) := by decide +kernel
theorem dX1_putSymbol_92 : decode cX1_putSymbol 92 = .ok (.getfield 42, 3) := by decide +kernel
theorem dX1_putSymbol_95 : decode cX1_putSymbol 95 = .ok (.bipush 22, 2) := by decide +kernel
theorem dX1_putSymbol_97 : decode cX1_putSymbol 97 = .ok (.aload_n 0, 1) := by decide +kernel
theorem dX1_putSymbol_98 : decode cX1_putSymbol 98 = .ok (.iload_n 1, 1) := by decide +kernel
theorem dX1_putSymbol_99 : decode cX1_putSymbol 99 = .ok (.invokevirtual 109, 3) := by decide +kernel
theorem dX1_putSymbol_102 : decode cX1_putSymbol 102 = .ok (.iload_n 1, 1) := by decide +kernel
theorem dX1_putSymbol_103 : decode cX1_putSymbol 103 = .ok (.invokevirtual 115, 3) := by decide +kernel
theorem dX1_putSymbol_106 : decode cX1_putSymbol 106 = .ok (.pop, 1) := by decide +kernel
theorem dX1_putSymbol_107 : decode cX1_putSymbol 107 = .ok (.return_, 1) := by decide +kernel
def fX1_putSymbol_34 (s1 : Int32) (a1 : Int32) (w : Wd) : Wd :=
  lt (fX1_hops a1 w) fun x1 => lt (fX8_slot a1 w) fun x2 => lt2 (fX0_put s1 x1 x2 w) fun x3 w4 => w4
theorem pX1_putSymbol_34 {q : Gq} {l : Launch} {N : Option Value → Wd → Prop} {X : String → Wd → Prop} {w : Wd} {R : Wd} (hN : N none R) {s1 : Int32} {a1 : Int32} (h : fX1_putSymbol_34 s1 a1 w = R) : RT (GA q) l 3 yX1_putSymbol cX1_putSymbol 2 (none) N X 34 [.int s1, .ref 40] [(0, .ref 3), (1, .int a1)] w := by
  unfold fX1_putSymbol_34 at h
  refine r_aload_n (pc := 34) dX1_putSymbol_34 rfl 0 rfl ?_
  refine r_iload_n (pc := 35) dX1_putSymbol_35 rfl 1 rfl ?_
  replace h := lt_e h; obtain ⟨x1, ex1, h⟩ := h
  refine r_cVi (pc := 36) wyX1_hops oA3 rfl mlRX1_109 iyX1_hops syX1_hops ⟨(Nat.le_of_ble_eq_true rfl), (Nat.le_of_ble_eq_true rfl)⟩ rfl rfl (Nat.le_of_ble_eq_true rfl) dX1_putSymbol_36 (mX1_hops ex1 (pI.mk ?_))
  refine r_aload_n (pc := 39) dX1_putSymbol_39 rfl 0 rfl ?_
  refine r_get (pc := 40) (j := 1) (v := .ref 13) oA3 cf1 flRX1_19 rfl dX1_putSymbol_40 rfl ?_
  refine r_iload_n (pc := 43) dX1_putSymbol_43 rfl 1 rfl ?_
  replace h := lt_e h; obtain ⟨x2, ex2, h⟩ := h
  refine r_cVi (pc := 44) wyX8_slot oA13 rfl mlRX1_112 iyX8_slot syX8_slot ⟨(Nat.le_of_ble_eq_true rfl), (Nat.le_of_ble_eq_true rfl)⟩ rfl rfl (Nat.le_of_ble_eq_true rfl) dX1_putSymbol_44 (mX8_slot ex2 (pI.mk ?_))
  replace h := lt2_e h; obtain ⟨x3, w4, ew4, h⟩ := h
  refine r_cVi (pc := 47) wyX0_put oA40 rfl mlRX1_115 iyX0_put syX0_put ⟨(Nat.le_of_ble_eq_true rfl), (Nat.le_of_ble_eq_true rfl)⟩ rfl rfl (Nat.le_of_ble_eq_true rfl) dX1_putSymbol_47 (mX0_put ew4 (pI.mk ?_))
  refine r_pop (pc := 50) dX1_putSymbol_50 rfl ?_
  refine r_goto (pc := 51) dX1_putSymbol_51 rfl ?_
  exact rS_v (pc := 107) rfl dX1_putSymbol_107 h hN
def fX1_putSymbol (a1 : Int32) (w : Wd) : Wd :=
  lt (fX8_sort a1 w) fun x1 => if x1 = 2 then (lt (fX8_isFormal a1 w) fun x3 => if x3 = true then (fX1_putSymbol_34 19 a1 w) else (fX1_putSymbol_34 20 a1 w)) else (lt (fX8_isFormal a1 w) fun x5 => if x5 = true then (lt (fX1_hops a1 w) fun x7 => lt (fX8_slot a1 w) fun x8 => lt2 (fX0_put 21 x7 x8 w) fun x9 w10 => w10) else (lt (fX1_hops a1 w) fun x11 => lt2 (fX0_put 22 x11 a1 w) fun x12 w13 => w13))
theorem pX1_putSymbol {q : Gq} {l : Launch} {N : Option Value → Wd → Prop} {X : String → Wd → Prop} {w : Wd} {R : Wd} (hN : N none R) {a1 : Int32} (h : fX1_putSymbol a1 w = R) : RT (GA q) l 3 yX1_putSymbol cX1_putSymbol 2 (none) N X 0 [] [(0, .ref 3), (1, .int a1)] w := by
  unfold fX1_putSymbol at h
  refine r_aload_n (pc := 0) dX1_putSymbol_0 rfl 0 rfl ?_
  refine r_get (pc := 1) (j := 1) (v := .ref 13) oA3 cf1 flRX1_19 rfl dX1_putSymbol_1 rfl ?_
  refine r_iload_n (pc := 4) dX1_putSymbol_4 rfl 1 rfl ?_
  replace h := lt_e h; obtain ⟨x1, ex1, h⟩ := h
  refine r_cVi (pc := 5) wyX8_sort oA13 rfl mlRX1_91 iyX8_sort syX8_sort ⟨(Nat.le_of_ble_eq_true rfl), (Nat.le_of_ble_eq_true rfl)⟩ rfl rfl (Nat.le_of_ble_eq_true rfl) dX1_putSymbol_5 (mX8_sort ex1 (pI.mk ?_))
  refine r_iconst (pc := 8) dX1_putSymbol_8 ki_2 ?_
  refine r_icmp_ne (pc := 9) dX1_putSymbol_9 rfl (fun hc2 => ?_) (fun hc2 => ?_)
  · replace h := if_f hc2 h
    refine r_aload_n (pc := 54) dX1_putSymbol_54 rfl 0 rfl ?_
    refine r_get (pc := 55) (j := 1) (v := .ref 13) oA3 cf1 flRX1_19 rfl dX1_putSymbol_55 rfl ?_
    refine r_iload_n (pc := 58) dX1_putSymbol_58 rfl 1 rfl ?_
    replace h := lt_e h; obtain ⟨x5, ex5, h⟩ := h
    refine r_cVi (pc := 59) wyX8_isFormal oA13 rfl mlRX1_106 iyX8_isFormal syX8_isFormal ⟨(Nat.le_of_ble_eq_true rfl), (Nat.le_of_ble_eq_true rfl)⟩ rfl rfl (Nat.le_of_ble_eq_true rfl) dX1_putSymbol_59 (mX8_isFormal ex5 (pI.mk ?_))
    refine r_z_eq (pc := 62) dX1_putSymbol_62 rfl (fun hc6 => ?_) (fun hc6 => ?_)
    · replace h := if_f hc6 h
      refine r_aload_n (pc := 91) dX1_putSymbol_91 rfl 0 rfl ?_
      refine r_get (pc := 92) (j := 4) (v := .ref 40) oA3 cf1 flRX1_42 rfl dX1_putSymbol_92 rfl ?_
      refine r_bipush (pc := 95) dX1_putSymbol_95 kb_22 ?_
      refine r_aload_n (pc := 97) dX1_putSymbol_97 rfl 0 rfl ?_
      refine r_iload_n (pc := 98) dX1_putSymbol_98 rfl 1 rfl ?_
      replace h := lt_e h; obtain ⟨x11, ex11, h⟩ := h
      refine r_cVi (pc := 99) wyX1_hops oA3 rfl mlRX1_109 iyX1_hops syX1_hops ⟨(Nat.le_of_ble_eq_true rfl), (Nat.le_of_ble_eq_true rfl)⟩ rfl rfl (Nat.le_of_ble_eq_true rfl) dX1_putSymbol_99 (mX1_hops ex11 (pI.mk ?_))
      refine r_iload_n (pc := 102) dX1_putSymbol_102 rfl 1 rfl ?_
      replace h := lt2_e h; obtain ⟨x12, w13, ew13, h⟩ := h
      refine r_cVi (pc := 103) wyX0_put oA40 rfl mlRX1_115 iyX0_put syX0_put ⟨(Nat.le_of_ble_eq_true rfl), (Nat.le_of_ble_eq_true rfl)⟩ rfl rfl (Nat.le_of_ble_eq_true rfl) dX1_putSymbol_103 (mX0_put ew13 (pI.mk ?_))
      refine r_pop (pc := 106) dX1_putSymbol_106 rfl ?_
      exact rS_v (pc := 107) rfl dX1_putSymbol_107 h hN
    replace h := if_t hc6 h
    refine r_aload_n (pc := 65) dX1_putSymbol_65 rfl 0 rfl ?_
    refine r_get (pc := 66) (j := 4) (v := .ref 40) oA3 cf1 flRX1_42 rfl dX1_putSymbol_66 rfl ?_
    refine r_bipush (pc := 69) dX1_putSymbol_69 kb_21 ?_
    refine r_aload_n (pc := 71) dX1_putSymbol_71 rfl 0 rfl ?_
    refine r_iload_n (pc := 72) dX1_putSymbol_72 rfl 1 rfl ?_
    replace h := lt_e h; obtain ⟨x7, ex7, h⟩ := h
    refine r_cVi (pc := 73) wyX1_hops oA3 rfl mlRX1_109 iyX1_hops syX1_hops ⟨(Nat.le_of_ble_eq_true rfl), (Nat.le_of_ble_eq_true rfl)⟩ rfl rfl (Nat.le_of_ble_eq_true rfl) dX1_putSymbol_73 (mX1_hops ex7 (pI.mk ?_))
    refine r_aload_n (pc := 76) dX1_putSymbol_76 rfl 0 rfl ?_
    refine r_get (pc := 77) (j := 1) (v := .ref 13) oA3 cf1 flRX1_19 rfl dX1_putSymbol_77 rfl ?_
    refine r_iload_n (pc := 80) dX1_putSymbol_80 rfl 1 rfl ?_
    replace h := lt_e h; obtain ⟨x8, ex8, h⟩ := h
    refine r_cVi (pc := 81) wyX8_slot oA13 rfl mlRX1_112 iyX8_slot syX8_slot ⟨(Nat.le_of_ble_eq_true rfl), (Nat.le_of_ble_eq_true rfl)⟩ rfl rfl (Nat.le_of_ble_eq_true rfl) dX1_putSymbol_81 (mX8_slot ex8 (pI.mk ?_))
    replace h := lt2_e h; obtain ⟨x9, w10, ew10, h⟩ := h
    refine r_cVi (pc := 84) wyX0_put oA40 rfl mlRX1_115 iyX0_put syX0_put ⟨(Nat.le_of_ble_eq_true rfl), (Nat.le_of_ble_eq_true rfl)⟩ rfl rfl (Nat.le_of_ble_eq_true rfl) dX1_putSymbol_84 (mX0_put ew10 (pI.mk ?_))
    refine r_pop (pc := 87) dX1_putSymbol_87 rfl ?_
    refine r_goto (pc := 88) dX1_putSymbol_88 rfl ?_
    exact rS_v (pc := 107) rfl dX1_putSymbol_107 h hN
  replace h := if_t hc2 h
  refine r_aload_n (pc := 12) dX1_putSymbol_12 rfl 0 rfl ?_
  refine r_get (pc := 13) (j := 4) (v := .ref 40) oA3 cf1 flRX1_42 rfl dX1_putSymbol_13 rfl ?_
  refine r_aload_n (pc := 16) dX1_putSymbol_16 rfl 0 rfl ?_
  refine r_get (pc := 17) (j := 1) (v := .ref 13) oA3 cf1 flRX1_19 rfl dX1_putSymbol_17 rfl ?_
  refine r_iload_n (pc := 20) dX1_putSymbol_20 rfl 1 rfl ?_
  replace h := lt_e h; obtain ⟨x3, ex3, h⟩ := h
  refine r_cVi (pc := 21) wyX8_isFormal oA13 rfl mlRX1_106 iyX8_isFormal syX8_isFormal ⟨(Nat.le_of_ble_eq_true rfl), (Nat.le_of_ble_eq_true rfl)⟩ rfl rfl (Nat.le_of_ble_eq_true rfl) dX1_putSymbol_21 (mX8_isFormal ex3 (pI.mk ?_))
  refine r_z_eq (pc := 24) dX1_putSymbol_24 rfl (fun hc4 => ?_) (fun hc4 => ?_)
  · replace h := if_f hc4 h
    refine r_bipush (pc := 32) dX1_putSymbol_32 kb_20 ?_
    exact pX1_putSymbol_34 hN h
  replace h := if_t hc4 h
  refine r_bipush (pc := 27) dX1_putSymbol_27 kb_19 ?_
  refine r_goto (pc := 29) dX1_putSymbol_29 rfl ?_
  exact pX1_putSymbol_34 hN h
theorem mX1_putSymbol {q : Gq} {l : Launch} {N : Option Value → Wd → Prop} {X : String → Wd → Prop} {a1 : Int32} {w : Wd} {u : Wd} (h : fX1_putSymbol a1 w = u) (hN : N none u) : Ct (GA q) l 3 yX1_putSymbol cX1_putSymbol 2 (none) [.ref 3, .int a1] w N X := Ct.of (by decide) (Nat.le_of_ble_eq_true rfl) (pX1_putSymbol hN h)
