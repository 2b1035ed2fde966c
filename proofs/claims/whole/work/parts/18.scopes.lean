/-! Scopes -/
theorem ks_4096 : (Int16.ofInt 4096).toInt32 = 4096 := by decide
theorem ks_4104 : (Int16.ofInt 4104).toInt32 = 4104 := by decide
/-! AlgolMill$Scopes.restart ()V: S, 0 -/
theorem dX7_restart_0 : decode cX7_restart 0 = .ok (.aload_n 0, 1) := by decide +kernel
theorem dX7_restart_1 : decode cX7_restart 1 = .ok (.iconst 0, 1) := by decide +kernel
theorem dX7_restart_2 : decode cX7_restart 2 = .ok (.putfield 39, 3) := by decide +kernel
theorem dX7_restart_5 : decode cX7_restart 5 = .ok (.aload_n 0, 1) := by decide +kernel
theorem dX7_restart_6 : decode cX7_restart 6 = .ok (.iconst 0, 1) := by decide +kernel
theorem dX7_restart_7 : decode cX7_restart 7 = .ok (.putfield 58, 3) := by decide +kernel
theorem dX7_restart_10 : decode cX7_restart 10 = .ok (.aload_n 0, 1) := by decide +kernel
theorem dX7_restart_11 : decode cX7_restart 11 = .ok (.iconst 0, 1) := by decide +kernel
theorem dX7_restart_12 : decode cX7_restart 12 = .ok (.putfield 61, 3) := by decide +kernel
theorem dX7_restart_15 : decode cX7_restart 15 = .ok (.return_, 1) := by decide +kernel
def fX7_restart (w : Wd) : Wd :=
  lt (si w 26 8 0) fun w1 => lt (si w1 26 9 0) fun w2 => lt (si w2 26 10 0) fun w3 => w3
theorem pX7_restart {q : Gq} {l : Launch} {N : Option Value → Wd → Prop} {X : String → Wd → Prop} {w : Wd} {R : Wd} (hN : N none R) (h : fX7_restart w = R) : RT (GA q) l 0 yX7_restart cX7_restart 1 (none) N X 0 [] [(0, .ref 26)] w := by
  unfold fX7_restart at h
  refine r_aload_n (pc := 0) dX7_restart_0 rfl 0 rfl ?_
  refine r_iconst (pc := 1) dX7_restart_1 ki_0 ?_
  replace h := lt_e h; obtain ⟨w1, ew1, h⟩ := h
  refine r_putI (pc := 2) (j := 8) oA26 cf7 flRX7_39 rfl rfl rfl rfl dX7_restart_2 ?_
  refine r_w ew1 ?_
  refine r_aload_n (pc := 5) dX7_restart_5 rfl 0 rfl ?_
  refine r_iconst (pc := 6) dX7_restart_6 ki_0 ?_
  replace h := lt_e h; obtain ⟨w2, ew2, h⟩ := h
  refine r_putI (pc := 7) (j := 9) oA26 cf7 flRX7_58 rfl rfl rfl rfl dX7_restart_7 ?_
  refine r_w ew2 ?_
  refine r_aload_n (pc := 10) dX7_restart_10 rfl 0 rfl ?_
  refine r_iconst (pc := 11) dX7_restart_11 ki_0 ?_
  replace h := lt_e h; obtain ⟨w3, ew3, h⟩ := h
  refine r_putI (pc := 12) (j := 10) oA26 cf7 flRX7_61 rfl rfl rfl rfl dX7_restart_12 ?_
  refine r_w ew3 ?_
  exact rS_v (pc := 15) rfl dX7_restart_15 h hN
theorem mX7_restart {q : Gq} {l : Launch} {N : Option Value → Wd → Prop} {X : String → Wd → Prop} {w : Wd} {u : Wd} (h : fX7_restart w = u) (hN : N none u) : Ct (GA q) l 0 yX7_restart cX7_restart 1 (none) [.ref 26] w N X := Ct.of (by decide) (Nat.le_of_ble_eq_true rfl) (pX7_restart hN h)
/-! AlgolMill$Scopes.clear ()V: O, 2 -/
theorem dX7_clear_0 : decode cX7_clear 0 = .ok (.aload_n 0, 1) := by decide +kernel
theorem dX7_clear_1 : decode cX7_clear 1 = .ok (.getfield 26, 3) := by decide +kernel
theorem dX7_clear_4 : decode cX7_clear 4 = .ok (.iconst 0, 1) := by decide +kernel
theorem dX7_clear_5 : decode cX7_clear 5 = .ok (.aload_n 0, 1) := by decide +kernel
theorem dX7_clear_6 : decode cX7_clear 6 = .ok (.getfield 39, 3) := by decide +kernel
theorem dX7_clear_9 : decode cX7_clear 9 = .ok (.iconst 1, 1) := by decide +kernel
theorem dX7_clear_10 : decode cX7_clear 10 = .ok (.iadd, 1) := by decide +kernel
theorem dX7_clear_11 : decode cX7_clear 11 = .ok (.sipush 4096, 3) := by decide +kernel
theorem dX7_clear_14 : decode cX7_clear 14 = .ok (.invokestatic 43, 3) := by decide +kernel
theorem dX7_clear_17 : decode cX7_clear 17 = .ok (.iconst 0, 1) := by decide +kernel
theorem dX7_clear_18 : decode cX7_clear 18 = .ok (.invokestatic 49, 3) := by decide +kernel
theorem dX7_clear_21 : decode cX7_clear 21 = .ok (.aload_n 0, 1) := by decide +kernel
theorem dX7_clear_22 : decode cX7_clear 22 = .ok (.invokevirtual 55, 3) := by decide +kernel
theorem dX7_clear_25 : decode cX7_clear 25 = .ok (.return_, 1) := by decide +kernel
def fX7_clear (w : Wd) : Option Wd :=
  lt (fJ9_min_7cf53 ((gi w 26 8) + 1) 4096) fun x1 => bn (fJ7_fill_fda19 31 4096 0 x1 0 w) fun w2 => lt (fX7_restart w2) fun w3 => some w3
theorem pX7_clear {q : Gq} {l : Launch} {N : Option Value → Wd → Prop} {X : String → Wd → Prop} {w : Wd} {R : Wd} (hN : N none R) (h : fX7_clear w = some R) : RT (GA q) l 2 yX7_clear cX7_clear 1 (none) N X 0 [] [(0, .ref 26)] w := by
  unfold fX7_clear at h
  refine r_aload_n (pc := 0) dX7_clear_0 rfl 0 rfl ?_
  refine r_get (pc := 1) (j := 4) (v := .ref 31) oA26 cf7 flRX7_26 rfl dX7_clear_1 rfl ?_
  refine r_iconst (pc := 4) dX7_clear_4 ki_0 ?_
  refine r_aload_n (pc := 5) dX7_clear_5 rfl 0 rfl ?_
  refine r_get (pc := 6) (j := 8) (v := .int (gi w 26 8)) oA26 cf7 flRX7_39 rfl dX7_clear_6 rfl ?_
  refine r_iconst (pc := 9) dX7_clear_9 ki_1 ?_
  refine r_iadd (pc := 10) dX7_clear_10 ?_
  refine r_sipush (pc := 11) dX7_clear_11 ks_4096 ?_
  replace h := lt_e h; obtain ⟨x1, ex1, h⟩ := h
  refine r_cSi (pc := 14) wyJ9_min_7cf53 mlRX7_43 tyJ9_min_7cf53 ⟨(Nat.le_of_ble_eq_true rfl), (Nat.le_of_ble_eq_true rfl)⟩ rfl rfl (Nat.le_of_ble_eq_true rfl) dX7_clear_14 (mJ9_min_7cf53 ex1 (pI.mk ?_))
  refine r_iconst (pc := 17) dX7_clear_17 ki_0 ?_
  replace h := bn_e h; obtain ⟨w2, ew2, h⟩ := h
  refine r_cSv (pc := 18) wyJ7_fill_fda19 mlRX7_49 tyJ7_fill_fda19 ⟨(Nat.le_of_ble_eq_true rfl), (Nat.le_of_ble_eq_true rfl)⟩ rfl rfl (Nat.le_of_ble_eq_true rfl) dX7_clear_18 (mJ7_fill_fda19 aA31 ew2 (pV.mk ?_))
  refine r_aload_n (pc := 21) dX7_clear_21 rfl 0 rfl ?_
  replace h := lt_e h; obtain ⟨w3, ew3, h⟩ := h
  refine r_cVv (pc := 22) wyX7_restart oA26 rfl mlRX7_55 iyX7_restart syX7_restart ⟨(Nat.le_of_ble_eq_true rfl), (Nat.le_of_ble_eq_true rfl)⟩ rfl rfl (Nat.le_of_ble_eq_true rfl) dX7_clear_22 (mX7_restart ew3 (pV.mk ?_))
  exact rO_v (pc := 25) rfl dX7_clear_25 h hN
theorem mX7_clear {q : Gq} {l : Launch} {N : Option Value → Wd → Prop} {X : String → Wd → Prop} {w : Wd} {u : Wd} (h : fX7_clear w = some u) (hN : N none u) : Ct (GA q) l 2 yX7_clear cX7_clear 1 (none) [.ref 26] w N X := Ct.of (by decide) (Nat.le_of_ble_eq_true rfl) (pX7_clear hN h)
/-! AlgolMill$Scopes.show (I)V: S, 2 -/
theorem dX7_show_0 : decode cX7_show 0 = .ok (.aload_n 0, 1) := by decide +kernel
theorem dX7_show_1 : decode cX7_show 1 = .ok (.getfield 35, 3) := by decide +kernel
theorem dX7_show_4 : decode cX7_show 4 = .ok (.iload_n 1, 1) := by decide +kernel
theorem dX7_show_5 : decode cX7_show 5 = .ok (.invokevirtual 78, 3) := by decide +kernel
theorem dX7_show_8 : decode cX7_show 8 = .ok (.istore_n 2, 1) := by decide +kernel
theorem dX7_show_9 : decode cX7_show 9 = .ok (.aload_n 0, 1) := by decide +kernel
theorem dX7_show_10 : decode cX7_show 10 = .ok (.getfield 17, 3) := by decide +kernel
theorem dX7_show_13 : decode cX7_show 13 = .ok (.iload_n 1, 1) := by decide +kernel
theorem dX7_show_14 : decode cX7_show 14 = .ok (.aload_n 0, 1) := by decide +kernel
theorem dX7_show_15 : decode cX7_show 15 = .ok (.getfield 9, 3) := by decide +kernel
theorem dX7_show_18 : decode cX7_show 18 = .ok (.iload_n 2, 1) := by decide +kernel
theorem dX7_show_19 : decode cX7_show 19 = .ok (.invokestatic 70, 3) := by decide +kernel
theorem dX7_show_22 : decode cX7_show 22 = .ok (.invokestatic 64, 3) := by decide +kernel
theorem dX7_show_25 : decode cX7_show 25 = .ok (.aload_n 0, 1) := by decide +kernel
theorem dX7_show_26 : decode cX7_show 26 = .ok (.getfield 9, 3) := by decide +kernel
theorem dX7_show_29 : decode cX7_show 29 = .ok (.iload_n 2, 1) := by decide +kernel
theorem dX7_show_30 : decode cX7_show 30 = .ok (.iload_n 1, 1) := by decide +kernel
theorem dX7_show_31 : decode cX7_show 31 = .ok (.invokestatic 64, 3) := by decide +kernel
theorem dX7_show_34 : decode cX7_show 34 = .ok (.return_, 1) := by decide +kernel
def fX7_show (a1 : Int32) (w : Wd) : Wd :=
  lt (fX8_name a1 w) fun x1 => lt (rgi w 27 8192 x1) fun x2 => lt (rsi w 28 4104 a1 x2) fun w3 => lt (rsi w3 27 8192 x1 a1) fun w4 => w4
theorem pX7_show {q : Gq} {l : Launch} {N : Option Value → Wd → Prop} {X : String → Wd → Prop} {w : Wd} {R : Wd} (hN : N none R) {a1 : Int32} (h : fX7_show a1 w = R) : RT (GA q) l 2 yX7_show cX7_show 3 (none) N X 0 [] [(0, .ref 26), (1, .int a1)] w := by
  unfold fX7_show at h
  refine r_aload_n (pc := 0) dX7_show_0 rfl 0 rfl ?_
  refine r_get (pc := 1) (j := 7) (v := .ref 13) oA26 cf7 flRX7_35 rfl dX7_show_1 rfl ?_
  refine r_iload_n (pc := 4) dX7_show_4 rfl 1 rfl ?_
  replace h := lt_e h; obtain ⟨x1, ex1, h⟩ := h
  refine r_cVi (pc := 5) wyX8_name oA13 rfl mlRX7_78 iyX8_name syX8_name ⟨(Nat.le_of_ble_eq_true rfl), (Nat.le_of_ble_eq_true rfl)⟩ rfl rfl (Nat.le_of_ble_eq_true rfl) dX7_show_5 (mX8_name ex1 (pI.mk ?_))
  refine r_istore_n (pc := 8) (loc' := [(2, .int x1), (0, .ref 26), (1, .int a1)]) dX7_show_8 rfl (Nat.le_of_ble_eq_true rfl) rfl ?_
  refine r_aload_n (pc := 9) dX7_show_9 rfl 1 rfl ?_
  refine r_get (pc := 10) (j := 1) (v := .ref 28) oA26 cf7 flRX7_17 rfl dX7_show_10 rfl ?_
  refine r_iload_n (pc := 13) dX7_show_13 rfl 2 rfl ?_
  refine r_aload_n (pc := 14) dX7_show_14 rfl 1 rfl ?_
  refine r_get (pc := 15) (j := 0) (v := .ref 27) oA26 cf7 flRX7_9 rfl dX7_show_15 rfl ?_
  refine r_iload_n (pc := 18) dX7_show_18 rfl 0 rfl ?_
  replace h := lt_e h; obtain ⟨x2, ex2, h⟩ := h
  refine r_cSi (pc := 19) wyX6_get mlRX7_70 tyX6_get ⟨(Nat.le_of_ble_eq_true rfl), (Nat.le_of_ble_eq_true rfl)⟩ rfl rfl (Nat.le_of_ble_eq_true rfl) dX7_show_19 (mX6_get aA27 (Nat.le_of_ble_eq_true rfl) ex2 (pI.mk ?_))
  replace h := lt_e h; obtain ⟨w3, ew3, h⟩ := h
  refine r_cSv (pc := 22) wyX6_set mlRX7_64 tyX6_set ⟨(Nat.le_of_ble_eq_true rfl), (Nat.le_of_ble_eq_true rfl)⟩ rfl rfl (Nat.le_of_ble_eq_true rfl) dX7_show_22 (mX6_set aA28 (Nat.le_of_ble_eq_true rfl) ew3 (pV.mk ?_))
  refine r_aload_n (pc := 25) dX7_show_25 rfl 1 rfl ?_
  refine r_get (pc := 26) (j := 0) (v := .ref 27) oA26 cf7 flRX7_9 rfl dX7_show_26 rfl ?_
  refine r_iload_n (pc := 29) dX7_show_29 rfl 0 rfl ?_
  refine r_iload_n (pc := 30) dX7_show_30 rfl 2 rfl ?_
  replace h := lt_e h; obtain ⟨w4, ew4, h⟩ := h
  refine r_cSv (pc := 31) wyX6_set mlRX7_64 tyX6_set ⟨(Nat.le_of_ble_eq_true rfl), (Nat.le_of_ble_eq_true rfl)⟩ rfl rfl (Nat.le_of_ble_eq_true rfl) dX7_show_31 (mX6_set aA27 (Nat.le_of_ble_eq_true rfl) ew4 (pV.mk ?_))
  exact rS_v (pc := 34) rfl dX7_show_34 h hN
theorem mX7_show {q : Gq} {l : Launch} {N : Option Value → Wd → Prop} {X : String → Wd → Prop} {a1 : Int32} {w : Wd} {u : Wd} (h : fX7_show a1 w = u) (hN : N none u) : Ct (GA q) l 2 yX7_show cX7_show 3 (none) [.ref 26, .int a1] w N X := Ct.of (by decide) (Nat.le_of_ble_eq_true rfl) (pX7_show hN h)
/-! AlgolMill$Scopes.enter ()V: O, 3 -/
theorem dX7_enter_0 : decode cX7_enter 0 = .ok (.aload_n 0, 1) := by decide +kernel
theorem dX7_enter_1 : decode cX7_enter 1 = .ok (.dup, 1) := by decide +kernel
theorem dX7_enter_2 : decode cX7_enter 2 = .ok (.getfield 39, 3) := by decide +kernel
theorem dX7_enter_5 : decode cX7_enter 5 = .ok (.iconst 1, 1) := by decide +kernel
theorem dX7_enter_6 : decode cX7_enter 6 = .ok (.iadd, 1) := by decide +kernel
theorem dX7_enter_7 : decode cX7_enter 7 = .ok (.putfield 39, 3) := by decide +kernel
theorem dX7_enter_10 : decode cX7_enter 10 = .ok (.aload_n 0, 1) := by decide +kernel
theorem dX7_enter_11 : decode cX7_enter 11 = .ok (.getfield 29, 3) := by decide +kernel
theorem dX7_enter_14 : decode cX7_enter 14 = .ok (.aload_n 0, 1) := by decide +kernel
theorem dX7_enter_15 : decode cX7_enter 15 = .ok (.getfield 39, 3) := by decide +kernel
theorem dX7_enter_18 : decode cX7_enter 18 = .ok (.aload_n 0, 1) := by decide +kernel
theorem dX7_enter_19 : decode cX7_enter 19 = .ok (.getfield 58, 3) := by decide +kernel
theorem dX7_enter_22 : decode cX7_enter 22 = .ok (.invokestatic 64, 3) := by decide +kernel
theorem dX7_enter_25 : decode cX7_enter 25 = .ok (.aload_n 0, 1) := by decide +kernel
theorem dX7_enter_26 : decode cX7_enter 26 = .ok (.aload_n 0, 1) := by decide +kernel
theorem dX7_enter_27 : decode cX7_enter 27 = .ok (.getfield 39, 3) := by decide +kernel
theorem dX7_enter_30 : decode cX7_enter 30 = .ok (.putfield 58, 3) := by decide +kernel
theorem dX7_enter_33 : decode cX7_enter 33 = .ok (.aload_n 0, 1) := by decide +kernel
theorem dX7_enter_34 : decode cX7_enter 34 = .ok (.getfield 26, 3) := by decide +kernel
theorem dX7_enter_37 : decode cX7_enter 37 = .ok (.aload_n 0, 1) := by decide +kernel
theorem dX7_enter_38 : decode cX7_enter 38 = .ok (.getfield 58, 3) := by decide +kernel
theorem dX7_enter_41 : decode cX7_enter 41 = .ok (.invokestatic 70, 3) := by decide +kernel
theorem dX7_enter_44 : decode cX7_enter 44 = .ok (.istore_n 1, 1) := by decide +kernel
theorem dX7_enter_45 : decode cX7_enter 45 = .ok (.iconst 0, 1) := by decide +kernel
theorem dX7_enter_46 : decode cX7_enter 46 = .ok (.istore_n 2, 1) := by decide +kernel
theorem dX7_enter_47 : decode cX7_enter 47 = .ok (.iload_n 1, 1) := by decide +kernel
theorem dX7_enter_48 : decode cX7_enter 48 = .ok (.ifCond .eq 30, 3) := by decide +kernel
theorem dX7_enter_51 : decode cX7_enter 51 = .ok (.iload_n 2, 1) := by decide +kernel
theorem dX7_enter_52 : decode cX7_enter 52 = .ok (.sipush 4104, 3) := by decide +kernel
theorem dX7_enter_55 : decode cX7_enter 55 = .ok (.if_icmp .ge 23, 3) := by decide +kernel
theorem dX7_enter_58 : decode cX7_enter 58 = .ok (.aload_n 0, 1) := by decide +kernel
theorem dX7_enter_59 : decode cX7_enter 59 = .ok (.iload_n 1, 1) := by decide +kernel
theorem dX7_enter_60 : decode cX7_enter 60 = .ok (.invokevirtual 74, 3) := by decide +kernel
theorem dX7_enter_63 : decode cX7_enter 63 = .ok (.aload_n 0, 1) := by decide +kernel
theorem dX7_enter_64 : decode cX7_enter 64 = .ok (.getfield 23, 3) := by decide +kernel
theorem dX7_enter_67 : decode cX7_enter 67 = .ok (.iload_n 1, 1) := by decide +kernel
theorem dX7_enter_68 : decode cX7_enter 68 = .ok (.invokestatic 70, 3) := by decide +kernel
theorem dX7_enter_71 : decode cX7_enter 71 = .ok (.istore_n 1, 1) := by decide +kernel
theorem dX7_enter_72 : decode cX7_enter 72 = .ok (.iinc 2 1, 3) := by decide +kernel
theorem dX7_enter_75 : decode cX7_enter 75 = .ok (.goto (-28), 3) := by decide +kernel
theorem dX7_enter_78 : decode cX7_enter 78 = .ok (.return_, 1) := by decide +kernel
def fX7_enter_47 (k_47 : Int32 → Int32 → Wd → Option Wd) (a1 : Int32) (a2 : Int32) (w : Wd) : Option Wd :=
  if a1 = 0 then (some w) else (if 4104 ≤ a2 then (some w) else (lt (fX7_show a1 w) fun w3 => lt (rgi w3 30 4104 a1) fun x4 => lt (a2 + 1) fun x5 => k_47 x4 x5 w3))
theorem pX7_enter_47 {q : Gq} {l : Launch} {N : Option Value → Wd → Prop} {X : String → Wd → Prop} {w : Wd} {R : Wd} (hN : N none R) {k_47 : Int32 → Int32 → Wd → Option Wd} (hk_47 : ∀ (a1 : Int32) (a2 : Int32) (w : Wd), k_47 a1 a2 w = some R → RT (GA q) l 3 yX7_enter cX7_enter 3 (none) N X 47 [] [(0, .ref 26), (1, .int a1), (2, .int a2)] w) {a1 : Int32} {a2 : Int32} (h : fX7_enter_47 k_47 a1 a2 w = some R) : RT (GA q) l 3 yX7_enter cX7_enter 3 (none) N X 47 [] [(0, .ref 26), (1, .int a1), (2, .int a2)] w := by
  unfold fX7_enter_47 at h
  refine r_iload_n (pc := 47) dX7_enter_47 rfl 1 rfl ?_
  refine r_if_eq (pc := 48) dX7_enter_48 rfl (fun hc1 => ?_) (fun hc1 => ?_)
  · replace h := if_t hc1 h
    exact rO_v (pc := 78) rfl dX7_enter_78 h hN
  replace h := if_f hc1 h
  refine r_iload_n (pc := 51) dX7_enter_51 rfl 2 rfl ?_
  refine r_sipush (pc := 52) dX7_enter_52 ks_4104 ?_
  refine r_icmp_ge (pc := 55) dX7_enter_55 rfl (fun hc2 => ?_) (fun hc2 => ?_)
  · replace h := if_t hc2 h
    exact rO_v (pc := 78) rfl dX7_enter_78 h hN
  replace h := if_f hc2 h
  refine r_aload_n (pc := 58) dX7_enter_58 rfl 0 rfl ?_
  refine r_iload_n (pc := 59) dX7_enter_59 rfl 1 rfl ?_
  replace h := lt_e h; obtain ⟨w3, ew3, h⟩ := h
  refine r_cVv (pc := 60) wyX7_show oA26 rfl mlRX7_74 iyX7_show syX7_show ⟨(Nat.le_of_ble_eq_true rfl), (Nat.le_of_ble_eq_true rfl)⟩ rfl rfl (Nat.le_of_ble_eq_true rfl) dX7_enter_60 (mX7_show ew3 (pV.mk ?_))
  refine r_aload_n (pc := 63) dX7_enter_63 rfl 0 rfl ?_
  refine r_get (pc := 64) (j := 3) (v := .ref 30) oA26 cf7 flRX7_23 rfl dX7_enter_64 rfl ?_
  refine r_iload_n (pc := 67) dX7_enter_67 rfl 1 rfl ?_
  replace h := lt_e h; obtain ⟨x4, ex4, h⟩ := h
  refine r_cSi (pc := 68) wyX6_get mlRX7_70 tyX6_get ⟨(Nat.le_of_ble_eq_true rfl), (Nat.le_of_ble_eq_true rfl)⟩ rfl rfl (Nat.le_of_ble_eq_true rfl) dX7_enter_68 (mX6_get aA30 (Nat.le_of_ble_eq_true rfl) ex4 (pI.mk ?_))
  refine r_istore_n (pc := 71) (loc' := [(1, .int x4), (0, .ref 26), (2, .int a2)]) dX7_enter_71 rfl (Nat.le_of_ble_eq_true rfl) rfl ?_
  replace h := lt_e h; obtain ⟨x5, ex5, h⟩ := h
  refine r_inc (pc := 72) (loc' := [(2, .int x5), (1, .int x4), (0, .ref 26)]) dX7_enter_72 ki_1 ex5 2 rfl (Nat.le_of_ble_eq_true rfl) rfl ?_
  refine r_goto (pc := 75) dX7_enter_75 rfl ?_
  refine r_drop (loc' := [(0, .ref 26), (1, .int x4), (2, .int x5)]) [2, 1, 0] rfl ?_
  exact hk_47 x4 x5 w3 h
def oX7_enter_47 : Nat → Int32 → Int32 → Wd → Option Wd
  | 0 => fun _ _ _ => none
  | n + 1 => fX7_enter_47 (oX7_enter_47 n)
theorem qX7_enter_47 {q : Gq} {l : Launch} {N : Option Value → Wd → Prop} {X : String → Wd → Prop} {R : Wd} (hN : N none R) : ∀ (n : Nat) (a1 : Int32) (a2 : Int32) (w : Wd), oX7_enter_47 n a1 a2 w = some R → RT (GA q) l 3 yX7_enter cX7_enter 3 (none) N X 47 [] [(0, .ref 26), (1, .int a1), (2, .int a2)] w := by
  intro n
  induction n with
  | zero =>
    intro a1 a2 w h
    exact absurd h (fun q => nomatch q)
  | succ n ih =>
    intro a1 a2 w h
    exact pX7_enter_47 hN ih h
def fX7_enter (w : Wd) : Option Wd :=
  lt (si w 26 8 ((gi w 26 8) + 1)) fun w1 => lt (rsi w1 32 4096 (gi w1 26 8) (gi w1 26 9)) fun w2 => lt (si w2 26 9 (gi w2 26 8)) fun w3 => lt (rgi w3 31 4096 (gi w3 26 9)) fun x4 => oX7_enter_47 FU x4 0 w3
theorem pX7_enter {q : Gq} {l : Launch} {N : Option Value → Wd → Prop} {X : String → Wd → Prop} {w : Wd} {R : Wd} (hN : N none R) (h : fX7_enter w = some R) : RT (GA q) l 3 yX7_enter cX7_enter 3 (none) N X 0 [] [(0, .ref 26)] w := by
  unfold fX7_enter at h
  refine r_aload_n (pc := 0) dX7_enter_0 rfl 0 rfl ?_
  refine r_dup (pc := 1) dX7_enter_1 rfl ?_
  refine r_get (pc := 2) (j := 8) (v := .int (gi w 26 8)) oA26 cf7 flRX7_39 rfl dX7_enter_2 rfl ?_
  refine r_iconst (pc := 5) dX7_enter_5 ki_1 ?_
  refine r_iadd (pc := 6) dX7_enter_6 ?_
  replace h := lt_e h; obtain ⟨w1, ew1, h⟩ := h
  refine r_putI (pc := 7) (j := 8) oA26 cf7 flRX7_39 rfl rfl rfl rfl dX7_enter_7 ?_
  refine r_w ew1 ?_
  refine r_aload_n (pc := 10) dX7_enter_10 rfl 0 rfl ?_
  refine r_get (pc := 11) (j := 5) (v := .ref 32) oA26 cf7 flRX7_29 rfl dX7_enter_11 rfl ?_
  refine r_aload_n (pc := 14) dX7_enter_14 rfl 0 rfl ?_
  refine r_get (pc := 15) (j := 8) (v := .int (gi w1 26 8)) oA26 cf7 flRX7_39 rfl dX7_enter_15 rfl ?_
  refine r_aload_n (pc := 18) dX7_enter_18 rfl 0 rfl ?_
  refine r_get (pc := 19) (j := 9) (v := .int (gi w1 26 9)) oA26 cf7 flRX7_58 rfl dX7_enter_19 rfl ?_
  replace h := lt_e h; obtain ⟨w2, ew2, h⟩ := h
  refine r_cSv (pc := 22) wyX6_set mlRX7_64 tyX6_set ⟨(Nat.le_of_ble_eq_true rfl), (Nat.le_of_ble_eq_true rfl)⟩ rfl rfl (Nat.le_of_ble_eq_true rfl) dX7_enter_22 (mX6_set aA32 (Nat.le_of_ble_eq_true rfl) ew2 (pV.mk ?_))
  refine r_aload_n (pc := 25) dX7_enter_25 rfl 0 rfl ?_
  refine r_aload_n (pc := 26) dX7_enter_26 rfl 0 rfl ?_
  refine r_get (pc := 27) (j := 8) (v := .int (gi w2 26 8)) oA26 cf7 flRX7_39 rfl dX7_enter_27 rfl ?_
  replace h := lt_e h; obtain ⟨w3, ew3, h⟩ := h
  refine r_putI (pc := 30) (j := 9) oA26 cf7 flRX7_58 rfl rfl rfl rfl dX7_enter_30 ?_
  refine r_w ew3 ?_
  refine r_aload_n (pc := 33) dX7_enter_33 rfl 0 rfl ?_
  refine r_get (pc := 34) (j := 4) (v := .ref 31) oA26 cf7 flRX7_26 rfl dX7_enter_34 rfl ?_
  refine r_aload_n (pc := 37) dX7_enter_37 rfl 0 rfl ?_
  refine r_get (pc := 38) (j := 9) (v := .int (gi w3 26 9)) oA26 cf7 flRX7_58 rfl dX7_enter_38 rfl ?_
  replace h := lt_e h; obtain ⟨x4, ex4, h⟩ := h
  refine r_cSi (pc := 41) wyX6_get mlRX7_70 tyX6_get ⟨(Nat.le_of_ble_eq_true rfl), (Nat.le_of_ble_eq_true rfl)⟩ rfl rfl (Nat.le_of_ble_eq_true rfl) dX7_enter_41 (mX6_get aA31 (Nat.le_of_ble_eq_true rfl) ex4 (pI.mk ?_))
  refine r_istore_n (pc := 44) (loc' := [(1, .int x4), (0, .ref 26)]) dX7_enter_44 rfl (Nat.le_of_ble_eq_true rfl) rfl ?_
  refine r_iconst (pc := 45) dX7_enter_45 ki_0 ?_
  refine r_istore_n (pc := 46) (loc' := [(2, .int 0), (1, .int x4), (0, .ref 26)]) dX7_enter_46 rfl (Nat.le_of_ble_eq_true rfl) rfl ?_
  refine r_drop (loc' := [(0, .ref 26), (1, .int x4), (2, .int 0)]) [2, 1, 0] rfl ?_
  exact qX7_enter_47 hN FU x4 0 w3 h
theorem mX7_enter {q : Gq} {l : Launch} {N : Option Value → Wd → Prop} {X : String → Wd → Prop} {w : Wd} {u : Wd} (h : fX7_enter w = some u) (hN : N none u) : Ct (GA q) l 3 yX7_enter cX7_enter 3 (none) [.ref 26] w N X := Ct.of (by decide) (Nat.le_of_ble_eq_true rfl) (pX7_enter hN h)
/-! AlgolMill$Scopes.leave ()V: O, 2 -/
theorem dX7_leave_0 : decode cX7_leave 0 = .ok (.aload_n 0, 1) := by decide +kernel
theorem dX7_leave_1 : decode cX7_leave 1 = .ok (.getfield 26, 3) := by decide +kernel
theorem dX7_leave_4 : decode cX7_leave 4 = .ok (.aload_n 0, 1) := by decide +kernel
theorem dX7_leave_5 : decode cX7_leave 5 = .ok (.getfield 58, 3) := by decide +kernel
theorem dX7_leave_8 : decode cX7_leave 8 = .ok (.invokestatic 70, 3) := by decide +kernel
theorem dX7_leave_11 : decode cX7_leave 11 = .ok (.istore_n 1, 1) := by decide +kernel
theorem dX7_leave_12 : decode cX7_leave 12 = .ok (.iconst 0, 1) := by decide +kernel
theorem dX7_leave_13 : decode cX7_leave 13 = .ok (.istore_n 2, 1) := by decide +kernel
theorem dX7_leave_14 : decode cX7_leave 14 = .ok (.iload_n 1, 1) := by decide +kernel
theorem dX7_leave_15 : decode cX7_leave 15 = .ok (.ifCond .eq 48, 3) := by decide +kernel
theorem dX7_leave_18 : decode cX7_leave 18 = .ok (.iload_n 2, 1) := by decide +kernel
theorem dX7_leave_19 : decode cX7_leave 19 = .ok (.sipush 4104, 3) := by decide +kernel
theorem dX7_leave_22 : decode cX7_leave 22 = .ok (.if_icmp .ge 41, 3) := by decide +kernel
theorem dX7_leave_25 : decode cX7_leave 25 = .ok (.aload_n 0, 1) := by decide +kernel
theorem dX7_leave_26 : decode cX7_leave 26 = .ok (.getfield 9, 3) := by decide +kernel
theorem dX7_leave_29 : decode cX7_leave 29 = .ok (.aload_n 0, 1) := by decide +kernel
theorem dX7_leave_30 : decode cX7_leave 30 = .ok (.getfield 35, 3) := by decide +kernel
theorem dX7_leave_33 : decode cX7_leave 33 = .ok (.iload_n 1, 1) := by decide +kernel
theorem dX7_leave_34 : decode cX7_leave 34 = .ok (.invokevirtual 78, 3) := by decide +kernel
theorem dX7_leave_37 : decode cX7_leave 37 = .ok (.aload_n 0, 1) := by decide +kernel
theorem dX7_leave_38 : decode cX7_leave 38 = .ok (.getfield 17, 3) := by decide +kernel
theorem dX7_leave_41 : decode cX7_leave 41 = .ok (.iload_n 1, 1) := by decide +kernel
theorem dX7_leave_42 : decode cX7_leave 42 = .ok (.invokestatic 70, 3) := by decide +kernel
theorem dX7_leave_45 : decode cX7_leave 45 = .ok (.invokestatic 64, 3) := by decide +kernel
theorem dX7_leave_48 : decode cX7_leave 48 = .ok (.aload_n 0, 1) := by decide +kernel
theorem dX7_leave_49 : decode cX7_leave 49 = .ok (.getfield 23, 3) := by decide +kernel
theorem dX7_leave_52 : decode cX7_leave 52 = .ok (.iload_n 1, 1) := by decide +kernel
theorem dX7_leave_53 : decode cX7_leave 53 = .ok (.invokestatic 70, 3) := by decide +kernel
theorem dX7_leave_56 : decode cX7_leave 56 = .ok (.istore_n 1, 1) := by decide +kernel
theorem dX7_leave_57 : decode cX7_leave 57 = .ok (.iinc 2 1, 3) := by decide +kernel
theorem dX7_leave_60 : decode cX7_leave 60 = .ok (.goto (-46), 3) := by decide +kernel
theorem dX7_leave_63 : decode cX7_leave 63 = .ok (.aload_n 0, 1) := by decide +kernel
theorem dX7_leave_64 : decode cX7_leave 64 = .ok (.aload_n 0, 1) := by decide +kernel
theorem dX7_leave_65 : decode cX7_leave 65 = .ok (.getfield 29, 3) := by decide +kernel
theorem dX7_leave_68 : decode cX7_leave 68 = .ok (.aload_n 0, 1) := by decide +kernel
theorem dX7_leave_69 : decode cX7_leave 69 = .ok (.getfield 58, 3) := by decide +kernel
theorem dX7_leave_72 : decode cX7_leave 72 = .ok (.invokestatic 70, 3) := by decide +kernel
theorem dX7_leave_75 : decode cX7_leave 75 = .ok (.putfield 58, 3) := by decide +kernel
theorem dX7_leave_78 : decode cX7_leave 78 = .ok (.return_, 1) := by decide +kernel
def fX7_leave_14 (k_14 : Int32 → Int32 → Wd → Option Wd) (a1 : Int32) (a2 : Int32) (w : Wd) : Option Wd :=
  if a1 = 0 then (lt (rgi w 32 4096 (gi w 26 9)) fun x2 => lt (si w 26 9 x2) fun w3 => some w3) else (if 4104 ≤ a2 then (lt (rgi w 32 4096 (gi w 26 9)) fun x5 => lt (si w 26 9 x5) fun w6 => some w6) else (lt (fX8_name a1 w) fun x7 => lt (rgi w 28 4104 a1) fun x8 => lt (rsi w 27 8192 x7 x8) fun w9 => lt (rgi w9 30 4104 a1) fun x10 => lt (a2 + 1) fun x11 => k_14 x10 x11 w9))
theorem pX7_leave_14 {q : Gq} {l : Launch} {N : Option Value → Wd → Prop} {X : String → Wd → Prop} {w : Wd} {R : Wd} (hN : N none R) {k_14 : Int32 → Int32 → Wd → Option Wd} (hk_14 : ∀ (a1 : Int32) (a2 : Int32) (w : Wd), k_14 a1 a2 w = some R → RT (GA q) l 2 yX7_leave cX7_leave 3 (none) N X 14 [] [(0, .ref 26), (1, .int a1), (2, .int a2)] w) {a1 : Int32} {a2 : Int32} (h : fX7_leave_14 k_14 a1 a2 w = some R) : RT (GA q) l 2 yX7_leave cX7_leave 3 (none) N X 14 [] [(0, .ref 26), (1, .int a1), (2, .int a2)] w := by
  unfold fX7_leave_14 at h
  refine r_iload_n (pc := 14) dX7_leave_14 rfl 1 rfl ?_
  refine r_if_eq (pc := 15) dX7_leave_15 rfl (fun hc1 => ?_) (fun hc1 => ?_)
  · replace h := if_t hc1 h
    refine r_aload_n (pc := 63) dX7_leave_63 rfl 0 rfl ?_
    refine r_aload_n (pc := 64) dX7_leave_64 rfl 0 rfl ?_
    refine r_get (pc := 65) (j := 5) (v := .ref 32) oA26 cf7 flRX7_29 rfl dX7_leave_65 rfl ?_
    refine r_aload_n (pc := 68) dX7_leave_68 rfl 0 rfl ?_
    refine r_get (pc := 69) (j := 9) (v := .int (gi w 26 9)) oA26 cf7 flRX7_58 rfl dX7_leave_69 rfl ?_
    replace h := lt_e h; obtain ⟨x2, ex2, h⟩ := h
    refine r_cSi (pc := 72) wyX6_get mlRX7_70 tyX6_get ⟨(Nat.le_of_ble_eq_true rfl), (Nat.le_of_ble_eq_true rfl)⟩ rfl rfl (Nat.le_of_ble_eq_true rfl) dX7_leave_72 (mX6_get aA32 (Nat.le_of_ble_eq_true rfl) ex2 (pI.mk ?_))
    replace h := lt_e h; obtain ⟨w3, ew3, h⟩ := h
    refine r_putI (pc := 75) (j := 9) oA26 cf7 flRX7_58 rfl rfl rfl rfl dX7_leave_75 ?_
    refine r_w ew3 ?_
    exact rO_v (pc := 78) rfl dX7_leave_78 h hN
  replace h := if_f hc1 h
  refine r_iload_n (pc := 18) dX7_leave_18 rfl 2 rfl ?_
  refine r_sipush (pc := 19) dX7_leave_19 ks_4104 ?_
  refine r_icmp_ge (pc := 22) dX7_leave_22 rfl (fun hc4 => ?_) (fun hc4 => ?_)
  · replace h := if_t hc4 h
    refine r_aload_n (pc := 63) dX7_leave_63 rfl 0 rfl ?_
    refine r_aload_n (pc := 64) dX7_leave_64 rfl 0 rfl ?_
    refine r_get (pc := 65) (j := 5) (v := .ref 32) oA26 cf7 flRX7_29 rfl dX7_leave_65 rfl ?_
    refine r_aload_n (pc := 68) dX7_leave_68 rfl 0 rfl ?_
    refine r_get (pc := 69) (j := 9) (v := .int (gi w 26 9)) oA26 cf7 flRX7_58 rfl dX7_leave_69 rfl ?_
    replace h := lt_e h; obtain ⟨x5, ex5, h⟩ := h
    refine r_cSi (pc := 72) wyX6_get mlRX7_70 tyX6_get ⟨(Nat.le_of_ble_eq_true rfl), (Nat.le_of_ble_eq_true rfl)⟩ rfl rfl (Nat.le_of_ble_eq_true rfl) dX7_leave_72 (mX6_get aA32 (Nat.le_of_ble_eq_true rfl) ex5 (pI.mk ?_))
    replace h := lt_e h; obtain ⟨w6, ew6, h⟩ := h
    refine r_putI (pc := 75) (j := 9) oA26 cf7 flRX7_58 rfl rfl rfl rfl dX7_leave_75 ?_
    refine r_w ew6 ?_
    exact rO_v (pc := 78) rfl dX7_leave_78 h hN
  replace h := if_f hc4 h
  refine r_aload_n (pc := 25) dX7_leave_25 rfl 0 rfl ?_
  refine r_get (pc := 26) (j := 0) (v := .ref 27) oA26 cf7 flRX7_9 rfl dX7_leave_26 rfl ?_
  refine r_aload_n (pc := 29) dX7_leave_29 rfl 0 rfl ?_
  refine r_get (pc := 30) (j := 7) (v := .ref 13) oA26 cf7 flRX7_35 rfl dX7_leave_30 rfl ?_
  refine r_iload_n (pc := 33) dX7_leave_33 rfl 1 rfl ?_
  replace h := lt_e h; obtain ⟨x7, ex7, h⟩ := h
  refine r_cVi (pc := 34) wyX8_name oA13 rfl mlRX7_78 iyX8_name syX8_name ⟨(Nat.le_of_ble_eq_true rfl), (Nat.le_of_ble_eq_true rfl)⟩ rfl rfl (Nat.le_of_ble_eq_true rfl) dX7_leave_34 (mX8_name ex7 (pI.mk ?_))
  refine r_aload_n (pc := 37) dX7_leave_37 rfl 0 rfl ?_
  refine r_get (pc := 38) (j := 1) (v := .ref 28) oA26 cf7 flRX7_17 rfl dX7_leave_38 rfl ?_
  refine r_iload_n (pc := 41) dX7_leave_41 rfl 1 rfl ?_
  replace h := lt_e h; obtain ⟨x8, ex8, h⟩ := h
  refine r_cSi (pc := 42) wyX6_get mlRX7_70 tyX6_get ⟨(Nat.le_of_ble_eq_true rfl), (Nat.le_of_ble_eq_true rfl)⟩ rfl rfl (Nat.le_of_ble_eq_true rfl) dX7_leave_42 (mX6_get aA28 (Nat.le_of_ble_eq_true rfl) ex8 (pI.mk ?_))
  replace h := lt_e h; obtain ⟨w9, ew9, h⟩ := h
  refine r_cSv (pc := 45) wyX6_set mlRX7_64 tyX6_set ⟨(Nat.le_of_ble_eq_true rfl), (Nat.le_of_ble_eq_true rfl)⟩ rfl rfl (Nat.le_of_ble_eq_true rfl) dX7_leave_45 (mX6_set aA27 (Nat.le_of_ble_eq_true rfl) ew9 (pV.mk ?_))
  refine r_aload_n (pc := 48) dX7_leave_48 rfl 0 rfl ?_
  refine r_get (pc := 49) (j := 3) (v := .ref 30) oA26 cf7 flRX7_23 rfl dX7_leave_49 rfl ?_
  refine r_iload_n (pc := 52) dX7_leave_52 rfl 1 rfl ?_
  replace h := lt_e h; obtain ⟨x10, ex10, h⟩ := h
  refine r_cSi (pc := 53) wyX6_get mlRX7_70 tyX6_get ⟨(Nat.le_of_ble_eq_true rfl), (Nat.le_of_ble_eq_true rfl)⟩ rfl rfl (Nat.le_of_ble_eq_true rfl) dX7_leave_53 (mX6_get aA30 (Nat.le_of_ble_eq_true rfl) ex10 (pI.mk ?_))
  refine r_istore_n (pc := 56) (loc' := [(1, .int x10), (0, .ref 26), (2, .int a2)]) dX7_leave_56 rfl (Nat.le_of_ble_eq_true rfl) rfl ?_
  replace h := lt_e h; obtain ⟨x11, ex11, h⟩ := h
  refine r_inc (pc := 57) (loc' := [(2, .int x11), (1, .int x10), (0, .ref 26)]) dX7_leave_57 ki_1 ex11 2 rfl (Nat.le_of_ble_eq_true rfl) rfl ?_
  refine r_goto (pc := 60) dX7_leave_60 rfl ?_
  refine r_drop (loc' := [(0, .ref 26), (1, .int x10), (2, .int x11)]) [2, 1, 0] rfl ?_
  exact hk_14 x10 x11 w9 h
def oX7_leave_14 : Nat → Int32 → Int32 → Wd → Option Wd
  | 0 => fun _ _ _ => none
  | n + 1 => fX7_leave_14 (oX7_leave_14 n)
theorem qX7_leave_14 {q : Gq} {l : Launch} {N : Option Value → Wd → Prop} {X : String → Wd → Prop} {R : Wd} (hN : N none R) : ∀ (n : Nat) (a1 : Int32) (a2 : Int32) (w : Wd), oX7_leave_14 n a1 a2 w = some R → RT (GA q) l 2 yX7_leave cX7_leave 3 (none) N X 14 [] [(0, .ref 26), (1, .int a1), (2, .int a2)] w := by
  intro n
  induction n with
  | zero =>
    intro a1 a2 w h
    exact absurd h (fun q => nomatch q)
  | succ n ih =>
    intro a1 a2 w h
    exact pX7_leave_14 hN ih h
def fX7_leave (w : Wd) : Option Wd :=
  lt (rgi w 31 4096 (gi w 26 9)) fun x1 => oX7_leave_14 FU x1 0 w
theorem pX7_leave {q : Gq} {l : Launch} {N : Option Value → Wd → Prop} {X : String → Wd → Prop} {w : Wd} {R : Wd} (hN : N none R) (h : fX7_leave w = some R) : RT (GA q) l 2 yX7_leave cX7_leave 3 (none) N X 0 [] [(0, .ref 26)] w := by
  unfold fX7_leave at h
  refine r_aload_n (pc := 0) dX7_leave_0 rfl 0 rfl ?_
  refine r_get (pc := 1) (j := 4) (v := .ref 31) oA26 cf7 flRX7_26 rfl dX7_leave_1 rfl ?_
  refine r_aload_n (pc := 4) dX7_leave_4 rfl 0 rfl ?_
  refine r_get (pc := 5) (j := 9) (v := .int (gi w 26 9)) oA26 cf7 flRX7_58 rfl dX7_leave_5 rfl ?_
  replace h := lt_e h; obtain ⟨x1, ex1, h⟩ := h
  refine r_cSi (pc := 8) wyX6_get mlRX7_70 tyX6_get ⟨(Nat.le_of_ble_eq_true rfl), (Nat.le_of_ble_eq_true rfl)⟩ rfl rfl (Nat.le_of_ble_eq_true rfl) dX7_leave_8 (mX6_get aA31 (Nat.le_of_ble_eq_true rfl) ex1 (pI.mk ?_))
  refine r_istore_n (pc := 11) (loc' := [(1, .int x1), (0, .ref 26)]) dX7_leave_11 rfl (Nat.le_of_ble_eq_true rfl) rfl ?_
  refine r_iconst (pc := 12) dX7_leave_12 ki_0 ?_
  refine r_istore_n (pc := 13) (loc' := [(2, .int 0), (1, .int x1), (0, .ref 26)]) dX7_leave_13 rfl (Nat.le_of_ble_eq_true rfl) rfl ?_
  refine r_drop (loc' := [(0, .ref 26), (1, .int x1), (2, .int 0)]) [2, 1, 0] rfl ?_
  exact qX7_leave_14 hN FU x1 0 w h
theorem mX7_leave {q : Gq} {l : Launch} {N : Option Value → Wd → Prop} {X : String → Wd → Prop} {w : Wd} {u : Wd} (h : fX7_leave w = some u) (hN : N none u) : Ct (GA q) l 2 yX7_leave cX7_leave 3 (none) [.ref 26] w N X := Ct.of (by decide) (Nat.le_of_ble_eq_true rfl) (pX7_leave hN h)
/-! AlgolMill$Scopes.add (I)Z: S, 3 -/
theorem dX7_add_0 : decode cX7_add 0 = .ok (.aload_n 0, 1) := by decide +kernel
theorem dX7_add_1 : decode cX7_add 1 = .ok (.getfield 9, 3) := by decide +kernel
theorem dX7_add_4 : decode cX7_add 4 = .ok (.aload_n 0, 1) := by decide +kernel
theorem dX7_add_5 : decode cX7_add 5 = .ok (.getfield 35, 3) := by decide +kernel
theorem dX7_add_8 : decode cX7_add 8 = .ok (.iload_n 1, 1) := by decide +kernel
theorem dX7_add_9 : decode cX7_add 9 = .ok (.invokevirtual 78, 3) := by decide +kernel
theorem dX7_add_12 : decode cX7_add 12 = .ok (.invokestatic 70, 3) := by decide +kernel
theorem dX7_add_15 : decode cX7_add 15 = .ok (.istore_n 2, 1) := by decide +kernel
theorem dX7_add_16 : decode cX7_add 16 = .ok (.iload_n 2, 1) := by decide +kernel
theorem dX7_add_17 : decode cX7_add 17 = .ok (.ifCond .eq 20, 3) := by decide +kernel
theorem dX7_add_20 : decode cX7_add 20 = .ok (.aload_n 0, 1) := by decide +kernel
theorem dX7_add_21 : decode cX7_add 21 = .ok (.getfield 20, 3) := by decide +kernel
theorem dX7_add_24 : decode cX7_add 24 = .ok (.iload_n 2, 1) := by decide +kernel
theorem dX7_add_25 : decode cX7_add 25 = .ok (.invokestatic 70, 3) := by decide +kernel
theorem dX7_add_28 : decode cX7_add 28 = .ok (.aload_n 0, 1) := by decide +kernel
theorem dX7_add_29 : decode cX7_add 29 = .ok (.getfield 58, 3) := by decide +kernel
theorem dX7_add_32 : decode cX7_add 32 = .ok (.if_icmp .ne 5, 3) := by decide +kernel
theorem dX7_add_35 : decode cX7_add 35 = .ok (.iconst 0, 1) := by decide +kernel
theorem dX7_add_36 : decode cX7_add 36 = .ok (.ireturn, 1) := by decide +kernel
theorem dX7_add_37 : decode cX7_add 37 = .ok (.aload_n 0, 1) := by decide +kernel
theorem dX7_add_38 : decode cX7_add 38 = .ok (.getfield 20, 3) := by decide +kernel
theorem dX7_add_41 : decode cX7_add 41 = .ok (.iload_n 1, 1) := by decide +kernel
theorem dX7_add_42 : decode cX7_add 42 = .ok (.aload_n 0, 1) := by decide +kernel
theorem dX7_add_43 : decode cX7_add 43 = .ok (.getfield 58, 3) := by decide +kernel
theorem dX7_add_46 : decode cX7_add 46 = .ok (.invokestatic 64, 3) := by decide +kernel
theorem dX7_add_49 : decode cX7_add 49 = .ok (.aload_n 0, 1) := by decide +kernel
theorem dX7_add_50 : decode cX7_add 50 = .ok (.getfield 23, 3) := by decide +kernel
theorem dX7_add_53 : decode cX7_add 53 = .ok (.iload_n 1, 1) := by decide +kernel
theorem dX7_add_54 : decode cX7_add 54 = .ok (.aload_n 0, 1) := by decide +kernel
theorem dX7_add_55 : decode cX7_add 55 = .ok (.getfield 26, 3) := by decide +kernel
theorem dX7_add_58 : decode cX7_add 58 = .ok (.aload_n 0, 1) := by decide +kernel
theorem dX7_add_59 : decode cX7_add 59 = .ok (.getfield 58, 3) := by decide +kernel
theorem dX7_add_62 : decode cX7_add 62 = .ok (.invokestatic 70, 3) := by decide +kernel
theorem dX7_add_65 : decode cX7_add 65 = .ok (.invokestatic 64, 3) := by decide +kernel
theorem dX7_add_68 : decode cX7_add 68 = .ok (.aload_n 0, 1) := by decide +kernel
theorem dX7_add_69 : decode cX7_add 69 = .ok (.getfield 26, 3) := by decide +kernel
theorem dX7_add_72 : decode cX7_add 72 = .ok (.aload_n 0, 1) := by decide +kernel
theorem dX7_add_73 : decode cX7_add 73 = .ok (.getfield 58, 3) := by decide +kernel
theorem dX7_add_76 : decode cX7_add 76 = .ok (.iload_n 1, 1) := by decide +kernel
theorem dX7_add_77 : decode cX7_add 77 = .ok (.invokestatic 64, 3) := by decide +kernel
theorem dX7_add_80 : decode cX7_add 80 = .ok (.aload_n 0, 1) := by decide +kernel
theorem dX7_add_81 : decode cX7_add 81 = .ok (.iload_n 1, 1) := by decide +kernel
theorem dX7_add_82 : decode cX7_add 82 = .ok (.invokevirtual 74, 3) := by decide +kernel
theorem dX7_add_85 : decode cX7_add 85 = .ok (.iconst 1, 1) := by decide +kernel
theorem dX7_add_86 : decode cX7_add 86 = .ok (.ireturn, 1) := by decide +kernel
def fX7_add_37 (a1 : Int32) (w : Wd) : Bool × Wd :=
  lt (rsi w 29 4104 a1 (gi w 26 9)) fun w1 => lt (rgi w1 31 4096 (gi w1 26 9)) fun x2 => lt (rsi w1 30 4104 a1 x2) fun w3 => lt (rsi w3 31 4096 (gi w3 26 9) a1) fun w4 => lt (fX7_show a1 w4) fun w5 => (true, w5)
theorem pX7_add_37 {q : Gq} {l : Launch} {N : Option Value → Wd → Prop} {X : String → Wd → Prop} {w : Wd} {R : Bool × Wd} (hN : N (some (.int (b2i R.1))) R.2) {a1 : Int32} (h : fX7_add_37 a1 w = R) : RT (GA q) l 3 yX7_add cX7_add 3 ((some .boolean)) N X 37 [] [(0, .ref 26), (1, .int a1)] w := by
  unfold fX7_add_37 at h
  refine r_aload_n (pc := 37) dX7_add_37 rfl 0 rfl ?_
  refine r_get (pc := 38) (j := 2) (v := .ref 29) oA26 cf7 flRX7_20 rfl dX7_add_38 rfl ?_
  refine r_iload_n (pc := 41) dX7_add_41 rfl 1 rfl ?_
  refine r_aload_n (pc := 42) dX7_add_42 rfl 0 rfl ?_
  refine r_get (pc := 43) (j := 9) (v := .int (gi w 26 9)) oA26 cf7 flRX7_58 rfl dX7_add_43 rfl ?_
  replace h := lt_e h; obtain ⟨w1, ew1, h⟩ := h
  refine r_cSv (pc := 46) wyX6_set mlRX7_64 tyX6_set ⟨(Nat.le_of_ble_eq_true rfl), (Nat.le_of_ble_eq_true rfl)⟩ rfl rfl (Nat.le_of_ble_eq_true rfl) dX7_add_46 (mX6_set aA29 (Nat.le_of_ble_eq_true rfl) ew1 (pV.mk ?_))
  refine r_aload_n (pc := 49) dX7_add_49 rfl 0 rfl ?_
  refine r_get (pc := 50) (j := 3) (v := .ref 30) oA26 cf7 flRX7_23 rfl dX7_add_50 rfl ?_
  refine r_iload_n (pc := 53) dX7_add_53 rfl 1 rfl ?_
  refine r_aload_n (pc := 54) dX7_add_54 rfl 0 rfl ?_
  refine r_get (pc := 55) (j := 4) (v := .ref 31) oA26 cf7 flRX7_26 rfl dX7_add_55 rfl ?_
  refine r_aload_n (pc := 58) dX7_add_58 rfl 0 rfl ?_
  refine r_get (pc := 59) (j := 9) (v := .int (gi w1 26 9)) oA26 cf7 flRX7_58 rfl dX7_add_59 rfl ?_
  replace h := lt_e h; obtain ⟨x2, ex2, h⟩ := h
  refine r_cSi (pc := 62) wyX6_get mlRX7_70 tyX6_get ⟨(Nat.le_of_ble_eq_true rfl), (Nat.le_of_ble_eq_true rfl)⟩ rfl rfl (Nat.le_of_ble_eq_true rfl) dX7_add_62 (mX6_get aA31 (Nat.le_of_ble_eq_true rfl) ex2 (pI.mk ?_))
  replace h := lt_e h; obtain ⟨w3, ew3, h⟩ := h
  refine r_cSv (pc := 65) wyX6_set mlRX7_64 tyX6_set ⟨(Nat.le_of_ble_eq_true rfl), (Nat.le_of_ble_eq_true rfl)⟩ rfl rfl (Nat.le_of_ble_eq_true rfl) dX7_add_65 (mX6_set aA30 (Nat.le_of_ble_eq_true rfl) ew3 (pV.mk ?_))
  refine r_aload_n (pc := 68) dX7_add_68 rfl 0 rfl ?_
  refine r_get (pc := 69) (j := 4) (v := .ref 31) oA26 cf7 flRX7_26 rfl dX7_add_69 rfl ?_
  refine r_aload_n (pc := 72) dX7_add_72 rfl 0 rfl ?_
  refine r_get (pc := 73) (j := 9) (v := .int (gi w3 26 9)) oA26 cf7 flRX7_58 rfl dX7_add_73 rfl ?_
  refine r_iload_n (pc := 76) dX7_add_76 rfl 1 rfl ?_
  replace h := lt_e h; obtain ⟨w4, ew4, h⟩ := h
  refine r_cSv (pc := 77) wyX6_set mlRX7_64 tyX6_set ⟨(Nat.le_of_ble_eq_true rfl), (Nat.le_of_ble_eq_true rfl)⟩ rfl rfl (Nat.le_of_ble_eq_true rfl) dX7_add_77 (mX6_set aA31 (Nat.le_of_ble_eq_true rfl) ew4 (pV.mk ?_))
  refine r_aload_n (pc := 80) dX7_add_80 rfl 0 rfl ?_
  refine r_iload_n (pc := 81) dX7_add_81 rfl 1 rfl ?_
  replace h := lt_e h; obtain ⟨w5, ew5, h⟩ := h
  refine r_cVv (pc := 82) wyX7_show oA26 rfl mlRX7_74 iyX7_show syX7_show ⟨(Nat.le_of_ble_eq_true rfl), (Nat.le_of_ble_eq_true rfl)⟩ rfl rfl (Nat.le_of_ble_eq_true rfl) dX7_add_82 (mX7_show ew5 (pV.mk ?_))
  refine r_iconst (pc := 85) dX7_add_85 ki_1 ?_
  exact rS_z (pc := 86) (x := true) rfl dX7_add_86 h hN
def fX7_add (a1 : Int32) (w : Wd) : Bool × Wd :=
  lt (fX8_name a1 w) fun x1 => lt (rgi w 27 8192 x1) fun x2 => if x2 = 0 then (fX7_add_37 a1 w) else (lt (rgi w 29 4104 x2) fun x4 => if x4 = (gi w 26 9) then ((false, w)) else (fX7_add_37 a1 w))
theorem pX7_add {q : Gq} {l : Launch} {N : Option Value → Wd → Prop} {X : String → Wd → Prop} {w : Wd} {R : Bool × Wd} (hN : N (some (.int (b2i R.1))) R.2) {a1 : Int32} (h : fX7_add a1 w = R) : RT (GA q) l 3 yX7_add cX7_add 3 ((some .boolean)) N X 0 [] [(0, .ref 26), (1, .int a1)] w := by
  unfold fX7_add at h
  refine r_aload_n (pc := 0) dX7_add_0 rfl 0 rfl ?_
  refine r_get (pc := 1) (j := 0) (v := .ref 27) oA26 cf7 flRX7_9 rfl dX7_add_1 rfl ?_
  refine r_aload_n (pc := 4) dX7_add_4 rfl 0 rfl ?_
  refine r_get (pc := 5) (j := 7) (v := .ref 13) oA26 cf7 flRX7_35 rfl dX7_add_5 rfl ?_
  refine r_iload_n (pc := 8) dX7_add_8 rfl 1 rfl ?_
  replace h := lt_e h; obtain ⟨x1, ex1, h⟩ := h
  refine r_cVi (pc := 9) wyX8_name oA13 rfl mlRX7_78 iyX8_name syX8_name ⟨(Nat.le_of_ble_eq_true rfl), (Nat.le_of_ble_eq_true rfl)⟩ rfl rfl (Nat.le_of_ble_eq_true rfl) dX7_add_9 (mX8_name ex1 (pI.mk ?_))
  replace h := lt_e h; obtain ⟨x2, ex2, h⟩ := h
  refine r_cSi (pc := 12) wyX6_get mlRX7_70 tyX6_get ⟨(Nat.le_of_ble_eq_true rfl), (Nat.le_of_ble_eq_true rfl)⟩ rfl rfl (Nat.le_of_ble_eq_true rfl) dX7_add_12 (mX6_get aA27 (Nat.le_of_ble_eq_true rfl) ex2 (pI.mk ?_))
  refine r_istore_n (pc := 15) (loc' := [(2, .int x2), (0, .ref 26), (1, .int a1)]) dX7_add_15 rfl (Nat.le_of_ble_eq_true rfl) rfl ?_
  refine r_iload_n (pc := 16) dX7_add_16 rfl 0 rfl ?_
  refine r_if_eq (pc := 17) dX7_add_17 rfl (fun hc3 => ?_) (fun hc3 => ?_)
  · replace h := if_t hc3 h
    refine r_drop (loc' := [(0, .ref 26), (1, .int a1)]) [1, 2] rfl ?_
    exact pX7_add_37 hN h
  replace h := if_f hc3 h
  refine r_aload_n (pc := 20) dX7_add_20 rfl 1 rfl ?_
  refine r_get (pc := 21) (j := 2) (v := .ref 29) oA26 cf7 flRX7_20 rfl dX7_add_21 rfl ?_
  refine r_iload_n (pc := 24) dX7_add_24 rfl 0 rfl ?_
  replace h := lt_e h; obtain ⟨x4, ex4, h⟩ := h
  refine r_cSi (pc := 25) wyX6_get mlRX7_70 tyX6_get ⟨(Nat.le_of_ble_eq_true rfl), (Nat.le_of_ble_eq_true rfl)⟩ rfl rfl (Nat.le_of_ble_eq_true rfl) dX7_add_25 (mX6_get aA29 (Nat.le_of_ble_eq_true rfl) ex4 (pI.mk ?_))
  refine r_aload_n (pc := 28) dX7_add_28 rfl 1 rfl ?_
  refine r_get (pc := 29) (j := 9) (v := .int (gi w 26 9)) oA26 cf7 flRX7_58 rfl dX7_add_29 rfl ?_
  refine r_icmp_ne (pc := 32) dX7_add_32 rfl (fun hc5 => ?_) (fun hc5 => ?_)
  · replace h := if_f hc5 h
    refine r_drop (loc' := [(0, .ref 26), (1, .int a1)]) [1, 2] rfl ?_
    exact pX7_add_37 hN h
  replace h := if_t hc5 h
  refine r_iconst (pc := 35) dX7_add_35 ki_0 ?_
  exact rS_z (pc := 36) (x := false) rfl dX7_add_36 h hN
theorem mX7_add {q : Gq} {l : Launch} {N : Option Value → Wd → Prop} {X : String → Wd → Prop} {a1 : Int32} {w : Wd} {x : Bool} {u : Wd} (h : fX7_add a1 w = (x, u)) (hN : N (some (.int (b2i x))) u) : Ct (GA q) l 3 yX7_add cX7_add 3 ((some .boolean)) [.ref 26, .int a1] w N X := Ct.of (by decide) (Nat.le_of_ble_eq_true rfl) (pX7_add hN h)
/-! AlgolMill$Scopes.find (I)I: P, 1 -/
theorem dX7_find_0 : decode cX7_find 0 = .ok (.aload_n 0, 1) := by decide +kernel
theorem dX7_find_1 : decode cX7_find 1 = .ok (.getfield 9, 3) := by decide +kernel
theorem dX7_find_4 : decode cX7_find 4 = .ok (.iload_n 1, 1) := by decide +kernel
theorem dX7_find_5 : decode cX7_find 5 = .ok (.invokestatic 70, 3) := by decide +kernel
theorem dX7_find_8 : decode cX7_find 8 = .ok (.istore_n 2, 1) := by decide +kernel
theorem dX7_find_9 : decode cX7_find 9 = .ok (.iload_n 2, 1) := by decide +kernel
theorem dX7_find_10 : decode cX7_find 10 = .ok (.ifCond .eq 25, 3) := by decide +kernel
theorem dX7_find_13 : decode cX7_find 13 = .ok (.aload_n 0, 1) := by decide +kernel
theorem dX7_find_14 : decode cX7_find 14 = .ok (.getfield 61, 3) := by decide +kernel
theorem dX7_find_17 : decode cX7_find 17 = .ok (.ifCond .eq 18, 3) := by decide +kernel
theorem dX7_find_20 : decode cX7_find 20 = .ok (.aload_n 0, 1) := by decide +kernel
theorem dX7_find_21 : decode cX7_find 21 = .ok (.getfield 20, 3) := by decide +kernel
theorem dX7_find_24 : decode cX7_find 24 = .ok (.iload_n 2, 1) := by decide +kernel
theorem dX7_find_25 : decode cX7_find 25 = .ok (.invokestatic 70, 3) := by decide +kernel
theorem dX7_find_28 : decode cX7_find 28 = .ok (.aload_n 0, 1) := by decide +kernel
theorem dX7_find_29 : decode cX7_find 29 = .ok (.getfield 61, 3) := by decide +kernel
theorem dX7_find_32 : decode cX7_find 32 = .ok (.if_icmp .eq 7, 3) := by decide +kernel
theorem dX7_find_35 : decode cX7_find 35 = .ok (.iconst 1, 1) := by decide +kernel
theorem dX7_find_36 : decode cX7_find 36 = .ok (.goto 4, 3) := by decide +kernel
theorem dX7_find_39 : decode cX7_find 39 = .ok (.iconst 0, 1) := by decide +kernel
theorem dX7_find_40 : decode cX7_find 40 = .ok (.istore_n 3, 1) := by decide +kernel
theorem dX7_find_41 : decode cX7_find 41 = .ok (.iload_n 3, 1) := by decide +kernel
theorem dX7_find_42 : decode cX7_find 42 = .ok (.ifCond .eq 7, 3) := by decide +kernel
theorem dX7_find_45 : decode cX7_find 45 = .ok (.iload_n 2, 1) := by decide +kernel
theorem dX7_find_46 : decode cX7_find 46 = .ok (.goto 11, 3) := by decide +kernel
theorem dX7_find_49 : decode cX7_find 49 = .ok (.aload_n 0, 1) := by decide +kernel
theorem dX7_find_50 : decode cX7_find 50 = .ok (.getfield 17, 3) := by decide +kernel
theorem dX7_find_53 : decode cX7_find 53 = .ok (.iload_n 2, 1) := by decide +kernel
theorem dX7_find_54 : decode cX7_find 54 = .ok (.invokestatic 70, 3) := by decide +kernel
theorem dX7_find_57 : decode cX7_find 57 = .ok (.ireturn, 1) := by decide +kernel
def fX7_find_40 (s0 : Bool) (a2 : Int32) (w : Wd) : Int32 :=
  if s0 = true then (a2) else (lt (rgi w 28 4104 a2) fun x2 => x2)
theorem pX7_find_40 {q : Gq} {l : Launch} {N : Option Value → Wd → Prop} {X : String → Wd → Prop} {w : Wd} {R : Int32} (hN : N (some (.int R)) w) {s0 : Bool} {a2 : Int32} (h : fX7_find_40 s0 a2 w = R) : RT (GA q) l 1 yX7_find cX7_find 4 ((some .int)) N X 40 [.int (b2i s0)] [(0, .ref 26), (2, .int a2)] w := by
  unfold fX7_find_40 at h
  refine r_istore_n (pc := 40) (loc' := [(3, .int (b2i s0)), (0, .ref 26), (2, .int a2)]) dX7_find_40 rfl (Nat.le_of_ble_eq_true rfl) rfl ?_
  refine r_iload_n (pc := 41) dX7_find_41 rfl 0 rfl ?_
  refine r_z_eq (pc := 42) dX7_find_42 rfl (fun hc1 => ?_) (fun hc1 => ?_)
  · replace h := if_f hc1 h
    refine r_aload_n (pc := 49) dX7_find_49 rfl 1 rfl ?_
    refine r_get (pc := 50) (j := 1) (v := .ref 28) oA26 cf7 flRX7_17 rfl dX7_find_50 rfl ?_
    refine r_iload_n (pc := 53) dX7_find_53 rfl 2 rfl ?_
    replace h := lt_e h; obtain ⟨x2, ex2, h⟩ := h
    refine r_cSi (pc := 54) wyX6_get mlRX7_70 tyX6_get ⟨(Nat.le_of_ble_eq_true rfl), (Nat.le_of_ble_eq_true rfl)⟩ rfl rfl (Nat.le_of_ble_eq_true rfl) dX7_find_54 (mX6_get aA28 (Nat.le_of_ble_eq_true rfl) ex2 (pI.mk ?_))
    exact rP_i (pc := 57) rfl dX7_find_57 h hN
  replace h := if_t hc1 h
  refine r_iload_n (pc := 45) dX7_find_45 rfl 2 rfl ?_
  refine r_goto (pc := 46) dX7_find_46 rfl ?_
  exact rP_i (pc := 57) rfl dX7_find_57 h hN
def fX7_find (a1 : Int32) (w : Wd) : Int32 :=
  lt (rgi w 27 8192 a1) fun x1 => if x1 = 0 then (fX7_find_40 true x1 w) else (if (gi w 26 10) = 0 then (fX7_find_40 true x1 w) else (lt (rgi w 29 4104 x1) fun x4 => if x4 = (gi w 26 10) then (fX7_find_40 false x1 w) else (fX7_find_40 true x1 w)))
theorem pX7_find {q : Gq} {l : Launch} {N : Option Value → Wd → Prop} {X : String → Wd → Prop} {w : Wd} {R : Int32} (hN : N (some (.int R)) w) {a1 : Int32} (h : fX7_find a1 w = R) : RT (GA q) l 1 yX7_find cX7_find 4 ((some .int)) N X 0 [] [(0, .ref 26), (1, .int a1)] w := by
  unfold fX7_find at h
  refine r_aload_n (pc := 0) dX7_find_0 rfl 0 rfl ?_
  refine r_get (pc := 1) (j := 0) (v := .ref 27) oA26 cf7 flRX7_9 rfl dX7_find_1 rfl ?_
  refine r_iload_n (pc := 4) dX7_find_4 rfl 1 rfl ?_
  replace h := lt_e h; obtain ⟨x1, ex1, h⟩ := h
  refine r_cSi (pc := 5) wyX6_get mlRX7_70 tyX6_get ⟨(Nat.le_of_ble_eq_true rfl), (Nat.le_of_ble_eq_true rfl)⟩ rfl rfl (Nat.le_of_ble_eq_true rfl) dX7_find_5 (mX6_get aA27 (Nat.le_of_ble_eq_true rfl) ex1 (pI.mk ?_))
  refine r_istore_n (pc := 8) (loc' := [(2, .int x1), (0, .ref 26), (1, .int a1)]) dX7_find_8 rfl (Nat.le_of_ble_eq_true rfl) rfl ?_
  refine r_iload_n (pc := 9) dX7_find_9 rfl 0 rfl ?_
  refine r_if_eq (pc := 10) dX7_find_10 rfl (fun hc2 => ?_) (fun hc2 => ?_)
  · replace h := if_t hc2 h
    refine r_iconst (pc := 35) dX7_find_35 ki_1 ?_
    refine r_goto (pc := 36) dX7_find_36 rfl ?_
    refine r_drop (loc' := [(0, .ref 26), (2, .int x1)]) [1, 0] rfl ?_
    exact pX7_find_40 hN h
  replace h := if_f hc2 h
  refine r_aload_n (pc := 13) dX7_find_13 rfl 1 rfl ?_
  refine r_get (pc := 14) (j := 10) (v := .int (gi w 26 10)) oA26 cf7 flRX7_61 rfl dX7_find_14 rfl ?_
  refine r_if_eq (pc := 17) dX7_find_17 rfl (fun hc3 => ?_) (fun hc3 => ?_)
  · replace h := if_t hc3 h
    refine r_iconst (pc := 35) dX7_find_35 ki_1 ?_
    refine r_goto (pc := 36) dX7_find_36 rfl ?_
    refine r_drop (loc' := [(0, .ref 26), (2, .int x1)]) [1, 0] rfl ?_
    exact pX7_find_40 hN h
  replace h := if_f hc3 h
  refine r_aload_n (pc := 20) dX7_find_20 rfl 1 rfl ?_
  refine r_get (pc := 21) (j := 2) (v := .ref 29) oA26 cf7 flRX7_20 rfl dX7_find_21 rfl ?_
  refine r_iload_n (pc := 24) dX7_find_24 rfl 0 rfl ?_
  replace h := lt_e h; obtain ⟨x4, ex4, h⟩ := h
  refine r_cSi (pc := 25) wyX6_get mlRX7_70 tyX6_get ⟨(Nat.le_of_ble_eq_true rfl), (Nat.le_of_ble_eq_true rfl)⟩ rfl rfl (Nat.le_of_ble_eq_true rfl) dX7_find_25 (mX6_get aA29 (Nat.le_of_ble_eq_true rfl) ex4 (pI.mk ?_))
  refine r_aload_n (pc := 28) dX7_find_28 rfl 1 rfl ?_
  refine r_get (pc := 29) (j := 10) (v := .int (gi w 26 10)) oA26 cf7 flRX7_61 rfl dX7_find_29 rfl ?_
  refine r_icmp_eq (pc := 32) dX7_find_32 rfl (fun hc5 => ?_) (fun hc5 => ?_)
  · replace h := if_t hc5 h
    refine r_iconst (pc := 39) dX7_find_39 ki_0 ?_
    refine r_drop (loc' := [(0, .ref 26), (2, .int x1)]) [1, 0] rfl ?_
    exact pX7_find_40 hN h
  replace h := if_f hc5 h
  refine r_iconst (pc := 35) dX7_find_35 ki_1 ?_
  refine r_goto (pc := 36) dX7_find_36 rfl ?_
  refine r_drop (loc' := [(0, .ref 26), (2, .int x1)]) [1, 0] rfl ?_
  exact pX7_find_40 hN h
theorem mX7_find {q : Gq} {l : Launch} {N : Option Value → Wd → Prop} {X : String → Wd → Prop} {a1 : Int32} {w : Wd} {x : Int32} (h : fX7_find a1 w = x) (hN : N (some (.int x)) w) : Ct (GA q) l 1 yX7_find cX7_find 4 ((some .int)) [.ref 26, .int a1] w N X := Ct.of (by decide) (Nat.le_of_ble_eq_true rfl) (pX7_find hN h)
/-! AlgolMill$Scopes.hide ()V: S, 0 -/
theorem dX7_hide_0 : decode cX7_hide 0 = .ok (.aload_n 0, 1) := by decide +kernel
theorem dX7_hide_1 : decode cX7_hide 1 = .ok (.aload_n 0, 1) := by decide +kernel
theorem dX7_hide_2 : decode cX7_hide 2 = .ok (.getfield 58, 3) := by decide +kernel
theorem dX7_hide_5 : decode cX7_hide 5 = .ok (.putfield 61, 3) := by decide +kernel
theorem dX7_hide_8 : decode cX7_hide 8 = .ok (.return_, 1) := by decide +kernel
def fX7_hide (w : Wd) : Wd :=
  lt (si w 26 10 (gi w 26 9)) fun w1 => w1
theorem pX7_hide {q : Gq} {l : Launch} {N : Option Value → Wd → Prop} {X : String → Wd → Prop} {w : Wd} {R : Wd} (hN : N none R) (h : fX7_hide w = R) : RT (GA q) l 0 yX7_hide cX7_hide 1 (none) N X 0 [] [(0, .ref 26)] w := by
  unfold fX7_hide at h
  refine r_aload_n (pc := 0) dX7_hide_0 rfl 0 rfl ?_
  refine r_aload_n (pc := 1) dX7_hide_1 rfl 0 rfl ?_
  refine r_get (pc := 2) (j := 9) (v := .int (gi w 26 9)) oA26 cf7 flRX7_58 rfl dX7_hide_2 rfl ?_
  replace h := lt_e h; obtain ⟨w1, ew1, h⟩ := h
  refine r_putI (pc := 5) (j := 10) oA26 cf7 flRX7_61 rfl rfl rfl rfl dX7_hide_5 ?_
  refine r_w ew1 ?_
  exact rS_v (pc := 8) rfl dX7_hide_8 h hN
theorem mX7_hide {q : Gq} {l : Launch} {N : Option Value → Wd → Prop} {X : String → Wd → Prop} {w : Wd} {u : Wd} (h : fX7_hide w = u) (hN : N none u) : Ct (GA q) l 0 yX7_hide cX7_hide 1 (none) [.ref 26] w N X := Ct.of (by decide) (Nat.le_of_ble_eq_true rfl) (pX7_hide hN h)
/-! AlgolMill$Scopes.showAll ()V: S, 0 -/
theorem dX7_showAll_0 : decode cX7_showAll 0 = .ok (.aload_n 0, 1) := by decide +kernel
theorem dX7_showAll_1 : decode cX7_showAll 1 = .ok (.iconst 0, 1) := by decide +kernel
theorem dX7_showAll_2 : decode cX7_showAll 2 = .ok (.putfield 61, 3) := by decide +kernel
theorem dX7_showAll_5 : decode cX7_showAll 5 = .ok (.return_, 1) := by decide +kernel
def fX7_showAll (w : Wd) : Wd :=
  lt (si w 26 10 0) fun w1 => w1
theorem pX7_showAll {q : Gq} {l : Launch} {N : Option Value → Wd → Prop} {X : String → Wd → Prop} {w : Wd} {R : Wd} (hN : N none R) (h : fX7_showAll w = R) : RT (GA q) l 0 yX7_showAll cX7_showAll 1 (none) N X 0 [] [(0, .ref 26)] w := by
  unfold fX7_showAll at h
  refine r_aload_n (pc := 0) dX7_showAll_0 rfl 0 rfl ?_
  refine r_iconst (pc := 1) dX7_showAll_1 ki_0 ?_
  replace h := lt_e h; obtain ⟨w1, ew1, h⟩ := h
  refine r_putI (pc := 2) (j := 10) oA26 cf7 flRX7_61 rfl rfl rfl rfl dX7_showAll_2 ?_
  refine r_w ew1 ?_
  exact rS_v (pc := 5) rfl dX7_showAll_5 h hN
theorem mX7_showAll {q : Gq} {l : Launch} {N : Option Value → Wd → Prop} {X : String → Wd → Prop} {w : Wd} {u : Wd} (h : fX7_showAll w = u) (hN : N none u) : Ct (GA q) l 0 yX7_showAll cX7_showAll 1 (none) [.ref 26] w N X := Ct.of (by decide) (Nat.le_of_ble_eq_true rfl) (pX7_showAll hN h)
/-! AlgolMill$Scopes.words (I)V: S, 1 -/
theorem dX7_words_0 : decode cX7_words 0 = .ok (.aload_n 0, 1) := by decide +kernel
theorem dX7_words_1 : decode cX7_words 1 = .ok (.getfield 32, 3) := by decide +kernel
theorem dX7_words_4 : decode cX7_words 4 = .ok (.aload_n 0, 1) := by decide +kernel
theorem dX7_words_5 : decode cX7_words 5 = .ok (.getfield 58, 3) := by decide +kernel
theorem dX7_words_8 : decode cX7_words 8 = .ok (.iload_n 1, 1) := by decide +kernel
theorem dX7_words_9 : decode cX7_words 9 = .ok (.invokestatic 64, 3) := by decide +kernel
theorem dX7_words_12 : decode cX7_words 12 = .ok (.return_, 1) := by decide +kernel
def fX7_words (a1 : Int32) (w : Wd) : Wd :=
  lt (rsi w 33 4096 (gi w 26 9) a1) fun w1 => w1
theorem pX7_words {q : Gq} {l : Launch} {N : Option Value → Wd → Prop} {X : String → Wd → Prop} {w : Wd} {R : Wd} (hN : N none R) {a1 : Int32} (h : fX7_words a1 w = R) : RT (GA q) l 1 yX7_words cX7_words 2 (none) N X 0 [] [(0, .ref 26), (1, .int a1)] w := by
  unfold fX7_words at h
  refine r_aload_n (pc := 0) dX7_words_0 rfl 0 rfl ?_
  refine r_get (pc := 1) (j := 6) (v := .ref 33) oA26 cf7 flRX7_32 rfl dX7_words_1 rfl ?_
  refine r_aload_n (pc := 4) dX7_words_4 rfl 0 rfl ?_
  refine r_get (pc := 5) (j := 9) (v := .int (gi w 26 9)) oA26 cf7 flRX7_58 rfl dX7_words_5 rfl ?_
  refine r_iload_n (pc := 8) dX7_words_8 rfl 1 rfl ?_
  replace h := lt_e h; obtain ⟨w1, ew1, h⟩ := h
  refine r_cSv (pc := 9) wyX6_set mlRX7_64 tyX6_set ⟨(Nat.le_of_ble_eq_true rfl), (Nat.le_of_ble_eq_true rfl)⟩ rfl rfl (Nat.le_of_ble_eq_true rfl) dX7_words_9 (mX6_set aA33 (Nat.le_of_ble_eq_true rfl) ew1 (pV.mk ?_))
  exact rS_v (pc := 12) rfl dX7_words_12 h hN
theorem mX7_words {q : Gq} {l : Launch} {N : Option Value → Wd → Prop} {X : String → Wd → Prop} {a1 : Int32} {w : Wd} {u : Wd} (h : fX7_words a1 w = u) (hN : N none u) : Ct (GA q) l 1 yX7_words cX7_words 2 (none) [.ref 26, .int a1] w N X := Ct.of (by decide) (Nat.le_of_ble_eq_true rfl) (pX7_words hN h)
/-! AlgolMill$Scopes.words ()I: P, 1 -/
theorem dX7_words__0 : decode cX7_words_ 0 = .ok (.aload_n 0, 1) := by decide +kernel
theorem dX7_words__1 : decode cX7_words_ 1 = .ok (.getfield 32, 3) := by decide +kernel
theorem dX7_words__4 : decode cX7_words_ 4 = .ok (.aload_n 0, 1) := by decide +kernel
theorem dX7_words__5 : decode cX7_words_ 5 = .ok (.getfield 58, 3) := by decide +kernel
theorem dX7_words__8 : decode cX7_words_ 8 = .ok (.invokestatic 70, 3) := by decide +kernel
theorem dX7_words__11 : decode cX7_words_ 11 = .ok (.ireturn, 1) := by decide +kernel
def fX7_words_ (w : Wd) : Int32 :=
  lt (rgi w 33 4096 (gi w 26 9)) fun x1 => x1
theorem pX7_words_ {q : Gq} {l : Launch} {N : Option Value → Wd → Prop} {X : String → Wd → Prop} {w : Wd} {R : Int32} (hN : N (some (.int R)) w) (h : fX7_words_ w = R) : RT (GA q) l 1 yX7_words_ cX7_words_ 1 ((some .int)) N X 0 [] [(0, .ref 26)] w := by
  unfold fX7_words_ at h
  refine r_aload_n (pc := 0) dX7_words__0 rfl 0 rfl ?_
  refine r_get (pc := 1) (j := 6) (v := .ref 33) oA26 cf7 flRX7_32 rfl dX7_words__1 rfl ?_
  refine r_aload_n (pc := 4) dX7_words__4 rfl 0 rfl ?_
  refine r_get (pc := 5) (j := 9) (v := .int (gi w 26 9)) oA26 cf7 flRX7_58 rfl dX7_words__5 rfl ?_
  replace h := lt_e h; obtain ⟨x1, ex1, h⟩ := h
  refine r_cSi (pc := 8) wyX6_get mlRX7_70 tyX6_get ⟨(Nat.le_of_ble_eq_true rfl), (Nat.le_of_ble_eq_true rfl)⟩ rfl rfl (Nat.le_of_ble_eq_true rfl) dX7_words__8 (mX6_get aA33 (Nat.le_of_ble_eq_true rfl) ex1 (pI.mk ?_))
  exact rP_i (pc := 11) rfl dX7_words__11 h hN
theorem mX7_words_ {q : Gq} {l : Launch} {N : Option Value → Wd → Prop} {X : String → Wd → Prop} {w : Wd} {x : Int32} (h : fX7_words_ w = x) (hN : N (some (.int x)) w) : Ct (GA q) l 1 yX7_words_ cX7_words_ 1 ((some .int)) [.ref 26] w N X := Ct.of (by decide) (Nat.le_of_ble_eq_true rfl) (pX7_words_ hN h)
