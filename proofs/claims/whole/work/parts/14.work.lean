/-! Work -/
theorem kb_29 : (Int8.ofInt 29).toInt32 = 29 := by decide
theorem kb_7 : (Int8.ofInt 7).toInt32 = 7 := by decide
theorem kb_8 : (Int8.ofInt 8).toInt32 = 8 := by decide
theorem kb_9 : (Int8.ofInt 9).toInt32 = 9 := by decide
theorem ki_3 : Int32.ofInt 3 = 3 := by decide
theorem ki_4 : Int32.ofInt 4 = 4 := by decide
theorem ki_5 : Int32.ofInt 5 = 5 := by decide
/-! AlgolMill$Work.clear ()V: S, 0 -/
theorem dX10_clear_0 : decode cX10_clear 0 = .ok (.aload_n 0, 1) := by decide +kernel
theorem dX10_clear_1 : decode cX10_clear 1 = .ok (.iconst 0, 1) := by decide +kernel
theorem dX10_clear_2 : decode cX10_clear 2 = .ok (.putfield 22, 3) := by decide +kernel
theorem dX10_clear_5 : decode cX10_clear 5 = .ok (.aload_n 0, 1) := by decide +kernel
theorem dX10_clear_6 : decode cX10_clear 6 = .ok (.iconst 0, 1) := by decide +kernel
theorem dX10_clear_7 : decode cX10_clear 7 = .ok (.putfield 26, 3) := by decide +kernel
theorem dX10_clear_10 : decode cX10_clear 10 = .ok (.return_, 1) := by decide +kernel
def fX10_clear (w : Wd) : Wd :=
  lt (si w 43 4 0) fun w1 => lt (si w1 43 5 0) fun w2 => w2
theorem pX10_clear {q : Gq} {l : Launch} {N : Option Value → Wd → Prop} {X : String → Wd → Prop} {w : Wd} {R : Wd} (hN : N none R) (h : fX10_clear w = R) : RT (GA q) l 0 yX10_clear cX10_clear 1 (none) N X 0 [] [(0, .ref 43)] w := by
  unfold fX10_clear at h
  refine r_aload_n (pc := 0) dX10_clear_0 rfl 0 rfl ?_
  refine r_iconst (pc := 1) dX10_clear_1 ki_0 ?_
  replace h := lt_e h; obtain ⟨w1, ew1, h⟩ := h
  refine r_putI (pc := 2) (j := 4) oA43 cf10 flRX10_22 rfl rfl rfl rfl dX10_clear_2 ?_
  refine r_w ew1 ?_
  refine r_aload_n (pc := 5) dX10_clear_5 rfl 0 rfl ?_
  refine r_iconst (pc := 6) dX10_clear_6 ki_0 ?_
  replace h := lt_e h; obtain ⟨w2, ew2, h⟩ := h
  refine r_putI (pc := 7) (j := 5) oA43 cf10 flRX10_26 rfl rfl rfl rfl dX10_clear_7 ?_
  refine r_w ew2 ?_
  exact rS_v (pc := 10) rfl dX10_clear_10 h hN
theorem mX10_clear {q : Gq} {l : Launch} {N : Option Value → Wd → Prop} {X : String → Wd → Prop} {w : Wd} {u : Wd} (h : fX10_clear w = u) (hN : N none u) : Ct (GA q) l 0 yX10_clear cX10_clear 1 (none) [.ref 43] w N X := Ct.of (by decide) (Nat.le_of_ble_eq_true rfl) (pX10_clear hN h)
/-! AlgolMill$Work.strength (I)I: P, 1 -/
theorem dX10_strength_0 : decode cX10_strength 0 = .ok (.iload_n 0, 1) := by decide +kernel
theorem dX10_strength_1 : decode cX10_strength 1 = .ok (.invokestatic 29, 3) := by decide +kernel
theorem dX10_strength_4 : decode cX10_strength 4 = .ok (.tableswitch 138 25 49 #[122, 120, 118, 116, 124, 132, 132, 138, 129, 129, 132, 135, 126, 126, 126, 138, 138, 138, 138, 138, 138, 138, 126, 126, 126], 116) := by decide +kernel
theorem dX10_strength_120 : decode cX10_strength 120 = .ok (.iconst 1, 1) := by decide +kernel
theorem dX10_strength_121 : decode cX10_strength 121 = .ok (.ireturn, 1) := by decide +kernel
theorem dX10_strength_122 : decode cX10_strength 122 = .ok (.iconst 2, 1) := by decide +kernel
theorem dX10_strength_123 : decode cX10_strength 123 = .ok (.ireturn, 1) := by decide +kernel
theorem dX10_strength_124 : decode cX10_strength 124 = .ok (.iconst 3, 1) := by decide +kernel
theorem dX10_strength_125 : decode cX10_strength 125 = .ok (.ireturn, 1) := by decide +kernel
theorem dX10_strength_126 : decode cX10_strength 126 = .ok (.iconst 4, 1) := by decide +kernel
theorem dX10_strength_127 : decode cX10_strength 127 = .ok (.ireturn, 1) := by decide +kernel
theorem dX10_strength_128 : decode cX10_strength 128 = .ok (.iconst 5, 1) := by decide +kernel
theorem dX10_strength_129 : decode cX10_strength 129 = .ok (.ireturn, 1) := by decide +kernel
theorem dX10_strength_130 : decode cX10_strength 130 = .ok (.bipush 6, 2) := by decide +kernel
theorem dX10_strength_132 : decode cX10_strength 132 = .ok (.ireturn, 1) := by decide +kernel
theorem dX10_strength_133 : decode cX10_strength 133 = .ok (.bipush 7, 2) := by decide +kernel
theorem dX10_strength_135 : decode cX10_strength 135 = .ok (.ireturn, 1) := by decide +kernel
theorem dX10_strength_136 : decode cX10_strength 136 = .ok (.bipush 8, 2) := by decide +kernel
theorem dX10_strength_138 : decode cX10_strength 138 = .ok (.ireturn, 1) := by decide +kernel
theorem dX10_strength_139 : decode cX10_strength 139 = .ok (.bipush 9, 2) := by decide +kernel
theorem dX10_strength_141 : decode cX10_strength 141 = .ok (.ireturn, 1) := by decide +kernel
theorem dX10_strength_142 : decode cX10_strength 142 = .ok (.iconst 0, 1) := by decide +kernel
theorem dX10_strength_143 : decode cX10_strength 143 = .ok (.ireturn, 1) := by decide +kernel
def fX10_strength (a0 : Int32) (w : Wd) : Int32 :=
  lt (fJ9_abs_0f7a4 a0) fun x1 => if x1 = 25 then (4) else if x1 = 26 then (3) else if x1 = 27 then (2) else if x1 = 28 then (1) else if x1 = 29 then (5) else if x1 = 30 ∨ x1 = 31 ∨ x1 = 35 then (8) else if x1 = 33 ∨ x1 = 34 then (7) else if x1 = 36 then (9) else if x1 = 37 ∨ x1 = 38 ∨ x1 = 39 ∨ x1 = 47 ∨ x1 = 48 ∨ x1 = 49 then (6) else (0)
theorem pX10_strength {q : Gq} {l : Launch} {N : Option Value → Wd → Prop} {X : String → Wd → Prop} {w : Wd} {R : Int32} (hN : N (some (.int R)) w) {a0 : Int32} (h : fX10_strength a0 w = R) : RT (GA q) l 1 yX10_strength cX10_strength 1 ((some .int)) N X 0 [] [(0, .int a0)] w := by
  unfold fX10_strength at h
  refine r_iload_n (pc := 0) dX10_strength_0 rfl 0 rfl ?_
  replace h := lt_e h; obtain ⟨x1, ex1, h⟩ := h
  refine r_cSi (pc := 1) wyJ9_abs_0f7a4 mlRX10_29 tyJ9_abs_0f7a4 ⟨(Nat.le_of_ble_eq_true rfl), (Nat.le_of_ble_eq_true rfl)⟩ rfl rfl (Nat.le_of_ble_eq_true rfl) dX10_strength_1 (mJ9_abs_0f7a4 ex1 (pI.mk ?_))
  by_cases hc2 : x1 = 25
  · refine r_tabC (pc := 4) (off := 122) (tgt := 126) (L := [25]) dX10_strength_4 hc2 (by decide) rfl ?_
    replace h := if_t hc2 h
    refine r_iconst (pc := 126) dX10_strength_126 ki_4 ?_
    exact rP_i (pc := 127) rfl dX10_strength_127 h hN
  replace h := if_f hc2 h
  by_cases hc3 : x1 = 26
  · refine r_tabC (pc := 4) (off := 120) (tgt := 124) (L := [26]) dX10_strength_4 hc3 (by decide) rfl ?_
    replace h := if_t hc3 h
    refine r_iconst (pc := 124) dX10_strength_124 ki_3 ?_
    exact rP_i (pc := 125) rfl dX10_strength_125 h hN
  replace h := if_f hc3 h
  by_cases hc4 : x1 = 27
  · refine r_tabC (pc := 4) (off := 118) (tgt := 122) (L := [27]) dX10_strength_4 hc4 (by decide) rfl ?_
    replace h := if_t hc4 h
    refine r_iconst (pc := 122) dX10_strength_122 ki_2 ?_
    exact rP_i (pc := 123) rfl dX10_strength_123 h hN
  replace h := if_f hc4 h
  by_cases hc5 : x1 = 28
  · refine r_tabC (pc := 4) (off := 116) (tgt := 120) (L := [28]) dX10_strength_4 hc5 (by decide) rfl ?_
    replace h := if_t hc5 h
    refine r_iconst (pc := 120) dX10_strength_120 ki_1 ?_
    exact rP_i (pc := 121) rfl dX10_strength_121 h hN
  replace h := if_f hc5 h
  by_cases hc6 : x1 = 29
  · refine r_tabC (pc := 4) (off := 124) (tgt := 128) (L := [29]) dX10_strength_4 hc6 (by decide) rfl ?_
    replace h := if_t hc6 h
    refine r_iconst (pc := 128) dX10_strength_128 ki_5 ?_
    exact rP_i (pc := 129) rfl dX10_strength_129 h hN
  replace h := if_f hc6 h
  by_cases hc7 : x1 = 30 ∨ x1 = 31 ∨ x1 = 35
  · refine r_tabC (pc := 4) (off := 132) (tgt := 136) (L := [30, 31, 35]) dX10_strength_4 hc7 (by decide) rfl ?_
    replace h := if_t hc7 h
    refine r_bipush (pc := 136) dX10_strength_136 kb_8 ?_
    exact rP_i (pc := 138) rfl dX10_strength_138 h hN
  replace h := if_f hc7 h
  by_cases hc8 : x1 = 33 ∨ x1 = 34
  · refine r_tabC (pc := 4) (off := 129) (tgt := 133) (L := [33, 34]) dX10_strength_4 hc8 (by decide) rfl ?_
    replace h := if_t hc8 h
    refine r_bipush (pc := 133) dX10_strength_133 kb_7 ?_
    exact rP_i (pc := 135) rfl dX10_strength_135 h hN
  replace h := if_f hc8 h
  by_cases hc9 : x1 = 36
  · refine r_tabC (pc := 4) (off := 135) (tgt := 139) (L := [36]) dX10_strength_4 hc9 (by decide) rfl ?_
    replace h := if_t hc9 h
    refine r_bipush (pc := 139) dX10_strength_139 kb_9 ?_
    exact rP_i (pc := 141) rfl dX10_strength_141 h hN
  replace h := if_f hc9 h
  by_cases hc10 : x1 = 37 ∨ x1 = 38 ∨ x1 = 39 ∨ x1 = 47 ∨ x1 = 48 ∨ x1 = 49
  · refine r_tabC (pc := 4) (off := 126) (tgt := 130) (L := [37, 38, 39, 47, 48, 49]) dX10_strength_4 hc10 (by decide) rfl ?_
    replace h := if_t hc10 h
    refine r_bipush (pc := 130) dX10_strength_130 kb_6 ?_
    exact rP_i (pc := 132) rfl dX10_strength_132 h hN
  replace h := if_f hc10 h
  refine r_tabD (pc := 4) (tgt := 142) (K := [[25], [26], [27], [28], [29], [30, 31, 35], [33, 34], [36], [37, 38, 39, 47, 48, 49]]) dX10_strength_4 ⟨hc2, hc3, hc4, hc5, hc6, hc7, hc8, hc9, hc10, trivial⟩ (by decide) (by decide) rfl ?_
  refine r_iconst (pc := 142) dX10_strength_142 ki_0 ?_
  exact rP_i (pc := 143) rfl dX10_strength_143 h hN
theorem mX10_strength {q : Gq} {l : Launch} {N : Option Value → Wd → Prop} {X : String → Wd → Prop} {a0 : Int32} {w : Wd} {x : Int32} (h : fX10_strength a0 w = x) (hN : N (some (.int x)) w) : Ct (GA q) l 1 yX10_strength cX10_strength 1 ((some .int)) [.int a0] w N X := Ct.of (by decide) (Nat.le_of_ble_eq_true rfl) (pX10_strength hN h)
/-! AlgolMill$Work.waiting ()I: P, 0 -/
theorem dX10_waiting_0 : decode cX10_waiting 0 = .ok (.aload_n 0, 1) := by decide +kernel
theorem dX10_waiting_1 : decode cX10_waiting 1 = .ok (.getfield 22, 3) := by decide +kernel
theorem dX10_waiting_4 : decode cX10_waiting 4 = .ok (.ireturn, 1) := by decide +kernel
def fX10_waiting (w : Wd) : Int32 :=
  (gi w 43 4)
theorem pX10_waiting {q : Gq} {l : Launch} {N : Option Value → Wd → Prop} {X : String → Wd → Prop} {w : Wd} {R : Int32} (hN : N (some (.int R)) w) (h : fX10_waiting w = R) : RT (GA q) l 0 yX10_waiting cX10_waiting 1 ((some .int)) N X 0 [] [(0, .ref 43)] w := by
  unfold fX10_waiting at h
  refine r_aload_n (pc := 0) dX10_waiting_0 rfl 0 rfl ?_
  refine r_get (pc := 1) (j := 4) (v := .int (gi w 43 4)) oA43 cf10 flRX10_22 rfl dX10_waiting_1 rfl ?_
  exact rP_i (pc := 4) rfl dX10_waiting_4 h hN
theorem mX10_waiting {q : Gq} {l : Launch} {N : Option Value → Wd → Prop} {X : String → Wd → Prop} {w : Wd} {x : Int32} (h : fX10_waiting w = x) (hN : N (some (.int x)) w) : Ct (GA q) l 0 yX10_waiting cX10_waiting 1 ((some .int)) [.ref 43] w N X := Ct.of (by decide) (Nat.le_of_ble_eq_true rfl) (pX10_waiting hN h)
/-! AlgolMill$Work.hold (II)V: S, 1 -/
theorem dX10_hold_0 : decode cX10_hold 0 = .ok (.aload_n 0, 1) := by decide +kernel
theorem dX10_hold_1 : decode cX10_hold 1 = .ok (.getfield 9, 3) := by decide +kernel
theorem dX10_hold_4 : decode cX10_hold 4 = .ok (.aload_n 0, 1) := by decide +kernel
theorem dX10_hold_5 : decode cX10_hold 5 = .ok (.getfield 22, 3) := by decide +kernel
theorem dX10_hold_8 : decode cX10_hold 8 = .ok (.iload_n 1, 1) := by decide +kernel
theorem dX10_hold_9 : decode cX10_hold 9 = .ok (.invokestatic 35, 3) := by decide +kernel
theorem dX10_hold_12 : decode cX10_hold 12 = .ok (.aload_n 0, 1) := by decide +kernel
theorem dX10_hold_13 : decode cX10_hold 13 = .ok (.getfield 13, 3) := by decide +kernel
theorem dX10_hold_16 : decode cX10_hold 16 = .ok (.aload_n 0, 1) := by decide +kernel
theorem dX10_hold_17 : decode cX10_hold 17 = .ok (.getfield 22, 3) := by decide +kernel
theorem dX10_hold_20 : decode cX10_hold 20 = .ok (.iload_n 2, 1) := by decide +kernel
theorem dX10_hold_21 : decode cX10_hold 21 = .ok (.invokestatic 35, 3) := by decide +kernel
theorem dX10_hold_24 : decode cX10_hold 24 = .ok (.aload_n 0, 1) := by decide +kernel
theorem dX10_hold_25 : decode cX10_hold 25 = .ok (.dup, 1) := by decide +kernel
theorem dX10_hold_26 : decode cX10_hold 26 = .ok (.getfield 22, 3) := by decide +kernel
theorem dX10_hold_29 : decode cX10_hold 29 = .ok (.iconst 1, 1) := by decide +kernel
theorem dX10_hold_30 : decode cX10_hold 30 = .ok (.iadd, 1) := by decide +kernel
theorem dX10_hold_31 : decode cX10_hold 31 = .ok (.putfield 22, 3) := by decide +kernel
theorem dX10_hold_34 : decode cX10_hold 34 = .ok (.return_, 1) := by decide +kernel
def fX10_hold (a1 : Int32) (a2 : Int32) (w : Wd) : Wd :=
  lt (rsi w 44 512 (gi w 43 4) a1) fun w1 => lt (rsi w1 45 512 (gi w1 43 4) a2) fun w2 => lt (si w2 43 4 ((gi w2 43 4) + 1)) fun w3 => w3
theorem pX10_hold {q : Gq} {l : Launch} {N : Option Value → Wd → Prop} {X : String → Wd → Prop} {w : Wd} {R : Wd} (hN : N none R) {a1 : Int32} {a2 : Int32} (h : fX10_hold a1 a2 w = R) : RT (GA q) l 1 yX10_hold cX10_hold 3 (none) N X 0 [] [(0, .ref 43), (1, .int a1), (2, .int a2)] w := by
  unfold fX10_hold at h
  refine r_aload_n (pc := 0) dX10_hold_0 rfl 0 rfl ?_
  refine r_get (pc := 1) (j := 0) (v := .ref 44) oA43 cf10 flRX10_9 rfl dX10_hold_1 rfl ?_
  refine r_aload_n (pc := 4) dX10_hold_4 rfl 0 rfl ?_
  refine r_get (pc := 5) (j := 4) (v := .int (gi w 43 4)) oA43 cf10 flRX10_22 rfl dX10_hold_5 rfl ?_
  refine r_iload_n (pc := 8) dX10_hold_8 rfl 1 rfl ?_
  replace h := lt_e h; obtain ⟨w1, ew1, h⟩ := h
  refine r_cSv (pc := 9) wyX6_set mlRX10_35 tyX6_set ⟨(Nat.le_of_ble_eq_true rfl), (Nat.le_of_ble_eq_true rfl)⟩ rfl rfl (Nat.le_of_ble_eq_true rfl) dX10_hold_9 (mX6_set aA44 (Nat.le_of_ble_eq_true rfl) ew1 (pV.mk ?_))
  refine r_aload_n (pc := 12) dX10_hold_12 rfl 0 rfl ?_
  refine r_get (pc := 13) (j := 1) (v := .ref 45) oA43 cf10 flRX10_13 rfl dX10_hold_13 rfl ?_
  refine r_aload_n (pc := 16) dX10_hold_16 rfl 0 rfl ?_
  refine r_get (pc := 17) (j := 4) (v := .int (gi w1 43 4)) oA43 cf10 flRX10_22 rfl dX10_hold_17 rfl ?_
  refine r_iload_n (pc := 20) dX10_hold_20 rfl 2 rfl ?_
  replace h := lt_e h; obtain ⟨w2, ew2, h⟩ := h
  refine r_cSv (pc := 21) wyX6_set mlRX10_35 tyX6_set ⟨(Nat.le_of_ble_eq_true rfl), (Nat.le_of_ble_eq_true rfl)⟩ rfl rfl (Nat.le_of_ble_eq_true rfl) dX10_hold_21 (mX6_set aA45 (Nat.le_of_ble_eq_true rfl) ew2 (pV.mk ?_))
  refine r_aload_n (pc := 24) dX10_hold_24 rfl 0 rfl ?_
  refine r_dup (pc := 25) dX10_hold_25 rfl ?_
  refine r_get (pc := 26) (j := 4) (v := .int (gi w2 43 4)) oA43 cf10 flRX10_22 rfl dX10_hold_26 rfl ?_
  refine r_iconst (pc := 29) dX10_hold_29 ki_1 ?_
  refine r_iadd (pc := 30) dX10_hold_30 ?_
  replace h := lt_e h; obtain ⟨w3, ew3, h⟩ := h
  refine r_putI (pc := 31) (j := 4) oA43 cf10 flRX10_22 rfl rfl rfl rfl dX10_hold_31 ?_
  refine r_w ew3 ?_
  exact rS_v (pc := 34) rfl dX10_hold_34 h hN
theorem mX10_hold {q : Gq} {l : Launch} {N : Option Value → Wd → Prop} {X : String → Wd → Prop} {a1 : Int32} {a2 : Int32} {w : Wd} {u : Wd} (h : fX10_hold a1 a2 w = u) (hN : N none u) : Ct (GA q) l 1 yX10_hold cX10_hold 3 (none) [.ref 43, .int a1, .int a2] w N X := Ct.of (by decide) (Nat.le_of_ble_eq_true rfl) (pX10_hold hN h)
/-! AlgolMill$Work.sign ()I: P, 1 -/
theorem dX10_sign_0 : decode cX10_sign 0 = .ok (.aload_n 0, 1) := by decide +kernel
theorem dX10_sign_1 : decode cX10_sign 1 = .ok (.getfield 9, 3) := by decide +kernel
theorem dX10_sign_4 : decode cX10_sign 4 = .ok (.aload_n 0, 1) := by decide +kernel
theorem dX10_sign_5 : decode cX10_sign 5 = .ok (.getfield 22, 3) := by decide +kernel
theorem dX10_sign_8 : decode cX10_sign 8 = .ok (.iconst 1, 1) := by decide +kernel
theorem dX10_sign_9 : decode cX10_sign 9 = .ok (.isub, 1) := by decide +kernel
theorem dX10_sign_10 : decode cX10_sign 10 = .ok (.invokestatic 41, 3) := by decide +kernel
theorem dX10_sign_13 : decode cX10_sign 13 = .ok (.ireturn, 1) := by decide +kernel
def fX10_sign (w : Wd) : Int32 :=
  lt (rgi w 44 512 ((gi w 43 4) - 1)) fun x1 => x1
theorem pX10_sign {q : Gq} {l : Launch} {N : Option Value → Wd → Prop} {X : String → Wd → Prop} {w : Wd} {R : Int32} (hN : N (some (.int R)) w) (h : fX10_sign w = R) : RT (GA q) l 1 yX10_sign cX10_sign 1 ((some .int)) N X 0 [] [(0, .ref 43)] w := by
  unfold fX10_sign at h
  refine r_aload_n (pc := 0) dX10_sign_0 rfl 0 rfl ?_
  refine r_get (pc := 1) (j := 0) (v := .ref 44) oA43 cf10 flRX10_9 rfl dX10_sign_1 rfl ?_
  refine r_aload_n (pc := 4) dX10_sign_4 rfl 0 rfl ?_
  refine r_get (pc := 5) (j := 4) (v := .int (gi w 43 4)) oA43 cf10 flRX10_22 rfl dX10_sign_5 rfl ?_
  refine r_iconst (pc := 8) dX10_sign_8 ki_1 ?_
  refine r_isub (pc := 9) dX10_sign_9 ?_
  replace h := lt_e h; obtain ⟨x1, ex1, h⟩ := h
  refine r_cSi (pc := 10) wyX6_get mlRX10_41 tyX6_get ⟨(Nat.le_of_ble_eq_true rfl), (Nat.le_of_ble_eq_true rfl)⟩ rfl rfl (Nat.le_of_ble_eq_true rfl) dX10_sign_10 (mX6_get aA44 (Nat.le_of_ble_eq_true rfl) ex1 (pI.mk ?_))
  exact rP_i (pc := 13) rfl dX10_sign_13 h hN
theorem mX10_sign {q : Gq} {l : Launch} {N : Option Value → Wd → Prop} {X : String → Wd → Prop} {w : Wd} {x : Int32} (h : fX10_sign w = x) (hN : N (some (.int x)) w) : Ct (GA q) l 1 yX10_sign cX10_sign 1 ((some .int)) [.ref 43] w N X := Ct.of (by decide) (Nat.le_of_ble_eq_true rfl) (pX10_sign hN h)
/-! AlgolMill$Work.signToken ()I: P, 1 -/
theorem dX10_signToken_0 : decode cX10_signToken 0 = .ok (.aload_n 0, 1) := by decide +kernel
theorem dX10_signToken_1 : decode cX10_signToken 1 = .ok (.getfield 13, 3) := by decide +kernel
theorem dX10_signToken_4 : decode cX10_signToken 4 = .ok (.aload_n 0, 1) := by decide +kernel
theorem dX10_signToken_5 : decode cX10_signToken 5 = .ok (.getfield 22, 3) := by decide +kernel
theorem dX10_signToken_8 : decode cX10_signToken 8 = .ok (.iconst 1, 1) := by decide +kernel
theorem dX10_signToken_9 : decode cX10_signToken 9 = .ok (.isub, 1) := by decide +kernel
theorem dX10_signToken_10 : decode cX10_signToken 10 = .ok (.invokestatic 41, 3) := by decide +kernel
theorem dX10_signToken_13 : decode cX10_signToken 13 = .ok (.ireturn, 1) := by decide +kernel
def fX10_signToken (w : Wd) : Int32 :=
  lt (rgi w 45 512 ((gi w 43 4) - 1)) fun x1 => x1
theorem pX10_signToken {q : Gq} {l : Launch} {N : Option Value → Wd → Prop} {X : String → Wd → Prop} {w : Wd} {R : Int32} (hN : N (some (.int R)) w) (h : fX10_signToken w = R) : RT (GA q) l 1 yX10_signToken cX10_signToken 1 ((some .int)) N X 0 [] [(0, .ref 43)] w := by
  unfold fX10_signToken at h
  refine r_aload_n (pc := 0) dX10_signToken_0 rfl 0 rfl ?_
  refine r_get (pc := 1) (j := 1) (v := .ref 45) oA43 cf10 flRX10_13 rfl dX10_signToken_1 rfl ?_
  refine r_aload_n (pc := 4) dX10_signToken_4 rfl 0 rfl ?_
  refine r_get (pc := 5) (j := 4) (v := .int (gi w 43 4)) oA43 cf10 flRX10_22 rfl dX10_signToken_5 rfl ?_
  refine r_iconst (pc := 8) dX10_signToken_8 ki_1 ?_
  refine r_isub (pc := 9) dX10_signToken_9 ?_
  replace h := lt_e h; obtain ⟨x1, ex1, h⟩ := h
  refine r_cSi (pc := 10) wyX6_get mlRX10_41 tyX6_get ⟨(Nat.le_of_ble_eq_true rfl), (Nat.le_of_ble_eq_true rfl)⟩ rfl rfl (Nat.le_of_ble_eq_true rfl) dX10_signToken_10 (mX6_get aA45 (Nat.le_of_ble_eq_true rfl) ex1 (pI.mk ?_))
  exact rP_i (pc := 13) rfl dX10_signToken_13 h hN
theorem mX10_signToken {q : Gq} {l : Launch} {N : Option Value → Wd → Prop} {X : String → Wd → Prop} {w : Wd} {x : Int32} (h : fX10_signToken w = x) (hN : N (some (.int x)) w) : Ct (GA q) l 1 yX10_signToken cX10_signToken 1 ((some .int)) [.ref 43] w N X := Ct.of (by decide) (Nat.le_of_ble_eq_true rfl) (pX10_signToken hN h)
/-! AlgolMill$Work.dropSign ()V: S, 0 -/
theorem dX10_dropSign_0 : decode cX10_dropSign 0 = .ok (.aload_n 0, 1) := by decide +kernel
theorem dX10_dropSign_1 : decode cX10_dropSign 1 = .ok (.dup, 1) := by decide +kernel
theorem dX10_dropSign_2 : decode cX10_dropSign 2 = .ok (.getfield 22, 3) := by decide +kernel
theorem dX10_dropSign_5 : decode cX10_dropSign 5 = .ok (.iconst 1, 1) := by decide +kernel
theorem dX10_dropSign_6 : decode cX10_dropSign 6 = .ok (.isub, 1) := by decide +kernel
theorem dX10_dropSign_7 : decode cX10_dropSign 7 = .ok (.putfield 22, 3) := by decide +kernel
theorem dX10_dropSign_10 : decode cX10_dropSign 10 = .ok (.return_, 1) := by decide +kernel
def fX10_dropSign (w : Wd) : Wd :=
  lt (si w 43 4 ((gi w 43 4) - 1)) fun w1 => w1
theorem pX10_dropSign {q : Gq} {l : Launch} {N : Option Value → Wd → Prop} {X : String → Wd → Prop} {w : Wd} {R : Wd} (hN : N none R) (h : fX10_dropSign w = R) : RT (GA q) l 0 yX10_dropSign cX10_dropSign 1 (none) N X 0 [] [(0, .ref 43)] w := by
  unfold fX10_dropSign at h
  refine r_aload_n (pc := 0) dX10_dropSign_0 rfl 0 rfl ?_
  refine r_dup (pc := 1) dX10_dropSign_1 rfl ?_
  refine r_get (pc := 2) (j := 4) (v := .int (gi w 43 4)) oA43 cf10 flRX10_22 rfl dX10_dropSign_2 rfl ?_
  refine r_iconst (pc := 5) dX10_dropSign_5 ki_1 ?_
  refine r_isub (pc := 6) dX10_dropSign_6 ?_
  replace h := lt_e h; obtain ⟨w1, ew1, h⟩ := h
  refine r_putI (pc := 7) (j := 4) oA43 cf10 flRX10_22 rfl rfl rfl rfl dX10_dropSign_7 ?_
  refine r_w ew1 ?_
  exact rS_v (pc := 10) rfl dX10_dropSign_10 h hN
theorem mX10_dropSign {q : Gq} {l : Launch} {N : Option Value → Wd → Prop} {X : String → Wd → Prop} {w : Wd} {u : Wd} (h : fX10_dropSign w = u) (hN : N none u) : Ct (GA q) l 0 yX10_dropSign cX10_dropSign 1 (none) [.ref 43] w N X := Ct.of (by decide) (Nat.le_of_ble_eq_true rfl) (pX10_dropSign hN h)
/-! AlgolMill$Work.strongest (I)I: P, 2 -/
theorem dX10_strongest_0 : decode cX10_strongest 0 = .ok (.aload_n 0, 1) := by decide +kernel
theorem dX10_strongest_1 : decode cX10_strongest 1 = .ok (.getfield 22, 3) := by decide +kernel
theorem dX10_strongest_4 : decode cX10_strongest 4 = .ok (.iload_n 1, 1) := by decide +kernel
theorem dX10_strongest_5 : decode cX10_strongest 5 = .ok (.if_icmp .le 13, 3) := by decide +kernel
theorem dX10_strongest_8 : decode cX10_strongest 8 = .ok (.aload_n 0, 1) := by decide +kernel
theorem dX10_strongest_9 : decode cX10_strongest 9 = .ok (.invokevirtual 45, 3) := by decide +kernel
theorem dX10_strongest_12 : decode cX10_strongest 12 = .ok (.invokestatic 49, 3) := by decide +kernel
theorem dX10_strongest_15 : decode cX10_strongest 15 = .ok (.goto 4, 3) := by decide +kernel
theorem dX10_strongest_18 : decode cX10_strongest 18 = .ok (.iconst 0, 1) := by decide +kernel
theorem dX10_strongest_19 : decode cX10_strongest 19 = .ok (.ireturn, 1) := by decide +kernel
def fX10_strongest (a1 : Int32) (w : Wd) : Int32 :=
  if (gi w 43 4) ≤ a1 then (0) else (lt (fX10_sign w) fun x2 => lt (fX10_strength x2 w) fun x3 => x3)
theorem pX10_strongest {q : Gq} {l : Launch} {N : Option Value → Wd → Prop} {X : String → Wd → Prop} {w : Wd} {R : Int32} (hN : N (some (.int R)) w) {a1 : Int32} (h : fX10_strongest a1 w = R) : RT (GA q) l 2 yX10_strongest cX10_strongest 2 ((some .int)) N X 0 [] [(0, .ref 43), (1, .int a1)] w := by
  unfold fX10_strongest at h
  refine r_aload_n (pc := 0) dX10_strongest_0 rfl 0 rfl ?_
  refine r_get (pc := 1) (j := 4) (v := .int (gi w 43 4)) oA43 cf10 flRX10_22 rfl dX10_strongest_1 rfl ?_
  refine r_iload_n (pc := 4) dX10_strongest_4 rfl 1 rfl ?_
  refine r_icmp_le (pc := 5) dX10_strongest_5 rfl (fun hc1 => ?_) (fun hc1 => ?_)
  · replace h := if_t hc1 h
    refine r_iconst (pc := 18) dX10_strongest_18 ki_0 ?_
    exact rP_i (pc := 19) rfl dX10_strongest_19 h hN
  replace h := if_f hc1 h
  refine r_aload_n (pc := 8) dX10_strongest_8 rfl 0 rfl ?_
  replace h := lt_e h; obtain ⟨x2, ex2, h⟩ := h
  refine r_cVi (pc := 9) wyX10_sign oA43 rfl mlRX10_45 iyX10_sign syX10_sign ⟨(Nat.le_of_ble_eq_true rfl), (Nat.le_of_ble_eq_true rfl)⟩ rfl rfl (Nat.le_of_ble_eq_true rfl) dX10_strongest_9 (mX10_sign ex2 (pI.mk ?_))
  replace h := lt_e h; obtain ⟨x3, ex3, h⟩ := h
  refine r_cSi (pc := 12) wyX10_strength mlRX10_49 tyX10_strength ⟨(Nat.le_of_ble_eq_true rfl), (Nat.le_of_ble_eq_true rfl)⟩ rfl rfl (Nat.le_of_ble_eq_true rfl) dX10_strongest_12 (mX10_strength ex3 (pI.mk ?_))
  refine r_goto (pc := 15) dX10_strongest_15 rfl ?_
  exact rP_i (pc := 19) rfl dX10_strongest_19 h hN
theorem mX10_strongest {q : Gq} {l : Launch} {N : Option Value → Wd → Prop} {X : String → Wd → Prop} {a1 : Int32} {w : Wd} {x : Int32} (h : fX10_strongest a1 w = x) (hN : N (some (.int x)) w) : Ct (GA q) l 2 yX10_strongest cX10_strongest 2 ((some .int)) [.ref 43, .int a1] w N X := Ct.of (by decide) (Nat.le_of_ble_eq_true rfl) (pX10_strongest hN h)
/-! AlgolMill$Work.nots (I)I: O, 1 -/
theorem dX10_nots_0 : decode cX10_nots 0 = .ok (.iconst 0, 1) := by decide +kernel
theorem dX10_nots_1 : decode cX10_nots 1 = .ok (.istore_n 2, 1) := by decide +kernel
theorem dX10_nots_2 : decode cX10_nots 2 = .ok (.iload_n 1, 1) := by decide +kernel
theorem dX10_nots_3 : decode cX10_nots 3 = .ok (.istore_n 3, 1) := by decide +kernel
theorem dX10_nots_4 : decode cX10_nots 4 = .ok (.iload_n 3, 1) := by decide +kernel
theorem dX10_nots_5 : decode cX10_nots 5 = .ok (.aload_n 0, 1) := by decide +kernel
theorem dX10_nots_6 : decode cX10_nots 6 = .ok (.getfield 22, 3) := by decide +kernel
theorem dX10_nots_9 : decode cX10_nots 9 = .ok (.if_icmp .ge 30, 3) := by decide +kernel
theorem dX10_nots_12 : decode cX10_nots 12 = .ok (.iload_n 2, 1) := by decide +kernel
theorem dX10_nots_13 : decode cX10_nots 13 = .ok (.aload_n 0, 1) := by decide +kernel
theorem dX10_nots_14 : decode cX10_nots 14 = .ok (.getfield 9, 3) := by decide +kernel
theorem dX10_nots_17 : decode cX10_nots 17 = .ok (.iload_n 3, 1) := by decide +kernel
theorem dX10_nots_18 : decode cX10_nots 18 = .ok (.invokestatic 41, 3) := by decide +kernel
theorem dX10_nots_21 : decode cX10_nots 21 = .ok (.bipush 29, 2) := by decide +kernel
theorem dX10_nots_23 : decode cX10_nots 23 = .ok (.if_icmp .ne 7, 3) := by decide +kernel
theorem dX10_nots_26 : decode cX10_nots 26 = .ok (.iconst 1, 1) := by decide +kernel
theorem dX10_nots_27 : decode cX10_nots 27 = .ok (.goto 4, 3) := by decide +kernel
theorem dX10_nots_30 : decode cX10_nots 30 = .ok (.iconst 0, 1) := by decide +kernel
theorem dX10_nots_31 : decode cX10_nots 31 = .ok (.iadd, 1) := by decide +kernel
theorem dX10_nots_32 : decode cX10_nots 32 = .ok (.istore_n 2, 1) := by decide +kernel
theorem dX10_nots_33 : decode cX10_nots 33 = .ok (.iinc 3 1, 3) := by decide +kernel
theorem dX10_nots_36 : decode cX10_nots 36 = .ok (.goto (-32), 3) := by decide +kernel
theorem dX10_nots_39 : decode cX10_nots 39 = .ok (.iload_n 2, 1) := by decide +kernel
theorem dX10_nots_40 : decode cX10_nots 40 = .ok (.ireturn, 1) := by decide +kernel
def fX10_nots_4 (k_4 : Int32 → Int32 → Wd → Option (Int32 × Wd)) (a2 : Int32) (a3 : Int32) (w : Wd) : Option (Int32 × Wd) :=
  if (gi w 43 4) ≤ a3 then (some (a2, w)) else (lt (rgi w 44 512 a3) fun x2 => if x2 = 29 then (lt ((a2 + 1)) fun x4 => lt (a3 + 1) fun x5 => k_4 x4 x5 w) else (lt ((a2 + 0)) fun x6 => lt (a3 + 1) fun x7 => k_4 x6 x7 w))
theorem pX10_nots_4 {q : Gq} {l : Launch} {N : Option Value → Wd → Prop} {X : String → Wd → Prop} {w : Wd} {R : Int32 × Wd} (hN : N (some (.int R.1)) R.2) {k_4 : Int32 → Int32 → Wd → Option (Int32 × Wd)} (hk_4 : ∀ (a2 : Int32) (a3 : Int32) (w : Wd), k_4 a2 a3 w = some R → RT (GA q) l 1 yX10_nots cX10_nots 4 ((some .int)) N X 4 [] [(0, .ref 43), (2, .int a2), (3, .int a3)] w) {a2 : Int32} {a3 : Int32} (h : fX10_nots_4 k_4 a2 a3 w = some R) : RT (GA q) l 1 yX10_nots cX10_nots 4 ((some .int)) N X 4 [] [(0, .ref 43), (2, .int a2), (3, .int a3)] w := by
  unfold fX10_nots_4 at h
  refine r_iload_n (pc := 4) dX10_nots_4 rfl 2 rfl ?_
  refine r_aload_n (pc := 5) dX10_nots_5 rfl 0 rfl ?_
  refine r_get (pc := 6) (j := 4) (v := .int (gi w 43 4)) oA43 cf10 flRX10_22 rfl dX10_nots_6 rfl ?_
  refine r_icmp_ge (pc := 9) dX10_nots_9 rfl (fun hc1 => ?_) (fun hc1 => ?_)
  · replace h := if_t hc1 h
    refine r_iload_n (pc := 39) dX10_nots_39 rfl 1 rfl ?_
    exact rO_i (pc := 40) rfl dX10_nots_40 h hN
  replace h := if_f hc1 h
  refine r_iload_n (pc := 12) dX10_nots_12 rfl 1 rfl ?_
  refine r_aload_n (pc := 13) dX10_nots_13 rfl 0 rfl ?_
  refine r_get (pc := 14) (j := 0) (v := .ref 44) oA43 cf10 flRX10_9 rfl dX10_nots_14 rfl ?_
  refine r_iload_n (pc := 17) dX10_nots_17 rfl 2 rfl ?_
  replace h := lt_e h; obtain ⟨x2, ex2, h⟩ := h
  refine r_cSi (pc := 18) wyX6_get mlRX10_41 tyX6_get ⟨(Nat.le_of_ble_eq_true rfl), (Nat.le_of_ble_eq_true rfl)⟩ rfl rfl (Nat.le_of_ble_eq_true rfl) dX10_nots_18 (mX6_get aA44 (Nat.le_of_ble_eq_true rfl) ex2 (pI.mk ?_))
  refine r_bipush (pc := 21) dX10_nots_21 kb_29 ?_
  refine r_icmp_ne (pc := 23) dX10_nots_23 rfl (fun hc3 => ?_) (fun hc3 => ?_)
  · replace h := if_f hc3 h
    refine r_iconst (pc := 30) dX10_nots_30 ki_0 ?_
    refine r_iadd (pc := 31) dX10_nots_31 ?_
    replace h := lt_e h; obtain ⟨x6, ex6, h⟩ := h
    refine r_topi ex6 ?_
    refine r_istore_n (pc := 32) (loc' := [(2, .int x6), (0, .ref 43), (3, .int a3)]) dX10_nots_32 rfl (Nat.le_of_ble_eq_true rfl) rfl ?_
    replace h := lt_e h; obtain ⟨x7, ex7, h⟩ := h
    refine r_inc (pc := 33) (loc' := [(3, .int x7), (2, .int x6), (0, .ref 43)]) dX10_nots_33 ki_1 ex7 2 rfl (Nat.le_of_ble_eq_true rfl) rfl ?_
    refine r_goto (pc := 36) dX10_nots_36 rfl ?_
    refine r_drop (loc' := [(0, .ref 43), (2, .int x6), (3, .int x7)]) [2, 1, 0] rfl ?_
    exact hk_4 x6 x7 w h
  replace h := if_t hc3 h
  refine r_iconst (pc := 26) dX10_nots_26 ki_1 ?_
  refine r_goto (pc := 27) dX10_nots_27 rfl ?_
  refine r_iadd (pc := 31) dX10_nots_31 ?_
  replace h := lt_e h; obtain ⟨x4, ex4, h⟩ := h
  refine r_topi ex4 ?_
  refine r_istore_n (pc := 32) (loc' := [(2, .int x4), (0, .ref 43), (3, .int a3)]) dX10_nots_32 rfl (Nat.le_of_ble_eq_true rfl) rfl ?_
  replace h := lt_e h; obtain ⟨x5, ex5, h⟩ := h
  refine r_inc (pc := 33) (loc' := [(3, .int x5), (2, .int x4), (0, .ref 43)]) dX10_nots_33 ki_1 ex5 2 rfl (Nat.le_of_ble_eq_true rfl) rfl ?_
  refine r_goto (pc := 36) dX10_nots_36 rfl ?_
  refine r_drop (loc' := [(0, .ref 43), (2, .int x4), (3, .int x5)]) [2, 1, 0] rfl ?_
  exact hk_4 x4 x5 w h
def oX10_nots_4 : Nat → Int32 → Int32 → Wd → Option (Int32 × Wd)
  | 0 => fun _ _ _ => none
  | n + 1 => fX10_nots_4 (oX10_nots_4 n)
theorem qX10_nots_4 {q : Gq} {l : Launch} {N : Option Value → Wd → Prop} {X : String → Wd → Prop} {R : Int32 × Wd} (hN : N (some (.int R.1)) R.2) : ∀ (n : Nat) (a2 : Int32) (a3 : Int32) (w : Wd), oX10_nots_4 n a2 a3 w = some R → RT (GA q) l 1 yX10_nots cX10_nots 4 ((some .int)) N X 4 [] [(0, .ref 43), (2, .int a2), (3, .int a3)] w := by
  intro n
  induction n with
  | zero =>
    intro a2 a3 w h
    exact absurd h (fun q => nomatch q)
  | succ n ih =>
    intro a2 a3 w h
    exact pX10_nots_4 hN ih h
def fX10_nots (a1 : Int32) (w : Wd) : Option (Int32 × Wd) :=
  oX10_nots_4 FU 0 a1 w
theorem pX10_nots {q : Gq} {l : Launch} {N : Option Value → Wd → Prop} {X : String → Wd → Prop} {w : Wd} {R : Int32 × Wd} (hN : N (some (.int R.1)) R.2) {a1 : Int32} (h : fX10_nots a1 w = some R) : RT (GA q) l 1 yX10_nots cX10_nots 4 ((some .int)) N X 0 [] [(0, .ref 43), (1, .int a1)] w := by
  unfold fX10_nots at h
  refine r_iconst (pc := 0) dX10_nots_0 ki_0 ?_
  refine r_istore_n (pc := 1) (loc' := [(2, .int 0), (0, .ref 43), (1, .int a1)]) dX10_nots_1 rfl (Nat.le_of_ble_eq_true rfl) rfl ?_
  refine r_iload_n (pc := 2) dX10_nots_2 rfl 2 rfl ?_
  refine r_istore_n (pc := 3) (loc' := [(3, .int a1), (2, .int 0), (0, .ref 43), (1, .int a1)]) dX10_nots_3 rfl (Nat.le_of_ble_eq_true rfl) rfl ?_
  refine r_drop (loc' := [(0, .ref 43), (2, .int 0), (3, .int a1)]) [2, 1, 0] rfl ?_
  exact qX10_nots_4 hN FU 0 a1 w h
theorem mX10_nots {q : Gq} {l : Launch} {N : Option Value → Wd → Prop} {X : String → Wd → Prop} {a1 : Int32} {w : Wd} {x : Int32} {u : Wd} (h : fX10_nots a1 w = some (x, u)) (hN : N (some (.int x)) u) : Ct (GA q) l 1 yX10_nots cX10_nots 4 ((some .int)) [.ref 43, .int a1] w N X := Ct.of (by decide) (Nat.le_of_ble_eq_true rfl) (pX10_nots hN h)
/-! AlgolMill$Work.push (II)V: S, 1 -/
theorem dX10_push_0 : decode cX10_push 0 = .ok (.aload_n 0, 1) := by decide +kernel
theorem dX10_push_1 : decode cX10_push 1 = .ok (.getfield 16, 3) := by decide +kernel
theorem dX10_push_4 : decode cX10_push 4 = .ok (.aload_n 0, 1) := by decide +kernel
theorem dX10_push_5 : decode cX10_push 5 = .ok (.getfield 26, 3) := by decide +kernel
theorem dX10_push_8 : decode cX10_push 8 = .ok (.iload_n 1, 1) := by decide +kernel
theorem dX10_push_9 : decode cX10_push 9 = .ok (.invokestatic 35, 3) := by decide +kernel
theorem dX10_push_12 : decode cX10_push 12 = .ok (.aload_n 0, 1) := by decide +kernel
theorem dX10_push_13 : decode cX10_push 13 = .ok (.getfield 19, 3) := by decide +kernel
theorem dX10_push_16 : decode cX10_push 16 = .ok (.aload_n 0, 1) := by decide +kernel
theorem dX10_push_17 : decode cX10_push 17 = .ok (.getfield 26, 3) := by decide +kernel
theorem dX10_push_20 : decode cX10_push 20 = .ok (.iload_n 2, 1) := by decide +kernel
theorem dX10_push_21 : decode cX10_push 21 = .ok (.invokestatic 35, 3) := by decide +kernel
theorem dX10_push_24 : decode cX10_push 24 = .ok (.aload_n 0, 1) := by decide +kernel
theorem dX10_push_25 : decode cX10_push 25 = .ok (.dup, 1) := by decide +kernel
theorem dX10_push_26 : decode cX10_push 26 = .ok (.getfield 26, 3) := by decide +kernel
theorem dX10_push_29 : decode cX10_push 29 = .ok (.iconst 1, 1) := by decide +kernel
theorem dX10_push_30 : decode cX10_push 30 = .ok (.iadd, 1) := by decide +kernel
theorem dX10_push_31 : decode cX10_push 31 = .ok (.putfield 26, 3) := by decide +kernel
theorem dX10_push_34 : decode cX10_push 34 = .ok (.return_, 1) := by decide +kernel
def fX10_push (a1 : Int32) (a2 : Int32) (w : Wd) : Wd :=
  lt (rsi w 46 512 (gi w 43 5) a1) fun w1 => lt (rsi w1 47 512 (gi w1 43 5) a2) fun w2 => lt (si w2 43 5 ((gi w2 43 5) + 1)) fun w3 => w3
theorem pX10_push {q : Gq} {l : Launch} {N : Option Value → Wd → Prop} {X : String → Wd → Prop} {w : Wd} {R : Wd} (hN : N none R) {a1 : Int32} {a2 : Int32} (h : fX10_push a1 a2 w = R) : RT (GA q) l 1 yX10_push cX10_push 3 (none) N X 0 [] [(0, .ref 43), (1, .int a1), (2, .int a2)] w := by
  unfold fX10_push at h
  refine r_aload_n (pc := 0) dX10_push_0 rfl 0 rfl ?_
  refine r_get (pc := 1) (j := 2) (v := .ref 46) oA43 cf10 flRX10_16 rfl dX10_push_1 rfl ?_
  refine r_aload_n (pc := 4) dX10_push_4 rfl 0 rfl ?_
  refine r_get (pc := 5) (j := 5) (v := .int (gi w 43 5)) oA43 cf10 flRX10_26 rfl dX10_push_5 rfl ?_
  refine r_iload_n (pc := 8) dX10_push_8 rfl 1 rfl ?_
  replace h := lt_e h; obtain ⟨w1, ew1, h⟩ := h
  refine r_cSv (pc := 9) wyX6_set mlRX10_35 tyX6_set ⟨(Nat.le_of_ble_eq_true rfl), (Nat.le_of_ble_eq_true rfl)⟩ rfl rfl (Nat.le_of_ble_eq_true rfl) dX10_push_9 (mX6_set aA46 (Nat.le_of_ble_eq_true rfl) ew1 (pV.mk ?_))
  refine r_aload_n (pc := 12) dX10_push_12 rfl 0 rfl ?_
  refine r_get (pc := 13) (j := 3) (v := .ref 47) oA43 cf10 flRX10_19 rfl dX10_push_13 rfl ?_
  refine r_aload_n (pc := 16) dX10_push_16 rfl 0 rfl ?_
  refine r_get (pc := 17) (j := 5) (v := .int (gi w1 43 5)) oA43 cf10 flRX10_26 rfl dX10_push_17 rfl ?_
  refine r_iload_n (pc := 20) dX10_push_20 rfl 2 rfl ?_
  replace h := lt_e h; obtain ⟨w2, ew2, h⟩ := h
  refine r_cSv (pc := 21) wyX6_set mlRX10_35 tyX6_set ⟨(Nat.le_of_ble_eq_true rfl), (Nat.le_of_ble_eq_true rfl)⟩ rfl rfl (Nat.le_of_ble_eq_true rfl) dX10_push_21 (mX6_set aA47 (Nat.le_of_ble_eq_true rfl) ew2 (pV.mk ?_))
  refine r_aload_n (pc := 24) dX10_push_24 rfl 0 rfl ?_
  refine r_dup (pc := 25) dX10_push_25 rfl ?_
  refine r_get (pc := 26) (j := 5) (v := .int (gi w2 43 5)) oA43 cf10 flRX10_26 rfl dX10_push_26 rfl ?_
  refine r_iconst (pc := 29) dX10_push_29 ki_1 ?_
  refine r_iadd (pc := 30) dX10_push_30 ?_
  replace h := lt_e h; obtain ⟨w3, ew3, h⟩ := h
  refine r_putI (pc := 31) (j := 5) oA43 cf10 flRX10_26 rfl rfl rfl rfl dX10_push_31 ?_
  refine r_w ew3 ?_
  exact rS_v (pc := 34) rfl dX10_push_34 h hN
theorem mX10_push {q : Gq} {l : Launch} {N : Option Value → Wd → Prop} {X : String → Wd → Prop} {a1 : Int32} {a2 : Int32} {w : Wd} {u : Wd} (h : fX10_push a1 a2 w = u) (hN : N none u) : Ct (GA q) l 1 yX10_push cX10_push 3 (none) [.ref 43, .int a1, .int a2] w N X := Ct.of (by decide) (Nat.le_of_ble_eq_true rfl) (pX10_push hN h)
/-! AlgolMill$Work.pop ()I: S, 1 -/
theorem dX10_pop_0 : decode cX10_pop 0 = .ok (.aload_n 0, 1) := by decide +kernel
theorem dX10_pop_1 : decode cX10_pop 1 = .ok (.aload_n 0, 1) := by decide +kernel
theorem dX10_pop_2 : decode cX10_pop 2 = .ok (.getfield 26, 3) := by decide +kernel
theorem dX10_pop_5 : decode cX10_pop 5 = .ok (.iconst 1, 1) := by decide +kernel
theorem dX10_pop_6 : decode cX10_pop 6 = .ok (.isub, 1) := by decide +kernel
theorem dX10_pop_7 : decode cX10_pop 7 = .ok (.iconst 0, 1) := by decide +kernel
theorem dX10_pop_8 : decode cX10_pop 8 = .ok (.invokestatic 54, 3) := by decide +kernel
theorem dX10_pop_11 : decode cX10_pop 11 = .ok (.putfield 26, 3) := by decide +kernel
theorem dX10_pop_14 : decode cX10_pop 14 = .ok (.aload_n 0, 1) := by decide +kernel
theorem dX10_pop_15 : decode cX10_pop 15 = .ok (.getfield 16, 3) := by decide +kernel
theorem dX10_pop_18 : decode cX10_pop 18 = .ok (.aload_n 0, 1) := by decide +kernel
theorem dX10_pop_19 : decode cX10_pop 19 = .ok (.getfield 26, 3) := by decide +kernel
theorem dX10_pop_22 : decode cX10_pop 22 = .ok (.invokestatic 41, 3) := by decide +kernel
theorem dX10_pop_25 : decode cX10_pop 25 = .ok (.ireturn, 1) := by decide +kernel
def fX10_pop (w : Wd) : Int32 × Wd :=
  lt (fJ9_max_7cf53 ((gi w 43 5) - 1) 0) fun x1 => lt (si w 43 5 x1) fun w2 => lt (rgi w2 46 512 (gi w2 43 5)) fun x3 => (x3, w2)
theorem pX10_pop {q : Gq} {l : Launch} {N : Option Value → Wd → Prop} {X : String → Wd → Prop} {w : Wd} {R : Int32 × Wd} (hN : N (some (.int R.1)) R.2) (h : fX10_pop w = R) : RT (GA q) l 1 yX10_pop cX10_pop 1 ((some .int)) N X 0 [] [(0, .ref 43)] w := by
  unfold fX10_pop at h
  refine r_aload_n (pc := 0) dX10_pop_0 rfl 0 rfl ?_
  refine r_aload_n (pc := 1) dX10_pop_1 rfl 0 rfl ?_
  refine r_get (pc := 2) (j := 5) (v := .int (gi w 43 5)) oA43 cf10 flRX10_26 rfl dX10_pop_2 rfl ?_
  refine r_iconst (pc := 5) dX10_pop_5 ki_1 ?_
  refine r_isub (pc := 6) dX10_pop_6 ?_
  refine r_iconst (pc := 7) dX10_pop_7 ki_0 ?_
  replace h := lt_e h; obtain ⟨x1, ex1, h⟩ := h
  refine r_cSi (pc := 8) wyJ9_max_7cf53 mlRX10_54 tyJ9_max_7cf53 ⟨(Nat.le_of_ble_eq_true rfl), (Nat.le_of_ble_eq_true rfl)⟩ rfl rfl (Nat.le_of_ble_eq_true rfl) dX10_pop_8 (mJ9_max_7cf53 ex1 (pI.mk ?_))
  replace h := lt_e h; obtain ⟨w2, ew2, h⟩ := h
  refine r_putI (pc := 11) (j := 5) oA43 cf10 flRX10_26 rfl rfl rfl rfl dX10_pop_11 ?_
  refine r_w ew2 ?_
  refine r_aload_n (pc := 14) dX10_pop_14 rfl 0 rfl ?_
  refine r_get (pc := 15) (j := 2) (v := .ref 46) oA43 cf10 flRX10_16 rfl dX10_pop_15 rfl ?_
  refine r_aload_n (pc := 18) dX10_pop_18 rfl 0 rfl ?_
  refine r_get (pc := 19) (j := 5) (v := .int (gi w2 43 5)) oA43 cf10 flRX10_26 rfl dX10_pop_19 rfl ?_
  replace h := lt_e h; obtain ⟨x3, ex3, h⟩ := h
  refine r_cSi (pc := 22) wyX6_get mlRX10_41 tyX6_get ⟨(Nat.le_of_ble_eq_true rfl), (Nat.le_of_ble_eq_true rfl)⟩ rfl rfl (Nat.le_of_ble_eq_true rfl) dX10_pop_22 (mX6_get aA46 (Nat.le_of_ble_eq_true rfl) ex3 (pI.mk ?_))
  exact rS_i (pc := 25) rfl dX10_pop_25 h hN
theorem mX10_pop {q : Gq} {l : Launch} {N : Option Value → Wd → Prop} {X : String → Wd → Prop} {w : Wd} {x : Int32} {u : Wd} (h : fX10_pop w = (x, u)) (hN : N (some (.int x)) u) : Ct (GA q) l 1 yX10_pop cX10_pop 1 ((some .int)) [.ref 43] w N X := Ct.of (by decide) (Nat.le_of_ble_eq_true rfl) (pX10_pop hN h)
/-! AlgolMill$Work.type (I)I: P, 1 -/
theorem dX10_type_0 : decode cX10_type 0 = .ok (.aload_n 0, 1) := by decide +kernel
theorem dX10_type_1 : decode cX10_type 1 = .ok (.getfield 16, 3) := by decide +kernel
theorem dX10_type_4 : decode cX10_type 4 = .ok (.aload_n 0, 1) := by decide +kernel
theorem dX10_type_5 : decode cX10_type 5 = .ok (.getfield 26, 3) := by decide +kernel
theorem dX10_type_8 : decode cX10_type 8 = .ok (.iconst 1, 1) := by decide +kernel
theorem dX10_type_9 : decode cX10_type 9 = .ok (.isub, 1) := by decide +kernel
theorem dX10_type_10 : decode cX10_type 10 = .ok (.iload_n 1, 1) := by decide +kernel
theorem dX10_type_11 : decode cX10_type 11 = .ok (.isub, 1) := by decide +kernel
theorem dX10_type_12 : decode cX10_type 12 = .ok (.invokestatic 41, 3) := by decide +kernel
theorem dX10_type_15 : decode cX10_type 15 = .ok (.ireturn, 1) := by decide +kernel
def fX10_type (a1 : Int32) (w : Wd) : Int32 :=
  lt (rgi w 46 512 (((gi w 43 5) - 1) - a1)) fun x1 => x1
theorem pX10_type {q : Gq} {l : Launch} {N : Option Value → Wd → Prop} {X : String → Wd → Prop} {w : Wd} {R : Int32} (hN : N (some (.int R)) w) {a1 : Int32} (h : fX10_type a1 w = R) : RT (GA q) l 1 yX10_type cX10_type 2 ((some .int)) N X 0 [] [(0, .ref 43), (1, .int a1)] w := by
  unfold fX10_type at h
  refine r_aload_n (pc := 0) dX10_type_0 rfl 0 rfl ?_
  refine r_get (pc := 1) (j := 2) (v := .ref 46) oA43 cf10 flRX10_16 rfl dX10_type_1 rfl ?_
  refine r_aload_n (pc := 4) dX10_type_4 rfl 0 rfl ?_
  refine r_get (pc := 5) (j := 5) (v := .int (gi w 43 5)) oA43 cf10 flRX10_26 rfl dX10_type_5 rfl ?_
  refine r_iconst (pc := 8) dX10_type_8 ki_1 ?_
  refine r_isub (pc := 9) dX10_type_9 ?_
  refine r_iload_n (pc := 10) dX10_type_10 rfl 1 rfl ?_
  refine r_isub (pc := 11) dX10_type_11 ?_
  replace h := lt_e h; obtain ⟨x1, ex1, h⟩ := h
  refine r_cSi (pc := 12) wyX6_get mlRX10_41 tyX6_get ⟨(Nat.le_of_ble_eq_true rfl), (Nat.le_of_ble_eq_true rfl)⟩ rfl rfl (Nat.le_of_ble_eq_true rfl) dX10_type_12 (mX6_get aA46 (Nat.le_of_ble_eq_true rfl) ex1 (pI.mk ?_))
  exact rP_i (pc := 15) rfl dX10_type_15 h hN
theorem mX10_type {q : Gq} {l : Launch} {N : Option Value → Wd → Prop} {X : String → Wd → Prop} {a1 : Int32} {w : Wd} {x : Int32} (h : fX10_type a1 w = x) (hN : N (some (.int x)) w) : Ct (GA q) l 1 yX10_type cX10_type 2 ((some .int)) [.ref 43, .int a1] w N X := Ct.of (by decide) (Nat.le_of_ble_eq_true rfl) (pX10_type hN h)
/-! AlgolMill$Work.start (I)I: P, 1 -/
theorem dX10_start_0 : decode cX10_start 0 = .ok (.aload_n 0, 1) := by decide +kernel
theorem dX10_start_1 : decode cX10_start 1 = .ok (.getfield 19, 3) := by decide +kernel
theorem dX10_start_4 : decode cX10_start 4 = .ok (.aload_n 0, 1) := by decide +kernel
theorem dX10_start_5 : decode cX10_start 5 = .ok (.getfield 26, 3) := by decide +kernel
theorem dX10_start_8 : decode cX10_start 8 = .ok (.iconst 1, 1) := by decide +kernel
theorem dX10_start_9 : decode cX10_start 9 = .ok (.isub, 1) := by decide +kernel
theorem dX10_start_10 : decode cX10_start 10 = .ok (.iload_n 1, 1) := by decide +kernel
theorem dX10_start_11 : decode cX10_start 11 = .ok (.isub, 1) := by decide +kernel
theorem dX10_start_12 : decode cX10_start 12 = .ok (.invokestatic 41, 3) := by decide +kernel
theorem dX10_start_15 : decode cX10_start 15 = .ok (.ireturn, 1) := by decide +kernel
def fX10_start (a1 : Int32) (w : Wd) : Int32 :=
  lt (rgi w 47 512 (((gi w 43 5) - 1) - a1)) fun x1 => x1
theorem pX10_start {q : Gq} {l : Launch} {N : Option Value → Wd → Prop} {X : String → Wd → Prop} {w : Wd} {R : Int32} (hN : N (some (.int R)) w) {a1 : Int32} (h : fX10_start a1 w = R) : RT (GA q) l 1 yX10_start cX10_start 2 ((some .int)) N X 0 [] [(0, .ref 43), (1, .int a1)] w := by
  unfold fX10_start at h
  refine r_aload_n (pc := 0) dX10_start_0 rfl 0 rfl ?_
  refine r_get (pc := 1) (j := 3) (v := .ref 47) oA43 cf10 flRX10_19 rfl dX10_start_1 rfl ?_
  refine r_aload_n (pc := 4) dX10_start_4 rfl 0 rfl ?_
  refine r_get (pc := 5) (j := 5) (v := .int (gi w 43 5)) oA43 cf10 flRX10_26 rfl dX10_start_5 rfl ?_
  refine r_iconst (pc := 8) dX10_start_8 ki_1 ?_
  refine r_isub (pc := 9) dX10_start_9 ?_
  refine r_iload_n (pc := 10) dX10_start_10 rfl 1 rfl ?_
  refine r_isub (pc := 11) dX10_start_11 ?_
  replace h := lt_e h; obtain ⟨x1, ex1, h⟩ := h
  refine r_cSi (pc := 12) wyX6_get mlRX10_41 tyX6_get ⟨(Nat.le_of_ble_eq_true rfl), (Nat.le_of_ble_eq_true rfl)⟩ rfl rfl (Nat.le_of_ble_eq_true rfl) dX10_start_12 (mX6_get aA47 (Nat.le_of_ble_eq_true rfl) ex1 (pI.mk ?_))
  exact rP_i (pc := 15) rfl dX10_start_15 h hN
theorem mX10_start {q : Gq} {l : Launch} {N : Option Value → Wd → Prop} {X : String → Wd → Prop} {a1 : Int32} {w : Wd} {x : Int32} (h : fX10_start a1 w = x) (hN : N (some (.int x)) w) : Ct (GA q) l 1 yX10_start cX10_start 2 ((some .int)) [.ref 43, .int a1] w N X := Ct.of (by decide) (Nat.le_of_ble_eq_true rfl) (pX10_start hN h)
