/-! Machine, one half -/
theorem kb_36 : (Int8.ofInt 36).toInt32 = 36 := by decide
theorem kb_m2 : (Int8.ofInt (-2)).toInt32 = (-2) := by decide
theorem kl_1 : Int64.ofNat ((1 : Fin 2) : Nat) = 1 := by decide
theorem ks_30622 : (Int16.ofInt 30622).toInt32 = 30622 := by decide
theorem ks_500 : (Int16.ofInt 500).toInt32 = 500 := by decide
theorem ks_6096 : (Int16.ofInt 6096).toInt32 = 6096 := by decide
theorem kcRX3_20 : Cond.constant RX3 20 109186 ∈ TB := tb1 sg2 161 rfl rfl
/-! AlgolMill$Machine.load (LAlgolMill$Code;I)V: O, 2 -/
theorem dX3_load_0 : decode cX3_load 0 = .ok (.aload_n 0, 1) := by decide +kernel
theorem dX3_load_1 : decode cX3_load 1 = .ok (.iload_n 2, 1) := by decide +kernel
theorem dX3_load_2 : decode cX3_load 2 = .ok (.sipush 4096, 3) := by decide +kernel
theorem dX3_load_5 : decode cX3_load 5 = .ok (.invokestatic 43, 3) := by decide +kernel
theorem dX3_load_8 : decode cX3_load 8 = .ok (.putfield 49, 3) := by decide +kernel
theorem dX3_load_11 : decode cX3_load 11 = .ok (.aload_n 0, 1) := by decide +kernel
theorem dX3_load_12 : decode cX3_load 12 = .ok (.aload_n 1, 1) := by decide +kernel
theorem dX3_load_13 : decode cX3_load 13 = .ok (.invokevirtual 53, 3) := by decide +kernel
theorem dX3_load_16 : decode cX3_load 16 = .ok (.putfield 57, 3) := by decide +kernel
theorem dX3_load_19 : decode cX3_load 19 = .ok (.iconst 0, 1) := by decide +kernel
theorem dX3_load_20 : decode cX3_load 20 = .ok (.istore_n 3, 1) := by decide +kernel
theorem dX3_load_21 : decode cX3_load 21 = .ok (.iload_n 3, 1) := by decide +kernel
theorem dX3_load_22 : decode cX3_load 22 = .ok (.aload_n 0, 1) := by decide +kernel
theorem dX3_load_23 : decode cX3_load 23 = .ok (.getfield 57, 3) := by decide +kernel
theorem dX3_load_26 : decode cX3_load 26 = .ok (.if_icmp .ge 25, 3) := by decide +kernel
theorem dX3_load_29 : decode cX3_load 29 = .ok (.aload_n 0, 1) := by decide +kernel
theorem dX3_load_30 : decode cX3_load 30 = .ok (.getfield 16, 3) := by decide +kernel
theorem dX3_load_33 : decode cX3_load 33 = .ok (.iload_n 3, 1) := by decide +kernel
theorem dX3_load_34 : decode cX3_load 34 = .ok (.aload_n 1, 1) := by decide +kernel
theorem dX3_load_35 : decode cX3_load 35 = .ok (.invokevirtual 59, 3) := by decide +kernel
theorem dX3_load_38 : decode cX3_load 38 = .ok (.iload_n 3, 1) := by decide +kernel
theorem dX3_load_39 : decode cX3_load 39 = .ok (.invokestatic 63, 3) := by decide +kernel
theorem dX3_load_42 : decode cX3_load 42 = .ok (.invokestatic 69, 3) := by decide +kernel
theorem dX3_load_45 : decode cX3_load 45 = .ok (.iinc 3 1, 3) := by decide +kernel
theorem dX3_load_48 : decode cX3_load 48 = .ok (.goto (-27), 3) := by decide +kernel
theorem dX3_load_51 : decode cX3_load 51 = .ok (.return_, 1) := by decide +kernel
def fX3_load_21 (k_21 : Int32 → Wd → Option Wd) (a3 : Int32) (w : Wd) : Option Wd :=
  if (gi w 48 8) ≤ a3 then (some w) else (lt (rgl w 41 36872 a3) fun x2 => lt (rsl w 49 36872 a3 x2) fun w3 => lt (a3 + 1) fun x4 => k_21 x4 w3)
theorem pX3_load_21 {q : Gq} {l : Launch} {N : Option Value → Wd → Prop} {X : String → Wd → Prop} {w : Wd} {R : Wd} (hN : N none R) {k_21 : Int32 → Wd → Option Wd} (hk_21 : ∀ (a3 : Int32) (w : Wd), k_21 a3 w = some R → RT (GA q) l 2 yX3_load cX3_load 4 (none) N X 21 [] [(0, .ref 48), (1, .ref 40), (3, .int a3)] w) {a3 : Int32} (h : fX3_load_21 k_21 a3 w = some R) : RT (GA q) l 2 yX3_load cX3_load 4 (none) N X 21 [] [(0, .ref 48), (1, .ref 40), (3, .int a3)] w := by
  unfold fX3_load_21 at h
  refine r_iload_n (pc := 21) dX3_load_21 rfl 2 rfl ?_
  refine r_aload_n (pc := 22) dX3_load_22 rfl 0 rfl ?_
  refine r_get (pc := 23) (j := 8) (v := .int (gi w 48 8)) oA48 cf3 flRX3_57 rfl dX3_load_23 rfl ?_
  refine r_icmp_ge (pc := 26) dX3_load_26 rfl (fun hc1 => ?_) (fun hc1 => ?_)
  · replace h := if_t hc1 h
    exact rO_v (pc := 51) rfl dX3_load_51 h hN
  replace h := if_f hc1 h
  refine r_aload_n (pc := 29) dX3_load_29 rfl 0 rfl ?_
  refine r_get (pc := 30) (j := 0) (v := .ref 49) oA48 cf3 flRX3_16 rfl dX3_load_30 rfl ?_
  refine r_iload_n (pc := 33) dX3_load_33 rfl 2 rfl ?_
  refine r_aload_n (pc := 34) dX3_load_34 rfl 1 rfl ?_
  refine r_cVr (pc := 35) wyX0_words oA40 rfl mlRX3_59 iyX0_words syX0_words ⟨(Nat.le_of_ble_eq_true rfl), (Nat.le_of_ble_eq_true rfl)⟩ rfl rfl (Nat.le_of_ble_eq_true rfl) dX3_load_35 (mX0_words (pR.mk ?_))
  refine r_iload_n (pc := 38) dX3_load_38 rfl 2 rfl ?_
  replace h := lt_e h; obtain ⟨x2, ex2, h⟩ := h
  refine r_cSl (pc := 39) wyX6_get_ mlRX3_63 tyX6_get_ ⟨(Nat.le_of_ble_eq_true rfl), (Nat.le_of_ble_eq_true rfl)⟩ rfl rfl (Nat.le_of_ble_eq_true rfl) dX3_load_39 (mX6_get_ aA41 (Nat.le_of_ble_eq_true rfl) ex2 (pL.mk ?_))
  replace h := lt_e h; obtain ⟨w3, ew3, h⟩ := h
  refine r_cSv (pc := 42) wyX6_set_ mlRX3_69 tyX6_set_ ⟨(Nat.le_of_ble_eq_true rfl), (Nat.le_of_ble_eq_true rfl)⟩ rfl rfl (Nat.le_of_ble_eq_true rfl) dX3_load_42 (mX6_set_ aA49 (Nat.le_of_ble_eq_true rfl) ew3 (pV.mk ?_))
  replace h := lt_e h; obtain ⟨x4, ex4, h⟩ := h
  refine r_inc (pc := 45) (loc' := [(3, .int x4), (0, .ref 48), (1, .ref 40)]) dX3_load_45 ki_1 ex4 2 rfl (Nat.le_of_ble_eq_true rfl) rfl ?_
  refine r_goto (pc := 48) dX3_load_48 rfl ?_
  refine r_drop (loc' := [(0, .ref 48), (1, .ref 40), (3, .int x4)]) [1, 2, 0] rfl ?_
  exact hk_21 x4 w3 h
def oX3_load_21 : Nat → Int32 → Wd → Option Wd
  | 0 => fun _ _ => none
  | n + 1 => fX3_load_21 (oX3_load_21 n)
theorem qX3_load_21 {q : Gq} {l : Launch} {N : Option Value → Wd → Prop} {X : String → Wd → Prop} {R : Wd} (hN : N none R) : ∀ (n : Nat) (a3 : Int32) (w : Wd), oX3_load_21 n a3 w = some R → RT (GA q) l 2 yX3_load cX3_load 4 (none) N X 21 [] [(0, .ref 48), (1, .ref 40), (3, .int a3)] w := by
  intro n
  induction n with
  | zero =>
    intro a3 w h
    exact absurd h (fun q => nomatch q)
  | succ n ih =>
    intro a3 w h
    exact pX3_load_21 hN ih h
def fX3_load (a2 : Int32) (w : Wd) : Option Wd :=
  lt (fJ9_min_7cf53 a2 4096) fun x1 => lt (si w 48 9 x1) fun w2 => lt (fX0_size w2) fun x3 => lt (si w2 48 8 x3) fun w4 => oX3_load_21 FU 0 w4
theorem pX3_load {q : Gq} {l : Launch} {N : Option Value → Wd → Prop} {X : String → Wd → Prop} {w : Wd} {R : Wd} (hN : N none R) {a2 : Int32} (h : fX3_load a2 w = some R) : RT (GA q) l 2 yX3_load cX3_load 4 (none) N X 0 [] [(0, .ref 48), (1, .ref 40), (2, .int a2)] w := by
  unfold fX3_load at h
  refine r_aload_n (pc := 0) dX3_load_0 rfl 0 rfl ?_
  refine r_iload_n (pc := 1) dX3_load_1 rfl 2 rfl ?_
  refine r_sipush (pc := 2) dX3_load_2 ks_4096 ?_
  replace h := lt_e h; obtain ⟨x1, ex1, h⟩ := h
  refine r_cSi (pc := 5) wyJ9_min_7cf53 mlRX3_43 tyJ9_min_7cf53 ⟨(Nat.le_of_ble_eq_true rfl), (Nat.le_of_ble_eq_true rfl)⟩ rfl rfl (Nat.le_of_ble_eq_true rfl) dX3_load_5 (mJ9_min_7cf53 ex1 (pI.mk ?_))
  replace h := lt_e h; obtain ⟨w2, ew2, h⟩ := h
  refine r_putI (pc := 8) (j := 9) oA48 cf3 flRX3_49 rfl rfl rfl rfl dX3_load_8 ?_
  refine r_w ew2 ?_
  refine r_aload_n (pc := 11) dX3_load_11 rfl 0 rfl ?_
  refine r_aload_n (pc := 12) dX3_load_12 rfl 1 rfl ?_
  replace h := lt_e h; obtain ⟨x3, ex3, h⟩ := h
  refine r_cVi (pc := 13) wyX0_size oA40 rfl mlRX3_53 iyX0_size syX0_size ⟨(Nat.le_of_ble_eq_true rfl), (Nat.le_of_ble_eq_true rfl)⟩ rfl rfl (Nat.le_of_ble_eq_true rfl) dX3_load_13 (mX0_size ex3 (pI.mk ?_))
  replace h := lt_e h; obtain ⟨w4, ew4, h⟩ := h
  refine r_putI (pc := 16) (j := 8) oA48 cf3 flRX3_57 rfl rfl rfl rfl dX3_load_16 ?_
  refine r_w ew4 ?_
  refine r_iconst (pc := 19) dX3_load_19 ki_0 ?_
  refine r_istore_n (pc := 20) (loc' := [(3, .int 0), (0, .ref 48), (1, .ref 40), (2, .int a2)]) dX3_load_20 rfl (Nat.le_of_ble_eq_true rfl) rfl ?_
  refine r_drop (loc' := [(0, .ref 48), (1, .ref 40), (3, .int 0)]) [1, 2, 0] rfl ?_
  exact qX3_load_21 hN FU 0 w4 h
theorem mX3_load {q : Gq} {l : Launch} {N : Option Value → Wd → Prop} {X : String → Wd → Prop} {a2 : Int32} {w : Wd} {u : Wd} (h : fX3_load a2 w = some u) (hN : N none u) : Ct (GA q) l 2 yX3_load cX3_load 4 (none) [.ref 48, .ref 40, .int a2] w N X := Ct.of (by decide) (Nat.le_of_ble_eq_true rfl) (pX3_load hN h)
/-! AlgolMill$Machine.tally (I)I: P, 1 -/
theorem dX3_tally_0 : decode cX3_tally 0 = .ok (.iload_n 1, 1) := by decide +kernel
theorem dX3_tally_1 : decode cX3_tally 1 = .ok (.iconst 3, 1) := by decide +kernel
theorem dX3_tally_2 : decode cX3_tally 2 = .ok (.if_icmp .lt 20, 3) := by decide +kernel
theorem dX3_tally_5 : decode cX3_tally 5 = .ok (.iload_n 1, 1) := by decide +kernel
theorem dX3_tally_6 : decode cX3_tally 6 = .ok (.bipush 7, 2) := by decide +kernel
theorem dX3_tally_8 : decode cX3_tally 8 = .ok (.if_icmp .gt 14, 3) := by decide +kernel
theorem dX3_tally_11 : decode cX3_tally 11 = .ok (.aload_n 0, 1) := by decide +kernel
theorem dX3_tally_12 : decode cX3_tally 12 = .ok (.getfield 40, 3) := by decide +kernel
theorem dX3_tally_15 : decode cX3_tally 15 = .ok (.iload_n 1, 1) := by decide +kernel
theorem dX3_tally_16 : decode cX3_tally 16 = .ok (.invokestatic 77, 3) := by decide +kernel
theorem dX3_tally_19 : decode cX3_tally 19 = .ok (.goto 4, 3) := by decide +kernel
theorem dX3_tally_22 : decode cX3_tally 22 = .ok (.iconst (-1), 1) := by decide +kernel
theorem dX3_tally_23 : decode cX3_tally 23 = .ok (.ireturn, 1) := by decide +kernel
def fX3_tally (a1 : Int32) (w : Wd) : Int32 :=
  if a1 < 3 then ((-1)) else (if 7 < a1 then ((-1)) else (lt (rgi w 56 8 a1) fun x3 => x3))
theorem pX3_tally {q : Gq} {l : Launch} {N : Option Value → Wd → Prop} {X : String → Wd → Prop} {w : Wd} {R : Int32} (hN : N (some (.int R)) w) {a1 : Int32} (h : fX3_tally a1 w = R) : RT (GA q) l 1 yX3_tally cX3_tally 2 ((some .int)) N X 0 [] [(0, .ref 48), (1, .int a1)] w := by
  unfold fX3_tally at h
  refine r_iload_n (pc := 0) dX3_tally_0 rfl 1 rfl ?_
  refine r_iconst (pc := 1) dX3_tally_1 ki_3 ?_
  refine r_icmp_lt (pc := 2) dX3_tally_2 rfl (fun hc1 => ?_) (fun hc1 => ?_)
  · replace h := if_t hc1 h
    refine r_iconst (pc := 22) dX3_tally_22 ki_m1 ?_
    exact rP_i (pc := 23) rfl dX3_tally_23 h hN
  replace h := if_f hc1 h
  refine r_iload_n (pc := 5) dX3_tally_5 rfl 1 rfl ?_
  refine r_bipush (pc := 6) dX3_tally_6 kb_7 ?_
  refine r_icmp_gt (pc := 8) dX3_tally_8 rfl (fun hc2 => ?_) (fun hc2 => ?_)
  · replace h := if_t hc2 h
    refine r_iconst (pc := 22) dX3_tally_22 ki_m1 ?_
    exact rP_i (pc := 23) rfl dX3_tally_23 h hN
  replace h := if_f hc2 h
  refine r_aload_n (pc := 11) dX3_tally_11 rfl 0 rfl ?_
  refine r_get (pc := 12) (j := 7) (v := .ref 56) oA48 cf3 flRX3_40 rfl dX3_tally_12 rfl ?_
  refine r_iload_n (pc := 15) dX3_tally_15 rfl 1 rfl ?_
  replace h := lt_e h; obtain ⟨x3, ex3, h⟩ := h
  refine r_cSi (pc := 16) wyX6_get mlRX3_77 tyX6_get ⟨(Nat.le_of_ble_eq_true rfl), (Nat.le_of_ble_eq_true rfl)⟩ rfl rfl (Nat.le_of_ble_eq_true rfl) dX3_tally_16 (mX6_get aA56 (Nat.le_of_ble_eq_true rfl) ex3 (pI.mk ?_))
  refine r_goto (pc := 19) dX3_tally_19 rfl ?_
  exact rP_i (pc := 23) rfl dX3_tally_23 h hN
theorem mX3_tally {q : Gq} {l : Launch} {N : Option Value → Wd → Prop} {X : String → Wd → Prop} {a1 : Int32} {w : Wd} {x : Int32} (h : fX3_tally a1 w = x) (hN : N (some (.int x)) w) : Ct (GA q) l 1 yX3_tally cX3_tally 2 ((some .int)) [.ref 48, .int a1] w N X := Ct.of (by decide) (Nat.le_of_ble_eq_true rfl) (pX3_tally hN h)
/-! AlgolMill$Machine.kept ()I: P, 2 -/
theorem dX3_kept_0 : decode cX3_kept 0 = .ok (.aload_n 0, 1) := by decide +kernel
theorem dX3_kept_1 : decode cX3_kept 1 = .ok (.iconst 3, 1) := by decide +kernel
theorem dX3_kept_2 : decode cX3_kept 2 = .ok (.invokevirtual 73, 3) := by decide +kernel
theorem dX3_kept_5 : decode cX3_kept 5 = .ok (.sipush 500, 3) := by decide +kernel
theorem dX3_kept_8 : decode cX3_kept 8 = .ok (.invokestatic 43, 3) := by decide +kernel
theorem dX3_kept_11 : decode cX3_kept 11 = .ok (.ireturn, 1) := by decide +kernel
def fX3_kept (w : Wd) : Int32 :=
  lt (fX3_tally 3 w) fun x1 => lt (fJ9_min_7cf53 x1 500) fun x2 => x2
theorem pX3_kept {q : Gq} {l : Launch} {N : Option Value → Wd → Prop} {X : String → Wd → Prop} {w : Wd} {R : Int32} (hN : N (some (.int R)) w) (h : fX3_kept w = R) : RT (GA q) l 2 yX3_kept cX3_kept 1 ((some .int)) N X 0 [] [(0, .ref 48)] w := by
  unfold fX3_kept at h
  refine r_aload_n (pc := 0) dX3_kept_0 rfl 0 rfl ?_
  refine r_iconst (pc := 1) dX3_kept_1 ki_3 ?_
  replace h := lt_e h; obtain ⟨x1, ex1, h⟩ := h
  refine r_cVi (pc := 2) wyX3_tally oA48 rfl mlRX3_73 iyX3_tally syX3_tally ⟨(Nat.le_of_ble_eq_true rfl), (Nat.le_of_ble_eq_true rfl)⟩ rfl rfl (Nat.le_of_ble_eq_true rfl) dX3_kept_2 (mX3_tally ex1 (pI.mk ?_))
  refine r_sipush (pc := 5) dX3_kept_5 ks_500 ?_
  replace h := lt_e h; obtain ⟨x2, ex2, h⟩ := h
  refine r_cSi (pc := 8) wyJ9_min_7cf53 mlRX3_43 tyJ9_min_7cf53 ⟨(Nat.le_of_ble_eq_true rfl), (Nat.le_of_ble_eq_true rfl)⟩ rfl rfl (Nat.le_of_ble_eq_true rfl) dX3_kept_8 (mJ9_min_7cf53 ex2 (pI.mk ?_))
  exact rP_i (pc := 11) rfl dX3_kept_11 h hN
theorem mX3_kept {q : Gq} {l : Launch} {N : Option Value → Wd → Prop} {X : String → Wd → Prop} {w : Wd} {x : Int32} (h : fX3_kept w = x) (hN : N (some (.int x)) w) : Ct (GA q) l 2 yX3_kept cX3_kept 1 ((some .int)) [.ref 48] w N X := Ct.of (by decide) (Nat.le_of_ble_eq_true rfl) (pX3_kept hN h)
/-! AlgolMill$Machine.printed (I)J: P, 1 -/
theorem dX3_printed_0 : decode cX3_printed 0 = .ok (.aload_n 0, 1) := by decide +kernel
theorem dX3_printed_1 : decode cX3_printed 1 = .ok (.getfield 37, 3) := by decide +kernel
theorem dX3_printed_4 : decode cX3_printed 4 = .ok (.iload_n 1, 1) := by decide +kernel
theorem dX3_printed_5 : decode cX3_printed 5 = .ok (.invokestatic 63, 3) := by decide +kernel
theorem dX3_printed_8 : decode cX3_printed 8 = .ok (.lreturn, 1) := by decide +kernel
def fX3_printed (a1 : Int32) (w : Wd) : Int64 :=
  lt (rgl w 55 500 a1) fun x1 => x1
theorem pX3_printed {q : Gq} {l : Launch} {N : Option Value → Wd → Prop} {X : String → Wd → Prop} {w : Wd} {R : Int64} (hN : N (some (.long R)) w) {a1 : Int32} (h : fX3_printed a1 w = R) : RT (GA q) l 1 yX3_printed cX3_printed 2 ((some .long)) N X 0 [] [(0, .ref 48), (1, .int a1)] w := by
  unfold fX3_printed at h
  refine r_aload_n (pc := 0) dX3_printed_0 rfl 0 rfl ?_
  refine r_get (pc := 1) (j := 6) (v := .ref 55) oA48 cf3 flRX3_37 rfl dX3_printed_1 rfl ?_
  refine r_iload_n (pc := 4) dX3_printed_4 rfl 1 rfl ?_
  replace h := lt_e h; obtain ⟨x1, ex1, h⟩ := h
  refine r_cSl (pc := 5) wyX6_get_ mlRX3_63 tyX6_get_ ⟨(Nat.le_of_ble_eq_true rfl), (Nat.le_of_ble_eq_true rfl)⟩ rfl rfl (Nat.le_of_ble_eq_true rfl) dX3_printed_5 (mX6_get_ aA55 (Nat.le_of_ble_eq_true rfl) ex1 (pL.mk ?_))
  exact rP_l (pc := 8) rfl dX3_printed_8 h hN
theorem mX3_printed {q : Gq} {l : Launch} {N : Option Value → Wd → Prop} {X : String → Wd → Prop} {a1 : Int32} {w : Wd} {x : Int64} (h : fX3_printed a1 w = x) (hN : N (some (.long x)) w) : Ct (GA q) l 1 yX3_printed cX3_printed 2 ((some .long)) [.ref 48, .int a1] w N X := Ct.of (by decide) (Nat.le_of_ble_eq_true rfl) (pX3_printed hN h)
/-! AlgolMill$Machine.countOne (I)V: S, 2 -/
theorem dX3_countOne_0 : decode cX3_countOne 0 = .ok (.aload_n 0, 1) := by decide +kernel
theorem dX3_countOne_1 : decode cX3_countOne 1 = .ok (.getfield 40, 3) := by decide +kernel
theorem dX3_countOne_4 : decode cX3_countOne 4 = .ok (.iload_n 1, 1) := by decide +kernel
theorem dX3_countOne_5 : decode cX3_countOne 5 = .ok (.aload_n 0, 1) := by decide +kernel
theorem dX3_countOne_6 : decode cX3_countOne 6 = .ok (.iload_n 1, 1) := by decide +kernel
theorem dX3_countOne_7 : decode cX3_countOne 7 = .ok (.invokevirtual 73, 3) := by decide +kernel
theorem dX3_countOne_10 : decode cX3_countOne 10 = .ok (.iconst 1, 1) := by decide +kernel
theorem dX3_countOne_11 : decode cX3_countOne 11 = .ok (.iadd, 1) := by decide +kernel
theorem dX3_countOne_12 : decode cX3_countOne 12 = .ok (.invokestatic 80, 3) := by decide +kernel
theorem dX3_countOne_15 : decode cX3_countOne 15 = .ok (.return_, 1) := by decide +kernel
def fX3_countOne (a1 : Int32) (w : Wd) : Wd :=
  lt (fX3_tally a1 w) fun x1 => lt (rsi w 56 8 a1 (x1 + 1)) fun w2 => w2
theorem pX3_countOne {q : Gq} {l : Launch} {N : Option Value → Wd → Prop} {X : String → Wd → Prop} {w : Wd} {R : Wd} (hN : N none R) {a1 : Int32} (h : fX3_countOne a1 w = R) : RT (GA q) l 2 yX3_countOne cX3_countOne 2 (none) N X 0 [] [(0, .ref 48), (1, .int a1)] w := by
  unfold fX3_countOne at h
  refine r_aload_n (pc := 0) dX3_countOne_0 rfl 0 rfl ?_
  refine r_get (pc := 1) (j := 7) (v := .ref 56) oA48 cf3 flRX3_40 rfl dX3_countOne_1 rfl ?_
  refine r_iload_n (pc := 4) dX3_countOne_4 rfl 1 rfl ?_
  refine r_aload_n (pc := 5) dX3_countOne_5 rfl 0 rfl ?_
  refine r_iload_n (pc := 6) dX3_countOne_6 rfl 1 rfl ?_
  replace h := lt_e h; obtain ⟨x1, ex1, h⟩ := h
  refine r_cVi (pc := 7) wyX3_tally oA48 rfl mlRX3_73 iyX3_tally syX3_tally ⟨(Nat.le_of_ble_eq_true rfl), (Nat.le_of_ble_eq_true rfl)⟩ rfl rfl (Nat.le_of_ble_eq_true rfl) dX3_countOne_7 (mX3_tally ex1 (pI.mk ?_))
  refine r_iconst (pc := 10) dX3_countOne_10 ki_1 ?_
  refine r_iadd (pc := 11) dX3_countOne_11 ?_
  replace h := lt_e h; obtain ⟨w2, ew2, h⟩ := h
  refine r_cSv (pc := 12) wyX6_set mlRX3_80 tyX6_set ⟨(Nat.le_of_ble_eq_true rfl), (Nat.le_of_ble_eq_true rfl)⟩ rfl rfl (Nat.le_of_ble_eq_true rfl) dX3_countOne_12 (mX6_set aA56 (Nat.le_of_ble_eq_true rfl) ew2 (pV.mk ?_))
  exact rS_v (pc := 15) rfl dX3_countOne_15 h hN
theorem mX3_countOne {q : Gq} {l : Launch} {N : Option Value → Wd → Prop} {X : String → Wd → Prop} {a1 : Int32} {w : Wd} {u : Wd} (h : fX3_countOne a1 w = u) (hN : N none u) : Ct (GA q) l 2 yX3_countOne cX3_countOne 2 (none) [.ref 48, .int a1] w N X := Ct.of (by decide) (Nat.le_of_ble_eq_true rfl) (pX3_countOne hN h)
/-! AlgolMill$Machine.countMost (II)V: S, 2 -/
theorem dX3_countMost_0 : decode cX3_countMost 0 = .ok (.aload_n 0, 1) := by decide +kernel
theorem dX3_countMost_1 : decode cX3_countMost 1 = .ok (.getfield 40, 3) := by decide +kernel
theorem dX3_countMost_4 : decode cX3_countMost 4 = .ok (.iload_n 1, 1) := by decide +kernel
theorem dX3_countMost_5 : decode cX3_countMost 5 = .ok (.aload_n 0, 1) := by decide +kernel
theorem dX3_countMost_6 : decode cX3_countMost 6 = .ok (.iload_n 1, 1) := by decide +kernel
theorem dX3_countMost_7 : decode cX3_countMost 7 = .ok (.invokevirtual 73, 3) := by decide +kernel
theorem dX3_countMost_10 : decode cX3_countMost 10 = .ok (.iload_n 2, 1) := by decide +kernel
theorem dX3_countMost_11 : decode cX3_countMost 11 = .ok (.invokestatic 83, 3) := by decide +kernel
theorem dX3_countMost_14 : decode cX3_countMost 14 = .ok (.invokestatic 80, 3) := by decide +kernel
theorem dX3_countMost_17 : decode cX3_countMost 17 = .ok (.return_, 1) := by decide +kernel
def fX3_countMost (a1 : Int32) (a2 : Int32) (w : Wd) : Wd :=
  lt (fX3_tally a1 w) fun x1 => lt (fJ9_max_7cf53 x1 a2) fun x2 => lt (rsi w 56 8 a1 x2) fun w3 => w3
theorem pX3_countMost {q : Gq} {l : Launch} {N : Option Value → Wd → Prop} {X : String → Wd → Prop} {w : Wd} {R : Wd} (hN : N none R) {a1 : Int32} {a2 : Int32} (h : fX3_countMost a1 a2 w = R) : RT (GA q) l 2 yX3_countMost cX3_countMost 3 (none) N X 0 [] [(0, .ref 48), (1, .int a1), (2, .int a2)] w := by
  unfold fX3_countMost at h
  refine r_aload_n (pc := 0) dX3_countMost_0 rfl 0 rfl ?_
  refine r_get (pc := 1) (j := 7) (v := .ref 56) oA48 cf3 flRX3_40 rfl dX3_countMost_1 rfl ?_
  refine r_iload_n (pc := 4) dX3_countMost_4 rfl 1 rfl ?_
  refine r_aload_n (pc := 5) dX3_countMost_5 rfl 0 rfl ?_
  refine r_iload_n (pc := 6) dX3_countMost_6 rfl 1 rfl ?_
  replace h := lt_e h; obtain ⟨x1, ex1, h⟩ := h
  refine r_cVi (pc := 7) wyX3_tally oA48 rfl mlRX3_73 iyX3_tally syX3_tally ⟨(Nat.le_of_ble_eq_true rfl), (Nat.le_of_ble_eq_true rfl)⟩ rfl rfl (Nat.le_of_ble_eq_true rfl) dX3_countMost_7 (mX3_tally ex1 (pI.mk ?_))
  refine r_iload_n (pc := 10) dX3_countMost_10 rfl 2 rfl ?_
  replace h := lt_e h; obtain ⟨x2, ex2, h⟩ := h
  refine r_cSi (pc := 11) wyJ9_max_7cf53 mlRX3_83 tyJ9_max_7cf53 ⟨(Nat.le_of_ble_eq_true rfl), (Nat.le_of_ble_eq_true rfl)⟩ rfl rfl (Nat.le_of_ble_eq_true rfl) dX3_countMost_11 (mJ9_max_7cf53 ex2 (pI.mk ?_))
  replace h := lt_e h; obtain ⟨w3, ew3, h⟩ := h
  refine r_cSv (pc := 14) wyX6_set mlRX3_80 tyX6_set ⟨(Nat.le_of_ble_eq_true rfl), (Nat.le_of_ble_eq_true rfl)⟩ rfl rfl (Nat.le_of_ble_eq_true rfl) dX3_countMost_14 (mX6_set aA56 (Nat.le_of_ble_eq_true rfl) ew3 (pV.mk ?_))
  exact rS_v (pc := 17) rfl dX3_countMost_17 h hN
theorem mX3_countMost {q : Gq} {l : Launch} {N : Option Value → Wd → Prop} {X : String → Wd → Prop} {a1 : Int32} {a2 : Int32} {w : Wd} {u : Wd} (h : fX3_countMost a1 a2 w = u) (hN : N none u) : Ct (GA q) l 2 yX3_countMost cX3_countMost 3 (none) [.ref 48, .int a1, .int a2] w N X := Ct.of (by decide) (Nat.le_of_ble_eq_true rfl) (pX3_countMost hN h)
/-! AlgolMill$Machine.oddity ()V: S, 3 -/
theorem dX3_oddity_0 : decode cX3_oddity 0 = .ok (.aload_n 0, 1) := by decide +kernel
theorem dX3_oddity_1 : decode cX3_oddity 1 = .ok (.bipush 7, 2) := by decide +kernel
theorem dX3_oddity_3 : decode cX3_oddity 3 = .ok (.invokevirtual 136, 3) := by decide +kernel
theorem dX3_oddity_6 : decode cX3_oddity 6 = .ok (.aload_n 0, 1) := by decide +kernel
theorem dX3_oddity_7 : decode cX3_oddity 7 = .ok (.iconst 0, 1) := by decide +kernel
theorem dX3_oddity_8 : decode cX3_oddity 8 = .ok (.putfield 96, 3) := by decide +kernel
theorem dX3_oddity_11 : decode cX3_oddity 11 = .ok (.return_, 1) := by decide +kernel
def fX3_oddity (w : Wd) : Wd :=
  lt (fX3_countOne 7 w) fun w1 => lt (si w1 48 10 0) fun w2 => w2
theorem pX3_oddity {q : Gq} {l : Launch} {N : Option Value → Wd → Prop} {X : String → Wd → Prop} {w : Wd} {R : Wd} (hN : N none R) (h : fX3_oddity w = R) : RT (GA q) l 3 yX3_oddity cX3_oddity 1 (none) N X 0 [] [(0, .ref 48)] w := by
  unfold fX3_oddity at h
  refine r_aload_n (pc := 0) dX3_oddity_0 rfl 0 rfl ?_
  refine r_bipush (pc := 1) dX3_oddity_1 kb_7 ?_
  replace h := lt_e h; obtain ⟨w1, ew1, h⟩ := h
  refine r_cVv (pc := 3) wyX3_countOne oA48 rfl mlRX3_136 iyX3_countOne syX3_countOne ⟨(Nat.le_of_ble_eq_true rfl), (Nat.le_of_ble_eq_true rfl)⟩ rfl rfl (Nat.le_of_ble_eq_true rfl) dX3_oddity_3 (mX3_countOne ew1 (pV.mk ?_))
  refine r_aload_n (pc := 6) dX3_oddity_6 rfl 0 rfl ?_
  refine r_iconst (pc := 7) dX3_oddity_7 ki_0 ?_
  replace h := lt_e h; obtain ⟨w2, ew2, h⟩ := h
  refine r_putI (pc := 8) (j := 10) oA48 cf3 flRX3_96 rfl rfl rfl rfl dX3_oddity_8 ?_
  refine r_w ew2 ?_
  exact rS_v (pc := 11) rfl dX3_oddity_11 h hN
theorem mX3_oddity {q : Gq} {l : Launch} {N : Option Value → Wd → Prop} {X : String → Wd → Prop} {w : Wd} {u : Wd} (h : fX3_oddity w = u) (hN : N none u) : Ct (GA q) l 3 yX3_oddity cX3_oddity 1 (none) [.ref 48] w N X := Ct.of (by decide) (Nat.le_of_ble_eq_true rfl) (pX3_oddity hN h)
/-! AlgolMill$Machine.wordAt (I)J: S, 4 -/
theorem dX3_wordAt_0 : decode cX3_wordAt 0 = .ok (.iload_n 1, 1) := by decide +kernel
theorem dX3_wordAt_1 : decode cX3_wordAt 1 = .ok (.ifCond .lt 11, 3) := by decide +kernel
theorem dX3_wordAt_4 : decode cX3_wordAt 4 = .ok (.iload_n 1, 1) := by decide +kernel
theorem dX3_wordAt_5 : decode cX3_wordAt 5 = .ok (.aload_n 0, 1) := by decide +kernel
theorem dX3_wordAt_6 : decode cX3_wordAt 6 = .ok (.getfield 57, 3) := by decide +kernel
theorem dX3_wordAt_9 : decode cX3_wordAt 9 = .ok (.if_icmp .lt 9, 3) := by decide +kernel
theorem dX3_wordAt_12 : decode cX3_wordAt 12 = .ok (.aload_n 0, 1) := by decide +kernel
theorem dX3_wordAt_13 : decode cX3_wordAt 13 = .ok (.invokevirtual 102, 3) := by decide +kernel
theorem dX3_wordAt_16 : decode cX3_wordAt 16 = .ok (.lconst 0, 1) := by decide +kernel
theorem dX3_wordAt_17 : decode cX3_wordAt 17 = .ok (.lreturn, 1) := by decide +kernel
theorem dX3_wordAt_18 : decode cX3_wordAt 18 = .ok (.aload_n 0, 1) := by decide +kernel
theorem dX3_wordAt_19 : decode cX3_wordAt 19 = .ok (.getfield 16, 3) := by decide +kernel
theorem dX3_wordAt_22 : decode cX3_wordAt 22 = .ok (.iload_n 1, 1) := by decide +kernel
theorem dX3_wordAt_23 : decode cX3_wordAt 23 = .ok (.invokestatic 63, 3) := by decide +kernel
theorem dX3_wordAt_26 : decode cX3_wordAt 26 = .ok (.lreturn, 1) := by decide +kernel
def fX3_wordAt (a1 : Int32) (w : Wd) : Int64 × Wd :=
  if a1 < 0 then (lt (fX3_oddity w) fun w2 => (0, w2)) else (if a1 < (gi w 48 8) then (lt (rgl w 49 36872 a1) fun x4 => (x4, w)) else (lt (fX3_oddity w) fun w5 => (0, w5)))
theorem pX3_wordAt {q : Gq} {l : Launch} {N : Option Value → Wd → Prop} {X : String → Wd → Prop} {w : Wd} {R : Int64 × Wd} (hN : N (some (.long R.1)) R.2) {a1 : Int32} (h : fX3_wordAt a1 w = R) : RT (GA q) l 4 yX3_wordAt cX3_wordAt 2 ((some .long)) N X 0 [] [(0, .ref 48), (1, .int a1)] w := by
  unfold fX3_wordAt at h
  refine r_iload_n (pc := 0) dX3_wordAt_0 rfl 1 rfl ?_
  refine r_if_lt (pc := 1) dX3_wordAt_1 rfl (fun hc1 => ?_) (fun hc1 => ?_)
  · replace h := if_t hc1 h
    refine r_aload_n (pc := 12) dX3_wordAt_12 rfl 0 rfl ?_
    replace h := lt_e h; obtain ⟨w2, ew2, h⟩ := h
    refine r_cVv (pc := 13) wyX3_oddity oA48 rfl mlRX3_102 iyX3_oddity syX3_oddity ⟨(Nat.le_of_ble_eq_true rfl), (Nat.le_of_ble_eq_true rfl)⟩ rfl rfl (Nat.le_of_ble_eq_true rfl) dX3_wordAt_13 (mX3_oddity ew2 (pV.mk ?_))
    refine r_lconst (pc := 16) dX3_wordAt_16 kl_0 ?_
    exact rS_l (pc := 17) rfl dX3_wordAt_17 h hN
  replace h := if_f hc1 h
  refine r_iload_n (pc := 4) dX3_wordAt_4 rfl 1 rfl ?_
  refine r_aload_n (pc := 5) dX3_wordAt_5 rfl 0 rfl ?_
  refine r_get (pc := 6) (j := 8) (v := .int (gi w 48 8)) oA48 cf3 flRX3_57 rfl dX3_wordAt_6 rfl ?_
  refine r_icmp_lt (pc := 9) dX3_wordAt_9 rfl (fun hc3 => ?_) (fun hc3 => ?_)
  · replace h := if_t hc3 h
    refine r_aload_n (pc := 18) dX3_wordAt_18 rfl 0 rfl ?_
    refine r_get (pc := 19) (j := 0) (v := .ref 49) oA48 cf3 flRX3_16 rfl dX3_wordAt_19 rfl ?_
    refine r_iload_n (pc := 22) dX3_wordAt_22 rfl 1 rfl ?_
    replace h := lt_e h; obtain ⟨x4, ex4, h⟩ := h
    refine r_cSl (pc := 23) wyX6_get_ mlRX3_63 tyX6_get_ ⟨(Nat.le_of_ble_eq_true rfl), (Nat.le_of_ble_eq_true rfl)⟩ rfl rfl (Nat.le_of_ble_eq_true rfl) dX3_wordAt_23 (mX6_get_ aA49 (Nat.le_of_ble_eq_true rfl) ex4 (pL.mk ?_))
    exact rS_l (pc := 26) rfl dX3_wordAt_26 h hN
  replace h := if_f hc3 h
  refine r_aload_n (pc := 12) dX3_wordAt_12 rfl 0 rfl ?_
  replace h := lt_e h; obtain ⟨w5, ew5, h⟩ := h
  refine r_cVv (pc := 13) wyX3_oddity oA48 rfl mlRX3_102 iyX3_oddity syX3_oddity ⟨(Nat.le_of_ble_eq_true rfl), (Nat.le_of_ble_eq_true rfl)⟩ rfl rfl (Nat.le_of_ble_eq_true rfl) dX3_wordAt_13 (mX3_oddity ew5 (pV.mk ?_))
  refine r_lconst (pc := 16) dX3_wordAt_16 kl_0 ?_
  exact rS_l (pc := 17) rfl dX3_wordAt_17 h hN
theorem mX3_wordAt {q : Gq} {l : Launch} {N : Option Value → Wd → Prop} {X : String → Wd → Prop} {a1 : Int32} {w : Wd} {x : Int64} {u : Wd} (h : fX3_wordAt a1 w = (x, u)) (hN : N (some (.long x)) u) : Ct (GA q) l 4 yX3_wordAt cX3_wordAt 2 ((some .long)) [.ref 48, .int a1] w N X := Ct.of (by decide) (Nat.le_of_ble_eq_true rfl) (pX3_wordAt hN h)
/-! AlgolMill$Machine.codeAt (I)I: S, 5 -/
theorem dX3_codeAt_0 : decode cX3_codeAt 0 = .ok (.aload_n 0, 1) := by decide +kernel
theorem dX3_codeAt_1 : decode cX3_codeAt 1 = .ok (.iload_n 1, 1) := by decide +kernel
theorem dX3_codeAt_2 : decode cX3_codeAt 2 = .ok (.invokevirtual 139, 3) := by decide +kernel
theorem dX3_codeAt_5 : decode cX3_codeAt 5 = .ok (.l2i, 1) := by decide +kernel
theorem dX3_codeAt_6 : decode cX3_codeAt 6 = .ok (.ireturn, 1) := by decide +kernel
def fX3_codeAt (a1 : Int32) (w : Wd) : Int32 × Wd :=
  lt2 (fX3_wordAt a1 w) fun x1 w2 => ((Int64.toInt32 x1), w2)
theorem pX3_codeAt {q : Gq} {l : Launch} {N : Option Value → Wd → Prop} {X : String → Wd → Prop} {w : Wd} {R : Int32 × Wd} (hN : N (some (.int R.1)) R.2) {a1 : Int32} (h : fX3_codeAt a1 w = R) : RT (GA q) l 5 yX3_codeAt cX3_codeAt 2 ((some .int)) N X 0 [] [(0, .ref 48), (1, .int a1)] w := by
  unfold fX3_codeAt at h
  refine r_aload_n (pc := 0) dX3_codeAt_0 rfl 0 rfl ?_
  refine r_iload_n (pc := 1) dX3_codeAt_1 rfl 1 rfl ?_
  replace h := lt2_e h; obtain ⟨x1, w2, ew2, h⟩ := h
  refine r_cVl (pc := 2) wyX3_wordAt oA48 rfl mlRX3_139 iyX3_wordAt syX3_wordAt ⟨(Nat.le_of_ble_eq_true rfl), (Nat.le_of_ble_eq_true rfl)⟩ rfl rfl (Nat.le_of_ble_eq_true rfl) dX3_codeAt_2 (mX3_wordAt ew2 (pL.mk ?_))
  refine r_l2i (pc := 5) dX3_codeAt_5 ?_
  exact rS_i (pc := 6) rfl dX3_codeAt_6 h hN
theorem mX3_codeAt {q : Gq} {l : Launch} {N : Option Value → Wd → Prop} {X : String → Wd → Prop} {a1 : Int32} {w : Wd} {x : Int32} {u : Wd} (h : fX3_codeAt a1 w = (x, u)) (hN : N (some (.int x)) u) : Ct (GA q) l 5 yX3_codeAt cX3_codeAt 2 ((some .int)) [.ref 48, .int a1] w N X := Ct.of (by decide) (Nat.le_of_ble_eq_true rfl) (pX3_codeAt hN h)
/-! AlgolMill$Machine.write (JJ)V: S, 4 -/
theorem dX3_write_0 : decode cX3_write 0 = .ok (.lload_n 1, 1) := by decide +kernel
theorem dX3_write_1 : decode cX3_write 1 = .ok (.lconst 0, 1) := by decide +kernel
theorem dX3_write_2 : decode cX3_write 2 = .ok (.lcmp, 1) := by decide +kernel
theorem dX3_write_3 : decode cX3_write 3 = .ok (.ifCond .lt 13, 3) := by decide +kernel
theorem dX3_write_6 : decode cX3_write 6 = .ok (.lload_n 1, 1) := by decide +kernel
theorem dX3_write_7 : decode cX3_write 7 = .ok (.aload_n 0, 1) := by decide +kernel
theorem dX3_write_8 : decode cX3_write 8 = .ok (.getfield 126, 3) := by decide +kernel
theorem dX3_write_11 : decode cX3_write 11 = .ok (.i2l, 1) := by decide +kernel
theorem dX3_write_12 : decode cX3_write 12 = .ok (.lcmp, 1) := by decide +kernel
theorem dX3_write_13 : decode cX3_write 13 = .ok (.ifCond .lt 8, 3) := by decide +kernel
theorem dX3_write_16 : decode cX3_write 16 = .ok (.aload_n 0, 1) := by decide +kernel
theorem dX3_write_17 : decode cX3_write 17 = .ok (.invokevirtual 102, 3) := by decide +kernel
theorem dX3_write_20 : decode cX3_write 20 = .ok (.return_, 1) := by decide +kernel
theorem dX3_write_21 : decode cX3_write 21 = .ok (.aload_n 0, 1) := by decide +kernel
theorem dX3_write_22 : decode cX3_write 22 = .ok (.getfield 21, 3) := by decide +kernel
theorem dX3_write_25 : decode cX3_write 25 = .ok (.lload_n 1, 1) := by decide +kernel
theorem dX3_write_26 : decode cX3_write 26 = .ok (.l2i, 1) := by decide +kernel
theorem dX3_write_27 : decode cX3_write 27 = .ok (.lload_n 3, 1) := by decide +kernel
theorem dX3_write_28 : decode cX3_write 28 = .ok (.invokestatic 69, 3) := by decide +kernel
theorem dX3_write_31 : decode cX3_write 31 = .ok (.return_, 1) := by decide +kernel
def fX3_write (a1 : Int64) (a3 : Int64) (w : Wd) : Wd :=
  if a1 < 0 then (lt (fX3_oddity w) fun w2 => w2) else (if a1 < (Int32.toInt64 (gi w 48 13)) then (lt (rsl w 50 109186 (Int64.toInt32 a1) a3) fun w4 => w4) else (lt (fX3_oddity w) fun w5 => w5))
theorem pX3_write {q : Gq} {l : Launch} {N : Option Value → Wd → Prop} {X : String → Wd → Prop} {w : Wd} {R : Wd} (hN : N none R) {a1 : Int64} {a3 : Int64} (h : fX3_write a1 a3 w = R) : RT (GA q) l 4 yX3_write cX3_write 5 (none) N X 0 [] [(0, .ref 48), (1, .long a1), (3, .long a3)] w := by
  unfold fX3_write at h
  refine r_lload_n (pc := 0) dX3_write_0 rfl 1 rfl ?_
  refine r_lconst (pc := 1) dX3_write_1 kl_0 ?_
  refine r_l_lt (pc := 2) dX3_write_2 dX3_write_3 rfl (fun hc1 => ?_) (fun hc1 => ?_)
  · replace h := if_t hc1 h
    refine r_aload_n (pc := 16) dX3_write_16 rfl 0 rfl ?_
    replace h := lt_e h; obtain ⟨w2, ew2, h⟩ := h
    refine r_cVv (pc := 17) wyX3_oddity oA48 rfl mlRX3_102 iyX3_oddity syX3_oddity ⟨(Nat.le_of_ble_eq_true rfl), (Nat.le_of_ble_eq_true rfl)⟩ rfl rfl (Nat.le_of_ble_eq_true rfl) dX3_write_17 (mX3_oddity ew2 (pV.mk ?_))
    exact rS_v (pc := 20) rfl dX3_write_20 h hN
  replace h := if_f hc1 h
  refine r_lload_n (pc := 6) dX3_write_6 rfl 1 rfl ?_
  refine r_aload_n (pc := 7) dX3_write_7 rfl 0 rfl ?_
  refine r_get (pc := 8) (j := 13) (v := .int (gi w 48 13)) oA48 cf3 flRX3_126 rfl dX3_write_8 rfl ?_
  refine r_i2l (pc := 11) dX3_write_11 ?_
  refine r_l_lt (pc := 12) dX3_write_12 dX3_write_13 rfl (fun hc3 => ?_) (fun hc3 => ?_)
  · replace h := if_t hc3 h
    refine r_aload_n (pc := 21) dX3_write_21 rfl 0 rfl ?_
    refine r_get (pc := 22) (j := 1) (v := .ref 50) oA48 cf3 flRX3_21 rfl dX3_write_22 rfl ?_
    refine r_lload_n (pc := 25) dX3_write_25 rfl 1 rfl ?_
    refine r_l2i (pc := 26) dX3_write_26 ?_
    refine r_lload_n (pc := 27) dX3_write_27 rfl 2 rfl ?_
    replace h := lt_e h; obtain ⟨w4, ew4, h⟩ := h
    refine r_cSv (pc := 28) wyX6_set_ mlRX3_69 tyX6_set_ ⟨(Nat.le_of_ble_eq_true rfl), (Nat.le_of_ble_eq_true rfl)⟩ rfl rfl (Nat.le_of_ble_eq_true rfl) dX3_write_28 (mX6_set_ aA50 (Nat.le_of_ble_eq_true rfl) ew4 (pV.mk ?_))
    exact rS_v (pc := 31) rfl dX3_write_31 h hN
  replace h := if_f hc3 h
  refine r_aload_n (pc := 16) dX3_write_16 rfl 0 rfl ?_
  replace h := lt_e h; obtain ⟨w5, ew5, h⟩ := h
  refine r_cVv (pc := 17) wyX3_oddity oA48 rfl mlRX3_102 iyX3_oddity syX3_oddity ⟨(Nat.le_of_ble_eq_true rfl), (Nat.le_of_ble_eq_true rfl)⟩ rfl rfl (Nat.le_of_ble_eq_true rfl) dX3_write_17 (mX3_oddity ew5 (pV.mk ?_))
  exact rS_v (pc := 20) rfl dX3_write_20 h hN
theorem mX3_write {q : Gq} {l : Launch} {N : Option Value → Wd → Prop} {X : String → Wd → Prop} {a1 : Int64} {a3 : Int64} {w : Wd} {u : Wd} (h : fX3_write a1 a3 w = u) (hN : N none u) : Ct (GA q) l 4 yX3_write cX3_write 5 (none) [.ref 48, .long a1, .long a3] w N X := Ct.of (by decide) (Nat.le_of_ble_eq_true rfl) (pX3_write hN h)
/-! AlgolMill$Machine.enterFrame (II)V: O, 6 -/
theorem dX3_enterFrame_0 : decode cX3_enterFrame 0 = .ok (.aload_n 0, 1) := by decide +kernel
theorem dX3_enterFrame_1 : decode cX3_enterFrame 1 = .ok (.iload_n 1, 1) := by decide +kernel
theorem dX3_enterFrame_2 : decode cX3_enterFrame 2 = .ok (.invokevirtual 129, 3) := by decide +kernel
theorem dX3_enterFrame_5 : decode cX3_enterFrame 5 = .ok (.istore_n 3, 1) := by decide +kernel
theorem dX3_enterFrame_6 : decode cX3_enterFrame 6 = .ok (.aload_n 0, 1) := by decide +kernel
theorem dX3_enterFrame_7 : decode cX3_enterFrame 7 = .ok (.iload_n 1, 1) := by decide +kernel
theorem dX3_enterFrame_8 : decode cX3_enterFrame 8 = .ok (.iconst 1, 1) := by decide +kernel
theorem dX3_enterFrame_9 : decode cX3_enterFrame 9 = .ok (.iadd, 1) := by decide +kernel
theorem dX3_enterFrame_10 : decode cX3_enterFrame 10 = .ok (.invokevirtual 129, 3) := by decide +kernel
theorem dX3_enterFrame_13 : decode cX3_enterFrame 13 = .ok (.istore 4, 2) := by decide +kernel
theorem dX3_enterFrame_15 : decode cX3_enterFrame 15 = .ok (.iload_n 3, 1) := by decide +kernel
theorem dX3_enterFrame_16 : decode cX3_enterFrame 16 = .ok (.ifCond .lt 28, 3) := by decide +kernel
theorem dX3_enterFrame_19 : decode cX3_enterFrame 19 = .ok (.iload_n 3, 1) := by decide +kernel
theorem dX3_enterFrame_20 : decode cX3_enterFrame 20 = .ok (.aload_n 0, 1) := by decide +kernel
theorem dX3_enterFrame_21 : decode cX3_enterFrame 21 = .ok (.getfield 117, 3) := by decide +kernel
theorem dX3_enterFrame_24 : decode cX3_enterFrame 24 = .ok (.if_icmp .gt 20, 3) := by decide +kernel
theorem dX3_enterFrame_27 : decode cX3_enterFrame 27 = .ok (.iload 4, 2) := by decide +kernel
theorem dX3_enterFrame_29 : decode cX3_enterFrame 29 = .ok (.ifCond .lt 15, 3) := by decide +kernel
theorem dX3_enterFrame_32 : decode cX3_enterFrame 32 = .ok (.iload 4, 2) := by decide +kernel
theorem dX3_enterFrame_34 : decode cX3_enterFrame 34 = .ok (.ldc 20, 2) := by decide +kernel
theorem dX3_enterFrame_36 : decode cX3_enterFrame 36 = .ok (.aload_n 0, 1) := by decide +kernel
theorem dX3_enterFrame_37 : decode cX3_enterFrame 37 = .ok (.getfield 126, 3) := by decide +kernel
theorem dX3_enterFrame_40 : decode cX3_enterFrame 40 = .ok (.isub, 1) := by decide +kernel
theorem dX3_enterFrame_41 : decode cX3_enterFrame 41 = .ok (.if_icmp .le 8, 3) := by decide +kernel
theorem dX3_enterFrame_44 : decode cX3_enterFrame 44 = .ok (.aload_n 0, 1) := by decide +kernel
theorem dX3_enterFrame_45 : decode cX3_enterFrame 45 = .ok (.invokevirtual 102, 3) := by decide +kernel
theorem dX3_enterFrame_48 : decode cX3_enterFrame 48 = .ok (.return_, 1) := by decide +kernel
theorem dX3_enterFrame_49 : decode cX3_enterFrame 49 = .ok (.aload_n 0, 1) := by decide +kernel
theorem dX3_enterFrame_50 : decode cX3_enterFrame 50 = .ok (.aload_n 0, 1) := by decide +kernel
theorem dX3_enterFrame_51 : decode cX3_enterFrame 51 = .ok (.getfield 126, 3) := by decide +kernel
theorem dX3_enterFrame_54 : decode cX3_enterFrame 54 = .ok (.putfield 143, 3) := by decide +kernel
theorem dX3_enterFrame_57 : decode cX3_enterFrame 57 = .ok (.aload_n 0, 1) := by decide +kernel
theorem dX3_enterFrame_58 : decode cX3_enterFrame 58 = .ok (.dup, 1) := by decide +kernel
theorem dX3_enterFrame_59 : decode cX3_enterFrame 59 = .ok (.getfield 126, 3) := by decide +kernel
theorem dX3_enterFrame_62 : decode cX3_enterFrame 62 = .ok (.iload 4, 2) := by decide +kernel
theorem dX3_enterFrame_64 : decode cX3_enterFrame 64 = .ok (.iadd, 1) := by decide +kernel
theorem dX3_enterFrame_65 : decode cX3_enterFrame 65 = .ok (.putfield 126, 3) := by decide +kernel
theorem dX3_enterFrame_68 : decode cX3_enterFrame 68 = .ok (.aload_n 0, 1) := by decide +kernel
theorem dX3_enterFrame_69 : decode cX3_enterFrame 69 = .ok (.dup, 1) := by decide +kernel
theorem dX3_enterFrame_70 : decode cX3_enterFrame 70 = .ok (.getfield 117, 3) := by decide +kernel
theorem dX3_enterFrame_73 : decode cX3_enterFrame 73 = .ok (.iload_n 3, 1) := by decide +kernel
theorem dX3_enterFrame_74 : decode cX3_enterFrame 74 = .ok (.isub, 1) := by decide +kernel
theorem dX3_enterFrame_75 : decode cX3_enterFrame 75 = .ok (.putfield 117, 3) := by decide +kernel
theorem dX3_enterFrame_78 : decode cX3_enterFrame 78 = .ok (.iconst 0, 1) := by decide +kernel
theorem dX3_enterFrame_79 : decode cX3_enterFrame 79 = .ok (.istore 5, 2) := by decide +kernel
theorem dX3_enterFrame_81 : decode cX3_enterFrame 81 = .ok (.iload 5, 2) := by decide +kernel
theorem dX3_enterFrame_83 : decode cX3_enterFrame 83 = .ok (.iload_n 3, 1) := by decide +kernel
theorem dX3_enterFrame_84 : decode cX3_enterFrame 84 = .ok (.if_icmp .ge 38, 3) := by decide +kernel
theorem dX3_enterFrame_87 : decode cX3_enterFrame 87 = .ok (.aload_n 0, 1) := by decide +kernel
theorem dX3_enterFrame_88 : decode cX3_enterFrame 88 = .ok (.aload_n 0, 1) := by decide +kernel
theorem dX3_enterFrame_89 : decode cX3_enterFrame 89 = .ok (.getfield 143, 3) := by decide +kernel
theorem dX3_enterFrame_92 : decode cX3_enterFrame 92 = .ok (.bipush 6, 2) := by decide +kernel
theorem dX3_enterFrame_94 : decode cX3_enterFrame 94 = .ok (.iadd, 1) := by decide +kernel
theorem dX3_enterFrame_95 : decode cX3_enterFrame 95 = .ok (.iload 5, 2) := by decide +kernel
theorem dX3_enterFrame_97 : decode cX3_enterFrame 97 = .ok (.iadd, 1) := by decide +kernel
theorem dX3_enterFrame_98 : decode cX3_enterFrame 98 = .ok (.i2l, 1) := by decide +kernel
theorem dX3_enterFrame_99 : decode cX3_enterFrame 99 = .ok (.aload_n 0, 1) := by decide +kernel
theorem dX3_enterFrame_100 : decode cX3_enterFrame 100 = .ok (.getfield 24, 3) := by decide +kernel
theorem dX3_enterFrame_103 : decode cX3_enterFrame 103 = .ok (.aload_n 0, 1) := by decide +kernel
theorem dX3_enterFrame_104 : decode cX3_enterFrame 104 = .ok (.getfield 117, 3) := by decide +kernel
theorem dX3_enterFrame_107 : decode cX3_enterFrame 107 = .ok (.iload 5, 2) := by decide +kernel
theorem dX3_enterFrame_109 : decode cX3_enterFrame 109 = .ok (.iadd, 1) := by decide +kernel
theorem dX3_enterFrame_110 : decode cX3_enterFrame 110 = .ok (.invokestatic 63, 3) := by decide +kernel
theorem dX3_enterFrame_113 : decode cX3_enterFrame 113 = .ok (.invokevirtual 217, 3) := by decide +kernel
theorem dX3_enterFrame_116 : decode cX3_enterFrame 116 = .ok (.iinc 5 1, 3) := by decide +kernel
theorem dX3_enterFrame_119 : decode cX3_enterFrame 119 = .ok (.goto (-38), 3) := by decide +kernel
theorem dX3_enterFrame_122 : decode cX3_enterFrame 122 = .ok (.aload_n 0, 1) := by decide +kernel
theorem dX3_enterFrame_123 : decode cX3_enterFrame 123 = .ok (.aload_n 0, 1) := by decide +kernel
theorem dX3_enterFrame_124 : decode cX3_enterFrame 124 = .ok (.getfield 143, 3) := by decide +kernel
theorem dX3_enterFrame_127 : decode cX3_enterFrame 127 = .ok (.iconst 0, 1) := by decide +kernel
theorem dX3_enterFrame_128 : decode cX3_enterFrame 128 = .ok (.iadd, 1) := by decide +kernel
theorem dX3_enterFrame_129 : decode cX3_enterFrame 129 = .ok (.i2l, 1) := by decide +kernel
theorem dX3_enterFrame_130 : decode cX3_enterFrame 130 = .ok (.iload_n 2, 1) := by decide +kernel
theorem dX3_enterFrame_131 : decode cX3_enterFrame 131 = .ok (.i2l, 1) := by decide +kernel
theorem dX3_enterFrame_132 : decode cX3_enterFrame 132 = .ok (.invokevirtual 217, 3) := by decide +kernel
theorem dX3_enterFrame_135 : decode cX3_enterFrame 135 = .ok (.aload_n 0, 1) := by decide +kernel
theorem dX3_enterFrame_136 : decode cX3_enterFrame 136 = .ok (.aload_n 0, 1) := by decide +kernel
theorem dX3_enterFrame_137 : decode cX3_enterFrame 137 = .ok (.getfield 143, 3) := by decide +kernel
theorem dX3_enterFrame_140 : decode cX3_enterFrame 140 = .ok (.iconst 1, 1) := by decide +kernel
theorem dX3_enterFrame_141 : decode cX3_enterFrame 141 = .ok (.iadd, 1) := by decide +kernel
theorem dX3_enterFrame_142 : decode cX3_enterFrame 142 = .ok (.i2l, 1) := by decide +kernel
theorem dX3_enterFrame_143 : decode cX3_enterFrame 143 = .ok (.aload_n 0, 1) := by decide +kernel
theorem dX3_enterFrame_144 : decode cX3_enterFrame 144 = .ok (.getfield 114, 3) := by decide +kernel
theorem dX3_enterFrame_147 : decode cX3_enterFrame 147 = .ok (.i2l, 1) := by decide +kernel
theorem dX3_enterFrame_148 : decode cX3_enterFrame 148 = .ok (.invokevirtual 217, 3) := by decide +kernel
theorem dX3_enterFrame_151 : decode cX3_enterFrame 151 = .ok (.aload_n 0, 1) := by decide +kernel
theorem dX3_enterFrame_152 : decode cX3_enterFrame 152 = .ok (.aload_n 0, 1) := by decide +kernel
theorem dX3_enterFrame_153 : decode cX3_enterFrame 153 = .ok (.getfield 143, 3) := by decide +kernel
theorem dX3_enterFrame_156 : decode cX3_enterFrame 156 = .ok (.iconst 2, 1) := by decide +kernel
theorem dX3_enterFrame_157 : decode cX3_enterFrame 157 = .ok (.iadd, 1) := by decide +kernel
theorem dX3_enterFrame_158 : decode cX3_enterFrame 158 = .ok (.i2l, 1) := by decide +kernel
theorem dX3_enterFrame_159 : decode cX3_enterFrame 159 = .ok (.aload_n 0, 1) := by decide +kernel
theorem dX3_enterFrame_160 : decode cX3_enterFrame 160 = .ok (.getfield 120, 3) := by decide +kernel
theorem dX3_enterFrame_163 : decode cX3_enterFrame 163 = .ok (.i2l, 1) := by decide +kernel
theorem dX3_enterFrame_164 : decode cX3_enterFrame 164 = .ok (.invokevirtual 217, 3) := by decide +kernel
theorem dX3_enterFrame_167 : decode cX3_enterFrame 167 = .ok (.aload_n 0, 1) := by decide +kernel
theorem dX3_enterFrame_168 : decode cX3_enterFrame 168 = .ok (.aload_n 0, 1) := by decide +kernel
theorem dX3_enterFrame_169 : decode cX3_enterFrame 169 = .ok (.getfield 143, 3) := by decide +kernel
theorem dX3_enterFrame_172 : decode cX3_enterFrame 172 = .ok (.iconst 3, 1) := by decide +kernel
theorem dX3_enterFrame_173 : decode cX3_enterFrame 173 = .ok (.iadd, 1) := by decide +kernel
theorem dX3_enterFrame_174 : decode cX3_enterFrame 174 = .ok (.i2l, 1) := by decide +kernel
theorem dX3_enterFrame_175 : decode cX3_enterFrame 175 = .ok (.aload_n 0, 1) := by decide +kernel
theorem dX3_enterFrame_176 : decode cX3_enterFrame 176 = .ok (.getfield 117, 3) := by decide +kernel
theorem dX3_enterFrame_179 : decode cX3_enterFrame 179 = .ok (.i2l, 1) := by decide +kernel
theorem dX3_enterFrame_180 : decode cX3_enterFrame 180 = .ok (.invokevirtual 217, 3) := by decide +kernel
theorem dX3_enterFrame_183 : decode cX3_enterFrame 183 = .ok (.aload_n 0, 1) := by decide +kernel
theorem dX3_enterFrame_184 : decode cX3_enterFrame 184 = .ok (.aload_n 0, 1) := by decide +kernel
theorem dX3_enterFrame_185 : decode cX3_enterFrame 185 = .ok (.getfield 143, 3) := by decide +kernel
theorem dX3_enterFrame_188 : decode cX3_enterFrame 188 = .ok (.iconst 4, 1) := by decide +kernel
theorem dX3_enterFrame_189 : decode cX3_enterFrame 189 = .ok (.iadd, 1) := by decide +kernel
theorem dX3_enterFrame_190 : decode cX3_enterFrame 190 = .ok (.i2l, 1) := by decide +kernel
theorem dX3_enterFrame_191 : decode cX3_enterFrame 191 = .ok (.aload_n 0, 1) := by decide +kernel
theorem dX3_enterFrame_192 : decode cX3_enterFrame 192 = .ok (.getfield 126, 3) := by decide +kernel
theorem dX3_enterFrame_195 : decode cX3_enterFrame 195 = .ok (.i2l, 1) := by decide +kernel
theorem dX3_enterFrame_196 : decode cX3_enterFrame 196 = .ok (.invokevirtual 217, 3) := by decide +kernel
theorem dX3_enterFrame_199 : decode cX3_enterFrame 199 = .ok (.aload_n 0, 1) := by decide +kernel
theorem dX3_enterFrame_200 : decode cX3_enterFrame 200 = .ok (.aload_n 0, 1) := by decide +kernel
theorem dX3_enterFrame_201 : decode cX3_enterFrame 201 = .ok (.getfield 143, 3) := by decide +kernel
theorem dX3_enterFrame_204 : decode cX3_enterFrame 204 = .ok (.iconst 5, 1) := by decide +kernel
theorem dX3_enterFrame_205 : decode cX3_enterFrame 205 = .ok (.iadd, 1) := by decide +kernel
theorem dX3_enterFrame_206 : decode cX3_enterFrame 206 = .ok (.i2l, 1) := by decide +kernel
theorem dX3_enterFrame_207 : decode cX3_enterFrame 207 = .ok (.lconst 0, 1) := by decide +kernel
theorem dX3_enterFrame_208 : decode cX3_enterFrame 208 = .ok (.invokevirtual 217, 3) := by decide +kernel
theorem dX3_enterFrame_211 : decode cX3_enterFrame 211 = .ok (.aload_n 0, 1) := by decide +kernel
theorem dX3_enterFrame_212 : decode cX3_enterFrame 212 = .ok (.iload_n 1, 1) := by decide +kernel
theorem dX3_enterFrame_213 : decode cX3_enterFrame 213 = .ok (.iconst 2, 1) := by decide +kernel
theorem dX3_enterFrame_214 : decode cX3_enterFrame 214 = .ok (.iadd, 1) := by decide +kernel
theorem dX3_enterFrame_215 : decode cX3_enterFrame 215 = .ok (.putfield 150, 3) := by decide +kernel
theorem dX3_enterFrame_218 : decode cX3_enterFrame 218 = .ok (.return_, 1) := by decide +kernel
def fX3_enterFrame_81 (k_81 : Int32 → Int32 → Int32 → Int32 → Wd → Option Wd) (a1 : Int32) (a2 : Int32) (a3 : Int32) (a5 : Int32) (w : Wd) : Option Wd :=
  if a3 ≤ a5 then (lt (fX3_write (Int32.toInt64 ((gi w 48 12) + 0)) (Int32.toInt64 a2) w) fun w2 => lt (fX3_write (Int32.toInt64 ((gi w2 48 12) + 1)) (Int32.toInt64 (gi w2 48 15)) w2) fun w3 => lt (fX3_write (Int32.toInt64 ((gi w3 48 12) + 2)) (Int32.toInt64 (gi w3 48 16)) w3) fun w4 => lt (fX3_write (Int32.toInt64 ((gi w4 48 12) + 3)) (Int32.toInt64 (gi w4 48 14)) w4) fun w5 => lt (fX3_write (Int32.toInt64 ((gi w5 48 12) + 4)) (Int32.toInt64 (gi w5 48 13)) w5) fun w6 => lt (fX3_write (Int32.toInt64 ((gi w6 48 12) + 5)) 0 w6) fun w7 => lt (si w7 48 11 (a1 + 2)) fun w8 => some w8) else (lt (rgl w 51 30622 ((gi w 48 14) + a5)) fun x9 => lt (fX3_write (Int32.toInt64 (((gi w 48 12) + 6) + a5)) x9 w) fun w10 => lt (a5 + 1) fun x11 => k_81 a1 a2 a3 x11 w10)
set_option maxHeartbeats 16000000 in
theorem pX3_enterFrame_81 {q : Gq} {l : Launch} {N : Option Value → Wd → Prop} {X : String → Wd → Prop} {w : Wd} {R : Wd} (hN : N none R) {k_81 : Int32 → Int32 → Int32 → Int32 → Wd → Option Wd} (hk_81 : ∀ (a1 : Int32) (a2 : Int32) (a3 : Int32) (a5 : Int32) (w : Wd), k_81 a1 a2 a3 a5 w = some R → RT (GA q) l 6 yX3_enterFrame cX3_enterFrame 6 (none) N X 81 [] [(0, .ref 48), (1, .int a1), (2, .int a2), (3, .int a3), (5, .int a5)] w) {a1 : Int32} {a2 : Int32} {a3 : Int32} {a5 : Int32} (h : fX3_enterFrame_81 k_81 a1 a2 a3 a5 w = some R) : RT (GA q) l 6 yX3_enterFrame cX3_enterFrame 6 (none) N X 81 [] [(0, .ref 48), (1, .int a1), (2, .int a2), (3, .int a3), (5, .int a5)] w := by
  unfold fX3_enterFrame_81 at h
  refine r_iload (pc := 81) dX3_enterFrame_81 4 rfl ?_
  refine r_iload_n (pc := 83) dX3_enterFrame_83 rfl 3 rfl ?_
  refine r_icmp_ge (pc := 84) dX3_enterFrame_84 rfl (fun hc1 => ?_) (fun hc1 => ?_)
  · replace h := if_t hc1 h
    refine r_aload_n (pc := 122) dX3_enterFrame_122 rfl 0 rfl ?_
    refine r_aload_n (pc := 123) dX3_enterFrame_123 rfl 0 rfl ?_
    refine r_get (pc := 124) (j := 12) (v := .int (gi w 48 12)) oA48 cf3 flRX3_143 rfl dX3_enterFrame_124 rfl ?_
    refine r_iconst (pc := 127) dX3_enterFrame_127 ki_0 ?_
    refine r_iadd (pc := 128) dX3_enterFrame_128 ?_
    refine r_i2l (pc := 129) dX3_enterFrame_129 ?_
    refine r_iload_n (pc := 130) dX3_enterFrame_130 rfl 2 rfl ?_
    refine r_i2l (pc := 131) dX3_enterFrame_131 ?_
    replace h := lt_e h; obtain ⟨w2, ew2, h⟩ := h
    refine r_cVv (pc := 132) wyX3_write oA48 rfl mlRX3_217 iyX3_write syX3_write ⟨(Nat.le_of_ble_eq_true rfl), (Nat.le_of_ble_eq_true rfl)⟩ rfl rfl (Nat.le_of_ble_eq_true rfl) dX3_enterFrame_132 (mX3_write ew2 (pV.mk ?_))
    refine r_aload_n (pc := 135) dX3_enterFrame_135 rfl 0 rfl ?_
    refine r_aload_n (pc := 136) dX3_enterFrame_136 rfl 0 rfl ?_
    refine r_get (pc := 137) (j := 12) (v := .int (gi w2 48 12)) oA48 cf3 flRX3_143 rfl dX3_enterFrame_137 rfl ?_
    refine r_iconst (pc := 140) dX3_enterFrame_140 ki_1 ?_
    refine r_iadd (pc := 141) dX3_enterFrame_141 ?_
    refine r_i2l (pc := 142) dX3_enterFrame_142 ?_
    refine r_aload_n (pc := 143) dX3_enterFrame_143 rfl 0 rfl ?_
    refine r_get (pc := 144) (j := 15) (v := .int (gi w2 48 15)) oA48 cf3 flRX3_114 rfl dX3_enterFrame_144 rfl ?_
    refine r_i2l (pc := 147) dX3_enterFrame_147 ?_
    replace h := lt_e h; obtain ⟨w3, ew3, h⟩ := h
    refine r_cVv (pc := 148) wyX3_write oA48 rfl mlRX3_217 iyX3_write syX3_write ⟨(Nat.le_of_ble_eq_true rfl), (Nat.le_of_ble_eq_true rfl)⟩ rfl rfl (Nat.le_of_ble_eq_true rfl) dX3_enterFrame_148 (mX3_write ew3 (pV.mk ?_))
    refine r_aload_n (pc := 151) dX3_enterFrame_151 rfl 0 rfl ?_
    refine r_aload_n (pc := 152) dX3_enterFrame_152 rfl 0 rfl ?_
    refine r_get (pc := 153) (j := 12) (v := .int (gi w3 48 12)) oA48 cf3 flRX3_143 rfl dX3_enterFrame_153 rfl ?_
    refine r_iconst (pc := 156) dX3_enterFrame_156 ki_2 ?_
    refine r_iadd (pc := 157) dX3_enterFrame_157 ?_
    refine r_i2l (pc := 158) dX3_enterFrame_158 ?_
    refine r_aload_n (pc := 159) dX3_enterFrame_159 rfl 0 rfl ?_
    refine r_get (pc := 160) (j := 16) (v := .int (gi w3 48 16)) oA48 cf3 flRX3_120 rfl dX3_enterFrame_160 rfl ?_
    refine r_i2l (pc := 163) dX3_enterFrame_163 ?_
    replace h := lt_e h; obtain ⟨w4, ew4, h⟩ := h
    refine r_cVv (pc := 164) wyX3_write oA48 rfl mlRX3_217 iyX3_write syX3_write ⟨(Nat.le_of_ble_eq_true rfl), (Nat.le_of_ble_eq_true rfl)⟩ rfl rfl (Nat.le_of_ble_eq_true rfl) dX3_enterFrame_164 (mX3_write ew4 (pV.mk ?_))
    refine r_aload_n (pc := 167) dX3_enterFrame_167 rfl 0 rfl ?_
    refine r_aload_n (pc := 168) dX3_enterFrame_168 rfl 0 rfl ?_
    refine r_get (pc := 169) (j := 12) (v := .int (gi w4 48 12)) oA48 cf3 flRX3_143 rfl dX3_enterFrame_169 rfl ?_
    refine r_iconst (pc := 172) dX3_enterFrame_172 ki_3 ?_
    refine r_iadd (pc := 173) dX3_enterFrame_173 ?_
    refine r_i2l (pc := 174) dX3_enterFrame_174 ?_
    refine r_aload_n (pc := 175) dX3_enterFrame_175 rfl 0 rfl ?_
    refine r_get (pc := 176) (j := 14) (v := .int (gi w4 48 14)) oA48 cf3 flRX3_117 rfl dX3_enterFrame_176 rfl ?_
    refine r_i2l (pc := 179) dX3_enterFrame_179 ?_
    replace h := lt_e h; obtain ⟨w5, ew5, h⟩ := h
    refine r_cVv (pc := 180) wyX3_write oA48 rfl mlRX3_217 iyX3_write syX3_write ⟨(Nat.le_of_ble_eq_true rfl), (Nat.le_of_ble_eq_true rfl)⟩ rfl rfl (Nat.le_of_ble_eq_true rfl) dX3_enterFrame_180 (mX3_write ew5 (pV.mk ?_))
    refine r_aload_n (pc := 183) dX3_enterFrame_183 rfl 0 rfl ?_
    refine r_aload_n (pc := 184) dX3_enterFrame_184 rfl 0 rfl ?_
    refine r_get (pc := 185) (j := 12) (v := .int (gi w5 48 12)) oA48 cf3 flRX3_143 rfl dX3_enterFrame_185 rfl ?_
    refine r_iconst (pc := 188) dX3_enterFrame_188 ki_4 ?_
    refine r_iadd (pc := 189) dX3_enterFrame_189 ?_
    refine r_i2l (pc := 190) dX3_enterFrame_190 ?_
    refine r_aload_n (pc := 191) dX3_enterFrame_191 rfl 0 rfl ?_
    refine r_get (pc := 192) (j := 13) (v := .int (gi w5 48 13)) oA48 cf3 flRX3_126 rfl dX3_enterFrame_192 rfl ?_
    refine r_i2l (pc := 195) dX3_enterFrame_195 ?_
    replace h := lt_e h; obtain ⟨w6, ew6, h⟩ := h
    refine r_cVv (pc := 196) wyX3_write oA48 rfl mlRX3_217 iyX3_write syX3_write ⟨(Nat.le_of_ble_eq_true rfl), (Nat.le_of_ble_eq_true rfl)⟩ rfl rfl (Nat.le_of_ble_eq_true rfl) dX3_enterFrame_196 (mX3_write ew6 (pV.mk ?_))
    refine r_aload_n (pc := 199) dX3_enterFrame_199 rfl 0 rfl ?_
    refine r_aload_n (pc := 200) dX3_enterFrame_200 rfl 0 rfl ?_
    refine r_get (pc := 201) (j := 12) (v := .int (gi w6 48 12)) oA48 cf3 flRX3_143 rfl dX3_enterFrame_201 rfl ?_
    refine r_iconst (pc := 204) dX3_enterFrame_204 ki_5 ?_
    refine r_iadd (pc := 205) dX3_enterFrame_205 ?_
    refine r_i2l (pc := 206) dX3_enterFrame_206 ?_
    refine r_lconst (pc := 207) dX3_enterFrame_207 kl_0 ?_
    replace h := lt_e h; obtain ⟨w7, ew7, h⟩ := h
    refine r_cVv (pc := 208) wyX3_write oA48 rfl mlRX3_217 iyX3_write syX3_write ⟨(Nat.le_of_ble_eq_true rfl), (Nat.le_of_ble_eq_true rfl)⟩ rfl rfl (Nat.le_of_ble_eq_true rfl) dX3_enterFrame_208 (mX3_write ew7 (pV.mk ?_))
    refine r_aload_n (pc := 211) dX3_enterFrame_211 rfl 0 rfl ?_
    refine r_iload_n (pc := 212) dX3_enterFrame_212 rfl 1 rfl ?_
    refine r_iconst (pc := 213) dX3_enterFrame_213 ki_2 ?_
    refine r_iadd (pc := 214) dX3_enterFrame_214 ?_
    replace h := lt_e h; obtain ⟨w8, ew8, h⟩ := h
    refine r_putI (pc := 215) (j := 11) oA48 cf3 flRX3_150 rfl rfl rfl rfl dX3_enterFrame_215 ?_
    refine r_w ew8 ?_
    exact rO_v (pc := 218) rfl dX3_enterFrame_218 h hN
  replace h := if_f hc1 h
  refine r_aload_n (pc := 87) dX3_enterFrame_87 rfl 0 rfl ?_
  refine r_aload_n (pc := 88) dX3_enterFrame_88 rfl 0 rfl ?_
  refine r_get (pc := 89) (j := 12) (v := .int (gi w 48 12)) oA48 cf3 flRX3_143 rfl dX3_enterFrame_89 rfl ?_
  refine r_bipush (pc := 92) dX3_enterFrame_92 kb_6 ?_
  refine r_iadd (pc := 94) dX3_enterFrame_94 ?_
  refine r_iload (pc := 95) dX3_enterFrame_95 4 rfl ?_
  refine r_iadd (pc := 97) dX3_enterFrame_97 ?_
  refine r_i2l (pc := 98) dX3_enterFrame_98 ?_
  refine r_aload_n (pc := 99) dX3_enterFrame_99 rfl 0 rfl ?_
  refine r_get (pc := 100) (j := 2) (v := .ref 51) oA48 cf3 flRX3_24 rfl dX3_enterFrame_100 rfl ?_
  refine r_aload_n (pc := 103) dX3_enterFrame_103 rfl 0 rfl ?_
  refine r_get (pc := 104) (j := 14) (v := .int (gi w 48 14)) oA48 cf3 flRX3_117 rfl dX3_enterFrame_104 rfl ?_
  refine r_iload (pc := 107) dX3_enterFrame_107 4 rfl ?_
  refine r_iadd (pc := 109) dX3_enterFrame_109 ?_
  replace h := lt_e h; obtain ⟨x9, ex9, h⟩ := h
  refine r_cSl (pc := 110) wyX6_get_ mlRX3_63 tyX6_get_ ⟨(Nat.le_of_ble_eq_true rfl), (Nat.le_of_ble_eq_true rfl)⟩ rfl rfl (Nat.le_of_ble_eq_true rfl) dX3_enterFrame_110 (mX6_get_ aA51 (Nat.le_of_ble_eq_true rfl) ex9 (pL.mk ?_))
  replace h := lt_e h; obtain ⟨w10, ew10, h⟩ := h
  refine r_cVv (pc := 113) wyX3_write oA48 rfl mlRX3_217 iyX3_write syX3_write ⟨(Nat.le_of_ble_eq_true rfl), (Nat.le_of_ble_eq_true rfl)⟩ rfl rfl (Nat.le_of_ble_eq_true rfl) dX3_enterFrame_113 (mX3_write ew10 (pV.mk ?_))
  replace h := lt_e h; obtain ⟨x11, ex11, h⟩ := h
  refine r_inc (pc := 116) (loc' := [(5, .int x11), (0, .ref 48), (1, .int a1), (2, .int a2), (3, .int a3)]) dX3_enterFrame_116 ki_1 ex11 4 rfl (Nat.le_of_ble_eq_true rfl) rfl ?_
  refine r_goto (pc := 119) dX3_enterFrame_119 rfl ?_
  refine r_drop (loc' := [(0, .ref 48), (1, .int a1), (2, .int a2), (3, .int a3), (5, .int x11)]) [1, 2, 3, 4, 0] rfl ?_
  exact hk_81 a1 a2 a3 x11 w10 h
def oX3_enterFrame_81 : Nat → Int32 → Int32 → Int32 → Int32 → Wd → Option Wd
  | 0 => fun _ _ _ _ _ => none
  | n + 1 => fX3_enterFrame_81 (oX3_enterFrame_81 n)
theorem qX3_enterFrame_81 {q : Gq} {l : Launch} {N : Option Value → Wd → Prop} {X : String → Wd → Prop} {R : Wd} (hN : N none R) : ∀ (n : Nat) (a1 : Int32) (a2 : Int32) (a3 : Int32) (a5 : Int32) (w : Wd), oX3_enterFrame_81 n a1 a2 a3 a5 w = some R → RT (GA q) l 6 yX3_enterFrame cX3_enterFrame 6 (none) N X 81 [] [(0, .ref 48), (1, .int a1), (2, .int a2), (3, .int a3), (5, .int a5)] w := by
  intro n
  induction n with
  | zero =>
    intro a1 a2 a3 a5 w h
    exact absurd h (fun q => nomatch q)
  | succ n ih =>
    intro a1 a2 a3 a5 w h
    exact pX3_enterFrame_81 hN ih h
def fX3_enterFrame (a1 : Int32) (a2 : Int32) (w : Wd) : Option Wd :=
  lt2 (fX3_codeAt a1 w) fun x1 w2 => lt2 (fX3_codeAt (a1 + 1) w2) fun x3 w4 => if x1 < 0 then (lt (fX3_oddity w4) fun w6 => some w6) else (if (gi w4 48 14) < x1 then (lt (fX3_oddity w4) fun w8 => some w8) else (if x3 < 0 then (lt (fX3_oddity w4) fun w10 => some w10) else (if x3 ≤ (109186 - (gi w4 48 13)) then (lt (si w4 48 12 (gi w4 48 13)) fun w12 => lt (si w12 48 13 ((gi w12 48 13) + x3)) fun w13 => lt (si w13 48 14 ((gi w13 48 14) - x1)) fun w14 => oX3_enterFrame_81 FU a1 a2 x1 0 w14) else (lt (fX3_oddity w4) fun w15 => some w15))))
theorem pX3_enterFrame {q : Gq} {l : Launch} {N : Option Value → Wd → Prop} {X : String → Wd → Prop} {w : Wd} {R : Wd} (hN : N none R) {a1 : Int32} {a2 : Int32} (h : fX3_enterFrame a1 a2 w = some R) : RT (GA q) l 6 yX3_enterFrame cX3_enterFrame 6 (none) N X 0 [] [(0, .ref 48), (1, .int a1), (2, .int a2)] w := by
  unfold fX3_enterFrame at h
  refine r_aload_n (pc := 0) dX3_enterFrame_0 rfl 0 rfl ?_
  refine r_iload_n (pc := 1) dX3_enterFrame_1 rfl 1 rfl ?_
  replace h := lt2_e h; obtain ⟨x1, w2, ew2, h⟩ := h
  refine r_cVi (pc := 2) wyX3_codeAt oA48 rfl mlRX3_129 iyX3_codeAt syX3_codeAt ⟨(Nat.le_of_ble_eq_true rfl), (Nat.le_of_ble_eq_true rfl)⟩ rfl rfl (Nat.le_of_ble_eq_true rfl) dX3_enterFrame_2 (mX3_codeAt ew2 (pI.mk ?_))
  refine r_istore_n (pc := 5) (loc' := [(3, .int x1), (0, .ref 48), (1, .int a1), (2, .int a2)]) dX3_enterFrame_5 rfl (Nat.le_of_ble_eq_true rfl) rfl ?_
  refine r_aload_n (pc := 6) dX3_enterFrame_6 rfl 1 rfl ?_
  refine r_iload_n (pc := 7) dX3_enterFrame_7 rfl 2 rfl ?_
  refine r_iconst (pc := 8) dX3_enterFrame_8 ki_1 ?_
  refine r_iadd (pc := 9) dX3_enterFrame_9 ?_
  replace h := lt2_e h; obtain ⟨x3, w4, ew4, h⟩ := h
  refine r_cVi (pc := 10) wyX3_codeAt oA48 rfl mlRX3_129 iyX3_codeAt syX3_codeAt ⟨(Nat.le_of_ble_eq_true rfl), (Nat.le_of_ble_eq_true rfl)⟩ rfl rfl (Nat.le_of_ble_eq_true rfl) dX3_enterFrame_10 (mX3_codeAt ew4 (pI.mk ?_))
  refine r_istore (pc := 13) (loc' := [(4, .int x3), (3, .int x1), (0, .ref 48), (1, .int a1), (2, .int a2)]) dX3_enterFrame_13 (Nat.le_of_ble_eq_true rfl) rfl ?_
  refine r_iload_n (pc := 15) dX3_enterFrame_15 rfl 1 rfl ?_
  refine r_if_lt (pc := 16) dX3_enterFrame_16 rfl (fun hc5 => ?_) (fun hc5 => ?_)
  · replace h := if_t hc5 h
    refine r_aload_n (pc := 44) dX3_enterFrame_44 rfl 2 rfl ?_
    replace h := lt_e h; obtain ⟨w6, ew6, h⟩ := h
    refine r_cVv (pc := 45) wyX3_oddity oA48 rfl mlRX3_102 iyX3_oddity syX3_oddity ⟨(Nat.le_of_ble_eq_true rfl), (Nat.le_of_ble_eq_true rfl)⟩ rfl rfl (Nat.le_of_ble_eq_true rfl) dX3_enterFrame_45 (mX3_oddity ew6 (pV.mk ?_))
    exact rO_v (pc := 48) rfl dX3_enterFrame_48 h hN
  replace h := if_f hc5 h
  refine r_iload_n (pc := 19) dX3_enterFrame_19 rfl 1 rfl ?_
  refine r_aload_n (pc := 20) dX3_enterFrame_20 rfl 2 rfl ?_
  refine r_get (pc := 21) (j := 14) (v := .int (gi w4 48 14)) oA48 cf3 flRX3_117 rfl dX3_enterFrame_21 rfl ?_
  refine r_icmp_gt (pc := 24) dX3_enterFrame_24 rfl (fun hc7 => ?_) (fun hc7 => ?_)
  · replace h := if_t hc7 h
    refine r_aload_n (pc := 44) dX3_enterFrame_44 rfl 2 rfl ?_
    replace h := lt_e h; obtain ⟨w8, ew8, h⟩ := h
    refine r_cVv (pc := 45) wyX3_oddity oA48 rfl mlRX3_102 iyX3_oddity syX3_oddity ⟨(Nat.le_of_ble_eq_true rfl), (Nat.le_of_ble_eq_true rfl)⟩ rfl rfl (Nat.le_of_ble_eq_true rfl) dX3_enterFrame_45 (mX3_oddity ew8 (pV.mk ?_))
    exact rO_v (pc := 48) rfl dX3_enterFrame_48 h hN
  replace h := if_f hc7 h
  refine r_iload (pc := 27) dX3_enterFrame_27 0 rfl ?_
  refine r_if_lt (pc := 29) dX3_enterFrame_29 rfl (fun hc9 => ?_) (fun hc9 => ?_)
  · replace h := if_t hc9 h
    refine r_aload_n (pc := 44) dX3_enterFrame_44 rfl 2 rfl ?_
    replace h := lt_e h; obtain ⟨w10, ew10, h⟩ := h
    refine r_cVv (pc := 45) wyX3_oddity oA48 rfl mlRX3_102 iyX3_oddity syX3_oddity ⟨(Nat.le_of_ble_eq_true rfl), (Nat.le_of_ble_eq_true rfl)⟩ rfl rfl (Nat.le_of_ble_eq_true rfl) dX3_enterFrame_45 (mX3_oddity ew10 (pV.mk ?_))
    exact rO_v (pc := 48) rfl dX3_enterFrame_48 h hN
  replace h := if_f hc9 h
  refine r_iload (pc := 32) dX3_enterFrame_32 0 rfl ?_
  refine r_ldc (pc := 34) dX3_enterFrame_34 kcRX3_20 ?_
  refine r_aload_n (pc := 36) dX3_enterFrame_36 rfl 2 rfl ?_
  refine r_get (pc := 37) (j := 13) (v := .int (gi w4 48 13)) oA48 cf3 flRX3_126 rfl dX3_enterFrame_37 rfl ?_
  refine r_isub (pc := 40) dX3_enterFrame_40 ?_
  refine r_icmp_le (pc := 41) dX3_enterFrame_41 rfl (fun hc11 => ?_) (fun hc11 => ?_)
  · replace h := if_t hc11 h
    refine r_aload_n (pc := 49) dX3_enterFrame_49 rfl 2 rfl ?_
    refine r_aload_n (pc := 50) dX3_enterFrame_50 rfl 2 rfl ?_
    refine r_get (pc := 51) (j := 13) (v := .int (gi w4 48 13)) oA48 cf3 flRX3_126 rfl dX3_enterFrame_51 rfl ?_
    replace h := lt_e h; obtain ⟨w12, ew12, h⟩ := h
    refine r_putI (pc := 54) (j := 12) oA48 cf3 flRX3_143 rfl rfl rfl rfl dX3_enterFrame_54 ?_
    refine r_w ew12 ?_
    refine r_aload_n (pc := 57) dX3_enterFrame_57 rfl 2 rfl ?_
    refine r_dup (pc := 58) dX3_enterFrame_58 rfl ?_
    refine r_get (pc := 59) (j := 13) (v := .int (gi w12 48 13)) oA48 cf3 flRX3_126 rfl dX3_enterFrame_59 rfl ?_
    refine r_iload (pc := 62) dX3_enterFrame_62 0 rfl ?_
    refine r_iadd (pc := 64) dX3_enterFrame_64 ?_
    replace h := lt_e h; obtain ⟨w13, ew13, h⟩ := h
    refine r_putI (pc := 65) (j := 13) oA48 cf3 flRX3_126 rfl rfl rfl rfl dX3_enterFrame_65 ?_
    refine r_w ew13 ?_
    refine r_aload_n (pc := 68) dX3_enterFrame_68 rfl 2 rfl ?_
    refine r_dup (pc := 69) dX3_enterFrame_69 rfl ?_
    refine r_get (pc := 70) (j := 14) (v := .int (gi w13 48 14)) oA48 cf3 flRX3_117 rfl dX3_enterFrame_70 rfl ?_
    refine r_iload_n (pc := 73) dX3_enterFrame_73 rfl 1 rfl ?_
    refine r_isub (pc := 74) dX3_enterFrame_74 ?_
    replace h := lt_e h; obtain ⟨w14, ew14, h⟩ := h
    refine r_putI (pc := 75) (j := 14) oA48 cf3 flRX3_117 rfl rfl rfl rfl dX3_enterFrame_75 ?_
    refine r_w ew14 ?_
    refine r_iconst (pc := 78) dX3_enterFrame_78 ki_0 ?_
    refine r_istore (pc := 79) (loc' := [(5, .int 0), (4, .int x3), (3, .int x1), (0, .ref 48), (1, .int a1), (2, .int a2)]) dX3_enterFrame_79 (Nat.le_of_ble_eq_true rfl) rfl ?_
    refine r_drop (loc' := [(0, .ref 48), (1, .int a1), (2, .int a2), (3, .int x1), (5, .int 0)]) [3, 4, 5, 2, 0] rfl ?_
    exact qX3_enterFrame_81 hN FU a1 a2 x1 0 w14 h
  replace h := if_f hc11 h
  refine r_aload_n (pc := 44) dX3_enterFrame_44 rfl 2 rfl ?_
  replace h := lt_e h; obtain ⟨w15, ew15, h⟩ := h
  refine r_cVv (pc := 45) wyX3_oddity oA48 rfl mlRX3_102 iyX3_oddity syX3_oddity ⟨(Nat.le_of_ble_eq_true rfl), (Nat.le_of_ble_eq_true rfl)⟩ rfl rfl (Nat.le_of_ble_eq_true rfl) dX3_enterFrame_45 (mX3_oddity ew15 (pV.mk ?_))
  exact rO_v (pc := 48) rfl dX3_enterFrame_48 h hN
theorem mX3_enterFrame {q : Gq} {l : Launch} {N : Option Value → Wd → Prop} {X : String → Wd → Prop} {a1 : Int32} {a2 : Int32} {w : Wd} {u : Wd} (h : fX3_enterFrame a1 a2 w = some u) (hN : N none u) : Ct (GA q) l 6 yX3_enterFrame cX3_enterFrame 6 (none) [.ref 48, .int a1, .int a2] w N X := Ct.of (by decide) (Nat.le_of_ble_eq_true rfl) (pX3_enterFrame hN h)
/-! AlgolMill$Machine.start (I)V: O, 7 -/
theorem dX3_start_0 : decode cX3_start 0 = .ok (.aload_n 0, 1) := by decide +kernel
theorem dX3_start_1 : decode cX3_start 1 = .ok (.iload_n 1, 1) := by decide +kernel
theorem dX3_start_2 : decode cX3_start 2 = .ok (.putfield 105, 3) := by decide +kernel
theorem dX3_start_5 : decode cX3_start 5 = .ok (.aload_n 0, 1) := by decide +kernel
theorem dX3_start_6 : decode cX3_start 6 = .ok (.getfield 40, 3) := by decide +kernel
theorem dX3_start_9 : decode cX3_start 9 = .ok (.iconst 0, 1) := by decide +kernel
theorem dX3_start_10 : decode cX3_start 10 = .ok (.invokestatic 108, 3) := by decide +kernel
theorem dX3_start_13 : decode cX3_start 13 = .ok (.aload_n 0, 1) := by decide +kernel
theorem dX3_start_14 : decode cX3_start 14 = .ok (.iconst 0, 1) := by decide +kernel
theorem dX3_start_15 : decode cX3_start 15 = .ok (.putfield 114, 3) := by decide +kernel
theorem dX3_start_18 : decode cX3_start 18 = .ok (.aload_n 0, 1) := by decide +kernel
theorem dX3_start_19 : decode cX3_start 19 = .ok (.iconst 0, 1) := by decide +kernel
theorem dX3_start_20 : decode cX3_start 20 = .ok (.putfield 117, 3) := by decide +kernel
theorem dX3_start_23 : decode cX3_start 23 = .ok (.aload_n 0, 1) := by decide +kernel
theorem dX3_start_24 : decode cX3_start 24 = .ok (.iconst 0, 1) := by decide +kernel
theorem dX3_start_25 : decode cX3_start 25 = .ok (.putfield 120, 3) := by decide +kernel
theorem dX3_start_28 : decode cX3_start 28 = .ok (.aload_n 0, 1) := by decide +kernel
theorem dX3_start_29 : decode cX3_start 29 = .ok (.bipush (-2), 2) := by decide +kernel
theorem dX3_start_31 : decode cX3_start 31 = .ok (.putfield 96, 3) := by decide +kernel
theorem dX3_start_34 : decode cX3_start 34 = .ok (.aload_n 0, 1) := by decide +kernel
theorem dX3_start_35 : decode cX3_start 35 = .ok (.getfield 21, 3) := by decide +kernel
theorem dX3_start_38 : decode cX3_start 38 = .ok (.iconst 0, 1) := by decide +kernel
theorem dX3_start_39 : decode cX3_start 39 = .ok (.aload_n 0, 1) := by decide +kernel
theorem dX3_start_40 : decode cX3_start 40 = .ok (.getfield 49, 3) := by decide +kernel
theorem dX3_start_43 : decode cX3_start 43 = .ok (.lconst 0, 1) := by decide +kernel
theorem dX3_start_44 : decode cX3_start 44 = .ok (.invokestatic 123, 3) := by decide +kernel
theorem dX3_start_47 : decode cX3_start 47 = .ok (.aload_n 0, 1) := by decide +kernel
theorem dX3_start_48 : decode cX3_start 48 = .ok (.sipush 6096, 3) := by decide +kernel
theorem dX3_start_51 : decode cX3_start 51 = .ok (.putfield 126, 3) := by decide +kernel
theorem dX3_start_54 : decode cX3_start 54 = .ok (.aload_n 0, 1) := by decide +kernel
theorem dX3_start_55 : decode cX3_start 55 = .ok (.aload_n 0, 1) := by decide +kernel
theorem dX3_start_56 : decode cX3_start 56 = .ok (.iconst 0, 1) := by decide +kernel
theorem dX3_start_57 : decode cX3_start 57 = .ok (.invokevirtual 129, 3) := by decide +kernel
theorem dX3_start_60 : decode cX3_start 60 = .ok (.iconst 0, 1) := by decide +kernel
theorem dX3_start_61 : decode cX3_start 61 = .ok (.invokevirtual 132, 3) := by decide +kernel
theorem dX3_start_64 : decode cX3_start 64 = .ok (.return_, 1) := by decide +kernel
def fX3_start (a1 : Int32) (w : Wd) : Option Wd :=
  lt (si w 48 17 a1) fun w1 => bn (fJ7_fill_53178 56 8 0 w1) fun w2 => lt (si w2 48 15 0) fun w3 => lt (si w3 48 14 0) fun w4 => lt (si w4 48 16 0) fun w5 => lt (si w5 48 10 (-2)) fun w6 => bn (fJ7_fill_bad5a 50 109186 0 (gi w6 48 9) 0 w6) fun w7 => lt (si w7 48 13 6096) fun w8 => lt2 (fX3_codeAt 0 w8) fun x9 w10 => bn (fX3_enterFrame x9 0 w10) fun w11 => some w11
theorem pX3_start {q : Gq} {l : Launch} {N : Option Value → Wd → Prop} {X : String → Wd → Prop} {w : Wd} {R : Wd} (hN : N none R) {a1 : Int32} (h : fX3_start a1 w = some R) : RT (GA q) l 7 yX3_start cX3_start 2 (none) N X 0 [] [(0, .ref 48), (1, .int a1)] w := by
  unfold fX3_start at h
  refine r_aload_n (pc := 0) dX3_start_0 rfl 0 rfl ?_
  refine r_iload_n (pc := 1) dX3_start_1 rfl 1 rfl ?_
  replace h := lt_e h; obtain ⟨w1, ew1, h⟩ := h
  refine r_putI (pc := 2) (j := 17) oA48 cf3 flRX3_105 rfl rfl rfl rfl dX3_start_2 ?_
  refine r_w ew1 ?_
  refine r_aload_n (pc := 5) dX3_start_5 rfl 0 rfl ?_
  refine r_get (pc := 6) (j := 7) (v := .ref 56) oA48 cf3 flRX3_40 rfl dX3_start_6 rfl ?_
  refine r_iconst (pc := 9) dX3_start_9 ki_0 ?_
  replace h := bn_e h; obtain ⟨w2, ew2, h⟩ := h
  refine r_cSv (pc := 10) wyJ7_fill_53178 mlRX3_108 tyJ7_fill_53178 ⟨(Nat.le_of_ble_eq_true rfl), (Nat.le_of_ble_eq_true rfl)⟩ rfl rfl (Nat.le_of_ble_eq_true rfl) dX3_start_10 (mJ7_fill_53178 aA56 ew2 (pV.mk ?_))
  refine r_aload_n (pc := 13) dX3_start_13 rfl 0 rfl ?_
  refine r_iconst (pc := 14) dX3_start_14 ki_0 ?_
  replace h := lt_e h; obtain ⟨w3, ew3, h⟩ := h
  refine r_putI (pc := 15) (j := 15) oA48 cf3 flRX3_114 rfl rfl rfl rfl dX3_start_15 ?_
  refine r_w ew3 ?_
  refine r_aload_n (pc := 18) dX3_start_18 rfl 0 rfl ?_
  refine r_iconst (pc := 19) dX3_start_19 ki_0 ?_
  replace h := lt_e h; obtain ⟨w4, ew4, h⟩ := h
  refine r_putI (pc := 20) (j := 14) oA48 cf3 flRX3_117 rfl rfl rfl rfl dX3_start_20 ?_
  refine r_w ew4 ?_
  refine r_aload_n (pc := 23) dX3_start_23 rfl 0 rfl ?_
  refine r_iconst (pc := 24) dX3_start_24 ki_0 ?_
  replace h := lt_e h; obtain ⟨w5, ew5, h⟩ := h
  refine r_putI (pc := 25) (j := 16) oA48 cf3 flRX3_120 rfl rfl rfl rfl dX3_start_25 ?_
  refine r_w ew5 ?_
  refine r_aload_n (pc := 28) dX3_start_28 rfl 0 rfl ?_
  refine r_bipush (pc := 29) dX3_start_29 kb_m2 ?_
  replace h := lt_e h; obtain ⟨w6, ew6, h⟩ := h
  refine r_putI (pc := 31) (j := 10) oA48 cf3 flRX3_96 rfl rfl rfl rfl dX3_start_31 ?_
  refine r_w ew6 ?_
  refine r_aload_n (pc := 34) dX3_start_34 rfl 0 rfl ?_
  refine r_get (pc := 35) (j := 1) (v := .ref 50) oA48 cf3 flRX3_21 rfl dX3_start_35 rfl ?_
  refine r_iconst (pc := 38) dX3_start_38 ki_0 ?_
  refine r_aload_n (pc := 39) dX3_start_39 rfl 0 rfl ?_
  refine r_get (pc := 40) (j := 9) (v := .int (gi w6 48 9)) oA48 cf3 flRX3_49 rfl dX3_start_40 rfl ?_
  refine r_lconst (pc := 43) dX3_start_43 kl_0 ?_
  replace h := bn_e h; obtain ⟨w7, ew7, h⟩ := h
  refine r_cSv (pc := 44) wyJ7_fill_bad5a mlRX3_123 tyJ7_fill_bad5a ⟨(Nat.le_of_ble_eq_true rfl), (Nat.le_of_ble_eq_true rfl)⟩ rfl rfl (Nat.le_of_ble_eq_true rfl) dX3_start_44 (mJ7_fill_bad5a aA50 ew7 (pV.mk ?_))
  refine r_aload_n (pc := 47) dX3_start_47 rfl 0 rfl ?_
  refine r_sipush (pc := 48) dX3_start_48 ks_6096 ?_
  replace h := lt_e h; obtain ⟨w8, ew8, h⟩ := h
  refine r_putI (pc := 51) (j := 13) oA48 cf3 flRX3_126 rfl rfl rfl rfl dX3_start_51 ?_
  refine r_w ew8 ?_
  refine r_aload_n (pc := 54) dX3_start_54 rfl 0 rfl ?_
  refine r_aload_n (pc := 55) dX3_start_55 rfl 0 rfl ?_
  refine r_iconst (pc := 56) dX3_start_56 ki_0 ?_
  replace h := lt2_e h; obtain ⟨x9, w10, ew10, h⟩ := h
  refine r_cVi (pc := 57) wyX3_codeAt oA48 rfl mlRX3_129 iyX3_codeAt syX3_codeAt ⟨(Nat.le_of_ble_eq_true rfl), (Nat.le_of_ble_eq_true rfl)⟩ rfl rfl (Nat.le_of_ble_eq_true rfl) dX3_start_57 (mX3_codeAt ew10 (pI.mk ?_))
  refine r_iconst (pc := 60) dX3_start_60 ki_0 ?_
  replace h := bn_e h; obtain ⟨w11, ew11, h⟩ := h
  refine r_cVv (pc := 61) wyX3_enterFrame oA48 rfl mlRX3_132 iyX3_enterFrame syX3_enterFrame ⟨(Nat.le_of_ble_eq_true rfl), (Nat.le_of_ble_eq_true rfl)⟩ rfl rfl (Nat.le_of_ble_eq_true rfl) dX3_start_61 (mX3_enterFrame ew11 (pV.mk ?_))
  exact rO_v (pc := 64) rfl dX3_start_64 h hN
theorem mX3_start {q : Gq} {l : Launch} {N : Option Value → Wd → Prop} {X : String → Wd → Prop} {a1 : Int32} {w : Wd} {u : Wd} (h : fX3_start a1 w = some u) (hN : N none u) : Ct (GA q) l 7 yX3_start cX3_start 2 (none) [.ref 48, .int a1] w N X := Ct.of (by decide) (Nat.le_of_ble_eq_true rfl) (pX3_start hN h)
/-! AlgolMill$Machine.error (I)V: S, 0 -/
theorem dX3_error_0 : decode cX3_error 0 = .ok (.aload_n 0, 1) := by decide +kernel
theorem dX3_error_1 : decode cX3_error 1 = .ok (.iload_n 1, 1) := by decide +kernel
theorem dX3_error_2 : decode cX3_error 2 = .ok (.putfield 96, 3) := by decide +kernel
theorem dX3_error_5 : decode cX3_error 5 = .ok (.return_, 1) := by decide +kernel
def fX3_error (a1 : Int32) (w : Wd) : Wd :=
  lt (si w 48 10 a1) fun w1 => w1
theorem pX3_error {q : Gq} {l : Launch} {N : Option Value → Wd → Prop} {X : String → Wd → Prop} {w : Wd} {R : Wd} (hN : N none R) {a1 : Int32} (h : fX3_error a1 w = R) : RT (GA q) l 0 yX3_error cX3_error 2 (none) N X 0 [] [(0, .ref 48), (1, .int a1)] w := by
  unfold fX3_error at h
  refine r_aload_n (pc := 0) dX3_error_0 rfl 0 rfl ?_
  refine r_iload_n (pc := 1) dX3_error_1 rfl 1 rfl ?_
  replace h := lt_e h; obtain ⟨w1, ew1, h⟩ := h
  refine r_putI (pc := 2) (j := 10) oA48 cf3 flRX3_96 rfl rfl rfl rfl dX3_error_2 ?_
  refine r_w ew1 ?_
  exact rS_v (pc := 5) rfl dX3_error_5 h hN
theorem mX3_error {q : Gq} {l : Launch} {N : Option Value → Wd → Prop} {X : String → Wd → Prop} {a1 : Int32} {w : Wd} {u : Wd} (h : fX3_error a1 w = u) (hN : N none u) : Ct (GA q) l 0 yX3_error cX3_error 2 (none) [.ref 48, .int a1] w N X := Ct.of (by decide) (Nat.le_of_ble_eq_true rfl) (pX3_error hN h)
/-! AlgolMill$Machine.push (J)V: S, 4 -/
theorem dX3_push_0 : decode cX3_push 0 = .ok (.aload_n 0, 1) := by decide +kernel
theorem dX3_push_1 : decode cX3_push 1 = .ok (.getfield 117, 3) := by decide +kernel
theorem dX3_push_4 : decode cX3_push 4 = .ok (.sipush 30622, 3) := by decide +kernel
theorem dX3_push_7 : decode cX3_push 7 = .ok (.if_icmp .lt 8, 3) := by decide +kernel
theorem dX3_push_10 : decode cX3_push 10 = .ok (.aload_n 0, 1) := by decide +kernel
theorem dX3_push_11 : decode cX3_push 11 = .ok (.invokevirtual 102, 3) := by decide +kernel
theorem dX3_push_14 : decode cX3_push 14 = .ok (.return_, 1) := by decide +kernel
theorem dX3_push_15 : decode cX3_push 15 = .ok (.aload_n 0, 1) := by decide +kernel
theorem dX3_push_16 : decode cX3_push 16 = .ok (.getfield 24, 3) := by decide +kernel
theorem dX3_push_19 : decode cX3_push 19 = .ok (.aload_n 0, 1) := by decide +kernel
theorem dX3_push_20 : decode cX3_push 20 = .ok (.getfield 117, 3) := by decide +kernel
theorem dX3_push_23 : decode cX3_push 23 = .ok (.lload_n 1, 1) := by decide +kernel
theorem dX3_push_24 : decode cX3_push 24 = .ok (.invokestatic 69, 3) := by decide +kernel
theorem dX3_push_27 : decode cX3_push 27 = .ok (.aload_n 0, 1) := by decide +kernel
theorem dX3_push_28 : decode cX3_push 28 = .ok (.dup, 1) := by decide +kernel
theorem dX3_push_29 : decode cX3_push 29 = .ok (.getfield 117, 3) := by decide +kernel
theorem dX3_push_32 : decode cX3_push 32 = .ok (.iconst 1, 1) := by decide +kernel
theorem dX3_push_33 : decode cX3_push 33 = .ok (.iadd, 1) := by decide +kernel
theorem dX3_push_34 : decode cX3_push 34 = .ok (.putfield 117, 3) := by decide +kernel
theorem dX3_push_37 : decode cX3_push 37 = .ok (.return_, 1) := by decide +kernel
def fX3_push (a1 : Int64) (w : Wd) : Wd :=
  if (gi w 48 14) < 30622 then (lt (rsl w 51 30622 (gi w 48 14) a1) fun w2 => lt (si w2 48 14 ((gi w2 48 14) + 1)) fun w3 => w3) else (lt (fX3_oddity w) fun w4 => w4)
theorem pX3_push {q : Gq} {l : Launch} {N : Option Value → Wd → Prop} {X : String → Wd → Prop} {w : Wd} {R : Wd} (hN : N none R) {a1 : Int64} (h : fX3_push a1 w = R) : RT (GA q) l 4 yX3_push cX3_push 3 (none) N X 0 [] [(0, .ref 48), (1, .long a1)] w := by
  unfold fX3_push at h
  refine r_aload_n (pc := 0) dX3_push_0 rfl 0 rfl ?_
  refine r_get (pc := 1) (j := 14) (v := .int (gi w 48 14)) oA48 cf3 flRX3_117 rfl dX3_push_1 rfl ?_
  refine r_sipush (pc := 4) dX3_push_4 ks_30622 ?_
  refine r_icmp_lt (pc := 7) dX3_push_7 rfl (fun hc1 => ?_) (fun hc1 => ?_)
  · replace h := if_t hc1 h
    refine r_aload_n (pc := 15) dX3_push_15 rfl 0 rfl ?_
    refine r_get (pc := 16) (j := 2) (v := .ref 51) oA48 cf3 flRX3_24 rfl dX3_push_16 rfl ?_
    refine r_aload_n (pc := 19) dX3_push_19 rfl 0 rfl ?_
    refine r_get (pc := 20) (j := 14) (v := .int (gi w 48 14)) oA48 cf3 flRX3_117 rfl dX3_push_20 rfl ?_
    refine r_lload_n (pc := 23) dX3_push_23 rfl 1 rfl ?_
    replace h := lt_e h; obtain ⟨w2, ew2, h⟩ := h
    refine r_cSv (pc := 24) wyX6_set_ mlRX3_69 tyX6_set_ ⟨(Nat.le_of_ble_eq_true rfl), (Nat.le_of_ble_eq_true rfl)⟩ rfl rfl (Nat.le_of_ble_eq_true rfl) dX3_push_24 (mX6_set_ aA51 (Nat.le_of_ble_eq_true rfl) ew2 (pV.mk ?_))
    refine r_aload_n (pc := 27) dX3_push_27 rfl 0 rfl ?_
    refine r_dup (pc := 28) dX3_push_28 rfl ?_
    refine r_get (pc := 29) (j := 14) (v := .int (gi w2 48 14)) oA48 cf3 flRX3_117 rfl dX3_push_29 rfl ?_
    refine r_iconst (pc := 32) dX3_push_32 ki_1 ?_
    refine r_iadd (pc := 33) dX3_push_33 ?_
    replace h := lt_e h; obtain ⟨w3, ew3, h⟩ := h
    refine r_putI (pc := 34) (j := 14) oA48 cf3 flRX3_117 rfl rfl rfl rfl dX3_push_34 ?_
    refine r_w ew3 ?_
    exact rS_v (pc := 37) rfl dX3_push_37 h hN
  replace h := if_f hc1 h
  refine r_aload_n (pc := 10) dX3_push_10 rfl 0 rfl ?_
  replace h := lt_e h; obtain ⟨w4, ew4, h⟩ := h
  refine r_cVv (pc := 11) wyX3_oddity oA48 rfl mlRX3_102 iyX3_oddity syX3_oddity ⟨(Nat.le_of_ble_eq_true rfl), (Nat.le_of_ble_eq_true rfl)⟩ rfl rfl (Nat.le_of_ble_eq_true rfl) dX3_push_11 (mX3_oddity ew4 (pV.mk ?_))
  exact rS_v (pc := 14) rfl dX3_push_14 h hN
theorem mX3_push {q : Gq} {l : Launch} {N : Option Value → Wd → Prop} {X : String → Wd → Prop} {a1 : Int64} {w : Wd} {u : Wd} (h : fX3_push a1 w = u) (hN : N none u) : Ct (GA q) l 4 yX3_push cX3_push 3 (none) [.ref 48, .long a1] w N X := Ct.of (by decide) (Nat.le_of_ble_eq_true rfl) (pX3_push hN h)
/-! AlgolMill$Machine.wrap (J)J: P, 0 -/
theorem dX3_wrap_0 : decode cX3_wrap 0 = .ok (.bipush 28, 2) := by decide +kernel
theorem dX3_wrap_2 : decode cX3_wrap 2 = .ok (.istore_n 2, 1) := by decide +kernel
theorem dX3_wrap_3 : decode cX3_wrap 3 = .ok (.lload_n 0, 1) := by decide +kernel
theorem dX3_wrap_4 : decode cX3_wrap 4 = .ok (.iload_n 2, 1) := by decide +kernel
theorem dX3_wrap_5 : decode cX3_wrap 5 = .ok (.lshl, 1) := by decide +kernel
theorem dX3_wrap_6 : decode cX3_wrap 6 = .ok (.iload_n 2, 1) := by decide +kernel
theorem dX3_wrap_7 : decode cX3_wrap 7 = .ok (.lshr, 1) := by decide +kernel
theorem dX3_wrap_8 : decode cX3_wrap 8 = .ok (.lreturn, 1) := by decide +kernel
def fX3_wrap (a0 : Int64) (w : Wd) : Int64 :=
  ((a0 <<< (Int32.toInt64 28 &&& 63)) >>> (Int32.toInt64 28 &&& 63))
theorem pX3_wrap {q : Gq} {l : Launch} {N : Option Value → Wd → Prop} {X : String → Wd → Prop} {w : Wd} {R : Int64} (hN : N (some (.long R)) w) {a0 : Int64} (h : fX3_wrap a0 w = R) : RT (GA q) l 0 yX3_wrap cX3_wrap 3 ((some .long)) N X 0 [] [(0, .long a0)] w := by
  unfold fX3_wrap at h
  refine r_bipush (pc := 0) dX3_wrap_0 kb_28 ?_
  refine r_istore_n (pc := 2) (loc' := [(2, .int 28), (0, .long a0)]) dX3_wrap_2 rfl (Nat.le_of_ble_eq_true rfl) rfl ?_
  refine r_lload_n (pc := 3) dX3_wrap_3 rfl 1 rfl ?_
  refine r_iload_n (pc := 4) dX3_wrap_4 rfl 0 rfl ?_
  refine r_lshl (pc := 5) dX3_wrap_5 ?_
  refine r_iload_n (pc := 6) dX3_wrap_6 rfl 0 rfl ?_
  refine r_lshr (pc := 7) dX3_wrap_7 ?_
  exact rP_l (pc := 8) rfl dX3_wrap_8 h hN
theorem mX3_wrap {q : Gq} {l : Launch} {N : Option Value → Wd → Prop} {X : String → Wd → Prop} {a0 : Int64} {w : Wd} {x : Int64} (h : fX3_wrap a0 w = x) (hN : N (some (.long x)) w) : Ct (GA q) l 0 yX3_wrap cX3_wrap 3 ((some .long)) [.long a0] w N X := Ct.of (by decide) (Nat.le_of_ble_eq_true rfl) (pX3_wrap hN h)
/-! AlgolMill$Machine.divide (IJJ)V: S, 5 -/
theorem dX3_divide_0 : decode cX3_divide 0 = .ok (.lload 4, 2) := by decide +kernel
theorem dX3_divide_2 : decode cX3_divide 2 = .ok (.lconst 0, 1) := by decide +kernel
theorem dX3_divide_3 : decode cX3_divide 3 = .ok (.lcmp, 1) := by decide +kernel
theorem dX3_divide_4 : decode cX3_divide 4 = .ok (.ifCond .ne 11, 3) := by decide +kernel
theorem dX3_divide_7 : decode cX3_divide 7 = .ok (.aload_n 0, 1) := by decide +kernel
theorem dX3_divide_8 : decode cX3_divide 8 = .ok (.iconst 2, 1) := by decide +kernel
theorem dX3_divide_9 : decode cX3_divide 9 = .ok (.invokevirtual 199, 3) := by decide +kernel
theorem dX3_divide_12 : decode cX3_divide 12 = .ok (.goto 26, 3) := by decide +kernel
theorem dX3_divide_15 : decode cX3_divide 15 = .ok (.aload_n 0, 1) := by decide +kernel
theorem dX3_divide_16 : decode cX3_divide 16 = .ok (.iload_n 1, 1) := by decide +kernel
theorem dX3_divide_17 : decode cX3_divide 17 = .ok (.iconst 4, 1) := by decide +kernel
theorem dX3_divide_18 : decode cX3_divide 18 = .ok (.if_icmp .ne 10, 3) := by decide +kernel
theorem dX3_divide_21 : decode cX3_divide 21 = .ok (.lload_n 2, 1) := by decide +kernel
theorem dX3_divide_22 : decode cX3_divide 22 = .ok (.lload 4, 2) := by decide +kernel
theorem dX3_divide_24 : decode cX3_divide 24 = .ok (.ldiv, 1) := by decide +kernel
theorem dX3_divide_25 : decode cX3_divide 25 = .ok (.goto 7, 3) := by decide +kernel
theorem dX3_divide_28 : decode cX3_divide 28 = .ok (.lload_n 2, 1) := by decide +kernel
theorem dX3_divide_29 : decode cX3_divide 29 = .ok (.lload 4, 2) := by decide +kernel
theorem dX3_divide_31 : decode cX3_divide 31 = .ok (.lrem, 1) := by decide +kernel
theorem dX3_divide_32 : decode cX3_divide 32 = .ok (.invokestatic 181, 3) := by decide +kernel
theorem dX3_divide_35 : decode cX3_divide 35 = .ok (.invokevirtual 184, 3) := by decide +kernel
theorem dX3_divide_38 : decode cX3_divide 38 = .ok (.return_, 1) := by decide +kernel
def fX3_divide (a1 : Int32) (a2 : Int64) (a4 : Int64) (w : Wd) : Wd :=
  if a4 = 0 then (lt (fX3_error 2 w) fun w2 => w2) else (if a1 = 4 then (lt (fX3_wrap (a2 / a4) w) fun x4 => lt (fX3_push x4 w) fun w5 => w5) else (lt (fX3_wrap (a2 - a2 / a4 * a4) w) fun x6 => lt (fX3_push x6 w) fun w7 => w7))
theorem pX3_divide {q : Gq} {l : Launch} {N : Option Value → Wd → Prop} {X : String → Wd → Prop} {w : Wd} {R : Wd} (hN : N none R) {a1 : Int32} {a2 : Int64} {a4 : Int64} (h : fX3_divide a1 a2 a4 w = R) : RT (GA q) l 5 yX3_divide cX3_divide 6 (none) N X 0 [] [(0, .ref 48), (1, .int a1), (2, .long a2), (4, .long a4)] w := by
  unfold fX3_divide at h
  refine r_lload (pc := 0) dX3_divide_0 3 rfl ?_
  refine r_lconst (pc := 2) dX3_divide_2 kl_0 ?_
  refine r_l_ne (pc := 3) dX3_divide_3 dX3_divide_4 rfl (fun hc1 => ?_) (fun hc1 => ?_)
  · replace h := if_f hc1 h
    refine r_aload_n (pc := 15) dX3_divide_15 rfl 0 rfl ?_
    refine r_iload_n (pc := 16) dX3_divide_16 rfl 1 rfl ?_
    refine r_iconst (pc := 17) dX3_divide_17 ki_4 ?_
    refine r_icmp_ne (pc := 18) dX3_divide_18 rfl (fun hc3 => ?_) (fun hc3 => ?_)
    · replace h := if_f hc3 h
      refine r_lload_n (pc := 28) dX3_divide_28 rfl 2 rfl ?_
      refine r_lload (pc := 29) dX3_divide_29 3 rfl ?_
      refine r_lrem (pc := 31) dX3_divide_31 (by assumption) ?_
      replace h := lt_e h; obtain ⟨x6, ex6, h⟩ := h
      refine r_cSl (pc := 32) wyX3_wrap mlRX3_181 tyX3_wrap ⟨(Nat.le_of_ble_eq_true rfl), (Nat.le_of_ble_eq_true rfl)⟩ rfl rfl (Nat.le_of_ble_eq_true rfl) dX3_divide_32 (mX3_wrap ex6 (pL.mk ?_))
      replace h := lt_e h; obtain ⟨w7, ew7, h⟩ := h
      refine r_cVv (pc := 35) wyX3_push oA48 rfl mlRX3_184 iyX3_push syX3_push ⟨(Nat.le_of_ble_eq_true rfl), (Nat.le_of_ble_eq_true rfl)⟩ rfl rfl (Nat.le_of_ble_eq_true rfl) dX3_divide_35 (mX3_push ew7 (pV.mk ?_))
      exact rS_v (pc := 38) rfl dX3_divide_38 h hN
    replace h := if_t hc3 h
    refine r_lload_n (pc := 21) dX3_divide_21 rfl 2 rfl ?_
    refine r_lload (pc := 22) dX3_divide_22 3 rfl ?_
    refine r_ldiv (pc := 24) dX3_divide_24 (by assumption) ?_
    refine r_goto (pc := 25) dX3_divide_25 rfl ?_
    replace h := lt_e h; obtain ⟨x4, ex4, h⟩ := h
    refine r_cSl (pc := 32) wyX3_wrap mlRX3_181 tyX3_wrap ⟨(Nat.le_of_ble_eq_true rfl), (Nat.le_of_ble_eq_true rfl)⟩ rfl rfl (Nat.le_of_ble_eq_true rfl) dX3_divide_32 (mX3_wrap ex4 (pL.mk ?_))
    replace h := lt_e h; obtain ⟨w5, ew5, h⟩ := h
    refine r_cVv (pc := 35) wyX3_push oA48 rfl mlRX3_184 iyX3_push syX3_push ⟨(Nat.le_of_ble_eq_true rfl), (Nat.le_of_ble_eq_true rfl)⟩ rfl rfl (Nat.le_of_ble_eq_true rfl) dX3_divide_35 (mX3_push ew5 (pV.mk ?_))
    exact rS_v (pc := 38) rfl dX3_divide_38 h hN
  replace h := if_t hc1 h
  refine r_aload_n (pc := 7) dX3_divide_7 rfl 0 rfl ?_
  refine r_iconst (pc := 8) dX3_divide_8 ki_2 ?_
  replace h := lt_e h; obtain ⟨w2, ew2, h⟩ := h
  refine r_cVv (pc := 9) wyX3_error oA48 rfl mlRX3_199 iyX3_error syX3_error ⟨(Nat.le_of_ble_eq_true rfl), (Nat.le_of_ble_eq_true rfl)⟩ rfl rfl (Nat.le_of_ble_eq_true rfl) dX3_divide_9 (mX3_error ew2 (pV.mk ?_))
  refine r_goto (pc := 12) dX3_divide_12 rfl ?_
  exact rS_v (pc := 38) rfl dX3_divide_38 h hN
theorem mX3_divide {q : Gq} {l : Launch} {N : Option Value → Wd → Prop} {X : String → Wd → Prop} {a1 : Int32} {a2 : Int64} {a4 : Int64} {w : Wd} {u : Wd} (h : fX3_divide a1 a2 a4 w = u) (hN : N none u) : Ct (GA q) l 5 yX3_divide cX3_divide 6 (none) [.ref 48, .int a1, .long a2, .long a4] w N X := Ct.of (by decide) (Nat.le_of_ble_eq_true rfl) (pX3_divide hN h)
/-! AlgolMill$Machine.holds (IJJ)Z: S, 4 -/
theorem dX3_holds_0 : decode cX3_holds 0 = .ok (.iload_n 1, 1) := by decide +kernel
theorem dX3_holds_1 : decode cX3_holds 1 = .ok (.tableswitch 186 7 15 #[51, 64, 77, 90, 103, 116, 129, 148, 167], 51) := by decide +kernel
theorem dX3_holds_52 : decode cX3_holds 52 = .ok (.lload_n 2, 1) := by decide +kernel
theorem dX3_holds_53 : decode cX3_holds 53 = .ok (.lload 4, 2) := by decide +kernel
theorem dX3_holds_55 : decode cX3_holds 55 = .ok (.lcmp, 1) := by decide +kernel
theorem dX3_holds_56 : decode cX3_holds 56 = .ok (.ifCond .ge 7, 3) := by decide +kernel
theorem dX3_holds_59 : decode cX3_holds 59 = .ok (.iconst 1, 1) := by decide +kernel
theorem dX3_holds_60 : decode cX3_holds 60 = .ok (.goto 4, 3) := by decide +kernel
theorem dX3_holds_63 : decode cX3_holds 63 = .ok (.iconst 0, 1) := by decide +kernel
theorem dX3_holds_64 : decode cX3_holds 64 = .ok (.ireturn, 1) := by decide +kernel
theorem dX3_holds_65 : decode cX3_holds 65 = .ok (.lload_n 2, 1) := by decide +kernel
theorem dX3_holds_66 : decode cX3_holds 66 = .ok (.lload 4, 2) := by decide +kernel
theorem dX3_holds_68 : decode cX3_holds 68 = .ok (.lcmp, 1) := by decide +kernel
theorem dX3_holds_69 : decode cX3_holds 69 = .ok (.ifCond .gt 7, 3) := by decide +kernel
theorem dX3_holds_72 : decode cX3_holds 72 = .ok (.iconst 1, 1) := by decide +kernel
theorem dX3_holds_73 : decode cX3_holds 73 = .ok (.goto 4, 3) := by decide +kernel
theorem dX3_holds_76 : decode cX3_holds 76 = .ok (.iconst 0, 1) := by decide +kernel
theorem dX3_holds_77 : decode cX3_holds 77 = .ok (.ireturn, 1) := by decide +kernel
theorem dX3_holds_78 : decode cX3_holds 78 = .ok (.lload_n 2, 1) := by decide +kernel
theorem dX3_holds_79 : decode cX3_holds 79 = .ok (.lload 4, 2) := by decide +kernel
theorem dX3_holds_81 : decode cX3_holds 81 = .ok (.lcmp, 1) := by decide +kernel
theorem dX3_holds_82 : decode cX3_holds 82 = .ok (.ifCond .ne 7, 3) := by decide +kernel
theorem dX3_holds_85 : decode cX3_holds 85 = .ok (.iconst 1, 1) := by decide +kernel
theorem dX3_holds_86 : decode cX3_holds 86 = .ok (.goto 4, 3) := by decide +kernel
theorem dX3_holds_89 : decode cX3_holds 89 = .ok (.iconst 0, 1) := by decide +kernel
theorem dX3_holds_90 : decode cX3_holds 90 = .ok (.ireturn, 1) := by decide +kernel
theorem dX3_holds_91 : decode cX3_holds 91 = .ok (.lload_n 2, 1) := by decide +kernel
theorem dX3_holds_92 : decode cX3_holds 92 = .ok (.lload 4, 2) := by decide +kernel
theorem dX3_holds_94 : decode cX3_holds 94 = .ok (.lcmp, 1) := by decide +kernel
theorem dX3_holds_95 : decode cX3_holds 95 = .ok (.ifCond .lt 7, 3) := by decide +kernel
theorem dX3_holds_98 : decode cX3_holds 98 = .ok (.iconst 1, 1) := by decide +kernel
theorem dX3_holds_99 : decode cX3_holds 99 = .ok (.goto 4, 3) := by decide +kernel
theorem dX3_holds_102 : decode cX3_holds 102 = .ok (.iconst 0, 1) := by decide +kernel
theorem dX3_holds_103 : decode cX3_holds 103 = .ok (.ireturn, 1) := by decide +kernel
theorem dX3_holds_104 : decode cX3_holds 104 = .ok (.lload_n 2, 1) := by decide +kernel
theorem dX3_holds_105 : decode cX3_holds 105 = .ok (.lload 4, 2) := by decide +kernel
theorem dX3_holds_107 : decode cX3_holds 107 = .ok (.lcmp, 1) := by decide +kernel
theorem dX3_holds_108 : decode cX3_holds 108 = .ok (.ifCond .le 7, 3) := by decide +kernel
theorem dX3_holds_111 : decode cX3_holds 111 = .ok (.iconst 1, 1) := by decide +kernel
theorem dX3_holds_112 : decode cX3_holds 112 = .ok (.goto 4, 3) := by decide +kernel
theorem dX3_holds_115 : decode cX3_holds 115 = .ok (.iconst 0, 1) := by decide +kernel
theorem dX3_holds_116 : decode cX3_holds 116 = .ok (.ireturn, 1) := by decide +kernel
theorem dX3_holds_117 : decode cX3_holds 117 = .ok (.lload_n 2, 1) := by decide +kernel
theorem dX3_holds_118 : decode cX3_holds 118 = .ok (.lload 4, 2) := by decide +kernel
theorem dX3_holds_120 : decode cX3_holds 120 = .ok (.lcmp, 1) := by decide +kernel
theorem dX3_holds_121 : decode cX3_holds 121 = .ok (.ifCond .eq 7, 3) := by decide +kernel
theorem dX3_holds_124 : decode cX3_holds 124 = .ok (.iconst 1, 1) := by decide +kernel
theorem dX3_holds_125 : decode cX3_holds 125 = .ok (.goto 4, 3) := by decide +kernel
theorem dX3_holds_128 : decode cX3_holds 128 = .ok (.iconst 0, 1) := by decide +kernel
theorem dX3_holds_129 : decode cX3_holds 129 = .ok (.ireturn, 1) := by decide +kernel
theorem dX3_holds_130 : decode cX3_holds 130 = .ok (.lload_n 2, 1) := by decide +kernel
theorem dX3_holds_131 : decode cX3_holds 131 = .ok (.lconst 0, 1) := by decide +kernel
theorem dX3_holds_132 : decode cX3_holds 132 = .ok (.lcmp, 1) := by decide +kernel
theorem dX3_holds_133 : decode cX3_holds 133 = .ok (.ifCond .eq 14, 3) := by decide +kernel
theorem dX3_holds_136 : decode cX3_holds 136 = .ok (.lload 4, 2) := by decide +kernel
theorem dX3_holds_138 : decode cX3_holds 138 = .ok (.lconst 0, 1) := by decide +kernel
theorem dX3_holds_139 : decode cX3_holds 139 = .ok (.lcmp, 1) := by decide +kernel
theorem dX3_holds_140 : decode cX3_holds 140 = .ok (.ifCond .eq 7, 3) := by decide +kernel
theorem dX3_holds_143 : decode cX3_holds 143 = .ok (.iconst 1, 1) := by decide +kernel
theorem dX3_holds_144 : decode cX3_holds 144 = .ok (.goto 4, 3) := by decide +kernel
theorem dX3_holds_147 : decode cX3_holds 147 = .ok (.iconst 0, 1) := by decide +kernel
theorem dX3_holds_148 : decode cX3_holds 148 = .ok (.ireturn, 1) := by decide +kernel
theorem dX3_holds_149 : decode cX3_holds 149 = .ok (.lload_n 2, 1) := by decide +kernel
theorem dX3_holds_150 : decode cX3_holds 150 = .ok (.lconst 0, 1) := by decide +kernel
theorem dX3_holds_151 : decode cX3_holds 151 = .ok (.lcmp, 1) := by decide +kernel
theorem dX3_holds_152 : decode cX3_holds 152 = .ok (.ifCond .ne 10, 3) := by decide +kernel
theorem dX3_holds_155 : decode cX3_holds 155 = .ok (.lload 4, 2) := by decide +kernel
theorem dX3_holds_157 : decode cX3_holds 157 = .ok (.lconst 0, 1) := by decide +kernel
theorem dX3_holds_158 : decode cX3_holds 158 = .ok (.lcmp, 1) := by decide +kernel
theorem dX3_holds_159 : decode cX3_holds 159 = .ok (.ifCond .eq 7, 3) := by decide +kernel
theorem dX3_holds_162 : decode cX3_holds 162 = .ok (.iconst 1, 1) := by decide +kernel
theorem dX3_holds_163 : decode cX3_holds 163 = .ok (.goto 4, 3) := by decide +kernel
theorem dX3_holds_166 : decode cX3_holds 166 = .ok (.iconst 0, 1) := by decide +kernel
theorem dX3_holds_167 : decode cX3_holds 167 = .ok (.ireturn, 1) := by decide +kernel
theorem dX3_holds_168 : decode cX3_holds 168 = .ok (.lload_n 2, 1) := by decide +kernel
theorem dX3_holds_169 : decode cX3_holds 169 = .ok (.lconst 0, 1) := by decide +kernel
theorem dX3_holds_170 : decode cX3_holds 170 = .ok (.lcmp, 1) := by decide +kernel
theorem dX3_holds_171 : decode cX3_holds 171 = .ok (.ifCond .eq 10, 3) := by decide +kernel
theorem dX3_holds_174 : decode cX3_holds 174 = .ok (.lload 4, 2) := by decide +kernel
theorem dX3_holds_176 : decode cX3_holds 176 = .ok (.lconst 0, 1) := by decide +kernel
theorem dX3_holds_177 : decode cX3_holds 177 = .ok (.lcmp, 1) := by decide +kernel
theorem dX3_holds_178 : decode cX3_holds 178 = .ok (.ifCond .eq 7, 3) := by decide +kernel
theorem dX3_holds_181 : decode cX3_holds 181 = .ok (.iconst 1, 1) := by decide +kernel
theorem dX3_holds_182 : decode cX3_holds 182 = .ok (.goto 4, 3) := by decide +kernel
theorem dX3_holds_185 : decode cX3_holds 185 = .ok (.iconst 0, 1) := by decide +kernel
theorem dX3_holds_186 : decode cX3_holds 186 = .ok (.ireturn, 1) := by decide +kernel
theorem dX3_holds_187 : decode cX3_holds 187 = .ok (.aload_n 0, 1) := by decide +kernel
theorem dX3_holds_188 : decode cX3_holds 188 = .ok (.invokevirtual 102, 3) := by decide +kernel
theorem dX3_holds_191 : decode cX3_holds 191 = .ok (.iconst 0, 1) := by decide +kernel
theorem dX3_holds_192 : decode cX3_holds 192 = .ok (.ireturn, 1) := by decide +kernel
def fX3_holds (a1 : Int32) (a2 : Int64) (a4 : Int64) (w : Wd) : Bool × Wd :=
  if a1 = 7 then (if a4 ≤ a2 then ((false, w)) else ((true, w))) else if a1 = 8 then (if a4 < a2 then ((false, w)) else ((true, w))) else if a1 = 9 then (if a2 = a4 then ((true, w)) else ((false, w))) else if a1 = 10 then (if a2 < a4 then ((false, w)) else ((true, w))) else if a1 = 11 then (if a2 ≤ a4 then ((false, w)) else ((true, w))) else if a1 = 12 then (if a2 = a4 then ((false, w)) else ((true, w))) else if a1 = 13 then (if a2 = 0 then ((false, w)) else (if a4 = 0 then ((false, w)) else ((true, w)))) else if a1 = 14 then (if a2 = 0 then (if a4 = 0 then ((false, w)) else ((true, w))) else ((true, w))) else if a1 = 15 then (if a2 = 0 then ((true, w)) else (if a4 = 0 then ((false, w)) else ((true, w)))) else (lt (fX3_oddity w) fun w22 => (false, w22))
set_option maxHeartbeats 16000000 in
theorem pX3_holds {q : Gq} {l : Launch} {N : Option Value → Wd → Prop} {X : String → Wd → Prop} {w : Wd} {R : Bool × Wd} (hN : N (some (.int (b2i R.1))) R.2) {a1 : Int32} {a2 : Int64} {a4 : Int64} (h : fX3_holds a1 a2 a4 w = R) : RT (GA q) l 4 yX3_holds cX3_holds 6 ((some .boolean)) N X 0 [] [(0, .ref 48), (1, .int a1), (2, .long a2), (4, .long a4)] w := by
  unfold fX3_holds at h
  refine r_iload_n (pc := 0) dX3_holds_0 rfl 1 rfl ?_
  by_cases hc1 : a1 = 7
  · refine r_tabC (pc := 1) (off := 51) (tgt := 52) (L := [7]) dX3_holds_1 hc1 (by decide) rfl ?_
    replace h := if_t hc1 h
    refine r_lload_n (pc := 52) dX3_holds_52 rfl 2 rfl ?_
    refine r_lload (pc := 53) dX3_holds_53 3 rfl ?_
    refine r_l_ge (pc := 55) dX3_holds_55 dX3_holds_56 rfl (fun hc2 => ?_) (fun hc2 => ?_)
    · replace h := if_t hc2 h
      refine r_iconst (pc := 63) dX3_holds_63 ki_0 ?_
      exact rS_z (pc := 64) (x := false) rfl dX3_holds_64 h hN
    replace h := if_f hc2 h
    refine r_iconst (pc := 59) dX3_holds_59 ki_1 ?_
    refine r_goto (pc := 60) dX3_holds_60 rfl ?_
    exact rS_z (pc := 64) (x := true) rfl dX3_holds_64 h hN
  replace h := if_f hc1 h
  by_cases hc3 : a1 = 8
  · refine r_tabC (pc := 1) (off := 64) (tgt := 65) (L := [8]) dX3_holds_1 hc3 (by decide) rfl ?_
    replace h := if_t hc3 h
    refine r_lload_n (pc := 65) dX3_holds_65 rfl 2 rfl ?_
    refine r_lload (pc := 66) dX3_holds_66 3 rfl ?_
    refine r_l_gt (pc := 68) dX3_holds_68 dX3_holds_69 rfl (fun hc4 => ?_) (fun hc4 => ?_)
    · replace h := if_t hc4 h
      refine r_iconst (pc := 76) dX3_holds_76 ki_0 ?_
      exact rS_z (pc := 77) (x := false) rfl dX3_holds_77 h hN
    replace h := if_f hc4 h
    refine r_iconst (pc := 72) dX3_holds_72 ki_1 ?_
    refine r_goto (pc := 73) dX3_holds_73 rfl ?_
    exact rS_z (pc := 77) (x := true) rfl dX3_holds_77 h hN
  replace h := if_f hc3 h
  by_cases hc5 : a1 = 9
  · refine r_tabC (pc := 1) (off := 77) (tgt := 78) (L := [9]) dX3_holds_1 hc5 (by decide) rfl ?_
    replace h := if_t hc5 h
    refine r_lload_n (pc := 78) dX3_holds_78 rfl 2 rfl ?_
    refine r_lload (pc := 79) dX3_holds_79 3 rfl ?_
    refine r_l_ne (pc := 81) dX3_holds_81 dX3_holds_82 rfl (fun hc6 => ?_) (fun hc6 => ?_)
    · replace h := if_f hc6 h
      refine r_iconst (pc := 89) dX3_holds_89 ki_0 ?_
      exact rS_z (pc := 90) (x := false) rfl dX3_holds_90 h hN
    replace h := if_t hc6 h
    refine r_iconst (pc := 85) dX3_holds_85 ki_1 ?_
    refine r_goto (pc := 86) dX3_holds_86 rfl ?_
    exact rS_z (pc := 90) (x := true) rfl dX3_holds_90 h hN
  replace h := if_f hc5 h
  by_cases hc7 : a1 = 10
  · refine r_tabC (pc := 1) (off := 90) (tgt := 91) (L := [10]) dX3_holds_1 hc7 (by decide) rfl ?_
    replace h := if_t hc7 h
    refine r_lload_n (pc := 91) dX3_holds_91 rfl 2 rfl ?_
    refine r_lload (pc := 92) dX3_holds_92 3 rfl ?_
    refine r_l_lt (pc := 94) dX3_holds_94 dX3_holds_95 rfl (fun hc8 => ?_) (fun hc8 => ?_)
    · replace h := if_t hc8 h
      refine r_iconst (pc := 102) dX3_holds_102 ki_0 ?_
      exact rS_z (pc := 103) (x := false) rfl dX3_holds_103 h hN
    replace h := if_f hc8 h
    refine r_iconst (pc := 98) dX3_holds_98 ki_1 ?_
    refine r_goto (pc := 99) dX3_holds_99 rfl ?_
    exact rS_z (pc := 103) (x := true) rfl dX3_holds_103 h hN
  replace h := if_f hc7 h
  by_cases hc9 : a1 = 11
  · refine r_tabC (pc := 1) (off := 103) (tgt := 104) (L := [11]) dX3_holds_1 hc9 (by decide) rfl ?_
    replace h := if_t hc9 h
    refine r_lload_n (pc := 104) dX3_holds_104 rfl 2 rfl ?_
    refine r_lload (pc := 105) dX3_holds_105 3 rfl ?_
    refine r_l_le (pc := 107) dX3_holds_107 dX3_holds_108 rfl (fun hc10 => ?_) (fun hc10 => ?_)
    · replace h := if_t hc10 h
      refine r_iconst (pc := 115) dX3_holds_115 ki_0 ?_
      exact rS_z (pc := 116) (x := false) rfl dX3_holds_116 h hN
    replace h := if_f hc10 h
    refine r_iconst (pc := 111) dX3_holds_111 ki_1 ?_
    refine r_goto (pc := 112) dX3_holds_112 rfl ?_
    exact rS_z (pc := 116) (x := true) rfl dX3_holds_116 h hN
  replace h := if_f hc9 h
  by_cases hc11 : a1 = 12
  · refine r_tabC (pc := 1) (off := 116) (tgt := 117) (L := [12]) dX3_holds_1 hc11 (by decide) rfl ?_
    replace h := if_t hc11 h
    refine r_lload_n (pc := 117) dX3_holds_117 rfl 2 rfl ?_
    refine r_lload (pc := 118) dX3_holds_118 3 rfl ?_
    refine r_l_eq (pc := 120) dX3_holds_120 dX3_holds_121 rfl (fun hc12 => ?_) (fun hc12 => ?_)
    · replace h := if_t hc12 h
      refine r_iconst (pc := 128) dX3_holds_128 ki_0 ?_
      exact rS_z (pc := 129) (x := false) rfl dX3_holds_129 h hN
    replace h := if_f hc12 h
    refine r_iconst (pc := 124) dX3_holds_124 ki_1 ?_
    refine r_goto (pc := 125) dX3_holds_125 rfl ?_
    exact rS_z (pc := 129) (x := true) rfl dX3_holds_129 h hN
  replace h := if_f hc11 h
  by_cases hc13 : a1 = 13
  · refine r_tabC (pc := 1) (off := 129) (tgt := 130) (L := [13]) dX3_holds_1 hc13 (by decide) rfl ?_
    replace h := if_t hc13 h
    refine r_lload_n (pc := 130) dX3_holds_130 rfl 2 rfl ?_
    refine r_lconst (pc := 131) dX3_holds_131 kl_0 ?_
    refine r_l_eq (pc := 132) dX3_holds_132 dX3_holds_133 rfl (fun hc14 => ?_) (fun hc14 => ?_)
    · replace h := if_t hc14 h
      refine r_iconst (pc := 147) dX3_holds_147 ki_0 ?_
      exact rS_z (pc := 148) (x := false) rfl dX3_holds_148 h hN
    replace h := if_f hc14 h
    refine r_lload (pc := 136) dX3_holds_136 3 rfl ?_
    refine r_lconst (pc := 138) dX3_holds_138 kl_0 ?_
    refine r_l_eq (pc := 139) dX3_holds_139 dX3_holds_140 rfl (fun hc15 => ?_) (fun hc15 => ?_)
    · replace h := if_t hc15 h
      refine r_iconst (pc := 147) dX3_holds_147 ki_0 ?_
      exact rS_z (pc := 148) (x := false) rfl dX3_holds_148 h hN
    replace h := if_f hc15 h
    refine r_iconst (pc := 143) dX3_holds_143 ki_1 ?_
    refine r_goto (pc := 144) dX3_holds_144 rfl ?_
    exact rS_z (pc := 148) (x := true) rfl dX3_holds_148 h hN
  replace h := if_f hc13 h
  by_cases hc16 : a1 = 14
  · refine r_tabC (pc := 1) (off := 148) (tgt := 149) (L := [14]) dX3_holds_1 hc16 (by decide) rfl ?_
    replace h := if_t hc16 h
    refine r_lload_n (pc := 149) dX3_holds_149 rfl 2 rfl ?_
    refine r_lconst (pc := 150) dX3_holds_150 kl_0 ?_
    refine r_l_ne (pc := 151) dX3_holds_151 dX3_holds_152 rfl (fun hc17 => ?_) (fun hc17 => ?_)
    · replace h := if_f hc17 h
      refine r_iconst (pc := 162) dX3_holds_162 ki_1 ?_
      refine r_goto (pc := 163) dX3_holds_163 rfl ?_
      exact rS_z (pc := 167) (x := true) rfl dX3_holds_167 h hN
    replace h := if_t hc17 h
    refine r_lload (pc := 155) dX3_holds_155 3 rfl ?_
    refine r_lconst (pc := 157) dX3_holds_157 kl_0 ?_
    refine r_l_eq (pc := 158) dX3_holds_158 dX3_holds_159 rfl (fun hc18 => ?_) (fun hc18 => ?_)
    · replace h := if_t hc18 h
      refine r_iconst (pc := 166) dX3_holds_166 ki_0 ?_
      exact rS_z (pc := 167) (x := false) rfl dX3_holds_167 h hN
    replace h := if_f hc18 h
    refine r_iconst (pc := 162) dX3_holds_162 ki_1 ?_
    refine r_goto (pc := 163) dX3_holds_163 rfl ?_
    exact rS_z (pc := 167) (x := true) rfl dX3_holds_167 h hN
  replace h := if_f hc16 h
  by_cases hc19 : a1 = 15
  · refine r_tabC (pc := 1) (off := 167) (tgt := 168) (L := [15]) dX3_holds_1 hc19 (by decide) rfl ?_
    replace h := if_t hc19 h
    refine r_lload_n (pc := 168) dX3_holds_168 rfl 2 rfl ?_
    refine r_lconst (pc := 169) dX3_holds_169 kl_0 ?_
    refine r_l_eq (pc := 170) dX3_holds_170 dX3_holds_171 rfl (fun hc20 => ?_) (fun hc20 => ?_)
    · replace h := if_t hc20 h
      refine r_iconst (pc := 181) dX3_holds_181 ki_1 ?_
      refine r_goto (pc := 182) dX3_holds_182 rfl ?_
      exact rS_z (pc := 186) (x := true) rfl dX3_holds_186 h hN
    replace h := if_f hc20 h
    refine r_lload (pc := 174) dX3_holds_174 3 rfl ?_
    refine r_lconst (pc := 176) dX3_holds_176 kl_0 ?_
    refine r_l_eq (pc := 177) dX3_holds_177 dX3_holds_178 rfl (fun hc21 => ?_) (fun hc21 => ?_)
    · replace h := if_t hc21 h
      refine r_iconst (pc := 185) dX3_holds_185 ki_0 ?_
      exact rS_z (pc := 186) (x := false) rfl dX3_holds_186 h hN
    replace h := if_f hc21 h
    refine r_iconst (pc := 181) dX3_holds_181 ki_1 ?_
    refine r_goto (pc := 182) dX3_holds_182 rfl ?_
    exact rS_z (pc := 186) (x := true) rfl dX3_holds_186 h hN
  replace h := if_f hc19 h
  refine r_tabD (pc := 1) (tgt := 187) (K := [[7], [8], [9], [10], [11], [12], [13], [14], [15]]) dX3_holds_1 ⟨hc1, hc3, hc5, hc7, hc9, hc11, hc13, hc16, hc19, trivial⟩ (by decide) (by decide) rfl ?_
  refine r_aload_n (pc := 187) dX3_holds_187 rfl 0 rfl ?_
  replace h := lt_e h; obtain ⟨w22, ew22, h⟩ := h
  refine r_cVv (pc := 188) wyX3_oddity oA48 rfl mlRX3_102 iyX3_oddity syX3_oddity ⟨(Nat.le_of_ble_eq_true rfl), (Nat.le_of_ble_eq_true rfl)⟩ rfl rfl (Nat.le_of_ble_eq_true rfl) dX3_holds_188 (mX3_oddity ew22 (pV.mk ?_))
  refine r_iconst (pc := 191) dX3_holds_191 ki_0 ?_
  exact rS_z (pc := 192) (x := false) rfl dX3_holds_192 h hN
theorem mX3_holds {q : Gq} {l : Launch} {N : Option Value → Wd → Prop} {X : String → Wd → Prop} {a1 : Int32} {a2 : Int64} {a4 : Int64} {w : Wd} {x : Bool} {u : Wd} (h : fX3_holds a1 a2 a4 w = (x, u)) (hN : N (some (.int (b2i x))) u) : Ct (GA q) l 4 yX3_holds cX3_holds 6 ((some .boolean)) [.ref 48, .int a1, .long a2, .long a4] w N X := Ct.of (by decide) (Nat.le_of_ble_eq_true rfl) (pX3_holds hN h)
/-! AlgolMill$Machine.raise (JJ)V: O, 5 -/
theorem dX3_raise_0 : decode cX3_raise 0 = .ok (.lload_n 3, 1) := by decide +kernel
theorem dX3_raise_1 : decode cX3_raise 1 = .ok (.lconst 0, 1) := by decide +kernel
theorem dX3_raise_2 : decode cX3_raise 2 = .ok (.lcmp, 1) := by decide +kernel
theorem dX3_raise_3 : decode cX3_raise 3 = .ok (.ifCond .ge 9, 3) := by decide +kernel
theorem dX3_raise_6 : decode cX3_raise 6 = .ok (.aload_n 0, 1) := by decide +kernel
theorem dX3_raise_7 : decode cX3_raise 7 = .ok (.iconst 2, 1) := by decide +kernel
theorem dX3_raise_8 : decode cX3_raise 8 = .ok (.invokevirtual 199, 3) := by decide +kernel
theorem dX3_raise_11 : decode cX3_raise 11 = .ok (.return_, 1) := by decide +kernel
theorem dX3_raise_12 : decode cX3_raise 12 = .ok (.lconst 1, 1) := by decide +kernel
theorem dX3_raise_13 : decode cX3_raise 13 = .ok (.lstore 5, 2) := by decide +kernel
theorem dX3_raise_15 : decode cX3_raise 15 = .ok (.lload_n 1, 1) := by decide +kernel
theorem dX3_raise_16 : decode cX3_raise 16 = .ok (.lstore 7, 2) := by decide +kernel
theorem dX3_raise_18 : decode cX3_raise 18 = .ok (.iconst 0, 1) := by decide +kernel
theorem dX3_raise_19 : decode cX3_raise 19 = .ok (.istore 9, 2) := by decide +kernel
theorem dX3_raise_21 : decode cX3_raise 21 = .ok (.iload 9, 2) := by decide +kernel
theorem dX3_raise_23 : decode cX3_raise 23 = .ok (.bipush 36, 2) := by decide +kernel
theorem dX3_raise_25 : decode cX3_raise 25 = .ok (.if_icmp .ge 40, 3) := by decide +kernel
theorem dX3_raise_28 : decode cX3_raise 28 = .ok (.lload_n 3, 1) := by decide +kernel
theorem dX3_raise_29 : decode cX3_raise 29 = .ok (.iload 9, 2) := by decide +kernel
theorem dX3_raise_31 : decode cX3_raise 31 = .ok (.lshr, 1) := by decide +kernel
theorem dX3_raise_32 : decode cX3_raise 32 = .ok (.lconst 1, 1) := by decide +kernel
theorem dX3_raise_33 : decode cX3_raise 33 = .ok (.land, 1) := by decide +kernel
theorem dX3_raise_34 : decode cX3_raise 34 = .ok (.lconst 0, 1) := by decide +kernel
theorem dX3_raise_35 : decode cX3_raise 35 = .ok (.lcmp, 1) := by decide +kernel
theorem dX3_raise_36 : decode cX3_raise 36 = .ok (.ifCond .eq 13, 3) := by decide +kernel
theorem dX3_raise_39 : decode cX3_raise 39 = .ok (.lload 5, 2) := by decide +kernel
theorem dX3_raise_41 : decode cX3_raise 41 = .ok (.lload 7, 2) := by decide +kernel
theorem dX3_raise_43 : decode cX3_raise 43 = .ok (.lmul, 1) := by decide +kernel
theorem dX3_raise_44 : decode cX3_raise 44 = .ok (.invokestatic 181, 3) := by decide +kernel
theorem dX3_raise_47 : decode cX3_raise 47 = .ok (.lstore 5, 2) := by decide +kernel
theorem dX3_raise_49 : decode cX3_raise 49 = .ok (.lload 7, 2) := by decide +kernel
theorem dX3_raise_51 : decode cX3_raise 51 = .ok (.lload 7, 2) := by decide +kernel
theorem dX3_raise_53 : decode cX3_raise 53 = .ok (.lmul, 1) := by decide +kernel
theorem dX3_raise_54 : decode cX3_raise 54 = .ok (.invokestatic 181, 3) := by decide +kernel
theorem dX3_raise_57 : decode cX3_raise 57 = .ok (.lstore 7, 2) := by decide +kernel
theorem dX3_raise_59 : decode cX3_raise 59 = .ok (.iinc 9 1, 3) := by decide +kernel
theorem dX3_raise_62 : decode cX3_raise 62 = .ok (.goto (-41), 3) := by decide +kernel
theorem dX3_raise_65 : decode cX3_raise 65 = .ok (.aload_n 0, 1) := by decide +kernel
theorem dX3_raise_66 : decode cX3_raise 66 = .ok (.lload 5, 2) := by decide +kernel
theorem dX3_raise_68 : decode cX3_raise 68 = .ok (.invokevirtual 184, 3) := by decide +kernel
theorem dX3_raise_71 : decode cX3_raise 71 = .ok (.return_, 1) := by decide +kernel
def fX3_raise_21 (k_21 : Int64 → Int64 → Int64 → Int32 → Wd → Option Wd) (a3 : Int64) (a5 : Int64) (a7 : Int64) (a9 : Int32) (w : Wd) : Option Wd :=
  if 36 ≤ a9 then (lt (fX3_push a5 w) fun w2 => some w2) else (if ((a3 >>> (Int32.toInt64 a9 &&& 63)) &&& 1) = 0 then (lt (fX3_wrap (a7 * a7) w) fun x4 => lt (a9 + 1) fun x5 => k_21 a3 a5 x4 x5 w) else (lt (fX3_wrap (a5 * a7) w) fun x6 => lt (fX3_wrap (a7 * a7) w) fun x7 => lt (a9 + 1) fun x8 => k_21 a3 x6 x7 x8 w))
theorem pX3_raise_21 {q : Gq} {l : Launch} {N : Option Value → Wd → Prop} {X : String → Wd → Prop} {w : Wd} {R : Wd} (hN : N none R) {k_21 : Int64 → Int64 → Int64 → Int32 → Wd → Option Wd} (hk_21 : ∀ (a3 : Int64) (a5 : Int64) (a7 : Int64) (a9 : Int32) (w : Wd), k_21 a3 a5 a7 a9 w = some R → RT (GA q) l 5 yX3_raise cX3_raise 10 (none) N X 21 [] [(0, .ref 48), (3, .long a3), (5, .long a5), (7, .long a7), (9, .int a9)] w) {a3 : Int64} {a5 : Int64} {a7 : Int64} {a9 : Int32} (h : fX3_raise_21 k_21 a3 a5 a7 a9 w = some R) : RT (GA q) l 5 yX3_raise cX3_raise 10 (none) N X 21 [] [(0, .ref 48), (3, .long a3), (5, .long a5), (7, .long a7), (9, .int a9)] w := by
  unfold fX3_raise_21 at h
  refine r_iload (pc := 21) dX3_raise_21 4 rfl ?_
  refine r_bipush (pc := 23) dX3_raise_23 kb_36 ?_
  refine r_icmp_ge (pc := 25) dX3_raise_25 rfl (fun hc1 => ?_) (fun hc1 => ?_)
  · replace h := if_t hc1 h
    refine r_aload_n (pc := 65) dX3_raise_65 rfl 0 rfl ?_
    refine r_lload (pc := 66) dX3_raise_66 2 rfl ?_
    replace h := lt_e h; obtain ⟨w2, ew2, h⟩ := h
    refine r_cVv (pc := 68) wyX3_push oA48 rfl mlRX3_184 iyX3_push syX3_push ⟨(Nat.le_of_ble_eq_true rfl), (Nat.le_of_ble_eq_true rfl)⟩ rfl rfl (Nat.le_of_ble_eq_true rfl) dX3_raise_68 (mX3_push ew2 (pV.mk ?_))
    exact rO_v (pc := 71) rfl dX3_raise_71 h hN
  replace h := if_f hc1 h
  refine r_lload_n (pc := 28) dX3_raise_28 rfl 1 rfl ?_
  refine r_iload (pc := 29) dX3_raise_29 4 rfl ?_
  refine r_lshr (pc := 31) dX3_raise_31 ?_
  refine r_lconst (pc := 32) dX3_raise_32 kl_1 ?_
  refine r_land (pc := 33) dX3_raise_33 ?_
  refine r_lconst (pc := 34) dX3_raise_34 kl_0 ?_
  refine r_l_eq (pc := 35) dX3_raise_35 dX3_raise_36 rfl (fun hc3 => ?_) (fun hc3 => ?_)
  · replace h := if_t hc3 h
    refine r_lload (pc := 49) dX3_raise_49 3 rfl ?_
    refine r_lload (pc := 51) dX3_raise_51 3 rfl ?_
    refine r_lmul (pc := 53) dX3_raise_53 ?_
    replace h := lt_e h; obtain ⟨x4, ex4, h⟩ := h
    refine r_cSl (pc := 54) wyX3_wrap mlRX3_181 tyX3_wrap ⟨(Nat.le_of_ble_eq_true rfl), (Nat.le_of_ble_eq_true rfl)⟩ rfl rfl (Nat.le_of_ble_eq_true rfl) dX3_raise_54 (mX3_wrap ex4 (pL.mk ?_))
    refine r_lstore (pc := 57) (loc' := [(7, .long x4), (0, .ref 48), (3, .long a3), (5, .long a5), (9, .int a9)]) dX3_raise_57 (Nat.le_of_ble_eq_true rfl) rfl ?_
    replace h := lt_e h; obtain ⟨x5, ex5, h⟩ := h
    refine r_inc (pc := 59) (loc' := [(9, .int x5), (7, .long x4), (0, .ref 48), (3, .long a3), (5, .long a5)]) dX3_raise_59 ki_1 ex5 4 rfl (Nat.le_of_ble_eq_true rfl) rfl ?_
    refine r_goto (pc := 62) dX3_raise_62 rfl ?_
    refine r_drop (loc' := [(0, .ref 48), (3, .long a3), (5, .long a5), (7, .long x4), (9, .int x5)]) [2, 3, 4, 1, 0] rfl ?_
    exact hk_21 a3 a5 x4 x5 w h
  replace h := if_f hc3 h
  refine r_lload (pc := 39) dX3_raise_39 2 rfl ?_
  refine r_lload (pc := 41) dX3_raise_41 3 rfl ?_
  refine r_lmul (pc := 43) dX3_raise_43 ?_
  replace h := lt_e h; obtain ⟨x6, ex6, h⟩ := h
  refine r_cSl (pc := 44) wyX3_wrap mlRX3_181 tyX3_wrap ⟨(Nat.le_of_ble_eq_true rfl), (Nat.le_of_ble_eq_true rfl)⟩ rfl rfl (Nat.le_of_ble_eq_true rfl) dX3_raise_44 (mX3_wrap ex6 (pL.mk ?_))
  refine r_lstore (pc := 47) (loc' := [(5, .long x6), (0, .ref 48), (3, .long a3), (7, .long a7), (9, .int a9)]) dX3_raise_47 (Nat.le_of_ble_eq_true rfl) rfl ?_
  refine r_lload (pc := 49) dX3_raise_49 3 rfl ?_
  refine r_lload (pc := 51) dX3_raise_51 3 rfl ?_
  refine r_lmul (pc := 53) dX3_raise_53 ?_
  replace h := lt_e h; obtain ⟨x7, ex7, h⟩ := h
  refine r_cSl (pc := 54) wyX3_wrap mlRX3_181 tyX3_wrap ⟨(Nat.le_of_ble_eq_true rfl), (Nat.le_of_ble_eq_true rfl)⟩ rfl rfl (Nat.le_of_ble_eq_true rfl) dX3_raise_54 (mX3_wrap ex7 (pL.mk ?_))
  refine r_lstore (pc := 57) (loc' := [(7, .long x7), (5, .long x6), (0, .ref 48), (3, .long a3), (9, .int a9)]) dX3_raise_57 (Nat.le_of_ble_eq_true rfl) rfl ?_
  replace h := lt_e h; obtain ⟨x8, ex8, h⟩ := h
  refine r_inc (pc := 59) (loc' := [(9, .int x8), (7, .long x7), (5, .long x6), (0, .ref 48), (3, .long a3)]) dX3_raise_59 ki_1 ex8 4 rfl (Nat.le_of_ble_eq_true rfl) rfl ?_
  refine r_goto (pc := 62) dX3_raise_62 rfl ?_
  refine r_drop (loc' := [(0, .ref 48), (3, .long a3), (5, .long x6), (7, .long x7), (9, .int x8)]) [3, 4, 2, 1, 0] rfl ?_
  exact hk_21 a3 x6 x7 x8 w h
def oX3_raise_21 : Nat → Int64 → Int64 → Int64 → Int32 → Wd → Option Wd
  | 0 => fun _ _ _ _ _ => none
  | n + 1 => fX3_raise_21 (oX3_raise_21 n)
theorem qX3_raise_21 {q : Gq} {l : Launch} {N : Option Value → Wd → Prop} {X : String → Wd → Prop} {R : Wd} (hN : N none R) : ∀ (n : Nat) (a3 : Int64) (a5 : Int64) (a7 : Int64) (a9 : Int32) (w : Wd), oX3_raise_21 n a3 a5 a7 a9 w = some R → RT (GA q) l 5 yX3_raise cX3_raise 10 (none) N X 21 [] [(0, .ref 48), (3, .long a3), (5, .long a5), (7, .long a7), (9, .int a9)] w := by
  intro n
  induction n with
  | zero =>
    intro a3 a5 a7 a9 w h
    exact absurd h (fun q => nomatch q)
  | succ n ih =>
    intro a3 a5 a7 a9 w h
    exact pX3_raise_21 hN ih h
def fX3_raise (a1 : Int64) (a3 : Int64) (w : Wd) : Option Wd :=
  if 0 ≤ a3 then (oX3_raise_21 FU a3 1 a1 0 w) else (lt (fX3_error 2 w) fun w2 => some w2)
theorem pX3_raise {q : Gq} {l : Launch} {N : Option Value → Wd → Prop} {X : String → Wd → Prop} {w : Wd} {R : Wd} (hN : N none R) {a1 : Int64} {a3 : Int64} (h : fX3_raise a1 a3 w = some R) : RT (GA q) l 5 yX3_raise cX3_raise 10 (none) N X 0 [] [(0, .ref 48), (1, .long a1), (3, .long a3)] w := by
  unfold fX3_raise at h
  refine r_lload_n (pc := 0) dX3_raise_0 rfl 2 rfl ?_
  refine r_lconst (pc := 1) dX3_raise_1 kl_0 ?_
  refine r_l_ge (pc := 2) dX3_raise_2 dX3_raise_3 rfl (fun hc1 => ?_) (fun hc1 => ?_)
  · replace h := if_t hc1 h
    refine r_lconst (pc := 12) dX3_raise_12 kl_1 ?_
    refine r_lstore (pc := 13) (loc' := [(5, .long 1), (0, .ref 48), (1, .long a1), (3, .long a3)]) dX3_raise_13 (Nat.le_of_ble_eq_true rfl) rfl ?_
    refine r_lload_n (pc := 15) dX3_raise_15 rfl 2 rfl ?_
    refine r_lstore (pc := 16) (loc' := [(7, .long a1), (5, .long 1), (0, .ref 48), (1, .long a1), (3, .long a3)]) dX3_raise_16 (Nat.le_of_ble_eq_true rfl) rfl ?_
    refine r_iconst (pc := 18) dX3_raise_18 ki_0 ?_
    refine r_istore (pc := 19) (loc' := [(9, .int 0), (7, .long a1), (5, .long 1), (0, .ref 48), (1, .long a1), (3, .long a3)]) dX3_raise_19 (Nat.le_of_ble_eq_true rfl) rfl ?_
    refine r_drop (loc' := [(0, .ref 48), (3, .long a3), (5, .long 1), (7, .long a1), (9, .int 0)]) [3, 5, 2, 1, 0] rfl ?_
    exact qX3_raise_21 hN FU a3 1 a1 0 w h
  replace h := if_f hc1 h
  refine r_aload_n (pc := 6) dX3_raise_6 rfl 0 rfl ?_
  refine r_iconst (pc := 7) dX3_raise_7 ki_2 ?_
  replace h := lt_e h; obtain ⟨w2, ew2, h⟩ := h
  refine r_cVv (pc := 8) wyX3_error oA48 rfl mlRX3_199 iyX3_error syX3_error ⟨(Nat.le_of_ble_eq_true rfl), (Nat.le_of_ble_eq_true rfl)⟩ rfl rfl (Nat.le_of_ble_eq_true rfl) dX3_raise_8 (mX3_error ew2 (pV.mk ?_))
  exact rO_v (pc := 11) rfl dX3_raise_11 h hN
theorem mX3_raise {q : Gq} {l : Launch} {N : Option Value → Wd → Prop} {X : String → Wd → Prop} {a1 : Int64} {a3 : Int64} {w : Wd} {u : Wd} (h : fX3_raise a1 a3 w = some u) (hN : N none u) : Ct (GA q) l 5 yX3_raise cX3_raise 10 (none) [.ref 48, .long a1, .long a3] w N X := Ct.of (by decide) (Nat.le_of_ble_eq_true rfl) (pX3_raise hN h)
/-! AlgolMill$Machine.calculate (IJJ)V: O, 6 -/
theorem dX3_calculate_0 : decode cX3_calculate 0 = .ok (.iload_n 1, 1) := by decide +kernel
theorem dX3_calculate_1 : decode cX3_calculate 1 = .ok (.tableswitch 102 1 6 #[39, 53, 67, 81, 81, 92], 39) := by decide +kernel
theorem dX3_calculate_40 : decode cX3_calculate 40 = .ok (.aload_n 0, 1) := by decide +kernel
theorem dX3_calculate_41 : decode cX3_calculate 41 = .ok (.lload_n 2, 1) := by decide +kernel
theorem dX3_calculate_42 : decode cX3_calculate 42 = .ok (.lload 4, 2) := by decide +kernel
theorem dX3_calculate_44 : decode cX3_calculate 44 = .ok (.ladd, 1) := by decide +kernel
theorem dX3_calculate_45 : decode cX3_calculate 45 = .ok (.invokestatic 181, 3) := by decide +kernel
theorem dX3_calculate_48 : decode cX3_calculate 48 = .ok (.invokevirtual 184, 3) := by decide +kernel
theorem dX3_calculate_51 : decode cX3_calculate 51 = .ok (.goto 72, 3) := by decide +kernel
theorem dX3_calculate_54 : decode cX3_calculate 54 = .ok (.aload_n 0, 1) := by decide +kernel
theorem dX3_calculate_55 : decode cX3_calculate 55 = .ok (.lload_n 2, 1) := by decide +kernel
theorem dX3_calculate_56 : decode cX3_calculate 56 = .ok (.lload 4, 2) := by decide +kernel
theorem dX3_calculate_58 : decode cX3_calculate 58 = .ok (.lsub, 1) := by decide +kernel
theorem dX3_calculate_59 : decode cX3_calculate 59 = .ok (.invokestatic 181, 3) := by decide +kernel
theorem dX3_calculate_62 : decode cX3_calculate 62 = .ok (.invokevirtual 184, 3) := by decide +kernel
theorem dX3_calculate_65 : decode cX3_calculate 65 = .ok (.goto 58, 3) := by decide +kernel
theorem dX3_calculate_68 : decode cX3_calculate 68 = .ok (.aload_n 0, 1) := by decide +kernel
theorem dX3_calculate_69 : decode cX3_calculate 69 = .ok (.lload_n 2, 1) := by decide +kernel
theorem dX3_calculate_70 : decode cX3_calculate 70 = .ok (.lload 4, 2) := by decide +kernel
theorem dX3_calculate_72 : decode cX3_calculate 72 = .ok (.lmul, 1) := by decide +kernel
theorem dX3_calculate_73 : decode cX3_calculate 73 = .ok (.invokestatic 181, 3) := by decide +kernel
theorem dX3_calculate_76 : decode cX3_calculate 76 = .ok (.invokevirtual 184, 3) := by decide +kernel
theorem dX3_calculate_79 : decode cX3_calculate 79 = .ok (.goto 44, 3) := by decide +kernel
theorem dX3_calculate_82 : decode cX3_calculate 82 = .ok (.aload_n 0, 1) := by decide +kernel
theorem dX3_calculate_83 : decode cX3_calculate 83 = .ok (.iload_n 1, 1) := by decide +kernel
theorem dX3_calculate_84 : decode cX3_calculate 84 = .ok (.lload_n 2, 1) := by decide +kernel
theorem dX3_calculate_85 : decode cX3_calculate 85 = .ok (.lload 4, 2) := by decide +kernel
theorem dX3_calculate_87 : decode cX3_calculate 87 = .ok (.invokevirtual 188, 3) := by decide +kernel
theorem dX3_calculate_90 : decode cX3_calculate 90 = .ok (.goto 33, 3) := by decide +kernel
theorem dX3_calculate_93 : decode cX3_calculate 93 = .ok (.aload_n 0, 1) := by decide +kernel
theorem dX3_calculate_94 : decode cX3_calculate 94 = .ok (.lload_n 2, 1) := by decide +kernel
theorem dX3_calculate_95 : decode cX3_calculate 95 = .ok (.lload 4, 2) := by decide +kernel
theorem dX3_calculate_97 : decode cX3_calculate 97 = .ok (.invokevirtual 191, 3) := by decide +kernel
theorem dX3_calculate_100 : decode cX3_calculate 100 = .ok (.goto 23, 3) := by decide +kernel
theorem dX3_calculate_103 : decode cX3_calculate 103 = .ok (.aload_n 0, 1) := by decide +kernel
theorem dX3_calculate_104 : decode cX3_calculate 104 = .ok (.aload_n 0, 1) := by decide +kernel
theorem dX3_calculate_105 : decode cX3_calculate 105 = .ok (.iload_n 1, 1) := by decide +kernel
theorem dX3_calculate_106 : decode cX3_calculate 106 = .ok (.lload_n 2, 1) := by decide +kernel
theorem dX3_calculate_107 : decode cX3_calculate 107 = .ok (.lload 4, 2) := by decide +kernel
theorem dX3_calculate_109 : decode cX3_calculate 109 = .ok (.invokevirtual 195, 3) := by decide +kernel
theorem dX3_calculate_112 : decode cX3_calculate 112 = .ok (.ifCond .eq 7, 3) := by decide +kernel
theorem dX3_calculate_115 : decode cX3_calculate 115 = .ok (.lconst 1, 1) := by decide +kernel
theorem dX3_calculate_116 : decode cX3_calculate 116 = .ok (.goto 4, 3) := by decide +kernel
theorem dX3_calculate_119 : decode cX3_calculate 119 = .ok (.lconst 0, 1) := by decide +kernel
theorem dX3_calculate_120 : decode cX3_calculate 120 = .ok (.invokevirtual 184, 3) := by decide +kernel
theorem dX3_calculate_123 : decode cX3_calculate 123 = .ok (.return_, 1) := by decide +kernel
def fX3_calculate (a1 : Int32) (a2 : Int64) (a4 : Int64) (w : Wd) : Option Wd :=
  if a1 = 1 then (lt (fX3_wrap (a2 + a4) w) fun x2 => lt (fX3_push x2 w) fun w3 => some w3) else if a1 = 2 then (lt (fX3_wrap (a2 - a4) w) fun x5 => lt (fX3_push x5 w) fun w6 => some w6) else if a1 = 3 then (lt (fX3_wrap (a2 * a4) w) fun x8 => lt (fX3_push x8 w) fun w9 => some w9) else if a1 = 4 ∨ a1 = 5 then (lt (fX3_divide a1 a2 a4 w) fun w11 => some w11) else if a1 = 6 then (bn (fX3_raise a2 a4 w) fun w13 => some w13) else (lt2 (fX3_holds a1 a2 a4 w) fun x14 w15 => if x14 = true then (lt (fX3_push 1 w15) fun w17 => some w17) else (lt (fX3_push 0 w15) fun w18 => some w18))
theorem pX3_calculate {q : Gq} {l : Launch} {N : Option Value → Wd → Prop} {X : String → Wd → Prop} {w : Wd} {R : Wd} (hN : N none R) {a1 : Int32} {a2 : Int64} {a4 : Int64} (h : fX3_calculate a1 a2 a4 w = some R) : RT (GA q) l 6 yX3_calculate cX3_calculate 6 (none) N X 0 [] [(0, .ref 48), (1, .int a1), (2, .long a2), (4, .long a4)] w := by
  unfold fX3_calculate at h
  refine r_iload_n (pc := 0) dX3_calculate_0 rfl 1 rfl ?_
  by_cases hc1 : a1 = 1
  · refine r_tabC (pc := 1) (off := 39) (tgt := 40) (L := [1]) dX3_calculate_1 hc1 (by decide) rfl ?_
    replace h := if_t hc1 h
    refine r_aload_n (pc := 40) dX3_calculate_40 rfl 0 rfl ?_
    refine r_lload_n (pc := 41) dX3_calculate_41 rfl 2 rfl ?_
    refine r_lload (pc := 42) dX3_calculate_42 3 rfl ?_
    refine r_ladd (pc := 44) dX3_calculate_44 ?_
    replace h := lt_e h; obtain ⟨x2, ex2, h⟩ := h
    refine r_cSl (pc := 45) wyX3_wrap mlRX3_181 tyX3_wrap ⟨(Nat.le_of_ble_eq_true rfl), (Nat.le_of_ble_eq_true rfl)⟩ rfl rfl (Nat.le_of_ble_eq_true rfl) dX3_calculate_45 (mX3_wrap ex2 (pL.mk ?_))
    replace h := lt_e h; obtain ⟨w3, ew3, h⟩ := h
    refine r_cVv (pc := 48) wyX3_push oA48 rfl mlRX3_184 iyX3_push syX3_push ⟨(Nat.le_of_ble_eq_true rfl), (Nat.le_of_ble_eq_true rfl)⟩ rfl rfl (Nat.le_of_ble_eq_true rfl) dX3_calculate_48 (mX3_push ew3 (pV.mk ?_))
    refine r_goto (pc := 51) dX3_calculate_51 rfl ?_
    exact rO_v (pc := 123) rfl dX3_calculate_123 h hN
  replace h := if_f hc1 h
  by_cases hc4 : a1 = 2
  · refine r_tabC (pc := 1) (off := 53) (tgt := 54) (L := [2]) dX3_calculate_1 hc4 (by decide) rfl ?_
    replace h := if_t hc4 h
    refine r_aload_n (pc := 54) dX3_calculate_54 rfl 0 rfl ?_
    refine r_lload_n (pc := 55) dX3_calculate_55 rfl 2 rfl ?_
    refine r_lload (pc := 56) dX3_calculate_56 3 rfl ?_
    refine r_lsub (pc := 58) dX3_calculate_58 ?_
    replace h := lt_e h; obtain ⟨x5, ex5, h⟩ := h
    refine r_cSl (pc := 59) wyX3_wrap mlRX3_181 tyX3_wrap ⟨(Nat.le_of_ble_eq_true rfl), (Nat.le_of_ble_eq_true rfl)⟩ rfl rfl (Nat.le_of_ble_eq_true rfl) dX3_calculate_59 (mX3_wrap ex5 (pL.mk ?_))
    replace h := lt_e h; obtain ⟨w6, ew6, h⟩ := h
    refine r_cVv (pc := 62) wyX3_push oA48 rfl mlRX3_184 iyX3_push syX3_push ⟨(Nat.le_of_ble_eq_true rfl), (Nat.le_of_ble_eq_true rfl)⟩ rfl rfl (Nat.le_of_ble_eq_true rfl) dX3_calculate_62 (mX3_push ew6 (pV.mk ?_))
    refine r_goto (pc := 65) dX3_calculate_65 rfl ?_
    exact rO_v (pc := 123) rfl dX3_calculate_123 h hN
  replace h := if_f hc4 h
  by_cases hc7 : a1 = 3
  · refine r_tabC (pc := 1) (off := 67) (tgt := 68) (L := [3]) dX3_calculate_1 hc7 (by decide) rfl ?_
    replace h := if_t hc7 h
    refine r_aload_n (pc := 68) dX3_calculate_68 rfl 0 rfl ?_
    refine r_lload_n (pc := 69) dX3_calculate_69 rfl 2 rfl ?_
    refine r_lload (pc := 70) dX3_calculate_70 3 rfl ?_
    refine r_lmul (pc := 72) dX3_calculate_72 ?_
    replace h := lt_e h; obtain ⟨x8, ex8, h⟩ := h
    refine r_cSl (pc := 73) wyX3_wrap mlRX3_181 tyX3_wrap ⟨(Nat.le_of_ble_eq_true rfl), (Nat.le_of_ble_eq_true rfl)⟩ rfl rfl (Nat.le_of_ble_eq_true rfl) dX3_calculate_73 (mX3_wrap ex8 (pL.mk ?_))
    replace h := lt_e h; obtain ⟨w9, ew9, h⟩ := h
    refine r_cVv (pc := 76) wyX3_push oA48 rfl mlRX3_184 iyX3_push syX3_push ⟨(Nat.le_of_ble_eq_true rfl), (Nat.le_of_ble_eq_true rfl)⟩ rfl rfl (Nat.le_of_ble_eq_true rfl) dX3_calculate_76 (mX3_push ew9 (pV.mk ?_))
    refine r_goto (pc := 79) dX3_calculate_79 rfl ?_
    exact rO_v (pc := 123) rfl dX3_calculate_123 h hN
  replace h := if_f hc7 h
  by_cases hc10 : a1 = 4 ∨ a1 = 5
  · refine r_tabC (pc := 1) (off := 81) (tgt := 82) (L := [4, 5]) dX3_calculate_1 hc10 (by decide) rfl ?_
    replace h := if_t hc10 h
    refine r_aload_n (pc := 82) dX3_calculate_82 rfl 0 rfl ?_
    refine r_iload_n (pc := 83) dX3_calculate_83 rfl 1 rfl ?_
    refine r_lload_n (pc := 84) dX3_calculate_84 rfl 2 rfl ?_
    refine r_lload (pc := 85) dX3_calculate_85 3 rfl ?_
    replace h := lt_e h; obtain ⟨w11, ew11, h⟩ := h
    refine r_cVv (pc := 87) wyX3_divide oA48 rfl mlRX3_188 iyX3_divide syX3_divide ⟨(Nat.le_of_ble_eq_true rfl), (Nat.le_of_ble_eq_true rfl)⟩ rfl rfl (Nat.le_of_ble_eq_true rfl) dX3_calculate_87 (mX3_divide ew11 (pV.mk ?_))
    refine r_goto (pc := 90) dX3_calculate_90 rfl ?_
    exact rO_v (pc := 123) rfl dX3_calculate_123 h hN
  replace h := if_f hc10 h
  by_cases hc12 : a1 = 6
  · refine r_tabC (pc := 1) (off := 92) (tgt := 93) (L := [6]) dX3_calculate_1 hc12 (by decide) rfl ?_
    replace h := if_t hc12 h
    refine r_aload_n (pc := 93) dX3_calculate_93 rfl 0 rfl ?_
    refine r_lload_n (pc := 94) dX3_calculate_94 rfl 2 rfl ?_
    refine r_lload (pc := 95) dX3_calculate_95 3 rfl ?_
    replace h := bn_e h; obtain ⟨w13, ew13, h⟩ := h
    refine r_cVv (pc := 97) wyX3_raise oA48 rfl mlRX3_191 iyX3_raise syX3_raise ⟨(Nat.le_of_ble_eq_true rfl), (Nat.le_of_ble_eq_true rfl)⟩ rfl rfl (Nat.le_of_ble_eq_true rfl) dX3_calculate_97 (mX3_raise ew13 (pV.mk ?_))
    refine r_goto (pc := 100) dX3_calculate_100 rfl ?_
    exact rO_v (pc := 123) rfl dX3_calculate_123 h hN
  replace h := if_f hc12 h
  refine r_tabD (pc := 1) (tgt := 103) (K := [[1], [2], [3], [4, 5], [6]]) dX3_calculate_1 ⟨hc1, hc4, hc7, hc10, hc12, trivial⟩ (by decide) (by decide) rfl ?_
  refine r_aload_n (pc := 103) dX3_calculate_103 rfl 0 rfl ?_
  refine r_aload_n (pc := 104) dX3_calculate_104 rfl 0 rfl ?_
  refine r_iload_n (pc := 105) dX3_calculate_105 rfl 1 rfl ?_
  refine r_lload_n (pc := 106) dX3_calculate_106 rfl 2 rfl ?_
  refine r_lload (pc := 107) dX3_calculate_107 3 rfl ?_
  replace h := lt2_e h; obtain ⟨x14, w15, ew15, h⟩ := h
  refine r_cVi (pc := 109) wyX3_holds oA48 rfl mlRX3_195 iyX3_holds syX3_holds ⟨(Nat.le_of_ble_eq_true rfl), (Nat.le_of_ble_eq_true rfl)⟩ rfl rfl (Nat.le_of_ble_eq_true rfl) dX3_calculate_109 (mX3_holds ew15 (pI.mk ?_))
  refine r_z_eq (pc := 112) dX3_calculate_112 rfl (fun hc16 => ?_) (fun hc16 => ?_)
  · replace h := if_f hc16 h
    refine r_lconst (pc := 119) dX3_calculate_119 kl_0 ?_
    replace h := lt_e h; obtain ⟨w18, ew18, h⟩ := h
    refine r_cVv (pc := 120) wyX3_push oA48 rfl mlRX3_184 iyX3_push syX3_push ⟨(Nat.le_of_ble_eq_true rfl), (Nat.le_of_ble_eq_true rfl)⟩ rfl rfl (Nat.le_of_ble_eq_true rfl) dX3_calculate_120 (mX3_push ew18 (pV.mk ?_))
    exact rO_v (pc := 123) rfl dX3_calculate_123 h hN
  replace h := if_t hc16 h
  refine r_lconst (pc := 115) dX3_calculate_115 kl_1 ?_
  refine r_goto (pc := 116) dX3_calculate_116 rfl ?_
  replace h := lt_e h; obtain ⟨w17, ew17, h⟩ := h
  refine r_cVv (pc := 120) wyX3_push oA48 rfl mlRX3_184 iyX3_push syX3_push ⟨(Nat.le_of_ble_eq_true rfl), (Nat.le_of_ble_eq_true rfl)⟩ rfl rfl (Nat.le_of_ble_eq_true rfl) dX3_calculate_120 (mX3_push ew17 (pV.mk ?_))
  exact rO_v (pc := 123) rfl dX3_calculate_123 h hN
theorem mX3_calculate {q : Gq} {l : Launch} {N : Option Value → Wd → Prop} {X : String → Wd → Prop} {a1 : Int32} {a2 : Int64} {a4 : Int64} {w : Wd} {u : Wd} (h : fX3_calculate a1 a2 a4 w = some u) (hN : N none u) : Ct (GA q) l 6 yX3_calculate cX3_calculate 6 (none) [.ref 48, .int a1, .long a2, .long a4] w N X := Ct.of (by decide) (Nat.le_of_ble_eq_true rfl) (pX3_calculate hN h)
/-! AlgolMill$Machine.goThere (II)V: S, 1 -/
theorem dX3_goThere_0 : decode cX3_goThere 0 = .ok (.aload_n 0, 1) := by decide +kernel
theorem dX3_goThere_1 : decode cX3_goThere 1 = .ok (.getfield 31, 3) := by decide +kernel
theorem dX3_goThere_4 : decode cX3_goThere 4 = .ok (.aload_n 0, 1) := by decide +kernel
theorem dX3_goThere_5 : decode cX3_goThere 5 = .ok (.getfield 114, 3) := by decide +kernel
theorem dX3_goThere_8 : decode cX3_goThere 8 = .ok (.aload_n 0, 1) := by decide +kernel
theorem dX3_goThere_9 : decode cX3_goThere 9 = .ok (.getfield 150, 3) := by decide +kernel
theorem dX3_goThere_12 : decode cX3_goThere 12 = .ok (.invokestatic 80, 3) := by decide +kernel
theorem dX3_goThere_15 : decode cX3_goThere 15 = .ok (.aload_n 0, 1) := by decide +kernel
theorem dX3_goThere_16 : decode cX3_goThere 16 = .ok (.getfield 34, 3) := by decide +kernel
theorem dX3_goThere_19 : decode cX3_goThere 19 = .ok (.aload_n 0, 1) := by decide +kernel
theorem dX3_goThere_20 : decode cX3_goThere 20 = .ok (.getfield 114, 3) := by decide +kernel
theorem dX3_goThere_23 : decode cX3_goThere 23 = .ok (.aload_n 0, 1) := by decide +kernel
theorem dX3_goThere_24 : decode cX3_goThere 24 = .ok (.getfield 143, 3) := by decide +kernel
theorem dX3_goThere_27 : decode cX3_goThere 27 = .ok (.invokestatic 80, 3) := by decide +kernel
theorem dX3_goThere_30 : decode cX3_goThere 30 = .ok (.aload_n 0, 1) := by decide +kernel
theorem dX3_goThere_31 : decode cX3_goThere 31 = .ok (.iload_n 1, 1) := by decide +kernel
theorem dX3_goThere_32 : decode cX3_goThere 32 = .ok (.putfield 150, 3) := by decide +kernel
theorem dX3_goThere_35 : decode cX3_goThere 35 = .ok (.aload_n 0, 1) := by decide +kernel
theorem dX3_goThere_36 : decode cX3_goThere 36 = .ok (.iload_n 2, 1) := by decide +kernel
theorem dX3_goThere_37 : decode cX3_goThere 37 = .ok (.putfield 143, 3) := by decide +kernel
theorem dX3_goThere_40 : decode cX3_goThere 40 = .ok (.return_, 1) := by decide +kernel
def fX3_goThere (a1 : Int32) (a2 : Int32) (w : Wd) : Wd :=
  lt (rsi w 53 61 (gi w 48 15) (gi w 48 11)) fun w1 => lt (rsi w1 54 61 (gi w1 48 15) (gi w1 48 12)) fun w2 => lt (si w2 48 11 a1) fun w3 => lt (si w3 48 12 a2) fun w4 => w4
theorem pX3_goThere {q : Gq} {l : Launch} {N : Option Value → Wd → Prop} {X : String → Wd → Prop} {w : Wd} {R : Wd} (hN : N none R) {a1 : Int32} {a2 : Int32} (h : fX3_goThere a1 a2 w = R) : RT (GA q) l 1 yX3_goThere cX3_goThere 3 (none) N X 0 [] [(0, .ref 48), (1, .int a1), (2, .int a2)] w := by
  unfold fX3_goThere at h
  refine r_aload_n (pc := 0) dX3_goThere_0 rfl 0 rfl ?_
  refine r_get (pc := 1) (j := 4) (v := .ref 53) oA48 cf3 flRX3_31 rfl dX3_goThere_1 rfl ?_
  refine r_aload_n (pc := 4) dX3_goThere_4 rfl 0 rfl ?_
  refine r_get (pc := 5) (j := 15) (v := .int (gi w 48 15)) oA48 cf3 flRX3_114 rfl dX3_goThere_5 rfl ?_
  refine r_aload_n (pc := 8) dX3_goThere_8 rfl 0 rfl ?_
  refine r_get (pc := 9) (j := 11) (v := .int (gi w 48 11)) oA48 cf3 flRX3_150 rfl dX3_goThere_9 rfl ?_
  replace h := lt_e h; obtain ⟨w1, ew1, h⟩ := h
  refine r_cSv (pc := 12) wyX6_set mlRX3_80 tyX6_set ⟨(Nat.le_of_ble_eq_true rfl), (Nat.le_of_ble_eq_true rfl)⟩ rfl rfl (Nat.le_of_ble_eq_true rfl) dX3_goThere_12 (mX6_set aA53 (Nat.le_of_ble_eq_true rfl) ew1 (pV.mk ?_))
  refine r_aload_n (pc := 15) dX3_goThere_15 rfl 0 rfl ?_
  refine r_get (pc := 16) (j := 5) (v := .ref 54) oA48 cf3 flRX3_34 rfl dX3_goThere_16 rfl ?_
  refine r_aload_n (pc := 19) dX3_goThere_19 rfl 0 rfl ?_
  refine r_get (pc := 20) (j := 15) (v := .int (gi w1 48 15)) oA48 cf3 flRX3_114 rfl dX3_goThere_20 rfl ?_
  refine r_aload_n (pc := 23) dX3_goThere_23 rfl 0 rfl ?_
  refine r_get (pc := 24) (j := 12) (v := .int (gi w1 48 12)) oA48 cf3 flRX3_143 rfl dX3_goThere_24 rfl ?_
  replace h := lt_e h; obtain ⟨w2, ew2, h⟩ := h
  refine r_cSv (pc := 27) wyX6_set mlRX3_80 tyX6_set ⟨(Nat.le_of_ble_eq_true rfl), (Nat.le_of_ble_eq_true rfl)⟩ rfl rfl (Nat.le_of_ble_eq_true rfl) dX3_goThere_27 (mX6_set aA54 (Nat.le_of_ble_eq_true rfl) ew2 (pV.mk ?_))
  refine r_aload_n (pc := 30) dX3_goThere_30 rfl 0 rfl ?_
  refine r_iload_n (pc := 31) dX3_goThere_31 rfl 1 rfl ?_
  replace h := lt_e h; obtain ⟨w3, ew3, h⟩ := h
  refine r_putI (pc := 32) (j := 11) oA48 cf3 flRX3_150 rfl rfl rfl rfl dX3_goThere_32 ?_
  refine r_w ew3 ?_
  refine r_aload_n (pc := 35) dX3_goThere_35 rfl 0 rfl ?_
  refine r_iload_n (pc := 36) dX3_goThere_36 rfl 2 rfl ?_
  replace h := lt_e h; obtain ⟨w4, ew4, h⟩ := h
  refine r_putI (pc := 37) (j := 12) oA48 cf3 flRX3_143 rfl rfl rfl rfl dX3_goThere_37 ?_
  refine r_w ew4 ?_
  exact rS_v (pc := 40) rfl dX3_goThere_40 h hN
theorem mX3_goThere {q : Gq} {l : Launch} {N : Option Value → Wd → Prop} {X : String → Wd → Prop} {a1 : Int32} {a2 : Int32} {w : Wd} {u : Wd} (h : fX3_goThere a1 a2 w = u) (hN : N none u) : Ct (GA q) l 1 yX3_goThere cX3_goThere 3 (none) [.ref 48, .int a1, .int a2] w N X := Ct.of (by decide) (Nat.le_of_ble_eq_true rfl) (pX3_goThere hN h)
