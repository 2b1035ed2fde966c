/-! the face of the class -/
/-- what run throws -/
def exr (n : Int32) : String := if n < 1 ∨ 20000 < n then "java/lang/IllegalArgumentException" else "java/lang/IllegalStateException"
theorem exr_a {n : Int32} (h : n < 1 ∨ 20000 < n) : exr n = "java/lang/IllegalArgumentException" := if_pos h
theorem exr_s {n : Int32} (h1 : ¬ n < 1) (h2 : n ≤ 20000) : exr n = "java/lang/IllegalStateException" := by
  refine if_neg (fun h => ?_)
  rcases h with h | h
  · exact h1 h
  · exact absurd h2 (Int32.not_le.mpr h)
/-! AlgolMill.append (I)V: O, 1 -/
theorem dX11_append_0 : decode cX11_append 0 = .ok (.bipush 24, 2) := by decide +kernel
theorem dX11_append_2 : decode cX11_append 2 = .ok (.istore_n 2, 1) := by decide +kernel
theorem dX11_append_3 : decode cX11_append 3 = .ok (.iload_n 2, 1) := by decide +kernel
theorem dX11_append_4 : decode cX11_append 4 = .ok (.ifCond .lt 37, 3) := by decide +kernel
theorem dX11_append_7 : decode cX11_append 7 = .ok (.aload_n 0, 1) := by decide +kernel
theorem dX11_append_8 : decode cX11_append 8 = .ok (.getfield 9, 3) := by decide +kernel
theorem dX11_append_11 : decode cX11_append 11 = .ok (.aload_n 0, 1) := by decide +kernel
theorem dX11_append_12 : decode cX11_append 12 = .ok (.getfield 31, 3) := by decide +kernel
theorem dX11_append_15 : decode cX11_append 15 = .ok (.iload_n 1, 1) := by decide +kernel
theorem dX11_append_16 : decode cX11_append 16 = .ok (.iload_n 2, 1) := by decide +kernel
theorem dX11_append_17 : decode cX11_append 17 = .ok (.iushr, 1) := by decide +kernel
theorem dX11_append_18 : decode cX11_append 18 = .ok (.sipush 255, 3) := by decide +kernel
theorem dX11_append_21 : decode cX11_append 21 = .ok (.iand, 1) := by decide +kernel
theorem dX11_append_22 : decode cX11_append 22 = .ok (.invokestatic 41, 3) := by decide +kernel
theorem dX11_append_25 : decode cX11_append 25 = .ok (.aload_n 0, 1) := by decide +kernel
theorem dX11_append_26 : decode cX11_append 26 = .ok (.dup, 1) := by decide +kernel
theorem dX11_append_27 : decode cX11_append 27 = .ok (.getfield 31, 3) := by decide +kernel
theorem dX11_append_30 : decode cX11_append 30 = .ok (.iconst 1, 1) := by decide +kernel
theorem dX11_append_31 : decode cX11_append 31 = .ok (.iadd, 1) := by decide +kernel
theorem dX11_append_32 : decode cX11_append 32 = .ok (.putfield 31, 3) := by decide +kernel
theorem dX11_append_35 : decode cX11_append 35 = .ok (.iinc 2 (-8), 3) := by decide +kernel
theorem dX11_append_38 : decode cX11_append 38 = .ok (.goto (-35), 3) := by decide +kernel
theorem dX11_append_41 : decode cX11_append 41 = .ok (.return_, 1) := by decide +kernel
def fX11_append_3 (k_3 : Int32 → Int32 → Wd → Option Wd) (a1 : Int32) (a2 : Int32) (w : Wd) : Option Wd :=
  if a2 < 0 then (some w) else (lt (rsi w 1 8192 (gi w 0 3) (((Int32.toUInt32 a1 >>> (Int32.toUInt32 a2 &&& Int32.toUInt32 31)).toInt32) &&& 255)) fun w2 => lt (si w2 0 3 ((gi w2 0 3) + 1)) fun w3 => lt (a2 + (-8)) fun x4 => k_3 a1 x4 w3)
theorem pX11_append_3 {q : Gq} {l : Launch} {N : Option Value → Wd → Prop} {X : String → Wd → Prop} {w : Wd} {R : Wd} (hN : N none R) {k_3 : Int32 → Int32 → Wd → Option Wd} (hk_3 : ∀ (a1 : Int32) (a2 : Int32) (w : Wd), k_3 a1 a2 w = some R → RT (GA q) l 1 yX11_append cX11_append 3 (none) N X 3 [] [(0, .ref 0), (1, .int a1), (2, .int a2)] w) {a1 : Int32} {a2 : Int32} (h : fX11_append_3 k_3 a1 a2 w = some R) : RT (GA q) l 1 yX11_append cX11_append 3 (none) N X 3 [] [(0, .ref 0), (1, .int a1), (2, .int a2)] w := by
  unfold fX11_append_3 at h
  refine r_iload_n (pc := 3) dX11_append_3 rfl 2 rfl ?_
  refine r_if_lt (pc := 4) dX11_append_4 rfl (fun hc1 => ?_) (fun hc1 => ?_)
  · replace h := if_t hc1 h
    exact rO_v (pc := 41) rfl dX11_append_41 h hN
  replace h := if_f hc1 h
  refine r_aload_n (pc := 7) dX11_append_7 rfl 0 rfl ?_
  refine r_get (pc := 8) (j := 0) (v := .ref 1) oA0 cf11 flRX11_9 rfl dX11_append_8 rfl ?_
  refine r_aload_n (pc := 11) dX11_append_11 rfl 0 rfl ?_
  refine r_get (pc := 12) (j := 3) (v := .int (gi w 0 3)) oA0 cf11 flRX11_31 rfl dX11_append_12 rfl ?_
  refine r_iload_n (pc := 15) dX11_append_15 rfl 1 rfl ?_
  refine r_iload_n (pc := 16) dX11_append_16 rfl 2 rfl ?_
  refine r_iushr (pc := 17) dX11_append_17 ?_
  refine r_sipush (pc := 18) dX11_append_18 ks_255 ?_
  refine r_iand (pc := 21) dX11_append_21 ?_
  replace h := lt_e h; obtain ⟨w2, ew2, h⟩ := h
  refine r_cSv (pc := 22) wyX6_set mlRX11_41 tyX6_set ⟨(Nat.le_of_ble_eq_true rfl), (Nat.le_of_ble_eq_true rfl)⟩ rfl rfl (Nat.le_of_ble_eq_true rfl) dX11_append_22 (mX6_set aA1 (Nat.le_of_ble_eq_true rfl) ew2 (pV.mk ?_))
  refine r_aload_n (pc := 25) dX11_append_25 rfl 0 rfl ?_
  refine r_dup (pc := 26) dX11_append_26 rfl ?_
  refine r_get (pc := 27) (j := 3) (v := .int (gi w2 0 3)) oA0 cf11 flRX11_31 rfl dX11_append_27 rfl ?_
  refine r_iconst (pc := 30) dX11_append_30 ki_1 ?_
  refine r_iadd (pc := 31) dX11_append_31 ?_
  replace h := lt_e h; obtain ⟨w3, ew3, h⟩ := h
  refine r_putI (pc := 32) (j := 3) oA0 cf11 flRX11_31 rfl rfl rfl rfl dX11_append_32 ?_
  refine r_w ew3 ?_
  replace h := lt_e h; obtain ⟨x4, ex4, h⟩ := h
  refine r_inc (pc := 35) (loc' := [(2, .int x4), (0, .ref 0), (1, .int a1)]) dX11_append_35 ki_m8 ex4 2 rfl (Nat.le_of_ble_eq_true rfl) rfl ?_
  refine r_goto (pc := 38) dX11_append_38 rfl ?_
  refine r_drop (loc' := [(0, .ref 0), (1, .int a1), (2, .int x4)]) [1, 2, 0] rfl ?_
  exact hk_3 a1 x4 w3 h
def oX11_append_3 : Nat → Int32 → Int32 → Wd → Option Wd
  | 0 => fun _ _ _ => none
  | n + 1 => fX11_append_3 (oX11_append_3 n)
theorem qX11_append_3 {q : Gq} {l : Launch} {N : Option Value → Wd → Prop} {X : String → Wd → Prop} {R : Wd} (hN : N none R) : ∀ (n : Nat) (a1 : Int32) (a2 : Int32) (w : Wd), oX11_append_3 n a1 a2 w = some R → RT (GA q) l 1 yX11_append cX11_append 3 (none) N X 3 [] [(0, .ref 0), (1, .int a1), (2, .int a2)] w := by
  intro n
  induction n with
  | zero =>
    intro a1 a2 w h
    exact absurd h (fun q => nomatch q)
  | succ n ih =>
    intro a1 a2 w h
    exact pX11_append_3 hN ih h
def fX11_append (a1 : Int32) (w : Wd) : Option Wd :=
  oX11_append_3 FU a1 24 w
theorem pX11_append {q : Gq} {l : Launch} {N : Option Value → Wd → Prop} {X : String → Wd → Prop} {w : Wd} {R : Wd} (hN : N none R) {a1 : Int32} (h : fX11_append a1 w = some R) : RT (GA q) l 1 yX11_append cX11_append 3 (none) N X 0 [] [(0, .ref 0), (1, .int a1)] w := by
  unfold fX11_append at h
  refine r_bipush (pc := 0) dX11_append_0 kb_24 ?_
  refine r_istore_n (pc := 2) (loc' := [(2, .int 24), (0, .ref 0), (1, .int a1)]) dX11_append_2 rfl (Nat.le_of_ble_eq_true rfl) rfl ?_
  refine r_drop (loc' := [(0, .ref 0), (1, .int a1), (2, .int 24)]) [1, 2, 0] rfl ?_
  exact qX11_append_3 hN FU a1 24 w h
theorem mX11_append {q : Gq} {l : Launch} {N : Option Value → Wd → Prop} {X : String → Wd → Prop} {a1 : Int32} {w : Wd} {u : Wd} (h : fX11_append a1 w = some u) (hN : N none u) : Ct (GA q) l 1 yX11_append cX11_append 3 (none) [.ref 0, .int a1] w N X := Ct.of (by decide) (Nat.le_of_ble_eq_true rfl) (pX11_append hN h)
/-! AlgolMill.feed (IIIII)I: E, 8 -/
theorem dX11_feed_0 : decode cX11_feed 0 = .ok (.aload_n 0, 1) := by decide +kernel
theorem dX11_feed_1 : decode cX11_feed 1 = .ok (.getfield 31, 3) := by decide +kernel
theorem dX11_feed_4 : decode cX11_feed 4 = .ok (.bipush 20, 2) := by decide +kernel
theorem dX11_feed_6 : decode cX11_feed 6 = .ok (.iadd, 1) := by decide +kernel
theorem dX11_feed_7 : decode cX11_feed 7 = .ok (.sipush 8192, 3) := by decide +kernel
theorem dX11_feed_10 : decode cX11_feed 10 = .ok (.if_icmp .le 11, 3) := by decide +kernel
theorem dX11_feed_13 : decode cX11_feed 13 = .ok (.new 34, 3) := by decide +kernel
theorem dX11_feed_16 : decode cX11_feed 16 = .ok (.dup, 1) := by decide +kernel
theorem dX11_feed_17 : decode cX11_feed 17 = .ok (.invokespecial 36, 3) := by decide +kernel
theorem dX11_feed_20 : decode cX11_feed 20 = .ok (.athrow, 1) := by decide +kernel
theorem dX11_feed_21 : decode cX11_feed 21 = .ok (.aload_n 0, 1) := by decide +kernel
theorem dX11_feed_22 : decode cX11_feed 22 = .ok (.iload_n 1, 1) := by decide +kernel
theorem dX11_feed_23 : decode cX11_feed 23 = .ok (.invokevirtual 37, 3) := by decide +kernel
theorem dX11_feed_26 : decode cX11_feed 26 = .ok (.aload_n 0, 1) := by decide +kernel
theorem dX11_feed_27 : decode cX11_feed 27 = .ok (.iload_n 2, 1) := by decide +kernel
theorem dX11_feed_28 : decode cX11_feed 28 = .ok (.invokevirtual 37, 3) := by decide +kernel
theorem dX11_feed_31 : decode cX11_feed 31 = .ok (.aload_n 0, 1) := by decide +kernel
theorem dX11_feed_32 : decode cX11_feed 32 = .ok (.iload_n 3, 1) := by decide +kernel
theorem dX11_feed_33 : decode cX11_feed 33 = .ok (.invokevirtual 37, 3) := by decide +kernel
theorem dX11_feed_36 : decode cX11_feed 36 = .ok (.aload_n 0, 1) := by decide +kernel
theorem dX11_feed_37 : decode cX11_feed 37 = .ok (.iload 4, 2) := by decide +kernel
theorem dX11_feed_39 : decode cX11_feed 39 = .ok (.invokevirtual 37, 3) := by decide +kernel
theorem dX11_feed_42 : decode cX11_feed 42 = .ok (.aload_n 0, 1) := by decide +kernel
theorem dX11_feed_43 : decode cX11_feed 43 = .ok (.iload 5, 2) := by decide +kernel
theorem dX11_feed_45 : decode cX11_feed 45 = .ok (.invokevirtual 37, 3) := by decide +kernel
theorem dX11_feed_48 : decode cX11_feed 48 = .ok (.aload_n 0, 1) := by decide +kernel
theorem dX11_feed_49 : decode cX11_feed 49 = .ok (.getfield 31, 3) := by decide +kernel
theorem dX11_feed_52 : decode cX11_feed 52 = .ok (.ireturn, 1) := by decide +kernel
def fX11_feed (a1 : Int32) (a2 : Int32) (a3 : Int32) (a4 : Int32) (a5 : Int32) (w : Wd) : Option (Option Int32 × Wd) :=
  if ((gi w 0 3) + 20) ≤ 8192 then (bn (fX11_append a1 w) fun w2 => bn (fX11_append a2 w2) fun w3 => bn (fX11_append a3 w3) fun w4 => bn (fX11_append a4 w4) fun w5 => bn (fX11_append a5 w5) fun w6 => some (some (gi w6 0 3), w6)) else (some (none, w))
theorem pX11_feed {q : Gq} {l : Launch} {N : Option Value → Wd → Prop} {X : String → Wd → Prop} (hfl : l.stackTraces = false) {F : Nat → Prop} (hF : ∀ (U : State) (H : Heap), gE (GA q) U H → ENV F U H) (hAF : ∀ z, gAw (GA q) z → F z) {a1 : Int32} {a2 : Int32} {a3 : Int32} {a4 : Int32} {a5 : Int32} {w : Wd} {R : Option Int32 × Wd} (hN : ∀ r : Int32, R.1 = some r → N (some (.int r)) R.2) (hX : R.1 = none → X "java/lang/IndexOutOfBoundsException" R.2) (h : fX11_feed a1 a2 a3 a4 a5 w = some R) : RX (GA q) l 8 yX11_feed cX11_feed 6 ((some .int)) N X 0 [] [(0, .ref 0), (1, .int a1), (2, .int a2), (3, .int a3), (4, .int a4), (5, .int a5)] w := by
  unfold fX11_feed at h
  refine x_aload_n (pc := 0) dX11_feed_0 rfl 0 rfl ?_
  refine x_get (pc := 1) (j := 3) (v := .int (gi w 0 3)) oA0 cf11 flRX11_31 rfl dX11_feed_1 rfl ?_
  refine x_bipush (pc := 4) dX11_feed_4 kb_20 ?_
  refine x_iadd (pc := 6) dX11_feed_6 ?_
  refine x_sipush (pc := 7) dX11_feed_7 ks_8192 ?_
  refine x_icmp_le (pc := 10) dX11_feed_10 rfl (fun hc1 => ?_) (fun hc1 => ?_)
  · replace h := if_t hc1 h
    refine x_aload_n (pc := 21) dX11_feed_21 rfl 0 rfl ?_
    refine x_iload_n (pc := 22) dX11_feed_22 rfl 1 rfl ?_
    replace h := bn_e h; obtain ⟨w2, ew2, h⟩ := h
    refine x_cVv (pc := 23) wyX11_append oA0 rfl mlRX11_37 iyX11_append syX11_append ⟨(Nat.le_of_ble_eq_true rfl), (Nat.le_of_ble_eq_true rfl)⟩ rfl rfl (Nat.le_of_ble_eq_true rfl) dX11_feed_23 (mX11_append ew2 (pV.mk ?_))
    refine x_aload_n (pc := 26) dX11_feed_26 rfl 0 rfl ?_
    refine x_iload_n (pc := 27) dX11_feed_27 rfl 2 rfl ?_
    replace h := bn_e h; obtain ⟨w3, ew3, h⟩ := h
    refine x_cVv (pc := 28) wyX11_append oA0 rfl mlRX11_37 iyX11_append syX11_append ⟨(Nat.le_of_ble_eq_true rfl), (Nat.le_of_ble_eq_true rfl)⟩ rfl rfl (Nat.le_of_ble_eq_true rfl) dX11_feed_28 (mX11_append ew3 (pV.mk ?_))
    refine x_aload_n (pc := 31) dX11_feed_31 rfl 0 rfl ?_
    refine x_iload_n (pc := 32) dX11_feed_32 rfl 3 rfl ?_
    replace h := bn_e h; obtain ⟨w4, ew4, h⟩ := h
    refine x_cVv (pc := 33) wyX11_append oA0 rfl mlRX11_37 iyX11_append syX11_append ⟨(Nat.le_of_ble_eq_true rfl), (Nat.le_of_ble_eq_true rfl)⟩ rfl rfl (Nat.le_of_ble_eq_true rfl) dX11_feed_33 (mX11_append ew4 (pV.mk ?_))
    refine x_aload_n (pc := 36) dX11_feed_36 rfl 0 rfl ?_
    refine x_iload (pc := 37) dX11_feed_37 4 rfl ?_
    replace h := bn_e h; obtain ⟨w5, ew5, h⟩ := h
    refine x_cVv (pc := 39) wyX11_append oA0 rfl mlRX11_37 iyX11_append syX11_append ⟨(Nat.le_of_ble_eq_true rfl), (Nat.le_of_ble_eq_true rfl)⟩ rfl rfl (Nat.le_of_ble_eq_true rfl) dX11_feed_39 (mX11_append ew5 (pV.mk ?_))
    refine x_aload_n (pc := 42) dX11_feed_42 rfl 0 rfl ?_
    refine x_iload (pc := 43) dX11_feed_43 5 rfl ?_
    replace h := bn_e h; obtain ⟨w6, ew6, h⟩ := h
    refine x_cVv (pc := 45) wyX11_append oA0 rfl mlRX11_37 iyX11_append syX11_append ⟨(Nat.le_of_ble_eq_true rfl), (Nat.le_of_ble_eq_true rfl)⟩ rfl rfl (Nat.le_of_ble_eq_true rfl) dX11_feed_45 (mX11_append ew6 (pV.mk ?_))
    refine x_aload_n (pc := 48) dX11_feed_48 rfl 0 rfl ?_
    refine x_get (pc := 49) (j := 3) (v := .int (gi w6 0 3)) oA0 cf11 flRX11_31 rfl dX11_feed_49 rfl ?_
    exact xE_i (pc := 52) rfl dX11_feed_52 h hN
  replace h := if_f hc1 h
  exact x_throw (pc := 13) hfl hF hAF (by decide) (by decide) ceRX11_34 ieRX11_34 atX11_36_l atX11_36_g beRX11_34 oeRX11_34 dX11_feed_13 dX11_feed_16 dX11_feed_17 dX11_feed_20 ⟨(Nat.le_of_ble_eq_true rfl), rfl⟩ (Nat.le_of_ble_eq_true rfl) h hX
theorem mX11_feed {q : Gq} {l : Launch} {N : Option Value → Wd → Prop} {X : String → Wd → Prop} {a1 : Int32} {a2 : Int32} {a3 : Int32} {a4 : Int32} {a5 : Int32} {w : Wd} (hfl : l.stackTraces = false) {F : Nat → Prop} (hF : ∀ (U : State) (H : Heap), gE (GA q) U H → ENV F U H) (hAF : ∀ z, gAw (GA q) z → F z) {o : Option Int32} {u : Wd} (h : fX11_feed a1 a2 a3 a4 a5 w = some (o, u)) (hN : ∀ r : Int32, o = some r → N (some (.int r)) u) (hX : o = none → X "java/lang/IndexOutOfBoundsException" u) : CtX (GA q) l 8 yX11_feed cX11_feed 6 ((some .int)) [.ref 0, .int a1, .int a2, .int a3, .int a4, .int a5] w N X := CtX.of (by decide) (Nat.le_of_ble_eq_true rfl) (pX11_feed hfl hF hAF hN hX h)
/-! AlgolMill.end (I)I: E, 8 -/
theorem dX11_end_0 : decode cX11_end 0 = .ok (.iload_n 1, 1) := by decide +kernel
theorem dX11_end_1 : decode cX11_end 1 = .ok (.ifCond .lt 11, 3) := by decide +kernel
theorem dX11_end_4 : decode cX11_end 4 = .ok (.iload_n 1, 1) := by decide +kernel
theorem dX11_end_5 : decode cX11_end 5 = .ok (.aload_n 0, 1) := by decide +kernel
theorem dX11_end_6 : decode cX11_end 6 = .ok (.getfield 31, 3) := by decide +kernel
theorem dX11_end_9 : decode cX11_end 9 = .ok (.if_icmp .le 11, 3) := by decide +kernel
theorem dX11_end_12 : decode cX11_end 12 = .ok (.new 47, 3) := by decide +kernel
theorem dX11_end_15 : decode cX11_end 15 = .ok (.dup, 1) := by decide +kernel
theorem dX11_end_16 : decode cX11_end 16 = .ok (.invokespecial 49, 3) := by decide +kernel
theorem dX11_end_19 : decode cX11_end 19 = .ok (.athrow, 1) := by decide +kernel
theorem dX11_end_20 : decode cX11_end 20 = .ok (.aload_n 0, 1) := by decide +kernel
theorem dX11_end_21 : decode cX11_end 21 = .ok (.dup, 1) := by decide +kernel
theorem dX11_end_22 : decode cX11_end 22 = .ok (.getfield 31, 3) := by decide +kernel
theorem dX11_end_25 : decode cX11_end 25 = .ok (.iload_n 1, 1) := by decide +kernel
theorem dX11_end_26 : decode cX11_end 26 = .ok (.isub, 1) := by decide +kernel
theorem dX11_end_27 : decode cX11_end 27 = .ok (.putfield 31, 3) := by decide +kernel
theorem dX11_end_30 : decode cX11_end 30 = .ok (.aload_n 0, 1) := by decide +kernel
theorem dX11_end_31 : decode cX11_end 31 = .ok (.getfield 31, 3) := by decide +kernel
theorem dX11_end_34 : decode cX11_end 34 = .ok (.ireturn, 1) := by decide +kernel
def fX11_end (a1 : Int32) (w : Wd) : Option (Option Int32 × Wd) :=
  if a1 < 0 then (some (none, w)) else (if a1 ≤ (gi w 0 3) then (lt (si w 0 3 ((gi w 0 3) - a1)) fun w3 => some (some (gi w3 0 3), w3)) else (some (none, w)))
theorem pX11_end {q : Gq} {l : Launch} {N : Option Value → Wd → Prop} {X : String → Wd → Prop} (hfl : l.stackTraces = false) {F : Nat → Prop} (hF : ∀ (U : State) (H : Heap), gE (GA q) U H → ENV F U H) (hAF : ∀ z, gAw (GA q) z → F z) {a1 : Int32} {w : Wd} {R : Option Int32 × Wd} (hN : ∀ r : Int32, R.1 = some r → N (some (.int r)) R.2) (hX : R.1 = none → X "java/lang/IllegalArgumentException" R.2) (h : fX11_end a1 w = some R) : RX (GA q) l 8 yX11_end cX11_end 2 ((some .int)) N X 0 [] [(0, .ref 0), (1, .int a1)] w := by
  unfold fX11_end at h
  refine x_iload_n (pc := 0) dX11_end_0 rfl 1 rfl ?_
  refine x_if_lt (pc := 1) dX11_end_1 rfl (fun hc1 => ?_) (fun hc1 => ?_)
  · replace h := if_t hc1 h
    exact x_throw (pc := 12) hfl hF hAF (by decide) (by decide) ceRX11_47 ieRX11_47 atX11_49_l atX11_49_g beRX11_47 oeRX11_47 dX11_end_12 dX11_end_15 dX11_end_16 dX11_end_19 ⟨(Nat.le_of_ble_eq_true rfl), rfl⟩ (Nat.le_of_ble_eq_true rfl) h hX
  replace h := if_f hc1 h
  refine x_iload_n (pc := 4) dX11_end_4 rfl 1 rfl ?_
  refine x_aload_n (pc := 5) dX11_end_5 rfl 0 rfl ?_
  refine x_get (pc := 6) (j := 3) (v := .int (gi w 0 3)) oA0 cf11 flRX11_31 rfl dX11_end_6 rfl ?_
  refine x_icmp_le (pc := 9) dX11_end_9 rfl (fun hc2 => ?_) (fun hc2 => ?_)
  · replace h := if_t hc2 h
    refine x_aload_n (pc := 20) dX11_end_20 rfl 0 rfl ?_
    refine x_dup (pc := 21) dX11_end_21 rfl ?_
    refine x_get (pc := 22) (j := 3) (v := .int (gi w 0 3)) oA0 cf11 flRX11_31 rfl dX11_end_22 rfl ?_
    refine x_iload_n (pc := 25) dX11_end_25 rfl 1 rfl ?_
    refine x_isub (pc := 26) dX11_end_26 ?_
    replace h := lt_e h; obtain ⟨w3, ew3, h⟩ := h
    refine x_putI (pc := 27) (j := 3) oA0 cf11 flRX11_31 rfl rfl rfl rfl dX11_end_27 ?_
    refine x_w ew3 ?_
    refine x_aload_n (pc := 30) dX11_end_30 rfl 0 rfl ?_
    refine x_get (pc := 31) (j := 3) (v := .int (gi w3 0 3)) oA0 cf11 flRX11_31 rfl dX11_end_31 rfl ?_
    exact xE_i (pc := 34) rfl dX11_end_34 h hN
  replace h := if_f hc2 h
  exact x_throw (pc := 12) hfl hF hAF (by decide) (by decide) ceRX11_47 ieRX11_47 atX11_49_l atX11_49_g beRX11_47 oeRX11_47 dX11_end_12 dX11_end_15 dX11_end_16 dX11_end_19 ⟨(Nat.le_of_ble_eq_true rfl), rfl⟩ (Nat.le_of_ble_eq_true rfl) h hX
theorem mX11_end {q : Gq} {l : Launch} {N : Option Value → Wd → Prop} {X : String → Wd → Prop} {a1 : Int32} {w : Wd} (hfl : l.stackTraces = false) {F : Nat → Prop} (hF : ∀ (U : State) (H : Heap), gE (GA q) U H → ENV F U H) (hAF : ∀ z, gAw (GA q) z → F z) {o : Option Int32} {u : Wd} (h : fX11_end a1 w = some (o, u)) (hN : ∀ r : Int32, o = some r → N (some (.int r)) u) (hX : o = none → X "java/lang/IllegalArgumentException" u) : CtX (GA q) l 8 yX11_end cX11_end 2 ((some .int)) [.ref 0, .int a1] w N X := CtX.of (by decide) (Nat.le_of_ble_eq_true rfl) (pX11_end hfl hF hAF hN hX h)
/-! AlgolMill.build ()I: E, 1814 -/
theorem dX11_build_0 : decode cX11_build 0 = .ok (.aload_n 0, 1) := by decide +kernel
theorem dX11_build_1 : decode cX11_build 1 = .ok (.getfield 16, 3) := by decide +kernel
theorem dX11_build_4 : decode cX11_build 4 = .ok (.aload_n 0, 1) := by decide +kernel
theorem dX11_build_5 : decode cX11_build 5 = .ok (.getfield 9, 3) := by decide +kernel
theorem dX11_build_8 : decode cX11_build 8 = .ok (.aload_n 0, 1) := by decide +kernel
theorem dX11_build_9 : decode cX11_build 9 = .ok (.getfield 31, 3) := by decide +kernel
theorem dX11_build_12 : decode cX11_build 12 = .ok (.invokevirtual 50, 3) := by decide +kernel
theorem dX11_build_15 : decode cX11_build 15 = .ok (.istore_n 1, 1) := by decide +kernel
theorem dX11_build_16 : decode cX11_build 16 = .ok (.aload_n 0, 1) := by decide +kernel
theorem dX11_build_17 : decode cX11_build 17 = .ok (.iconst 0, 1) := by decide +kernel
theorem dX11_build_18 : decode cX11_build 18 = .ok (.putfield 31, 3) := by decide +kernel
theorem dX11_build_21 : decode cX11_build 21 = .ok (.aload_n 0, 1) := by decide +kernel
theorem dX11_build_22 : decode cX11_build 22 = .ok (.aload_n 0, 1) := by decide +kernel
theorem dX11_build_23 : decode cX11_build 23 = .ok (.getfield 16, 3) := by decide +kernel
theorem dX11_build_26 : decode cX11_build 26 = .ok (.invokevirtual 54, 3) := by decide +kernel
theorem dX11_build_29 : decode cX11_build 29 = .ok (.putfield 58, 3) := by decide +kernel
theorem dX11_build_32 : decode cX11_build 32 = .ok (.aload_n 0, 1) := by decide +kernel
theorem dX11_build_33 : decode cX11_build 33 = .ok (.aload_n 0, 1) := by decide +kernel
theorem dX11_build_34 : decode cX11_build 34 = .ok (.getfield 16, 3) := by decide +kernel
theorem dX11_build_37 : decode cX11_build 37 = .ok (.invokevirtual 60, 3) := by decide +kernel
theorem dX11_build_40 : decode cX11_build 40 = .ok (.putfield 27, 3) := by decide +kernel
theorem dX11_build_43 : decode cX11_build 43 = .ok (.iload_n 1, 1) := by decide +kernel
theorem dX11_build_44 : decode cX11_build 44 = .ok (.ifCond .ne 11, 3) := by decide +kernel
theorem dX11_build_47 : decode cX11_build 47 = .ok (.new 62, 3) := by decide +kernel
theorem dX11_build_50 : decode cX11_build 50 = .ok (.dup, 1) := by decide +kernel
theorem dX11_build_51 : decode cX11_build 51 = .ok (.invokespecial 64, 3) := by decide +kernel
theorem dX11_build_54 : decode cX11_build 54 = .ok (.athrow, 1) := by decide +kernel
theorem dX11_build_55 : decode cX11_build 55 = .ok (.aload_n 0, 1) := by decide +kernel
theorem dX11_build_56 : decode cX11_build 56 = .ok (.getfield 23, 3) := by decide +kernel
theorem dX11_build_59 : decode cX11_build 59 = .ok (.aload_n 0, 1) := by decide +kernel
theorem dX11_build_60 : decode cX11_build 60 = .ok (.getfield 16, 3) := by decide +kernel
theorem dX11_build_63 : decode cX11_build 63 = .ok (.invokevirtual 65, 3) := by decide +kernel
theorem dX11_build_66 : decode cX11_build 66 = .ok (.aload_n 0, 1) := by decide +kernel
theorem dX11_build_67 : decode cX11_build 67 = .ok (.getfield 16, 3) := by decide +kernel
theorem dX11_build_70 : decode cX11_build 70 = .ok (.invokevirtual 69, 3) := by decide +kernel
theorem dX11_build_73 : decode cX11_build 73 = .ok (.invokevirtual 72, 3) := by decide +kernel
theorem dX11_build_76 : decode cX11_build 76 = .ok (.aload_n 0, 1) := by decide +kernel
theorem dX11_build_77 : decode cX11_build 77 = .ok (.iconst 1, 1) := by decide +kernel
theorem dX11_build_78 : decode cX11_build 78 = .ok (.putfield 76, 3) := by decide +kernel
theorem dX11_build_81 : decode cX11_build 81 = .ok (.aload_n 0, 1) := by decide +kernel
theorem dX11_build_82 : decode cX11_build 82 = .ok (.getfield 16, 3) := by decide +kernel
theorem dX11_build_85 : decode cX11_build 85 = .ok (.invokevirtual 80, 3) := by decide +kernel
theorem dX11_build_88 : decode cX11_build 88 = .ok (.ireturn, 1) := by decide +kernel
def fX11_build (w : Wd) : Option (Option Int32 × Wd) :=
  bn2 (fX4_make (gi w 0 3) w) fun x1 w2 => lt (si w2 0 3 0) fun w3 => lt (fX4_fault w3) fun x4 => lt (si w3 0 4 x4) fun w5 => lt (fX4_faultWhere w5) fun x6 => lt (si w5 0 5 x6) fun w7 => if x1 = true then (lt (fX4_owns w7) fun x9 => bn (fX3_load x9 w7) fun w10 => lt (si w10 0 6 1) fun w11 => lt (fX4_procedures w11) fun x12 => some (some x12, w11)) else (some (none, w7))
theorem pX11_build {q : Gq} {l : Launch} {N : Option Value → Wd → Prop} {X : String → Wd → Prop} (hz : SGN q l) (hfl : l.stackTraces = false) {F : Nat → Prop} (hF : ∀ (U : State) (H : Heap), gE (GA q) U H → ENV F U H) (hAF : ∀ z, gAw (GA q) z → F z) {w : Wd} {R : Option Int32 × Wd} (hN : ∀ r : Int32, R.1 = some r → N (some (.int r)) R.2) (hX : R.1 = none → X "java/lang/IllegalStateException" R.2) (h : fX11_build w = some R) : RX (GA q) l 1814 yX11_build cX11_build 2 ((some .int)) N X 0 [] [(0, .ref 0)] w := by
  unfold fX11_build at h
  refine x_aload_n (pc := 0) dX11_build_0 rfl 0 rfl ?_
  refine x_get (pc := 1) (j := 1) (v := .ref 2) oA0 cf11 flRX11_16 rfl dX11_build_1 rfl ?_
  refine x_aload_n (pc := 4) dX11_build_4 rfl 0 rfl ?_
  refine x_get (pc := 5) (j := 0) (v := .ref 1) oA0 cf11 flRX11_9 rfl dX11_build_5 rfl ?_
  refine x_aload_n (pc := 8) dX11_build_8 rfl 0 rfl ?_
  refine x_get (pc := 9) (j := 3) (v := .int (gi w 0 3)) oA0 cf11 flRX11_31 rfl dX11_build_9 rfl ?_
  replace h := bn2_e h; obtain ⟨x1, w2, ew2, h⟩ := h
  refine x_cVi (pc := 12) wyX4_make oA2 rfl mlRX11_50 iyX4_make syX4_make ⟨(Nat.le_of_ble_eq_true rfl), (Nat.le_of_ble_eq_true rfl)⟩ rfl rfl (Nat.le_of_ble_eq_true rfl) dX11_build_12 (mX4_make hz ew2 (pI.mk ?_))
  refine x_istore_n (pc := 15) (loc' := [(1, .int (b2i x1)), (0, .ref 0)]) dX11_build_15 rfl (Nat.le_of_ble_eq_true rfl) rfl ?_
  refine x_aload_n (pc := 16) dX11_build_16 rfl 1 rfl ?_
  refine x_iconst (pc := 17) dX11_build_17 ki_0 ?_
  replace h := lt_e h; obtain ⟨w3, ew3, h⟩ := h
  refine x_putI (pc := 18) (j := 3) oA0 cf11 flRX11_31 rfl rfl rfl rfl dX11_build_18 ?_
  refine x_w ew3 ?_
  refine x_aload_n (pc := 21) dX11_build_21 rfl 1 rfl ?_
  refine x_aload_n (pc := 22) dX11_build_22 rfl 1 rfl ?_
  refine x_get (pc := 23) (j := 1) (v := .ref 2) oA0 cf11 flRX11_16 rfl dX11_build_23 rfl ?_
  replace h := lt_e h; obtain ⟨x4, ex4, h⟩ := h
  refine x_cVi (pc := 26) wyX4_fault oA2 rfl mlRX11_54 iyX4_fault syX4_fault ⟨(Nat.le_of_ble_eq_true rfl), (Nat.le_of_ble_eq_true rfl)⟩ rfl rfl (Nat.le_of_ble_eq_true rfl) dX11_build_26 (mX4_fault ex4 (pI.mk ?_))
  replace h := lt_e h; obtain ⟨w5, ew5, h⟩ := h
  refine x_putI (pc := 29) (j := 4) oA0 cf11 flRX11_58 rfl rfl rfl rfl dX11_build_29 ?_
  refine x_w ew5 ?_
  refine x_aload_n (pc := 32) dX11_build_32 rfl 1 rfl ?_
  refine x_aload_n (pc := 33) dX11_build_33 rfl 1 rfl ?_
  refine x_get (pc := 34) (j := 1) (v := .ref 2) oA0 cf11 flRX11_16 rfl dX11_build_34 rfl ?_
  replace h := lt_e h; obtain ⟨x6, ex6, h⟩ := h
  refine x_cVi (pc := 37) wyX4_faultWhere oA2 rfl mlRX11_60 iyX4_faultWhere syX4_faultWhere ⟨(Nat.le_of_ble_eq_true rfl), (Nat.le_of_ble_eq_true rfl)⟩ rfl rfl (Nat.le_of_ble_eq_true rfl) dX11_build_37 (mX4_faultWhere ex6 (pI.mk ?_))
  replace h := lt_e h; obtain ⟨w7, ew7, h⟩ := h
  refine x_putI (pc := 40) (j := 5) oA0 cf11 flRX11_27 rfl rfl rfl rfl dX11_build_40 ?_
  refine x_w ew7 ?_
  refine x_iload_n (pc := 43) dX11_build_43 rfl 0 rfl ?_
  refine x_z_ne (pc := 44) dX11_build_44 rfl (fun hc8 => ?_) (fun hc8 => ?_)
  · replace h := if_t hc8 h
    refine x_aload_n (pc := 55) dX11_build_55 rfl 1 rfl ?_
    refine x_get (pc := 56) (j := 2) (v := .ref 48) oA0 cf11 flRX11_23 rfl dX11_build_56 rfl ?_
    refine x_aload_n (pc := 59) dX11_build_59 rfl 1 rfl ?_
    refine x_get (pc := 60) (j := 1) (v := .ref 2) oA0 cf11 flRX11_16 rfl dX11_build_60 rfl ?_
    refine x_cVr (pc := 63) wyX4_code oA2 rfl mlRX11_65 iyX4_code syX4_code ⟨(Nat.le_of_ble_eq_true rfl), (Nat.le_of_ble_eq_true rfl)⟩ rfl rfl (Nat.le_of_ble_eq_true rfl) dX11_build_63 (mX4_code (pR.mk ?_))
    refine x_aload_n (pc := 66) dX11_build_66 rfl 1 rfl ?_
    refine x_get (pc := 67) (j := 1) (v := .ref 2) oA0 cf11 flRX11_16 rfl dX11_build_67 rfl ?_
    replace h := lt_e h; obtain ⟨x9, ex9, h⟩ := h
    refine x_cVi (pc := 70) wyX4_owns oA2 rfl mlRX11_69 iyX4_owns syX4_owns ⟨(Nat.le_of_ble_eq_true rfl), (Nat.le_of_ble_eq_true rfl)⟩ rfl rfl (Nat.le_of_ble_eq_true rfl) dX11_build_70 (mX4_owns ex9 (pI.mk ?_))
    replace h := bn_e h; obtain ⟨w10, ew10, h⟩ := h
    refine x_cVv (pc := 73) wyX3_load oA48 rfl mlRX11_72 iyX3_load syX3_load ⟨(Nat.le_of_ble_eq_true rfl), (Nat.le_of_ble_eq_true rfl)⟩ rfl rfl (Nat.le_of_ble_eq_true rfl) dX11_build_73 (mX3_load ew10 (pV.mk ?_))
    refine x_aload_n (pc := 76) dX11_build_76 rfl 1 rfl ?_
    refine x_iconst (pc := 77) dX11_build_77 ki_1 ?_
    replace h := lt_e h; obtain ⟨w11, ew11, h⟩ := h
    refine x_putI (pc := 78) (j := 6) oA0 cf11 flRX11_76 rfl rfl rfl rfl dX11_build_78 ?_
    refine x_w ew11 ?_
    refine x_aload_n (pc := 81) dX11_build_81 rfl 1 rfl ?_
    refine x_get (pc := 82) (j := 1) (v := .ref 2) oA0 cf11 flRX11_16 rfl dX11_build_82 rfl ?_
    replace h := lt_e h; obtain ⟨x12, ex12, h⟩ := h
    refine x_cVi (pc := 85) wyX4_procedures oA2 rfl mlRX11_80 iyX4_procedures syX4_procedures ⟨(Nat.le_of_ble_eq_true rfl), (Nat.le_of_ble_eq_true rfl)⟩ rfl rfl (Nat.le_of_ble_eq_true rfl) dX11_build_85 (mX4_procedures ex12 (pI.mk ?_))
    exact xE_i (pc := 88) rfl dX11_build_88 h hN
  replace h := if_f hc8 h
  exact x_throw (pc := 47) hfl hF hAF (by decide) (by decide) ceRX11_62 ieRX11_62 atX11_64_l atX11_64_g beRX11_62 oeRX11_62 dX11_build_47 dX11_build_50 dX11_build_51 dX11_build_54 ⟨(Nat.le_of_ble_eq_true rfl), rfl⟩ (Nat.le_of_ble_eq_true rfl) h hX
theorem mX11_build {q : Gq} {l : Launch} {N : Option Value → Wd → Prop} {X : String → Wd → Prop} {w : Wd} (hz : SGN q l) (hfl : l.stackTraces = false) {F : Nat → Prop} (hF : ∀ (U : State) (H : Heap), gE (GA q) U H → ENV F U H) (hAF : ∀ z, gAw (GA q) z → F z) {o : Option Int32} {u : Wd} (h : fX11_build w = some (o, u)) (hN : ∀ r : Int32, o = some r → N (some (.int r)) u) (hX : o = none → X "java/lang/IllegalStateException" u) : CtX (GA q) l 1814 yX11_build cX11_build 2 ((some .int)) [.ref 0] w N X := CtX.of (by decide) (Nat.le_of_ble_eq_true rfl) (pX11_build hz hfl hF hAF hN hX h)
/-! AlgolMill.run (I)I: E, 11 -/
theorem dX11_run_0 : decode cX11_run 0 = .ok (.iload_n 1, 1) := by decide +kernel
theorem dX11_run_1 : decode cX11_run 1 = .ok (.iconst 1, 1) := by decide +kernel
theorem dX11_run_2 : decode cX11_run 2 = .ok (.if_icmp .lt 10, 3) := by decide +kernel
theorem dX11_run_5 : decode cX11_run 5 = .ok (.iload_n 1, 1) := by decide +kernel
theorem dX11_run_6 : decode cX11_run 6 = .ok (.sipush 20000, 3) := by decide +kernel
theorem dX11_run_9 : decode cX11_run 9 = .ok (.if_icmp .le 11, 3) := by decide +kernel
theorem dX11_run_12 : decode cX11_run 12 = .ok (.new 47, 3) := by decide +kernel
theorem dX11_run_15 : decode cX11_run 15 = .ok (.dup, 1) := by decide +kernel
theorem dX11_run_16 : decode cX11_run 16 = .ok (.invokespecial 49, 3) := by decide +kernel
theorem dX11_run_19 : decode cX11_run 19 = .ok (.athrow, 1) := by decide +kernel
theorem dX11_run_20 : decode cX11_run 20 = .ok (.aload_n 0, 1) := by decide +kernel
theorem dX11_run_21 : decode cX11_run 21 = .ok (.getfield 76, 3) := by decide +kernel
theorem dX11_run_24 : decode cX11_run 24 = .ok (.ifCond .ne 11, 3) := by decide +kernel
theorem dX11_run_27 : decode cX11_run 27 = .ok (.new 62, 3) := by decide +kernel
theorem dX11_run_30 : decode cX11_run 30 = .ok (.dup, 1) := by decide +kernel
theorem dX11_run_31 : decode cX11_run 31 = .ok (.invokespecial 64, 3) := by decide +kernel
theorem dX11_run_34 : decode cX11_run 34 = .ok (.athrow, 1) := by decide +kernel
theorem dX11_run_35 : decode cX11_run 35 = .ok (.aload_n 0, 1) := by decide +kernel
theorem dX11_run_36 : decode cX11_run 36 = .ok (.getfield 23, 3) := by decide +kernel
theorem dX11_run_39 : decode cX11_run 39 = .ok (.iload_n 1, 1) := by decide +kernel
theorem dX11_run_40 : decode cX11_run 40 = .ok (.invokevirtual 83, 3) := by decide +kernel
theorem dX11_run_43 : decode cX11_run 43 = .ok (.ireturn, 1) := by decide +kernel
def fX11_run (a1 : Int32) (w : Wd) : Option (Option Int32 × Wd) :=
  if a1 < 1 then (some (none, w)) else (if a1 ≤ 20000 then (if (gi w 0 6) = 0 then (some (none, w)) else (bn2 (fX3_go a1 w) fun x4 w5 => some (some x4, w5))) else (some (none, w)))
theorem pX11_run {q : Gq} {l : Launch} {N : Option Value → Wd → Prop} {X : String → Wd → Prop} (hfl : l.stackTraces = false) {F : Nat → Prop} (hF : ∀ (U : State) (H : Heap), gE (GA q) U H → ENV F U H) (hAF : ∀ z, gAw (GA q) z → F z) {a1 : Int32} {w : Wd} {R : Option Int32 × Wd} (hN : ∀ r : Int32, R.1 = some r → N (some (.int r)) R.2) (hX : R.1 = none → X (exr a1) R.2) (h : fX11_run a1 w = some R) : RX (GA q) l 11 yX11_run cX11_run 2 ((some .int)) N X 0 [] [(0, .ref 0), (1, .int a1)] w := by
  unfold fX11_run at h
  refine x_iload_n (pc := 0) dX11_run_0 rfl 1 rfl ?_
  refine x_iconst (pc := 1) dX11_run_1 ki_1 ?_
  refine x_icmp_lt (pc := 2) dX11_run_2 rfl (fun hc1 => ?_) (fun hc1 => ?_)
  · replace h := if_t hc1 h
    exact x_throw (pc := 12) hfl hF hAF (by decide) (by decide) ceRX11_47 ieRX11_47 atX11_49_l atX11_49_g beRX11_47 oeRX11_47 dX11_run_12 dX11_run_15 dX11_run_16 dX11_run_19 ⟨(Nat.le_of_ble_eq_true rfl), rfl⟩ (Nat.le_of_ble_eq_true rfl) h (fun e => by have := hX e; rw [exr_a (by first | exact Or.inl (by assumption) | exact Or.inr (by assumption) | exact Or.inr (Int32.not_le.mp (by assumption)))] at this; exact this)
  replace h := if_f hc1 h
  refine x_iload_n (pc := 5) dX11_run_5 rfl 1 rfl ?_
  refine x_sipush (pc := 6) dX11_run_6 ks_20000 ?_
  refine x_icmp_le (pc := 9) dX11_run_9 rfl (fun hc2 => ?_) (fun hc2 => ?_)
  · replace h := if_t hc2 h
    refine x_aload_n (pc := 20) dX11_run_20 rfl 0 rfl ?_
    refine x_get (pc := 21) (j := 6) (v := .int (gi w 0 6)) oA0 cf11 flRX11_76 rfl dX11_run_21 rfl ?_
    refine x_if_ne (pc := 24) dX11_run_24 rfl (fun hc3 => ?_) (fun hc3 => ?_)
    · replace h := if_f hc3 h
      refine x_aload_n (pc := 35) dX11_run_35 rfl 0 rfl ?_
      refine x_get (pc := 36) (j := 2) (v := .ref 48) oA0 cf11 flRX11_23 rfl dX11_run_36 rfl ?_
      refine x_iload_n (pc := 39) dX11_run_39 rfl 1 rfl ?_
      replace h := bn2_e h; obtain ⟨x4, w5, ew5, h⟩ := h
      refine x_cVi (pc := 40) wyX3_go oA48 rfl mlRX11_83 iyX3_go syX3_go ⟨(Nat.le_of_ble_eq_true rfl), (Nat.le_of_ble_eq_true rfl)⟩ rfl rfl (Nat.le_of_ble_eq_true rfl) dX11_run_40 (mX3_go ew5 (pI.mk ?_))
      exact xE_i (pc := 43) rfl dX11_run_43 h hN
    replace h := if_t hc3 h
    exact x_throw (pc := 27) hfl hF hAF (by decide) (by decide) ceRX11_62 ieRX11_62 atX11_64_l atX11_64_g beRX11_62 oeRX11_62 dX11_run_27 dX11_run_30 dX11_run_31 dX11_run_34 ⟨(Nat.le_of_ble_eq_true rfl), rfl⟩ (Nat.le_of_ble_eq_true rfl) h (fun e => by have := hX e; rw [exr_s (by assumption) (by assumption)] at this; exact this)
  replace h := if_f hc2 h
  exact x_throw (pc := 12) hfl hF hAF (by decide) (by decide) ceRX11_47 ieRX11_47 atX11_49_l atX11_49_g beRX11_47 oeRX11_47 dX11_run_12 dX11_run_15 dX11_run_16 dX11_run_19 ⟨(Nat.le_of_ble_eq_true rfl), rfl⟩ (Nat.le_of_ble_eq_true rfl) h (fun e => by have := hX e; rw [exr_a (by first | exact Or.inl (by assumption) | exact Or.inr (by assumption) | exact Or.inr (Int32.not_le.mp (by assumption)))] at this; exact this)
theorem mX11_run {q : Gq} {l : Launch} {N : Option Value → Wd → Prop} {X : String → Wd → Prop} {a1 : Int32} {w : Wd} (hfl : l.stackTraces = false) {F : Nat → Prop} (hF : ∀ (U : State) (H : Heap), gE (GA q) U H → ENV F U H) (hAF : ∀ z, gAw (GA q) z → F z) {o : Option Int32} {u : Wd} (h : fX11_run a1 w = some (o, u)) (hN : ∀ r : Int32, o = some r → N (some (.int r)) u) (hX : o = none → X (exr a1) u) : CtX (GA q) l 11 yX11_run cX11_run 2 ((some .int)) [.ref 0, .int a1] w N X := CtX.of (by decide) (Nat.le_of_ble_eq_true rfl) (pX11_run hfl hF hAF hN hX h)
/-! AlgolMill.out (I)J: E, 8 -/
theorem dX11_out_0 : decode cX11_out 0 = .ok (.iload_n 1, 1) := by decide +kernel
theorem dX11_out_1 : decode cX11_out 1 = .ok (.ifCond .lt 14, 3) := by decide +kernel
theorem dX11_out_4 : decode cX11_out 4 = .ok (.iload_n 1, 1) := by decide +kernel
theorem dX11_out_5 : decode cX11_out 5 = .ok (.aload_n 0, 1) := by decide +kernel
theorem dX11_out_6 : decode cX11_out 6 = .ok (.getfield 23, 3) := by decide +kernel
theorem dX11_out_9 : decode cX11_out 9 = .ok (.invokevirtual 87, 3) := by decide +kernel
theorem dX11_out_12 : decode cX11_out 12 = .ok (.if_icmp .lt 11, 3) := by decide +kernel
theorem dX11_out_15 : decode cX11_out 15 = .ok (.new 47, 3) := by decide +kernel
theorem dX11_out_18 : decode cX11_out 18 = .ok (.dup, 1) := by decide +kernel
theorem dX11_out_19 : decode cX11_out 19 = .ok (.invokespecial 49, 3) := by decide +kernel
theorem dX11_out_22 : decode cX11_out 22 = .ok (.athrow, 1) := by decide +kernel
theorem dX11_out_23 : decode cX11_out 23 = .ok (.aload_n 0, 1) := by decide +kernel
theorem dX11_out_24 : decode cX11_out 24 = .ok (.getfield 23, 3) := by decide +kernel
theorem dX11_out_27 : decode cX11_out 27 = .ok (.iload_n 1, 1) := by decide +kernel
theorem dX11_out_28 : decode cX11_out 28 = .ok (.invokevirtual 90, 3) := by decide +kernel
theorem dX11_out_31 : decode cX11_out 31 = .ok (.lreturn, 1) := by decide +kernel
def fX11_out (a1 : Int32) (w : Wd) : Option (Option Int64 × Wd) :=
  if a1 < 0 then (some (none, w)) else (lt (fX3_kept w) fun x2 => if a1 < x2 then (lt (fX3_printed a1 w) fun x4 => some (some x4, w)) else (some (none, w)))
theorem pX11_out {q : Gq} {l : Launch} {N : Option Value → Wd → Prop} {X : String → Wd → Prop} (hfl : l.stackTraces = false) {F : Nat → Prop} (hF : ∀ (U : State) (H : Heap), gE (GA q) U H → ENV F U H) (hAF : ∀ z, gAw (GA q) z → F z) {a1 : Int32} {w : Wd} {R : Option Int64 × Wd} (hN : ∀ r : Int64, R.1 = some r → N (some (.long r)) R.2) (hX : R.1 = none → X "java/lang/IllegalArgumentException" R.2) (h : fX11_out a1 w = some R) : RX (GA q) l 8 yX11_out cX11_out 2 ((some .long)) N X 0 [] [(0, .ref 0), (1, .int a1)] w := by
  unfold fX11_out at h
  refine x_iload_n (pc := 0) dX11_out_0 rfl 1 rfl ?_
  refine x_if_lt (pc := 1) dX11_out_1 rfl (fun hc1 => ?_) (fun hc1 => ?_)
  · replace h := if_t hc1 h
    exact x_throw (pc := 15) hfl hF hAF (by decide) (by decide) ceRX11_47 ieRX11_47 atX11_49_l atX11_49_g beRX11_47 oeRX11_47 dX11_out_15 dX11_out_18 dX11_out_19 dX11_out_22 ⟨(Nat.le_of_ble_eq_true rfl), rfl⟩ (Nat.le_of_ble_eq_true rfl) h hX
  replace h := if_f hc1 h
  refine x_iload_n (pc := 4) dX11_out_4 rfl 1 rfl ?_
  refine x_aload_n (pc := 5) dX11_out_5 rfl 0 rfl ?_
  refine x_get (pc := 6) (j := 2) (v := .ref 48) oA0 cf11 flRX11_23 rfl dX11_out_6 rfl ?_
  replace h := lt_e h; obtain ⟨x2, ex2, h⟩ := h
  refine x_cVi (pc := 9) wyX3_kept oA48 rfl mlRX11_87 iyX3_kept syX3_kept ⟨(Nat.le_of_ble_eq_true rfl), (Nat.le_of_ble_eq_true rfl)⟩ rfl rfl (Nat.le_of_ble_eq_true rfl) dX11_out_9 (mX3_kept ex2 (pI.mk ?_))
  refine x_icmp_lt (pc := 12) dX11_out_12 rfl (fun hc3 => ?_) (fun hc3 => ?_)
  · replace h := if_t hc3 h
    refine x_aload_n (pc := 23) dX11_out_23 rfl 0 rfl ?_
    refine x_get (pc := 24) (j := 2) (v := .ref 48) oA0 cf11 flRX11_23 rfl dX11_out_24 rfl ?_
    refine x_iload_n (pc := 27) dX11_out_27 rfl 1 rfl ?_
    replace h := lt_e h; obtain ⟨x4, ex4, h⟩ := h
    refine x_cVl (pc := 28) wyX3_printed oA48 rfl mlRX11_90 iyX3_printed syX3_printed ⟨(Nat.le_of_ble_eq_true rfl), (Nat.le_of_ble_eq_true rfl)⟩ rfl rfl (Nat.le_of_ble_eq_true rfl) dX11_out_28 (mX3_printed ex4 (pL.mk ?_))
    exact xE_l (pc := 31) rfl dX11_out_31 h hN
  replace h := if_f hc3 h
  exact x_throw (pc := 15) hfl hF hAF (by decide) (by decide) ceRX11_47 ieRX11_47 atX11_49_l atX11_49_g beRX11_47 oeRX11_47 dX11_out_15 dX11_out_18 dX11_out_19 dX11_out_22 ⟨(Nat.le_of_ble_eq_true rfl), rfl⟩ (Nat.le_of_ble_eq_true rfl) h hX
theorem mX11_out {q : Gq} {l : Launch} {N : Option Value → Wd → Prop} {X : String → Wd → Prop} {a1 : Int32} {w : Wd} (hfl : l.stackTraces = false) {F : Nat → Prop} (hF : ∀ (U : State) (H : Heap), gE (GA q) U H → ENV F U H) (hAF : ∀ z, gAw (GA q) z → F z) {o : Option Int64} {u : Wd} (h : fX11_out a1 w = some (o, u)) (hN : ∀ r : Int64, o = some r → N (some (.long r)) u) (hX : o = none → X "java/lang/IllegalArgumentException" u) : CtX (GA q) l 8 yX11_out cX11_out 2 ((some .long)) [.ref 0, .int a1] w N X := CtX.of (by decide) (Nat.le_of_ble_eq_true rfl) (pX11_out hfl hF hAF hN hX h)
/-! AlgolMill.count (I)I: P, 2 -/
theorem dX11_count_0 : decode cX11_count 0 = .ok (.iload_n 1, 1) := by decide +kernel
theorem dX11_count_1 : decode cX11_count 1 = .ok (.tableswitch 42 0 2 #[27, 32, 37], 27) := by decide +kernel
theorem dX11_count_28 : decode cX11_count 28 = .ok (.aload_n 0, 1) := by decide +kernel
theorem dX11_count_29 : decode cX11_count 29 = .ok (.getfield 31, 3) := by decide +kernel
theorem dX11_count_32 : decode cX11_count 32 = .ok (.ireturn, 1) := by decide +kernel
theorem dX11_count_33 : decode cX11_count 33 = .ok (.aload_n 0, 1) := by decide +kernel
theorem dX11_count_34 : decode cX11_count 34 = .ok (.getfield 58, 3) := by decide +kernel
theorem dX11_count_37 : decode cX11_count 37 = .ok (.ireturn, 1) := by decide +kernel
theorem dX11_count_38 : decode cX11_count 38 = .ok (.aload_n 0, 1) := by decide +kernel
theorem dX11_count_39 : decode cX11_count 39 = .ok (.getfield 27, 3) := by decide +kernel
theorem dX11_count_42 : decode cX11_count 42 = .ok (.ireturn, 1) := by decide +kernel
theorem dX11_count_43 : decode cX11_count 43 = .ok (.aload_n 0, 1) := by decide +kernel
theorem dX11_count_44 : decode cX11_count 44 = .ok (.getfield 23, 3) := by decide +kernel
theorem dX11_count_47 : decode cX11_count 47 = .ok (.iload_n 1, 1) := by decide +kernel
theorem dX11_count_48 : decode cX11_count 48 = .ok (.invokevirtual 94, 3) := by decide +kernel
theorem dX11_count_51 : decode cX11_count 51 = .ok (.ireturn, 1) := by decide +kernel
def fX11_count (a1 : Int32) (w : Wd) : Int32 :=
  if a1 = 0 then ((gi w 0 3)) else if a1 = 1 then ((gi w 0 4)) else if a1 = 2 then ((gi w 0 5)) else (lt (fX3_tally a1 w) fun x4 => x4)
theorem pX11_count {q : Gq} {l : Launch} {N : Option Value → Wd → Prop} {X : String → Wd → Prop} {w : Wd} {R : Int32} (hN : N (some (.int R)) w) {a1 : Int32} (h : fX11_count a1 w = R) : RT (GA q) l 2 yX11_count cX11_count 2 ((some .int)) N X 0 [] [(0, .ref 0), (1, .int a1)] w := by
  unfold fX11_count at h
  refine r_iload_n (pc := 0) dX11_count_0 rfl 1 rfl ?_
  by_cases hc1 : a1 = 0
  · refine r_tabC (pc := 1) (off := 27) (tgt := 28) (L := [0]) dX11_count_1 hc1 (by decide) rfl ?_
    replace h := if_t hc1 h
    refine r_aload_n (pc := 28) dX11_count_28 rfl 0 rfl ?_
    refine r_get (pc := 29) (j := 3) (v := .int (gi w 0 3)) oA0 cf11 flRX11_31 rfl dX11_count_29 rfl ?_
    exact rP_i (pc := 32) rfl dX11_count_32 h hN
  replace h := if_f hc1 h
  by_cases hc2 : a1 = 1
  · refine r_tabC (pc := 1) (off := 32) (tgt := 33) (L := [1]) dX11_count_1 hc2 (by decide) rfl ?_
    replace h := if_t hc2 h
    refine r_aload_n (pc := 33) dX11_count_33 rfl 0 rfl ?_
    refine r_get (pc := 34) (j := 4) (v := .int (gi w 0 4)) oA0 cf11 flRX11_58 rfl dX11_count_34 rfl ?_
    exact rP_i (pc := 37) rfl dX11_count_37 h hN
  replace h := if_f hc2 h
  by_cases hc3 : a1 = 2
  · refine r_tabC (pc := 1) (off := 37) (tgt := 38) (L := [2]) dX11_count_1 hc3 (by decide) rfl ?_
    replace h := if_t hc3 h
    refine r_aload_n (pc := 38) dX11_count_38 rfl 0 rfl ?_
    refine r_get (pc := 39) (j := 5) (v := .int (gi w 0 5)) oA0 cf11 flRX11_27 rfl dX11_count_39 rfl ?_
    exact rP_i (pc := 42) rfl dX11_count_42 h hN
  replace h := if_f hc3 h
  refine r_tabD (pc := 1) (tgt := 43) (K := [[0], [1], [2]]) dX11_count_1 ⟨hc1, hc2, hc3, trivial⟩ (by decide) (by decide) rfl ?_
  refine r_aload_n (pc := 43) dX11_count_43 rfl 0 rfl ?_
  refine r_get (pc := 44) (j := 2) (v := .ref 48) oA0 cf11 flRX11_23 rfl dX11_count_44 rfl ?_
  refine r_iload_n (pc := 47) dX11_count_47 rfl 1 rfl ?_
  replace h := lt_e h; obtain ⟨x4, ex4, h⟩ := h
  refine r_cVi (pc := 48) wyX3_tally oA48 rfl mlRX11_94 iyX3_tally syX3_tally ⟨(Nat.le_of_ble_eq_true rfl), (Nat.le_of_ble_eq_true rfl)⟩ rfl rfl (Nat.le_of_ble_eq_true rfl) dX11_count_48 (mX3_tally ex4 (pI.mk ?_))
  exact rP_i (pc := 51) rfl dX11_count_51 h hN
theorem mX11_count {q : Gq} {l : Launch} {N : Option Value → Wd → Prop} {X : String → Wd → Prop} {a1 : Int32} {w : Wd} {x : Int32} (h : fX11_count a1 w = x) (hN : N (some (.int x)) w) : Ct (GA q) l 2 yX11_count cX11_count 2 ((some .int)) [.ref 0, .int a1] w N X := Ct.of (by decide) (Nat.le_of_ble_eq_true rfl) (pX11_count hN h)
