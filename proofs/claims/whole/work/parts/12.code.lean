/-! Code -/
theorem kb_22 : (Int8.ofInt 22).toInt32 = 22 := by decide
theorem kb_28 : (Int8.ofInt 28).toInt32 = 28 := by decide
theorem ki_0 : Int32.ofInt 0 = 0 := by decide
theorem ki_1 : Int32.ofInt 1 = 1 := by decide
theorem kcRX0_13 : Cond.constant RX0 13 36872 ∈ TB := tb1 sg2 40 rfl rfl
theorem kcRX0_45 : Cond.constantLong RX0 45 4194303 ∈ TB := tb1 sg7 37 rfl rfl
theorem kcRX0_47 : Cond.constantLong RX0 47 63 ∈ TB := tb1 sg8 163 rfl rfl
/-! AlgolMill$Code.restart (I)V: S, 0 -/
theorem dX0_restart_0 : decode cX0_restart 0 = .ok (.aload_n 0, 1) := by decide +kernel
theorem dX0_restart_1 : decode cX0_restart 1 = .ok (.iload_n 1, 1) := by decide +kernel
theorem dX0_restart_2 : decode cX0_restart 2 = .ok (.putfield 18, 3) := by decide +kernel
theorem dX0_restart_5 : decode cX0_restart 5 = .ok (.return_, 1) := by decide +kernel
def fX0_restart (a1 : Int32) (w : Wd) : Wd :=
  lt (si w 40 1 a1) fun w1 => w1
theorem pX0_restart {q : Gq} {l : Launch} {N : Option Value → Wd → Prop} {X : String → Wd → Prop} {w : Wd} {R : Wd} (hN : N none R) {a1 : Int32} (h : fX0_restart a1 w = R) : RT (GA q) l 0 yX0_restart cX0_restart 2 (none) N X 0 [] [(0, .ref 40), (1, .int a1)] w := by
  unfold fX0_restart at h
  refine r_aload_n (pc := 0) dX0_restart_0 rfl 0 rfl ?_
  refine r_iload_n (pc := 1) dX0_restart_1 rfl 1 rfl ?_
  replace h := lt_e h; obtain ⟨w1, ew1, h⟩ := h
  refine r_putI (pc := 2) (j := 1) oA40 cf0 flRX0_18 rfl rfl rfl rfl dX0_restart_2 ?_
  refine r_w ew1 ?_
  exact rS_v (pc := 5) rfl dX0_restart_5 h hN
theorem mX0_restart {q : Gq} {l : Launch} {N : Option Value → Wd → Prop} {X : String → Wd → Prop} {a1 : Int32} {w : Wd} {u : Wd} (h : fX0_restart a1 w = u) (hN : N none u) : Ct (GA q) l 0 yX0_restart cX0_restart 2 (none) [.ref 40, .int a1] w N X := Ct.of (by decide) (Nat.le_of_ble_eq_true rfl) (pX0_restart hN h)
/-! AlgolMill$Code.size ()I: P, 1 -/
theorem dX0_size_0 : decode cX0_size 0 = .ok (.aload_n 0, 1) := by decide +kernel
theorem dX0_size_1 : decode cX0_size 1 = .ok (.getfield 18, 3) := by decide +kernel
theorem dX0_size_4 : decode cX0_size 4 = .ok (.ldc 13, 2) := by decide +kernel
theorem dX0_size_6 : decode cX0_size 6 = .ok (.invokestatic 22, 3) := by decide +kernel
theorem dX0_size_9 : decode cX0_size 9 = .ok (.ireturn, 1) := by decide +kernel
def fX0_size (w : Wd) : Int32 :=
  lt (fJ9_min_7cf53 (gi w 40 1) 36872) fun x1 => x1
theorem pX0_size {q : Gq} {l : Launch} {N : Option Value → Wd → Prop} {X : String → Wd → Prop} {w : Wd} {R : Int32} (hN : N (some (.int R)) w) (h : fX0_size w = R) : RT (GA q) l 1 yX0_size cX0_size 1 ((some .int)) N X 0 [] [(0, .ref 40)] w := by
  unfold fX0_size at h
  refine r_aload_n (pc := 0) dX0_size_0 rfl 0 rfl ?_
  refine r_get (pc := 1) (j := 1) (v := .int (gi w 40 1)) oA40 cf0 flRX0_18 rfl dX0_size_1 rfl ?_
  refine r_ldc (pc := 4) dX0_size_4 kcRX0_13 ?_
  replace h := lt_e h; obtain ⟨x1, ex1, h⟩ := h
  refine r_cSi (pc := 6) wyJ9_min_7cf53 mlRX0_22 tyJ9_min_7cf53 ⟨(Nat.le_of_ble_eq_true rfl), (Nat.le_of_ble_eq_true rfl)⟩ rfl rfl (Nat.le_of_ble_eq_true rfl) dX0_size_6 (mJ9_min_7cf53 ex1 (pI.mk ?_))
  exact rP_i (pc := 9) rfl dX0_size_9 h hN
theorem mX0_size {q : Gq} {l : Launch} {N : Option Value → Wd → Prop} {X : String → Wd → Prop} {w : Wd} {x : Int32} (h : fX0_size w = x) (hN : N (some (.int x)) w) : Ct (GA q) l 1 yX0_size cX0_size 1 ((some .int)) [.ref 40] w N X := Ct.of (by decide) (Nat.le_of_ble_eq_true rfl) (pX0_size hN h)
/-! AlgolMill$Code.words ()[J: P, 0 -/
theorem dX0_words_0 : decode cX0_words 0 = .ok (.aload_n 0, 1) := by decide +kernel
theorem dX0_words_1 : decode cX0_words 1 = .ok (.getfield 14, 3) := by decide +kernel
theorem dX0_words_4 : decode cX0_words 4 = .ok (.areturn, 1) := by decide +kernel
theorem pX0_words {q : Gq} {l : Launch} {N : Option Value → Wd → Prop} {X : String → Wd → Prop} {w : Wd} (hN : N (some (.ref 41)) w) : RT (GA q) l 0 yX0_words cX0_words 1 ((some (.array .long))) N X 0 [] [(0, .ref 40)] w := by
  refine r_aload_n (pc := 0) dX0_words_0 rfl 0 rfl ?_
  refine r_get (pc := 1) (j := 0) (v := .ref 41) oA40 cf0 flRX0_14 rfl dX0_words_1 rfl ?_
  exact r_areturn (pc := 4) rfl (Or.inr ⟨_, rfl⟩) dX0_words_4 hN
theorem mX0_words {q : Gq} {l : Launch} {N : Option Value → Wd → Prop} {X : String → Wd → Prop} {w : Wd} (hN : N (some (.ref 41)) w) : Ct (GA q) l 0 yX0_words cX0_words 1 ((some (.array .long))) [.ref 40] w N X := Ct.of (by decide) (Nat.le_of_ble_eq_true rfl) (pX0_words hN )
/-! AlgolMill$Code.here ()I: P, 0 -/
theorem dX0_here_0 : decode cX0_here 0 = .ok (.aload_n 0, 1) := by decide +kernel
theorem dX0_here_1 : decode cX0_here 1 = .ok (.getfield 18, 3) := by decide +kernel
theorem dX0_here_4 : decode cX0_here 4 = .ok (.ireturn, 1) := by decide +kernel
def fX0_here (w : Wd) : Int32 :=
  (gi w 40 1)
theorem pX0_here {q : Gq} {l : Launch} {N : Option Value → Wd → Prop} {X : String → Wd → Prop} {w : Wd} {R : Int32} (hN : N (some (.int R)) w) (h : fX0_here w = R) : RT (GA q) l 0 yX0_here cX0_here 1 ((some .int)) N X 0 [] [(0, .ref 40)] w := by
  unfold fX0_here at h
  refine r_aload_n (pc := 0) dX0_here_0 rfl 0 rfl ?_
  refine r_get (pc := 1) (j := 1) (v := .int (gi w 40 1)) oA40 cf0 flRX0_18 rfl dX0_here_1 rfl ?_
  exact rP_i (pc := 4) rfl dX0_here_4 h hN
theorem mX0_here {q : Gq} {l : Launch} {N : Option Value → Wd → Prop} {X : String → Wd → Prop} {w : Wd} {x : Int32} (h : fX0_here w = x) (hN : N (some (.int x)) w) : Ct (GA q) l 0 yX0_here cX0_here 1 ((some .int)) [.ref 40] w N X := Ct.of (by decide) (Nat.le_of_ble_eq_true rfl) (pX0_here hN h)
/-! AlgolMill$Code.word (J)I: S, 1 -/
theorem dX0_word_0 : decode cX0_word 0 = .ok (.aload_n 0, 1) := by decide +kernel
theorem dX0_word_1 : decode cX0_word 1 = .ok (.getfield 14, 3) := by decide +kernel
theorem dX0_word_4 : decode cX0_word 4 = .ok (.aload_n 0, 1) := by decide +kernel
theorem dX0_word_5 : decode cX0_word 5 = .ok (.getfield 18, 3) := by decide +kernel
theorem dX0_word_8 : decode cX0_word 8 = .ok (.lload_n 1, 1) := by decide +kernel
theorem dX0_word_9 : decode cX0_word 9 = .ok (.invokestatic 28, 3) := by decide +kernel
theorem dX0_word_12 : decode cX0_word 12 = .ok (.aload_n 0, 1) := by decide +kernel
theorem dX0_word_13 : decode cX0_word 13 = .ok (.dup, 1) := by decide +kernel
theorem dX0_word_14 : decode cX0_word 14 = .ok (.getfield 18, 3) := by decide +kernel
theorem dX0_word_17 : decode cX0_word 17 = .ok (.iconst 1, 1) := by decide +kernel
theorem dX0_word_18 : decode cX0_word 18 = .ok (.iadd, 1) := by decide +kernel
theorem dX0_word_19 : decode cX0_word 19 = .ok (.putfield 18, 3) := by decide +kernel
theorem dX0_word_22 : decode cX0_word 22 = .ok (.aload_n 0, 1) := by decide +kernel
theorem dX0_word_23 : decode cX0_word 23 = .ok (.getfield 18, 3) := by decide +kernel
theorem dX0_word_26 : decode cX0_word 26 = .ok (.iconst 1, 1) := by decide +kernel
theorem dX0_word_27 : decode cX0_word 27 = .ok (.isub, 1) := by decide +kernel
theorem dX0_word_28 : decode cX0_word 28 = .ok (.ireturn, 1) := by decide +kernel
def fX0_word (a1 : Int64) (w : Wd) : Int32 × Wd :=
  lt (rsl w 41 36872 (gi w 40 1) a1) fun w1 => lt (si w1 40 1 ((gi w1 40 1) + 1)) fun w2 => (((gi w2 40 1) - 1), w2)
theorem pX0_word {q : Gq} {l : Launch} {N : Option Value → Wd → Prop} {X : String → Wd → Prop} {w : Wd} {R : Int32 × Wd} (hN : N (some (.int R.1)) R.2) {a1 : Int64} (h : fX0_word a1 w = R) : RT (GA q) l 1 yX0_word cX0_word 3 ((some .int)) N X 0 [] [(0, .ref 40), (1, .long a1)] w := by
  unfold fX0_word at h
  refine r_aload_n (pc := 0) dX0_word_0 rfl 0 rfl ?_
  refine r_get (pc := 1) (j := 0) (v := .ref 41) oA40 cf0 flRX0_14 rfl dX0_word_1 rfl ?_
  refine r_aload_n (pc := 4) dX0_word_4 rfl 0 rfl ?_
  refine r_get (pc := 5) (j := 1) (v := .int (gi w 40 1)) oA40 cf0 flRX0_18 rfl dX0_word_5 rfl ?_
  refine r_lload_n (pc := 8) dX0_word_8 rfl 1 rfl ?_
  replace h := lt_e h; obtain ⟨w1, ew1, h⟩ := h
  refine r_cSv (pc := 9) wyX6_set_ mlRX0_28 tyX6_set_ ⟨(Nat.le_of_ble_eq_true rfl), (Nat.le_of_ble_eq_true rfl)⟩ rfl rfl (Nat.le_of_ble_eq_true rfl) dX0_word_9 (mX6_set_ aA41 (Nat.le_of_ble_eq_true rfl) ew1 (pV.mk ?_))
  refine r_aload_n (pc := 12) dX0_word_12 rfl 0 rfl ?_
  refine r_dup (pc := 13) dX0_word_13 rfl ?_
  refine r_get (pc := 14) (j := 1) (v := .int (gi w1 40 1)) oA40 cf0 flRX0_18 rfl dX0_word_14 rfl ?_
  refine r_iconst (pc := 17) dX0_word_17 ki_1 ?_
  refine r_iadd (pc := 18) dX0_word_18 ?_
  replace h := lt_e h; obtain ⟨w2, ew2, h⟩ := h
  refine r_putI (pc := 19) (j := 1) oA40 cf0 flRX0_18 rfl rfl rfl rfl dX0_word_19 ?_
  refine r_w ew2 ?_
  refine r_aload_n (pc := 22) dX0_word_22 rfl 0 rfl ?_
  refine r_get (pc := 23) (j := 1) (v := .int (gi w2 40 1)) oA40 cf0 flRX0_18 rfl dX0_word_23 rfl ?_
  refine r_iconst (pc := 26) dX0_word_26 ki_1 ?_
  refine r_isub (pc := 27) dX0_word_27 ?_
  exact rS_i (pc := 28) rfl dX0_word_28 h hN
theorem mX0_word {q : Gq} {l : Launch} {N : Option Value → Wd → Prop} {X : String → Wd → Prop} {a1 : Int64} {w : Wd} {x : Int32} {u : Wd} (h : fX0_word a1 w = (x, u)) (hN : N (some (.int x)) u) : Ct (GA q) l 1 yX0_word cX0_word 3 ((some .int)) [.ref 40, .long a1] w N X := Ct.of (by decide) (Nat.le_of_ble_eq_true rfl) (pX0_word hN h)
/-! AlgolMill$Code.put (III)I: S, 2 -/
theorem dX0_put_0 : decode cX0_put 0 = .ok (.aload_n 0, 1) := by decide +kernel
theorem dX0_put_1 : decode cX0_put 1 = .ok (.iload_n 1, 1) := by decide +kernel
theorem dX0_put_2 : decode cX0_put 2 = .ok (.i2l, 1) := by decide +kernel
theorem dX0_put_3 : decode cX0_put 3 = .ok (.bipush 28, 2) := by decide +kernel
theorem dX0_put_5 : decode cX0_put 5 = .ok (.lshl, 1) := by decide +kernel
theorem dX0_put_6 : decode cX0_put 6 = .ok (.iload_n 2, 1) := by decide +kernel
theorem dX0_put_7 : decode cX0_put 7 = .ok (.i2l, 1) := by decide +kernel
theorem dX0_put_8 : decode cX0_put 8 = .ok (.bipush 22, 2) := by decide +kernel
theorem dX0_put_10 : decode cX0_put 10 = .ok (.lshl, 1) := by decide +kernel
theorem dX0_put_11 : decode cX0_put 11 = .ok (.lor, 1) := by decide +kernel
theorem dX0_put_12 : decode cX0_put 12 = .ok (.iload_n 3, 1) := by decide +kernel
theorem dX0_put_13 : decode cX0_put 13 = .ok (.i2l, 1) := by decide +kernel
theorem dX0_put_14 : decode cX0_put 14 = .ok (.lor, 1) := by decide +kernel
theorem dX0_put_15 : decode cX0_put 15 = .ok (.invokevirtual 34, 3) := by decide +kernel
theorem dX0_put_18 : decode cX0_put 18 = .ok (.ireturn, 1) := by decide +kernel
def fX0_put (a1 : Int32) (a2 : Int32) (a3 : Int32) (w : Wd) : Int32 × Wd :=
  lt2 (fX0_word ((((Int32.toInt64 a1) <<< (Int32.toInt64 28 &&& 63)) ||| ((Int32.toInt64 a2) <<< (Int32.toInt64 22 &&& 63))) ||| (Int32.toInt64 a3)) w) fun x1 w2 => (x1, w2)
theorem pX0_put {q : Gq} {l : Launch} {N : Option Value → Wd → Prop} {X : String → Wd → Prop} {w : Wd} {R : Int32 × Wd} (hN : N (some (.int R.1)) R.2) {a1 : Int32} {a2 : Int32} {a3 : Int32} (h : fX0_put a1 a2 a3 w = R) : RT (GA q) l 2 yX0_put cX0_put 4 ((some .int)) N X 0 [] [(0, .ref 40), (1, .int a1), (2, .int a2), (3, .int a3)] w := by
  unfold fX0_put at h
  refine r_aload_n (pc := 0) dX0_put_0 rfl 0 rfl ?_
  refine r_iload_n (pc := 1) dX0_put_1 rfl 1 rfl ?_
  refine r_i2l (pc := 2) dX0_put_2 ?_
  refine r_bipush (pc := 3) dX0_put_3 kb_28 ?_
  refine r_lshl (pc := 5) dX0_put_5 ?_
  refine r_iload_n (pc := 6) dX0_put_6 rfl 2 rfl ?_
  refine r_i2l (pc := 7) dX0_put_7 ?_
  refine r_bipush (pc := 8) dX0_put_8 kb_22 ?_
  refine r_lshl (pc := 10) dX0_put_10 ?_
  refine r_lor (pc := 11) dX0_put_11 ?_
  refine r_iload_n (pc := 12) dX0_put_12 rfl 3 rfl ?_
  refine r_i2l (pc := 13) dX0_put_13 ?_
  refine r_lor (pc := 14) dX0_put_14 ?_
  replace h := lt2_e h; obtain ⟨x1, w2, ew2, h⟩ := h
  refine r_cVi (pc := 15) wyX0_word oA40 rfl mlRX0_34 iyX0_word syX0_word ⟨(Nat.le_of_ble_eq_true rfl), (Nat.le_of_ble_eq_true rfl)⟩ rfl rfl (Nat.le_of_ble_eq_true rfl) dX0_put_15 (mX0_word ew2 (pI.mk ?_))
  exact rS_i (pc := 18) rfl dX0_put_18 h hN
theorem mX0_put {q : Gq} {l : Launch} {N : Option Value → Wd → Prop} {X : String → Wd → Prop} {a1 : Int32} {a2 : Int32} {a3 : Int32} {w : Wd} {x : Int32} {u : Wd} (h : fX0_put a1 a2 a3 w = (x, u)) (hN : N (some (.int x)) u) : Ct (GA q) l 2 yX0_put cX0_put 4 ((some .int)) [.ref 40, .int a1, .int a2, .int a3] w N X := Ct.of (by decide) (Nat.le_of_ble_eq_true rfl) (pX0_put hN h)
/-! AlgolMill$Code.put (II)I: S, 3 -/
theorem dX0_put__0 : decode cX0_put_ 0 = .ok (.aload_n 0, 1) := by decide +kernel
theorem dX0_put__1 : decode cX0_put_ 1 = .ok (.iload_n 1, 1) := by decide +kernel
theorem dX0_put__2 : decode cX0_put_ 2 = .ok (.iconst 0, 1) := by decide +kernel
theorem dX0_put__3 : decode cX0_put_ 3 = .ok (.iload_n 2, 1) := by decide +kernel
theorem dX0_put__4 : decode cX0_put_ 4 = .ok (.invokevirtual 38, 3) := by decide +kernel
theorem dX0_put__7 : decode cX0_put_ 7 = .ok (.ireturn, 1) := by decide +kernel
def fX0_put_ (a1 : Int32) (a2 : Int32) (w : Wd) : Int32 × Wd :=
  lt2 (fX0_put a1 0 a2 w) fun x1 w2 => (x1, w2)
theorem pX0_put_ {q : Gq} {l : Launch} {N : Option Value → Wd → Prop} {X : String → Wd → Prop} {w : Wd} {R : Int32 × Wd} (hN : N (some (.int R.1)) R.2) {a1 : Int32} {a2 : Int32} (h : fX0_put_ a1 a2 w = R) : RT (GA q) l 3 yX0_put_ cX0_put_ 3 ((some .int)) N X 0 [] [(0, .ref 40), (1, .int a1), (2, .int a2)] w := by
  unfold fX0_put_ at h
  refine r_aload_n (pc := 0) dX0_put__0 rfl 0 rfl ?_
  refine r_iload_n (pc := 1) dX0_put__1 rfl 1 rfl ?_
  refine r_iconst (pc := 2) dX0_put__2 ki_0 ?_
  refine r_iload_n (pc := 3) dX0_put__3 rfl 2 rfl ?_
  replace h := lt2_e h; obtain ⟨x1, w2, ew2, h⟩ := h
  refine r_cVi (pc := 4) wyX0_put oA40 rfl mlRX0_38 iyX0_put syX0_put ⟨(Nat.le_of_ble_eq_true rfl), (Nat.le_of_ble_eq_true rfl)⟩ rfl rfl (Nat.le_of_ble_eq_true rfl) dX0_put__4 (mX0_put ew2 (pI.mk ?_))
  exact rS_i (pc := 7) rfl dX0_put__7 h hN
theorem mX0_put_ {q : Gq} {l : Launch} {N : Option Value → Wd → Prop} {X : String → Wd → Prop} {a1 : Int32} {a2 : Int32} {w : Wd} {x : Int32} {u : Wd} (h : fX0_put_ a1 a2 w = (x, u)) (hN : N (some (.int x)) u) : Ct (GA q) l 3 yX0_put_ cX0_put_ 3 ((some .int)) [.ref 40, .int a1, .int a2] w N X := Ct.of (by decide) (Nat.le_of_ble_eq_true rfl) (pX0_put_ hN h)
/-! AlgolMill$Code.put (I)I: S, 3 -/
theorem dX0_put___0 : decode cX0_put__ 0 = .ok (.aload_n 0, 1) := by decide +kernel
theorem dX0_put___1 : decode cX0_put__ 1 = .ok (.iload_n 1, 1) := by decide +kernel
theorem dX0_put___2 : decode cX0_put__ 2 = .ok (.iconst 0, 1) := by decide +kernel
theorem dX0_put___3 : decode cX0_put__ 3 = .ok (.iconst 0, 1) := by decide +kernel
theorem dX0_put___4 : decode cX0_put__ 4 = .ok (.invokevirtual 38, 3) := by decide +kernel
theorem dX0_put___7 : decode cX0_put__ 7 = .ok (.ireturn, 1) := by decide +kernel
def fX0_put__ (a1 : Int32) (w : Wd) : Int32 × Wd :=
  lt2 (fX0_put a1 0 0 w) fun x1 w2 => (x1, w2)
theorem pX0_put__ {q : Gq} {l : Launch} {N : Option Value → Wd → Prop} {X : String → Wd → Prop} {w : Wd} {R : Int32 × Wd} (hN : N (some (.int R.1)) R.2) {a1 : Int32} (h : fX0_put__ a1 w = R) : RT (GA q) l 3 yX0_put__ cX0_put__ 2 ((some .int)) N X 0 [] [(0, .ref 40), (1, .int a1)] w := by
  unfold fX0_put__ at h
  refine r_aload_n (pc := 0) dX0_put___0 rfl 0 rfl ?_
  refine r_iload_n (pc := 1) dX0_put___1 rfl 1 rfl ?_
  refine r_iconst (pc := 2) dX0_put___2 ki_0 ?_
  refine r_iconst (pc := 3) dX0_put___3 ki_0 ?_
  replace h := lt2_e h; obtain ⟨x1, w2, ew2, h⟩ := h
  refine r_cVi (pc := 4) wyX0_put oA40 rfl mlRX0_38 iyX0_put syX0_put ⟨(Nat.le_of_ble_eq_true rfl), (Nat.le_of_ble_eq_true rfl)⟩ rfl rfl (Nat.le_of_ble_eq_true rfl) dX0_put___4 (mX0_put ew2 (pI.mk ?_))
  exact rS_i (pc := 7) rfl dX0_put___7 h hN
theorem mX0_put__ {q : Gq} {l : Launch} {N : Option Value → Wd → Prop} {X : String → Wd → Prop} {a1 : Int32} {w : Wd} {x : Int32} {u : Wd} (h : fX0_put__ a1 w = (x, u)) (hN : N (some (.int x)) u) : Ct (GA q) l 3 yX0_put__ cX0_put__ 2 ((some .int)) [.ref 40, .int a1] w N X := Ct.of (by decide) (Nat.le_of_ble_eq_true rfl) (pX0_put__ hN h)
/-! AlgolMill$Code.set (IJ)V: S, 1 -/
theorem dX0_set_0 : decode cX0_set 0 = .ok (.aload_n 0, 1) := by decide +kernel
theorem dX0_set_1 : decode cX0_set 1 = .ok (.getfield 14, 3) := by decide +kernel
theorem dX0_set_4 : decode cX0_set 4 = .ok (.iload_n 1, 1) := by decide +kernel
theorem dX0_set_5 : decode cX0_set 5 = .ok (.lload_n 2, 1) := by decide +kernel
theorem dX0_set_6 : decode cX0_set 6 = .ok (.invokestatic 28, 3) := by decide +kernel
theorem dX0_set_9 : decode cX0_set 9 = .ok (.return_, 1) := by decide +kernel
def fX0_set (a1 : Int32) (a2 : Int64) (w : Wd) : Wd :=
  lt (rsl w 41 36872 a1 a2) fun w1 => w1
theorem pX0_set {q : Gq} {l : Launch} {N : Option Value → Wd → Prop} {X : String → Wd → Prop} {w : Wd} {R : Wd} (hN : N none R) {a1 : Int32} {a2 : Int64} (h : fX0_set a1 a2 w = R) : RT (GA q) l 1 yX0_set cX0_set 4 (none) N X 0 [] [(0, .ref 40), (1, .int a1), (2, .long a2)] w := by
  unfold fX0_set at h
  refine r_aload_n (pc := 0) dX0_set_0 rfl 0 rfl ?_
  refine r_get (pc := 1) (j := 0) (v := .ref 41) oA40 cf0 flRX0_14 rfl dX0_set_1 rfl ?_
  refine r_iload_n (pc := 4) dX0_set_4 rfl 1 rfl ?_
  refine r_lload_n (pc := 5) dX0_set_5 rfl 2 rfl ?_
  replace h := lt_e h; obtain ⟨w1, ew1, h⟩ := h
  refine r_cSv (pc := 6) wyX6_set_ mlRX0_28 tyX6_set_ ⟨(Nat.le_of_ble_eq_true rfl), (Nat.le_of_ble_eq_true rfl)⟩ rfl rfl (Nat.le_of_ble_eq_true rfl) dX0_set_6 (mX6_set_ aA41 (Nat.le_of_ble_eq_true rfl) ew1 (pV.mk ?_))
  exact rS_v (pc := 9) rfl dX0_set_9 h hN
theorem mX0_set {q : Gq} {l : Launch} {N : Option Value → Wd → Prop} {X : String → Wd → Prop} {a1 : Int32} {a2 : Int64} {w : Wd} {u : Wd} (h : fX0_set a1 a2 w = u) (hN : N none u) : Ct (GA q) l 1 yX0_set cX0_set 4 (none) [.ref 40, .int a1, .long a2] w N X := Ct.of (by decide) (Nat.le_of_ble_eq_true rfl) (pX0_set hN h)
/-! AlgolMill$Code.setCell (I)V: S, 2 -/
theorem dX0_setCell_0 : decode cX0_setCell 0 = .ok (.aload_n 0, 1) := by decide +kernel
theorem dX0_setCell_1 : decode cX0_setCell 1 = .ok (.iload_n 1, 1) := by decide +kernel
theorem dX0_setCell_2 : decode cX0_setCell 2 = .ok (.aload_n 0, 1) := by decide +kernel
theorem dX0_setCell_3 : decode cX0_setCell 3 = .ok (.getfield 18, 3) := by decide +kernel
theorem dX0_setCell_6 : decode cX0_setCell 6 = .ok (.i2l, 1) := by decide +kernel
theorem dX0_setCell_7 : decode cX0_setCell 7 = .ok (.invokevirtual 42, 3) := by decide +kernel
theorem dX0_setCell_10 : decode cX0_setCell 10 = .ok (.return_, 1) := by decide +kernel
def fX0_setCell (a1 : Int32) (w : Wd) : Wd :=
  lt (fX0_set a1 (Int32.toInt64 (gi w 40 1)) w) fun w1 => w1
theorem pX0_setCell {q : Gq} {l : Launch} {N : Option Value → Wd → Prop} {X : String → Wd → Prop} {w : Wd} {R : Wd} (hN : N none R) {a1 : Int32} (h : fX0_setCell a1 w = R) : RT (GA q) l 2 yX0_setCell cX0_setCell 2 (none) N X 0 [] [(0, .ref 40), (1, .int a1)] w := by
  unfold fX0_setCell at h
  refine r_aload_n (pc := 0) dX0_setCell_0 rfl 0 rfl ?_
  refine r_iload_n (pc := 1) dX0_setCell_1 rfl 1 rfl ?_
  refine r_aload_n (pc := 2) dX0_setCell_2 rfl 0 rfl ?_
  refine r_get (pc := 3) (j := 1) (v := .int (gi w 40 1)) oA40 cf0 flRX0_18 rfl dX0_setCell_3 rfl ?_
  refine r_i2l (pc := 6) dX0_setCell_6 ?_
  replace h := lt_e h; obtain ⟨w1, ew1, h⟩ := h
  refine r_cVv (pc := 7) wyX0_set oA40 rfl mlRX0_42 iyX0_set syX0_set ⟨(Nat.le_of_ble_eq_true rfl), (Nat.le_of_ble_eq_true rfl)⟩ rfl rfl (Nat.le_of_ble_eq_true rfl) dX0_setCell_7 (mX0_set ew1 (pV.mk ?_))
  exact rS_v (pc := 10) rfl dX0_setCell_10 h hN
theorem mX0_setCell {q : Gq} {l : Launch} {N : Option Value → Wd → Prop} {X : String → Wd → Prop} {a1 : Int32} {w : Wd} {u : Wd} (h : fX0_setCell a1 w = u) (hN : N none u) : Ct (GA q) l 2 yX0_setCell cX0_setCell 2 (none) [.ref 40, .int a1] w N X := Ct.of (by decide) (Nat.le_of_ble_eq_true rfl) (pX0_setCell hN h)
/-! AlgolMill$Code.operand (J)I: P, 0 -/
theorem dX0_operand_0 : decode cX0_operand 0 = .ok (.lload_n 0, 1) := by decide +kernel
theorem dX0_operand_1 : decode cX0_operand 1 = .ok (.ldc2_w 45, 3) := by decide +kernel
theorem dX0_operand_4 : decode cX0_operand 4 = .ok (.land, 1) := by decide +kernel
theorem dX0_operand_5 : decode cX0_operand 5 = .ok (.l2i, 1) := by decide +kernel
theorem dX0_operand_6 : decode cX0_operand 6 = .ok (.ireturn, 1) := by decide +kernel
def fX0_operand (a0 : Int64) (w : Wd) : Int32 :=
  (Int64.toInt32 (a0 &&& 4194303))
theorem pX0_operand {q : Gq} {l : Launch} {N : Option Value → Wd → Prop} {X : String → Wd → Prop} {w : Wd} {R : Int32} (hN : N (some (.int R)) w) {a0 : Int64} (h : fX0_operand a0 w = R) : RT (GA q) l 0 yX0_operand cX0_operand 2 ((some .int)) N X 0 [] [(0, .long a0)] w := by
  unfold fX0_operand at h
  refine r_lload_n (pc := 0) dX0_operand_0 rfl 0 rfl ?_
  refine r_ldc2 (pc := 1) dX0_operand_1 kcRX0_45 ?_
  refine r_land (pc := 4) dX0_operand_4 ?_
  refine r_l2i (pc := 5) dX0_operand_5 ?_
  exact rP_i (pc := 6) rfl dX0_operand_6 h hN
theorem mX0_operand {q : Gq} {l : Launch} {N : Option Value → Wd → Prop} {X : String → Wd → Prop} {a0 : Int64} {w : Wd} {x : Int32} (h : fX0_operand a0 w = x) (hN : N (some (.int x)) w) : Ct (GA q) l 0 yX0_operand cX0_operand 2 ((some .int)) [.long a0] w N X := Ct.of (by decide) (Nat.le_of_ble_eq_true rfl) (pX0_operand hN h)
/-! AlgolMill$Code.hops (J)I: P, 0 -/
theorem dX0_hops_0 : decode cX0_hops 0 = .ok (.lload_n 0, 1) := by decide +kernel
theorem dX0_hops_1 : decode cX0_hops 1 = .ok (.bipush 22, 2) := by decide +kernel
theorem dX0_hops_3 : decode cX0_hops 3 = .ok (.lshr, 1) := by decide +kernel
theorem dX0_hops_4 : decode cX0_hops 4 = .ok (.ldc2_w 47, 3) := by decide +kernel
theorem dX0_hops_7 : decode cX0_hops 7 = .ok (.land, 1) := by decide +kernel
theorem dX0_hops_8 : decode cX0_hops 8 = .ok (.l2i, 1) := by decide +kernel
theorem dX0_hops_9 : decode cX0_hops 9 = .ok (.ireturn, 1) := by decide +kernel
def fX0_hops (a0 : Int64) (w : Wd) : Int32 :=
  (Int64.toInt32 ((a0 >>> (Int32.toInt64 22 &&& 63)) &&& 63))
theorem pX0_hops {q : Gq} {l : Launch} {N : Option Value → Wd → Prop} {X : String → Wd → Prop} {w : Wd} {R : Int32} (hN : N (some (.int R)) w) {a0 : Int64} (h : fX0_hops a0 w = R) : RT (GA q) l 0 yX0_hops cX0_hops 2 ((some .int)) N X 0 [] [(0, .long a0)] w := by
  unfold fX0_hops at h
  refine r_lload_n (pc := 0) dX0_hops_0 rfl 0 rfl ?_
  refine r_bipush (pc := 1) dX0_hops_1 kb_22 ?_
  refine r_lshr (pc := 3) dX0_hops_3 ?_
  refine r_ldc2 (pc := 4) dX0_hops_4 kcRX0_47 ?_
  refine r_land (pc := 7) dX0_hops_7 ?_
  refine r_l2i (pc := 8) dX0_hops_8 ?_
  exact rP_i (pc := 9) rfl dX0_hops_9 h hN
theorem mX0_hops {q : Gq} {l : Launch} {N : Option Value → Wd → Prop} {X : String → Wd → Prop} {a0 : Int64} {w : Wd} {x : Int32} (h : fX0_hops a0 w = x) (hN : N (some (.int x)) w) : Ct (GA q) l 0 yX0_hops cX0_hops 2 ((some .int)) [.long a0] w N X := Ct.of (by decide) (Nat.le_of_ble_eq_true rfl) (pX0_hops hN h)
/-! AlgolMill$Code.what (J)I: P, 0 -/
theorem dX0_what_0 : decode cX0_what 0 = .ok (.lload_n 0, 1) := by decide +kernel
theorem dX0_what_1 : decode cX0_what 1 = .ok (.bipush 28, 2) := by decide +kernel
theorem dX0_what_3 : decode cX0_what 3 = .ok (.lshr, 1) := by decide +kernel
theorem dX0_what_4 : decode cX0_what 4 = .ok (.l2i, 1) := by decide +kernel
theorem dX0_what_5 : decode cX0_what 5 = .ok (.ireturn, 1) := by decide +kernel
def fX0_what (a0 : Int64) (w : Wd) : Int32 :=
  (Int64.toInt32 (a0 >>> (Int32.toInt64 28 &&& 63)))
theorem pX0_what {q : Gq} {l : Launch} {N : Option Value → Wd → Prop} {X : String → Wd → Prop} {w : Wd} {R : Int32} (hN : N (some (.int R)) w) {a0 : Int64} (h : fX0_what a0 w = R) : RT (GA q) l 0 yX0_what cX0_what 2 ((some .int)) N X 0 [] [(0, .long a0)] w := by
  unfold fX0_what at h
  refine r_lload_n (pc := 0) dX0_what_0 rfl 0 rfl ?_
  refine r_bipush (pc := 1) dX0_what_1 kb_28 ?_
  refine r_lshr (pc := 3) dX0_what_3 ?_
  refine r_l2i (pc := 4) dX0_what_4 ?_
  exact rP_i (pc := 5) rfl dX0_what_5 h hN
theorem mX0_what {q : Gq} {l : Launch} {N : Option Value → Wd → Prop} {X : String → Wd → Prop} {a0 : Int64} {w : Wd} {x : Int32} (h : fX0_what a0 w = x) (hN : N (some (.int x)) w) : Ct (GA q) l 0 yX0_what cX0_what 2 ((some .int)) [.long a0] w N X := Ct.of (by decide) (Nat.le_of_ble_eq_true rfl) (pX0_what hN h)
/-! AlgolMill$Code.patch (I)I: S, 2 -/
theorem dX0_patch_0 : decode cX0_patch 0 = .ok (.aload_n 0, 1) := by decide +kernel
theorem dX0_patch_1 : decode cX0_patch 1 = .ok (.getfield 14, 3) := by decide +kernel
theorem dX0_patch_4 : decode cX0_patch 4 = .ok (.iload_n 1, 1) := by decide +kernel
theorem dX0_patch_5 : decode cX0_patch 5 = .ok (.invokestatic 49, 3) := by decide +kernel
theorem dX0_patch_8 : decode cX0_patch 8 = .ok (.lstore_n 2, 1) := by decide +kernel
theorem dX0_patch_9 : decode cX0_patch 9 = .ok (.aload_n 0, 1) := by decide +kernel
theorem dX0_patch_10 : decode cX0_patch 10 = .ok (.iload_n 1, 1) := by decide +kernel
theorem dX0_patch_11 : decode cX0_patch 11 = .ok (.lload_n 2, 1) := by decide +kernel
theorem dX0_patch_12 : decode cX0_patch 12 = .ok (.lload_n 2, 1) := by decide +kernel
theorem dX0_patch_13 : decode cX0_patch 13 = .ok (.invokestatic 53, 3) := by decide +kernel
theorem dX0_patch_16 : decode cX0_patch 16 = .ok (.i2l, 1) := by decide +kernel
theorem dX0_patch_17 : decode cX0_patch 17 = .ok (.lsub, 1) := by decide +kernel
theorem dX0_patch_18 : decode cX0_patch 18 = .ok (.aload_n 0, 1) := by decide +kernel
theorem dX0_patch_19 : decode cX0_patch 19 = .ok (.getfield 18, 3) := by decide +kernel
theorem dX0_patch_22 : decode cX0_patch 22 = .ok (.i2l, 1) := by decide +kernel
theorem dX0_patch_23 : decode cX0_patch 23 = .ok (.ladd, 1) := by decide +kernel
theorem dX0_patch_24 : decode cX0_patch 24 = .ok (.invokevirtual 42, 3) := by decide +kernel
theorem dX0_patch_27 : decode cX0_patch 27 = .ok (.lload_n 2, 1) := by decide +kernel
theorem dX0_patch_28 : decode cX0_patch 28 = .ok (.invokestatic 53, 3) := by decide +kernel
theorem dX0_patch_31 : decode cX0_patch 31 = .ok (.ireturn, 1) := by decide +kernel
def fX0_patch (a1 : Int32) (w : Wd) : Int32 × Wd :=
  lt (rgl w 41 36872 a1) fun x1 => lt (fX0_operand x1 w) fun x2 => lt (fX0_set a1 ((x1 - (Int32.toInt64 x2)) + (Int32.toInt64 (gi w 40 1))) w) fun w3 => lt (fX0_operand x1 w3) fun x4 => (x4, w3)
theorem pX0_patch {q : Gq} {l : Launch} {N : Option Value → Wd → Prop} {X : String → Wd → Prop} {w : Wd} {R : Int32 × Wd} (hN : N (some (.int R.1)) R.2) {a1 : Int32} (h : fX0_patch a1 w = R) : RT (GA q) l 2 yX0_patch cX0_patch 4 ((some .int)) N X 0 [] [(0, .ref 40), (1, .int a1)] w := by
  unfold fX0_patch at h
  refine r_aload_n (pc := 0) dX0_patch_0 rfl 0 rfl ?_
  refine r_get (pc := 1) (j := 0) (v := .ref 41) oA40 cf0 flRX0_14 rfl dX0_patch_1 rfl ?_
  refine r_iload_n (pc := 4) dX0_patch_4 rfl 1 rfl ?_
  replace h := lt_e h; obtain ⟨x1, ex1, h⟩ := h
  refine r_cSl (pc := 5) wyX6_get_ mlRX0_49 tyX6_get_ ⟨(Nat.le_of_ble_eq_true rfl), (Nat.le_of_ble_eq_true rfl)⟩ rfl rfl (Nat.le_of_ble_eq_true rfl) dX0_patch_5 (mX6_get_ aA41 (Nat.le_of_ble_eq_true rfl) ex1 (pL.mk ?_))
  refine r_lstore_n (pc := 8) (loc' := [(2, .long x1), (0, .ref 40), (1, .int a1)]) dX0_patch_8 rfl (Nat.le_of_ble_eq_true rfl) rfl ?_
  refine r_aload_n (pc := 9) dX0_patch_9 rfl 1 rfl ?_
  refine r_iload_n (pc := 10) dX0_patch_10 rfl 2 rfl ?_
  refine r_lload_n (pc := 11) dX0_patch_11 rfl 0 rfl ?_
  refine r_lload_n (pc := 12) dX0_patch_12 rfl 0 rfl ?_
  replace h := lt_e h; obtain ⟨x2, ex2, h⟩ := h
  refine r_cSi (pc := 13) wyX0_operand mlRX0_53 tyX0_operand ⟨(Nat.le_of_ble_eq_true rfl), (Nat.le_of_ble_eq_true rfl)⟩ rfl rfl (Nat.le_of_ble_eq_true rfl) dX0_patch_13 (mX0_operand ex2 (pI.mk ?_))
  refine r_i2l (pc := 16) dX0_patch_16 ?_
  refine r_lsub (pc := 17) dX0_patch_17 ?_
  refine r_aload_n (pc := 18) dX0_patch_18 rfl 1 rfl ?_
  refine r_get (pc := 19) (j := 1) (v := .int (gi w 40 1)) oA40 cf0 flRX0_18 rfl dX0_patch_19 rfl ?_
  refine r_i2l (pc := 22) dX0_patch_22 ?_
  refine r_ladd (pc := 23) dX0_patch_23 ?_
  replace h := lt_e h; obtain ⟨w3, ew3, h⟩ := h
  refine r_cVv (pc := 24) wyX0_set oA40 rfl mlRX0_42 iyX0_set syX0_set ⟨(Nat.le_of_ble_eq_true rfl), (Nat.le_of_ble_eq_true rfl)⟩ rfl rfl (Nat.le_of_ble_eq_true rfl) dX0_patch_24 (mX0_set ew3 (pV.mk ?_))
  refine r_lload_n (pc := 27) dX0_patch_27 rfl 0 rfl ?_
  replace h := lt_e h; obtain ⟨x4, ex4, h⟩ := h
  refine r_cSi (pc := 28) wyX0_operand mlRX0_53 tyX0_operand ⟨(Nat.le_of_ble_eq_true rfl), (Nat.le_of_ble_eq_true rfl)⟩ rfl rfl (Nat.le_of_ble_eq_true rfl) dX0_patch_28 (mX0_operand ex4 (pI.mk ?_))
  exact rS_i (pc := 31) rfl dX0_patch_31 h hN
theorem mX0_patch {q : Gq} {l : Launch} {N : Option Value → Wd → Prop} {X : String → Wd → Prop} {a1 : Int32} {w : Wd} {x : Int32} {u : Wd} (h : fX0_patch a1 w = (x, u)) (hN : N (some (.int x)) u) : Ct (GA q) l 2 yX0_patch cX0_patch 4 ((some .int)) [.ref 40, .int a1] w N X := Ct.of (by decide) (Nat.le_of_ble_eq_true rfl) (pX0_patch hN h)
/-! AlgolMill$Code.patchAll (I)V: O, 3 -/
theorem dX0_patchAll_0 : decode cX0_patchAll 0 = .ok (.iload_n 1, 1) := by decide +kernel
theorem dX0_patchAll_1 : decode cX0_patchAll 1 = .ok (.istore_n 2, 1) := by decide +kernel
theorem dX0_patchAll_2 : decode cX0_patchAll 2 = .ok (.iconst 0, 1) := by decide +kernel
theorem dX0_patchAll_3 : decode cX0_patchAll 3 = .ok (.istore_n 3, 1) := by decide +kernel
theorem dX0_patchAll_4 : decode cX0_patchAll 4 = .ok (.iload_n 2, 1) := by decide +kernel
theorem dX0_patchAll_5 : decode cX0_patchAll 5 = .ok (.ifCond .eq 21, 3) := by decide +kernel
theorem dX0_patchAll_8 : decode cX0_patchAll 8 = .ok (.iload_n 3, 1) := by decide +kernel
theorem dX0_patchAll_9 : decode cX0_patchAll 9 = .ok (.ldc 13, 2) := by decide +kernel
theorem dX0_patchAll_11 : decode cX0_patchAll 11 = .ok (.if_icmp .ge 15, 3) := by decide +kernel
theorem dX0_patchAll_14 : decode cX0_patchAll 14 = .ok (.aload_n 0, 1) := by decide +kernel
theorem dX0_patchAll_15 : decode cX0_patchAll 15 = .ok (.iload_n 2, 1) := by decide +kernel
theorem dX0_patchAll_16 : decode cX0_patchAll 16 = .ok (.invokevirtual 56, 3) := by decide +kernel
theorem dX0_patchAll_19 : decode cX0_patchAll 19 = .ok (.istore_n 2, 1) := by decide +kernel
theorem dX0_patchAll_20 : decode cX0_patchAll 20 = .ok (.iinc 3 1, 3) := by decide +kernel
theorem dX0_patchAll_23 : decode cX0_patchAll 23 = .ok (.goto (-19), 3) := by decide +kernel
theorem dX0_patchAll_26 : decode cX0_patchAll 26 = .ok (.return_, 1) := by decide +kernel
def fX0_patchAll_4 (k_4 : Int32 → Int32 → Wd → Option Wd) (a2 : Int32) (a3 : Int32) (w : Wd) : Option Wd :=
  if a2 = 0 then (some w) else (if 36872 ≤ a3 then (some w) else (lt2 (fX0_patch a2 w) fun x3 w4 => lt (a3 + 1) fun x5 => k_4 x3 x5 w4))
theorem pX0_patchAll_4 {q : Gq} {l : Launch} {N : Option Value → Wd → Prop} {X : String → Wd → Prop} {w : Wd} {R : Wd} (hN : N none R) {k_4 : Int32 → Int32 → Wd → Option Wd} (hk_4 : ∀ (a2 : Int32) (a3 : Int32) (w : Wd), k_4 a2 a3 w = some R → RT (GA q) l 3 yX0_patchAll cX0_patchAll 4 (none) N X 4 [] [(0, .ref 40), (2, .int a2), (3, .int a3)] w) {a2 : Int32} {a3 : Int32} (h : fX0_patchAll_4 k_4 a2 a3 w = some R) : RT (GA q) l 3 yX0_patchAll cX0_patchAll 4 (none) N X 4 [] [(0, .ref 40), (2, .int a2), (3, .int a3)] w := by
  unfold fX0_patchAll_4 at h
  refine r_iload_n (pc := 4) dX0_patchAll_4 rfl 1 rfl ?_
  refine r_if_eq (pc := 5) dX0_patchAll_5 rfl (fun hc1 => ?_) (fun hc1 => ?_)
  · replace h := if_t hc1 h
    exact rO_v (pc := 26) rfl dX0_patchAll_26 h hN
  replace h := if_f hc1 h
  refine r_iload_n (pc := 8) dX0_patchAll_8 rfl 2 rfl ?_
  refine r_ldc (pc := 9) dX0_patchAll_9 kcRX0_13 ?_
  refine r_icmp_ge (pc := 11) dX0_patchAll_11 rfl (fun hc2 => ?_) (fun hc2 => ?_)
  · replace h := if_t hc2 h
    exact rO_v (pc := 26) rfl dX0_patchAll_26 h hN
  replace h := if_f hc2 h
  refine r_aload_n (pc := 14) dX0_patchAll_14 rfl 0 rfl ?_
  refine r_iload_n (pc := 15) dX0_patchAll_15 rfl 1 rfl ?_
  replace h := lt2_e h; obtain ⟨x3, w4, ew4, h⟩ := h
  refine r_cVi (pc := 16) wyX0_patch oA40 rfl mlRX0_56 iyX0_patch syX0_patch ⟨(Nat.le_of_ble_eq_true rfl), (Nat.le_of_ble_eq_true rfl)⟩ rfl rfl (Nat.le_of_ble_eq_true rfl) dX0_patchAll_16 (mX0_patch ew4 (pI.mk ?_))
  refine r_istore_n (pc := 19) (loc' := [(2, .int x3), (0, .ref 40), (3, .int a3)]) dX0_patchAll_19 rfl (Nat.le_of_ble_eq_true rfl) rfl ?_
  replace h := lt_e h; obtain ⟨x5, ex5, h⟩ := h
  refine r_inc (pc := 20) (loc' := [(3, .int x5), (2, .int x3), (0, .ref 40)]) dX0_patchAll_20 ki_1 ex5 2 rfl (Nat.le_of_ble_eq_true rfl) rfl ?_
  refine r_goto (pc := 23) dX0_patchAll_23 rfl ?_
  refine r_drop (loc' := [(0, .ref 40), (2, .int x3), (3, .int x5)]) [2, 1, 0] rfl ?_
  exact hk_4 x3 x5 w4 h
def oX0_patchAll_4 : Nat → Int32 → Int32 → Wd → Option Wd
  | 0 => fun _ _ _ => none
  | n + 1 => fX0_patchAll_4 (oX0_patchAll_4 n)
theorem qX0_patchAll_4 {q : Gq} {l : Launch} {N : Option Value → Wd → Prop} {X : String → Wd → Prop} {R : Wd} (hN : N none R) : ∀ (n : Nat) (a2 : Int32) (a3 : Int32) (w : Wd), oX0_patchAll_4 n a2 a3 w = some R → RT (GA q) l 3 yX0_patchAll cX0_patchAll 4 (none) N X 4 [] [(0, .ref 40), (2, .int a2), (3, .int a3)] w := by
  intro n
  induction n with
  | zero =>
    intro a2 a3 w h
    exact absurd h (fun q => nomatch q)
  | succ n ih =>
    intro a2 a3 w h
    exact pX0_patchAll_4 hN ih h
def fX0_patchAll (a1 : Int32) (w : Wd) : Option Wd :=
  oX0_patchAll_4 FU a1 0 w
theorem pX0_patchAll {q : Gq} {l : Launch} {N : Option Value → Wd → Prop} {X : String → Wd → Prop} {w : Wd} {R : Wd} (hN : N none R) {a1 : Int32} (h : fX0_patchAll a1 w = some R) : RT (GA q) l 3 yX0_patchAll cX0_patchAll 4 (none) N X 0 [] [(0, .ref 40), (1, .int a1)] w := by
  unfold fX0_patchAll at h
  refine r_iload_n (pc := 0) dX0_patchAll_0 rfl 1 rfl ?_
  refine r_istore_n (pc := 1) (loc' := [(2, .int a1), (0, .ref 40), (1, .int a1)]) dX0_patchAll_1 rfl (Nat.le_of_ble_eq_true rfl) rfl ?_
  refine r_iconst (pc := 2) dX0_patchAll_2 ki_0 ?_
  refine r_istore_n (pc := 3) (loc' := [(3, .int 0), (2, .int a1), (0, .ref 40), (1, .int a1)]) dX0_patchAll_3 rfl (Nat.le_of_ble_eq_true rfl) rfl ?_
  refine r_drop (loc' := [(0, .ref 40), (2, .int a1), (3, .int 0)]) [2, 1, 0] rfl ?_
  exact qX0_patchAll_4 hN FU a1 0 w h
theorem mX0_patchAll {q : Gq} {l : Launch} {N : Option Value → Wd → Prop} {X : String → Wd → Prop} {a1 : Int32} {w : Wd} {u : Wd} (h : fX0_patchAll a1 w = some u) (hN : N none u) : Ct (GA q) l 3 yX0_patchAll cX0_patchAll 4 (none) [.ref 40, .int a1] w N X := Ct.of (by decide) (Nat.le_of_ble_eq_true rfl) (pX0_patchAll hN h)
