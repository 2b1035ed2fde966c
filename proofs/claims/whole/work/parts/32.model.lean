/-! the reference -/
theorem kb_59 : (Int8.ofInt 59).toInt32 = 59 := by decide
theorem ks_261 : (Int16.ofInt 261).toInt32 = 261 := by decide
theorem ks_262 : (Int16.ofInt 262).toInt32 = 262 := by decide
theorem ks_264 : (Int16.ofInt 264).toInt32 = 264 := by decide
theorem ks_265 : (Int16.ofInt 265).toInt32 = 265 := by decide
/-! AlgolMillModel.aSwitch ()V: E, 904 -/
theorem dX12_aSwitch_0 : decode cX12_aSwitch 0 = .ok (.aload_n 0, 1) := by decide +kernel
theorem dX12_aSwitch_1 : decode cX12_aSwitch 1 = .ok (.invokevirtual 459, 3) := by decide +kernel
theorem dX12_aSwitch_4 : decode cX12_aSwitch 4 = .ok (.istore_n 1, 1) := by decide +kernel
theorem dX12_aSwitch_5 : decode cX12_aSwitch 5 = .ok (.aload_n 0, 1) := by decide +kernel
theorem dX12_aSwitch_6 : decode cX12_aSwitch 6 = .ok (.aload_n 0, 1) := by decide +kernel
theorem dX12_aSwitch_7 : decode cX12_aSwitch 7 = .ok (.getfield 471, 3) := by decide +kernel
theorem dX12_aSwitch_10 : decode cX12_aSwitch 10 = .ok (.aload_n 0, 1) := by decide +kernel
theorem dX12_aSwitch_11 : decode cX12_aSwitch 11 = .ok (.sipush 285, 3) := by decide +kernel
theorem dX12_aSwitch_14 : decode cX12_aSwitch 14 = .ok (.invokevirtual 491, 3) := by decide +kernel
theorem dX12_aSwitch_17 : decode cX12_aSwitch 17 = .ok (.iconst 5, 1) := by decide +kernel
theorem dX12_aSwitch_18 : decode cX12_aSwitch 18 = .ok (.iconst 0, 1) := by decide +kernel
theorem dX12_aSwitch_19 : decode cX12_aSwitch 19 = .ok (.invokevirtual 531, 3) := by decide +kernel
theorem dX12_aSwitch_22 : decode cX12_aSwitch 22 = .ok (.istore_n 2, 1) := by decide +kernel
theorem dX12_aSwitch_23 : decode cX12_aSwitch 23 = .ok (.aload_n 0, 1) := by decide +kernel
theorem dX12_aSwitch_24 : decode cX12_aSwitch 24 = .ok (.sipush 290, 3) := by decide +kernel
theorem dX12_aSwitch_27 : decode cX12_aSwitch 27 = .ok (.invokevirtual 491, 3) := by decide +kernel
theorem dX12_aSwitch_30 : decode cX12_aSwitch 30 = .ok (.istore_n 1, 1) := by decide +kernel
theorem dX12_aSwitch_31 : decode cX12_aSwitch 31 = .ok (.iconst (-1), 1) := by decide +kernel
theorem dX12_aSwitch_32 : decode cX12_aSwitch 32 = .ok (.istore_n 3, 1) := by decide +kernel
theorem dX12_aSwitch_33 : decode cX12_aSwitch 33 = .ok (.aload_n 0, 1) := by decide +kernel
theorem dX12_aSwitch_34 : decode cX12_aSwitch 34 = .ok (.invokevirtual 541, 3) := by decide +kernel
theorem dX12_aSwitch_37 : decode cX12_aSwitch 37 = .ok (.istore 4, 2) := by decide +kernel
theorem dX12_aSwitch_39 : decode cX12_aSwitch 39 = .ok (.iload_n 3, 1) := by decide +kernel
theorem dX12_aSwitch_40 : decode cX12_aSwitch 40 = .ok (.ifCond .ge 14, 3) := by decide +kernel
theorem dX12_aSwitch_43 : decode cX12_aSwitch 43 = .ok (.aload_n 0, 1) := by decide +kernel
theorem dX12_aSwitch_44 : decode cX12_aSwitch 44 = .ok (.getfield 153, 3) := by decide +kernel
theorem dX12_aSwitch_47 : decode cX12_aSwitch 47 = .ok (.iload_n 2, 1) := by decide +kernel
theorem dX12_aSwitch_48 : decode cX12_aSwitch 48 = .ok (.iload 4, 2) := by decide +kernel
theorem dX12_aSwitch_50 : decode cX12_aSwitch 50 = .ok (.iastore, 1) := by decide +kernel
theorem dX12_aSwitch_51 : decode cX12_aSwitch 51 = .ok (.goto 11, 3) := by decide +kernel
theorem dX12_aSwitch_54 : decode cX12_aSwitch 54 = .ok (.aload_n 0, 1) := by decide +kernel
theorem dX12_aSwitch_55 : decode cX12_aSwitch 55 = .ok (.getfield 111, 3) := by decide +kernel
theorem dX12_aSwitch_58 : decode cX12_aSwitch 58 = .ok (.iload_n 3, 1) := by decide +kernel
theorem dX12_aSwitch_59 : decode cX12_aSwitch 59 = .ok (.iload 4, 2) := by decide +kernel
theorem dX12_aSwitch_61 : decode cX12_aSwitch 61 = .ok (.iastore, 1) := by decide +kernel
theorem dX12_aSwitch_62 : decode cX12_aSwitch 62 = .ok (.iload 4, 2) := by decide +kernel
theorem dX12_aSwitch_64 : decode cX12_aSwitch 64 = .ok (.istore_n 3, 1) := by decide +kernel
theorem dX12_aSwitch_65 : decode cX12_aSwitch 65 = .ok (.aload_n 0, 1) := by decide +kernel
theorem dX12_aSwitch_66 : decode cX12_aSwitch 66 = .ok (.bipush 44, 2) := by decide +kernel
theorem dX12_aSwitch_68 : decode cX12_aSwitch 68 = .ok (.invokevirtual 517, 3) := by decide +kernel
theorem dX12_aSwitch_71 : decode cX12_aSwitch 71 = .ok (.ifCond .ne (-38), 3) := by decide +kernel
theorem dX12_aSwitch_74 : decode cX12_aSwitch 74 = .ok (.return_, 1) := by decide +kernel
def fX12_aSwitch_33 (k_33 : Int32 → Int32 → Wd → Option (Option Unit × Wd)) (a2 : Int32) (a3 : Int32) (w : Wd) : Option (Option Unit × Wd) :=
  be (RX12_variable 900 3 0 0 0 w) fun x1 w2 => if 0 ≤ a3 then (if inb a3 24000 = true then lt (si w2 11 (Int32.toNatClampNeg a3) x1) fun w6 => be (fX12_skip 44 w6) fun x7 w8 => if x7 = true then (k_33 a2 x1 w8) else (some (some (), w8)) else none) else (if inb a2 5000 = true then lt (si w2 25 (Int32.toNatClampNeg a2) x1) fun w12 => be (fX12_skip 44 w12) fun x13 w14 => if x13 = true then (k_33 a2 x1 w14) else (some (some (), w14)) else none)
theorem pX12_aSwitch_33 {q : Gq} {l : Launch} {N : Option Value → Wd → Prop} {X : String → Wd → Prop} {w : Wd} {R : Option Unit × Wd} (hN : ∀ r : Unit, R.1 = some r → N none R.2) (hX : R.1 = none → X RAE R.2) {k_33 : Int32 → Int32 → Wd → Option (Option Unit × Wd)} (hk_33 : ∀ (a2 : Int32) (a3 : Int32) (w : Wd), k_33 a2 a3 w = some R → RT (GM q) l 904 yX12_aSwitch cX12_aSwitch 5 (none) N X 33 [] [(0, .ref 0), (2, .int a2), (3, .int a3)] w) {a2 : Int32} {a3 : Int32} (h : fX12_aSwitch_33 k_33 a2 a3 w = some R) : RT (GM q) l 904 yX12_aSwitch cX12_aSwitch 5 (none) N X 33 [] [(0, .ref 0), (2, .int a2), (3, .int a3)] w := by
  unfold fX12_aSwitch_33 at h
  refine r_aload_n (pc := 33) dX12_aSwitch_33 rfl 0 rfl ?_
  replace h := be_e h; obtain ⟨o3, w2, ew2, h1, h2⟩ := h
  refine r_cVi (pc := 34) wyX12_aim oM0 rfl mlRX12_541 iyX12_aim syX12_aim ⟨(Nat.le_of_ble_eq_true rfl), (Nat.le_of_ble_eq_true rfl)⟩ rfl rfl (Nat.le_of_ble_eq_true rfl) dX12_aSwitch_34 (mX12_aim ew2 (fun x1 ex1 => pI.mk ?_) (fun ez => be_x h2 ez hX))
  replace h := h1 _ ex1
  refine r_istore (pc := 37) (loc' := [(4, .int x1), (0, .ref 0), (2, .int a2), (3, .int a3)]) dX12_aSwitch_37 (Nat.le_of_ble_eq_true rfl) rfl ?_
  refine r_iload_n (pc := 39) dX12_aSwitch_39 rfl 3 rfl ?_
  refine r_if_ge (pc := 40) dX12_aSwitch_40 rfl (fun hc4 => ?_) (fun hc4 => ?_)
  · replace h := if_t hc4 h
    refine r_aload_n (pc := 54) dX12_aSwitch_54 rfl 1 rfl ?_
    refine r_get (pc := 55) (j := 20) (v := .ref 11) oM0 cf12 flRX12_111 rfl dX12_aSwitch_55 rfl ?_
    refine r_iload_n (pc := 58) dX12_aSwitch_58 rfl 3 rfl ?_
    refine r_iload (pc := 59) dX12_aSwitch_59 0 rfl ?_
    replace h := if_n h; obtain ⟨hb5, h⟩ := h
    replace h := lt_e h; obtain ⟨w6, ew6, h⟩ := h
    refine r_iast (pc := 61) aM11 (inb_in hb5) dX12_aSwitch_61 ?_
    refine r_w ew6 ?_
    refine r_iload (pc := 62) dX12_aSwitch_62 0 rfl ?_
    refine r_istore_n (pc := 64) (loc' := [(3, .int x1), (4, .int x1), (0, .ref 0), (2, .int a2)]) dX12_aSwitch_64 rfl (Nat.le_of_ble_eq_true rfl) rfl ?_
    refine r_aload_n (pc := 65) dX12_aSwitch_65 rfl 2 rfl ?_
    refine r_bipush (pc := 66) dX12_aSwitch_66 kb_44 ?_
    replace h := be_e h; obtain ⟨o9, w8, ew8, h1, h2⟩ := h
    refine r_cVi (pc := 68) wyX12_skip oM0 rfl mlRX12_517 iyX12_skip syX12_skip ⟨(Nat.le_of_ble_eq_true rfl), (Nat.le_of_ble_eq_true rfl)⟩ rfl rfl (Nat.le_of_ble_eq_true rfl) dX12_aSwitch_68 (mX12_skip ew8 (fun x7 ex7 => pI.mk ?_) (fun ez => be_x h2 ez hX))
    replace h := h1 _ ex7
    refine r_z_ne (pc := 71) dX12_aSwitch_71 rfl (fun hc10 => ?_) (fun hc10 => ?_)
    · replace h := if_t hc10 h
      refine r_drop (loc' := [(0, .ref 0), (2, .int a2), (3, .int x1)]) [2, 3, 0] rfl ?_
      exact hk_33 a2 x1 w8 h
    replace h := if_f hc10 h
    exact rE_v (pc := 74) rfl dX12_aSwitch_74 h hN
  replace h := if_f hc4 h
  refine r_aload_n (pc := 43) dX12_aSwitch_43 rfl 1 rfl ?_
  refine r_get (pc := 44) (j := 38) (v := .ref 25) oM0 cf12 flRX12_153 rfl dX12_aSwitch_44 rfl ?_
  refine r_iload_n (pc := 47) dX12_aSwitch_47 rfl 2 rfl ?_
  refine r_iload (pc := 48) dX12_aSwitch_48 0 rfl ?_
  replace h := if_n h; obtain ⟨hb11, h⟩ := h
  replace h := lt_e h; obtain ⟨w12, ew12, h⟩ := h
  refine r_iast (pc := 50) aM25 (inb_in hb11) dX12_aSwitch_50 ?_
  refine r_w ew12 ?_
  refine r_goto (pc := 51) dX12_aSwitch_51 rfl ?_
  refine r_iload (pc := 62) dX12_aSwitch_62 0 rfl ?_
  refine r_istore_n (pc := 64) (loc' := [(3, .int x1), (4, .int x1), (0, .ref 0), (2, .int a2)]) dX12_aSwitch_64 rfl (Nat.le_of_ble_eq_true rfl) rfl ?_
  refine r_aload_n (pc := 65) dX12_aSwitch_65 rfl 2 rfl ?_
  refine r_bipush (pc := 66) dX12_aSwitch_66 kb_44 ?_
  replace h := be_e h; obtain ⟨o15, w14, ew14, h1, h2⟩ := h
  refine r_cVi (pc := 68) wyX12_skip oM0 rfl mlRX12_517 iyX12_skip syX12_skip ⟨(Nat.le_of_ble_eq_true rfl), (Nat.le_of_ble_eq_true rfl)⟩ rfl rfl (Nat.le_of_ble_eq_true rfl) dX12_aSwitch_68 (mX12_skip ew14 (fun x13 ex13 => pI.mk ?_) (fun ez => be_x h2 ez hX))
  replace h := h1 _ ex13
  refine r_z_ne (pc := 71) dX12_aSwitch_71 rfl (fun hc16 => ?_) (fun hc16 => ?_)
  · replace h := if_t hc16 h
    refine r_drop (loc' := [(0, .ref 0), (2, .int a2), (3, .int x1)]) [2, 3, 0] rfl ?_
    exact hk_33 a2 x1 w14 h
  replace h := if_f hc16 h
  exact rE_v (pc := 74) rfl dX12_aSwitch_74 h hN
def oX12_aSwitch_33 : Nat → Int32 → Int32 → Wd → Option (Option Unit × Wd)
  | 0 => fun _ _ _ => none
  | n + 1 => fX12_aSwitch_33 (oX12_aSwitch_33 n)
theorem qX12_aSwitch_33 {q : Gq} {l : Launch} {N : Option Value → Wd → Prop} {X : String → Wd → Prop} {R : Option Unit × Wd} (hN : ∀ r : Unit, R.1 = some r → N none R.2) (hX : R.1 = none → X RAE R.2) : ∀ (n : Nat) (a2 : Int32) (a3 : Int32) (w : Wd), oX12_aSwitch_33 n a2 a3 w = some R → RT (GM q) l 904 yX12_aSwitch cX12_aSwitch 5 (none) N X 33 [] [(0, .ref 0), (2, .int a2), (3, .int a3)] w := by
  intro n
  induction n with
  | zero =>
    intro a2 a3 w h
    exact absurd h (fun q => nomatch q)
  | succ n ih =>
    intro a2 a3 w h
    exact pX12_aSwitch_33 hN hX ih h
def fX12_aSwitch (w : Wd) : Option (Option Unit × Wd) :=
  be (fX12_taken w) fun x1 w2 => be (fX12_expect 285 w2) fun x4 w5 => bn2 (fX12_declare (gi w2 0 29) x4 5 0 w5) fun x7 w8 => be (fX12_expect 290 w8) fun x9 w10 => oX12_aSwitch_33 FU x7 (-1) w10
theorem pX12_aSwitch {q : Gq} {l : Launch} {N : Option Value → Wd → Prop} {X : String → Wd → Prop} {w : Wd} {R : Option Unit × Wd} (hN : ∀ r : Unit, R.1 = some r → N none R.2) (hX : R.1 = none → X RAE R.2) (h : fX12_aSwitch w = some R) : RT (GM q) l 904 yX12_aSwitch cX12_aSwitch 5 (none) N X 0 [] [(0, .ref 0)] w := by
  unfold fX12_aSwitch at h
  refine r_aload_n (pc := 0) dX12_aSwitch_0 rfl 0 rfl ?_
  replace h := be_e h; obtain ⟨o3, w2, ew2, h1, h2⟩ := h
  refine r_cVi (pc := 1) wyX12_taken oM0 rfl mlRX12_459 iyX12_taken syX12_taken ⟨(Nat.le_of_ble_eq_true rfl), (Nat.le_of_ble_eq_true rfl)⟩ rfl rfl (Nat.le_of_ble_eq_true rfl) dX12_aSwitch_1 (mX12_taken ew2 (fun x1 ex1 => pI.mk ?_) (fun ez => be_x h2 ez hX))
  replace h := h1 _ ex1
  refine r_istore_n (pc := 4) (loc' := [(1, .int x1), (0, .ref 0)]) dX12_aSwitch_4 rfl (Nat.le_of_ble_eq_true rfl) rfl ?_
  refine r_aload_n (pc := 5) dX12_aSwitch_5 rfl 1 rfl ?_
  refine r_aload_n (pc := 6) dX12_aSwitch_6 rfl 1 rfl ?_
  refine r_get (pc := 7) (j := 29) (v := .int (gi w2 0 29)) oM0 cf12 flRX12_471 rfl dX12_aSwitch_7 rfl ?_
  refine r_aload_n (pc := 10) dX12_aSwitch_10 rfl 1 rfl ?_
  refine r_sipush (pc := 11) dX12_aSwitch_11 ks_285 ?_
  replace h := be_e h; obtain ⟨o6, w5, ew5, h1, h2⟩ := h
  refine r_cVi (pc := 14) wyX12_expect oM0 rfl mlRX12_491 iyX12_expect syX12_expect ⟨(Nat.le_of_ble_eq_true rfl), (Nat.le_of_ble_eq_true rfl)⟩ rfl rfl (Nat.le_of_ble_eq_true rfl) dX12_aSwitch_14 (mX12_expect ew5 (fun x4 ex4 => pI.mk ?_) (fun ez => be_x h2 ez hX))
  replace h := h1 _ ex4
  refine r_iconst (pc := 17) dX12_aSwitch_17 ki_5 ?_
  refine r_iconst (pc := 18) dX12_aSwitch_18 ki_0 ?_
  replace h := bn2_e h; obtain ⟨x7, w8, ew8, h⟩ := h
  refine r_cVi (pc := 19) wyX12_declare oM0 rfl mlRX12_531 iyX12_declare syX12_declare ⟨(Nat.le_of_ble_eq_true rfl), (Nat.le_of_ble_eq_true rfl)⟩ rfl rfl (Nat.le_of_ble_eq_true rfl) dX12_aSwitch_19 (mX12_declare ew8 (pI.mk ?_))
  refine r_istore_n (pc := 22) (loc' := [(2, .int x7), (1, .int x1), (0, .ref 0)]) dX12_aSwitch_22 rfl (Nat.le_of_ble_eq_true rfl) rfl ?_
  refine r_aload_n (pc := 23) dX12_aSwitch_23 rfl 2 rfl ?_
  refine r_sipush (pc := 24) dX12_aSwitch_24 ks_290 ?_
  replace h := be_e h; obtain ⟨o11, w10, ew10, h1, h2⟩ := h
  refine r_cVi (pc := 27) wyX12_expect oM0 rfl mlRX12_491 iyX12_expect syX12_expect ⟨(Nat.le_of_ble_eq_true rfl), (Nat.le_of_ble_eq_true rfl)⟩ rfl rfl (Nat.le_of_ble_eq_true rfl) dX12_aSwitch_27 (mX12_expect ew10 (fun x9 ex9 => pI.mk ?_) (fun ez => be_x h2 ez hX))
  replace h := h1 _ ex9
  refine r_istore_n (pc := 30) (loc' := [(1, .int x9), (2, .int x7), (0, .ref 0)]) dX12_aSwitch_30 rfl (Nat.le_of_ble_eq_true rfl) rfl ?_
  refine r_iconst (pc := 31) dX12_aSwitch_31 ki_m1 ?_
  refine r_istore_n (pc := 32) (loc' := [(3, .int (-1)), (1, .int x9), (2, .int x7), (0, .ref 0)]) dX12_aSwitch_32 rfl (Nat.le_of_ble_eq_true rfl) rfl ?_
  refine r_drop (loc' := [(0, .ref 0), (2, .int x7), (3, .int (-1))]) [3, 2, 0] rfl ?_
  exact qX12_aSwitch_33 hN hX FU x7 (-1) w10 h
theorem mX12_aSwitch {q : Gq} {l : Launch} {N : Option Value → Wd → Prop} {X : String → Wd → Prop} {w : Wd} {o : Option Unit} {u : Wd} (h : fX12_aSwitch w = some (o, u)) (hN : ∀ r : Unit, o = some r → N none u) (hX : o = none → X RAE u) : Ct (GM q) l 904 yX12_aSwitch cX12_aSwitch 5 (none) [.ref 0] w N X := Ct.of (by decide) (Nat.le_of_ble_eq_true rfl) (pX12_aSwitch hN hX h)
/-! AlgolMillModel.arrays (II)I: E, 904 -/
theorem dX12_arrays_0 : decode cX12_arrays 0 = .ok (.aload_n 0, 1) := by decide +kernel
theorem dX12_arrays_1 : decode cX12_arrays 1 = .ok (.invokevirtual 459, 3) := by decide +kernel
theorem dX12_arrays_4 : decode cX12_arrays 4 = .ok (.istore_n 3, 1) := by decide +kernel
theorem dX12_arrays_5 : decode cX12_arrays 5 = .ok (.aload_n 0, 1) := by decide +kernel
theorem dX12_arrays_6 : decode cX12_arrays 6 = .ok (.getfield 488, 3) := by decide +kernel
theorem dX12_arrays_9 : decode cX12_arrays 9 = .ok (.istore 4, 2) := by decide +kernel
theorem dX12_arrays_11 : decode cX12_arrays 11 = .ok (.aload_n 0, 1) := by decide +kernel
theorem dX12_arrays_12 : decode cX12_arrays 12 = .ok (.aload_n 0, 1) := by decide +kernel
theorem dX12_arrays_13 : decode cX12_arrays 13 = .ok (.getfield 471, 3) := by decide +kernel
theorem dX12_arrays_16 : decode cX12_arrays 16 = .ok (.aload_n 0, 1) := by decide +kernel
theorem dX12_arrays_17 : decode cX12_arrays 17 = .ok (.sipush 285, 3) := by decide +kernel
theorem dX12_arrays_20 : decode cX12_arrays 20 = .ok (.invokevirtual 491, 3) := by decide +kernel
theorem dX12_arrays_23 : decode cX12_arrays 23 = .ok (.iconst 2, 1) := by decide +kernel
theorem dX12_arrays_24 : decode cX12_arrays 24 = .ok (.iload_n 1, 1) := by decide +kernel
theorem dX12_arrays_25 : decode cX12_arrays 25 = .ok (.invokevirtual 531, 3) := by decide +kernel
theorem dX12_arrays_28 : decode cX12_arrays 28 = .ok (.istore_n 3, 1) := by decide +kernel
theorem dX12_arrays_29 : decode cX12_arrays 29 = .ok (.aload_n 0, 1) := by decide +kernel
theorem dX12_arrays_30 : decode cX12_arrays 30 = .ok (.bipush 44, 2) := by decide +kernel
theorem dX12_arrays_32 : decode cX12_arrays 32 = .ok (.invokevirtual 517, 3) := by decide +kernel
theorem dX12_arrays_35 : decode cX12_arrays 35 = .ok (.ifCond .ne (-24), 3) := by decide +kernel
theorem dX12_arrays_38 : decode cX12_arrays 38 = .ok (.aload_n 0, 1) := by decide +kernel
theorem dX12_arrays_39 : decode cX12_arrays 39 = .ok (.getfield 488, 3) := by decide +kernel
theorem dX12_arrays_42 : decode cX12_arrays 42 = .ok (.istore 5, 2) := by decide +kernel
theorem dX12_arrays_44 : decode cX12_arrays 44 = .ok (.aload_n 0, 1) := by decide +kernel
theorem dX12_arrays_45 : decode cX12_arrays 45 = .ok (.bipush 40, 2) := by decide +kernel
theorem dX12_arrays_47 : decode cX12_arrays 47 = .ok (.iload 4, 2) := by decide +kernel
theorem dX12_arrays_49 : decode cX12_arrays 49 = .ok (.iload 5, 2) := by decide +kernel
theorem dX12_arrays_51 : decode cX12_arrays 51 = .ok (.iconst (-1), 1) := by decide +kernel
theorem dX12_arrays_52 : decode cX12_arrays 52 = .ok (.aload_n 0, 1) := by decide +kernel
theorem dX12_arrays_53 : decode cX12_arrays 53 = .ok (.getfield 443, 3) := by decide +kernel
theorem dX12_arrays_56 : decode cX12_arrays 56 = .ok (.invokevirtual 500, 3) := by decide +kernel
theorem dX12_arrays_59 : decode cX12_arrays 59 = .ok (.istore 6, 2) := by decide +kernel
theorem dX12_arrays_61 : decode cX12_arrays 61 = .ok (.aload_n 0, 1) := by decide +kernel
theorem dX12_arrays_62 : decode cX12_arrays 62 = .ok (.bipush 91, 2) := by decide +kernel
theorem dX12_arrays_64 : decode cX12_arrays 64 = .ok (.invokevirtual 491, 3) := by decide +kernel
theorem dX12_arrays_67 : decode cX12_arrays 67 = .ok (.istore_n 3, 1) := by decide +kernel
theorem dX12_arrays_68 : decode cX12_arrays 68 = .ok (.aload_n 0, 1) := by decide +kernel
theorem dX12_arrays_69 : decode cX12_arrays 69 = .ok (.dup, 1) := by decide +kernel
theorem dX12_arrays_70 : decode cX12_arrays 70 = .ok (.getfield 449, 3) := by decide +kernel
theorem dX12_arrays_73 : decode cX12_arrays 73 = .ok (.iconst 1, 1) := by decide +kernel
theorem dX12_arrays_74 : decode cX12_arrays 74 = .ok (.iadd, 1) := by decide +kernel
theorem dX12_arrays_75 : decode cX12_arrays 75 = .ok (.putfield 449, 3) := by decide +kernel
theorem dX12_arrays_78 : decode cX12_arrays 78 = .ok (.aload_n 0, 1) := by decide +kernel
theorem dX12_arrays_79 : decode cX12_arrays 79 = .ok (.getfield 471, 3) := by decide +kernel
theorem dX12_arrays_82 : decode cX12_arrays 82 = .ok (.istore 7, 2) := by decide +kernel
theorem dX12_arrays_84 : decode cX12_arrays 84 = .ok (.aload_n 0, 1) := by decide +kernel
theorem dX12_arrays_85 : decode cX12_arrays 85 = .ok (.iload_n 2, 1) := by decide +kernel
theorem dX12_arrays_86 : decode cX12_arrays 86 = .ok (.putfield 471, 3) := by decide +kernel
theorem dX12_arrays_89 : decode cX12_arrays 89 = .ok (.iconst 0, 1) := by decide +kernel
theorem dX12_arrays_90 : decode cX12_arrays 90 = .ok (.istore 8, 2) := by decide +kernel
theorem dX12_arrays_92 : decode cX12_arrays 92 = .ok (.iconst (-1), 1) := by decide +kernel
theorem dX12_arrays_93 : decode cX12_arrays 93 = .ok (.istore 9, 2) := by decide +kernel
theorem dX12_arrays_95 : decode cX12_arrays 95 = .ok (.iload 8, 2) := by decide +kernel
theorem dX12_arrays_97 : decode cX12_arrays 97 = .ok (.iconst 3, 1) := by decide +kernel
theorem dX12_arrays_98 : decode cX12_arrays 98 = .ok (.if_icmp .ne 18, 3) := by decide +kernel
theorem dX12_arrays_101 : decode cX12_arrays 101 = .ok (.aload_n 0, 1) := by decide +kernel
theorem dX12_arrays_102 : decode cX12_arrays 102 = .ok (.dup, 1) := by decide +kernel
theorem dX12_arrays_103 : decode cX12_arrays 103 = .ok (.getfield 443, 3) := by decide +kernel
theorem dX12_arrays_106 : decode cX12_arrays 106 = .ok (.iconst 1, 1) := by decide +kernel
theorem dX12_arrays_107 : decode cX12_arrays 107 = .ok (.isub, 1) := by decide +kernel
theorem dX12_arrays_108 : decode cX12_arrays 108 = .ok (.putfield 443, 3) := by decide +kernel
theorem dX12_arrays_111 : decode cX12_arrays 111 = .ok (.aload_n 0, 1) := by decide +kernel
theorem dX12_arrays_112 : decode cX12_arrays 112 = .ok (.invokevirtual 455, 3) := by decide +kernel
theorem dX12_arrays_115 : decode cX12_arrays 115 = .ok (.athrow, 1) := by decide +kernel
theorem dX12_arrays_116 : decode cX12_arrays 116 = .ok (.aload_n 0, 1) := by decide +kernel
theorem dX12_arrays_117 : decode cX12_arrays 117 = .ok (.invokevirtual 538, 3) := by decide +kernel
theorem dX12_arrays_120 : decode cX12_arrays 120 = .ok (.istore 10, 2) := by decide +kernel
theorem dX12_arrays_122 : decode cX12_arrays 122 = .ok (.aload_n 0, 1) := by decide +kernel
theorem dX12_arrays_123 : decode cX12_arrays 123 = .ok (.bipush 58, 2) := by decide +kernel
theorem dX12_arrays_125 : decode cX12_arrays 125 = .ok (.invokevirtual 491, 3) := by decide +kernel
theorem dX12_arrays_128 : decode cX12_arrays 128 = .ok (.istore_n 3, 1) := by decide +kernel
theorem dX12_arrays_129 : decode cX12_arrays 129 = .ok (.aload_n 0, 1) := by decide +kernel
theorem dX12_arrays_130 : decode cX12_arrays 130 = .ok (.invokevirtual 538, 3) := by decide +kernel
theorem dX12_arrays_133 : decode cX12_arrays 133 = .ok (.istore 11, 2) := by decide +kernel
theorem dX12_arrays_135 : decode cX12_arrays 135 = .ok (.aload_n 0, 1) := by decide +kernel
theorem dX12_arrays_136 : decode cX12_arrays 136 = .ok (.getfield 111, 3) := by decide +kernel
theorem dX12_arrays_139 : decode cX12_arrays 139 = .ok (.iload 10, 2) := by decide +kernel
theorem dX12_arrays_141 : decode cX12_arrays 141 = .ok (.iload 11, 2) := by decide +kernel
theorem dX12_arrays_143 : decode cX12_arrays 143 = .ok (.iastore, 1) := by decide +kernel
theorem dX12_arrays_144 : decode cX12_arrays 144 = .ok (.iload 9, 2) := by decide +kernel
theorem dX12_arrays_146 : decode cX12_arrays 146 = .ok (.ifCond .ge 15, 3) := by decide +kernel
theorem dX12_arrays_149 : decode cX12_arrays 149 = .ok (.aload_n 0, 1) := by decide +kernel
theorem dX12_arrays_150 : decode cX12_arrays 150 = .ok (.getfield 108, 3) := by decide +kernel
theorem dX12_arrays_153 : decode cX12_arrays 153 = .ok (.iload 6, 2) := by decide +kernel
theorem dX12_arrays_155 : decode cX12_arrays 155 = .ok (.iload 10, 2) := by decide +kernel
theorem dX12_arrays_157 : decode cX12_arrays 157 = .ok (.iastore, 1) := by decide +kernel
theorem dX12_arrays_158 : decode cX12_arrays 158 = .ok (.goto 12, 3) := by decide +kernel
theorem dX12_arrays_161 : decode cX12_arrays 161 = .ok (.aload_n 0, 1) := by decide +kernel
theorem dX12_arrays_162 : decode cX12_arrays 162 = .ok (.getfield 111, 3) := by decide +kernel
theorem dX12_arrays_165 : decode cX12_arrays 165 = .ok (.iload 9, 2) := by decide +kernel
theorem dX12_arrays_167 : decode cX12_arrays 167 = .ok (.iload 10, 2) := by decide +kernel
theorem dX12_arrays_169 : decode cX12_arrays 169 = .ok (.iastore, 1) := by decide +kernel
theorem dX12_arrays_170 : decode cX12_arrays 170 = .ok (.iload 11, 2) := by decide +kernel
theorem dX12_arrays_172 : decode cX12_arrays 172 = .ok (.istore 9, 2) := by decide +kernel
theorem dX12_arrays_174 : decode cX12_arrays 174 = .ok (.iinc 8 1, 3) := by decide +kernel
theorem dX12_arrays_177 : decode cX12_arrays 177 = .ok (.aload_n 0, 1) := by decide +kernel
theorem dX12_arrays_178 : decode cX12_arrays 178 = .ok (.bipush 44, 2) := by decide +kernel
theorem dX12_arrays_180 : decode cX12_arrays 180 = .ok (.invokevirtual 517, 3) := by decide +kernel
theorem dX12_arrays_183 : decode cX12_arrays 183 = .ok (.ifCond .ne (-88), 3) := by decide +kernel
theorem dX12_arrays_186 : decode cX12_arrays 186 = .ok (.aload_n 0, 1) := by decide +kernel
theorem dX12_arrays_187 : decode cX12_arrays 187 = .ok (.iload 7, 2) := by decide +kernel
theorem dX12_arrays_189 : decode cX12_arrays 189 = .ok (.putfield 471, 3) := by decide +kernel
theorem dX12_arrays_192 : decode cX12_arrays 192 = .ok (.aload_n 0, 1) := by decide +kernel
theorem dX12_arrays_193 : decode cX12_arrays 193 = .ok (.dup, 1) := by decide +kernel
theorem dX12_arrays_194 : decode cX12_arrays 194 = .ok (.getfield 449, 3) := by decide +kernel
theorem dX12_arrays_197 : decode cX12_arrays 197 = .ok (.iconst 1, 1) := by decide +kernel
theorem dX12_arrays_198 : decode cX12_arrays 198 = .ok (.isub, 1) := by decide +kernel
theorem dX12_arrays_199 : decode cX12_arrays 199 = .ok (.putfield 449, 3) := by decide +kernel
theorem dX12_arrays_202 : decode cX12_arrays 202 = .ok (.aload_n 0, 1) := by decide +kernel
theorem dX12_arrays_203 : decode cX12_arrays 203 = .ok (.bipush 93, 2) := by decide +kernel
theorem dX12_arrays_205 : decode cX12_arrays 205 = .ok (.invokevirtual 491, 3) := by decide +kernel
theorem dX12_arrays_208 : decode cX12_arrays 208 = .ok (.istore_n 3, 1) := by decide +kernel
theorem dX12_arrays_209 : decode cX12_arrays 209 = .ok (.iload 4, 2) := by decide +kernel
theorem dX12_arrays_211 : decode cX12_arrays 211 = .ok (.istore 10, 2) := by decide +kernel
theorem dX12_arrays_213 : decode cX12_arrays 213 = .ok (.iload 10, 2) := by decide +kernel
theorem dX12_arrays_215 : decode cX12_arrays 215 = .ok (.iload 5, 2) := by decide +kernel
theorem dX12_arrays_217 : decode cX12_arrays 217 = .ok (.if_icmp .ge 31, 3) := by decide +kernel
theorem dX12_arrays_220 : decode cX12_arrays 220 = .ok (.aload_n 0, 1) := by decide +kernel
theorem dX12_arrays_221 : decode cX12_arrays 221 = .ok (.getfield 150, 3) := by decide +kernel
theorem dX12_arrays_224 : decode cX12_arrays 224 = .ok (.iload 10, 2) := by decide +kernel
theorem dX12_arrays_226 : decode cX12_arrays 226 = .ok (.iload 8, 2) := by decide +kernel
theorem dX12_arrays_228 : decode cX12_arrays 228 = .ok (.iastore, 1) := by decide +kernel
theorem dX12_arrays_229 : decode cX12_arrays 229 = .ok (.aload_n 0, 1) := by decide +kernel
theorem dX12_arrays_230 : decode cX12_arrays 230 = .ok (.getfield 156, 3) := by decide +kernel
theorem dX12_arrays_233 : decode cX12_arrays 233 = .ok (.iload 10, 2) := by decide +kernel
theorem dX12_arrays_235 : decode cX12_arrays 235 = .ok (.aload_n 0, 1) := by decide +kernel
theorem dX12_arrays_236 : decode cX12_arrays 236 = .ok (.bipush 8, 2) := by decide +kernel
theorem dX12_arrays_238 : decode cX12_arrays 238 = .ok (.invokevirtual 504, 3) := by decide +kernel
theorem dX12_arrays_241 : decode cX12_arrays 241 = .ok (.iastore, 1) := by decide +kernel
theorem dX12_arrays_242 : decode cX12_arrays 242 = .ok (.iinc 10 1, 3) := by decide +kernel
theorem dX12_arrays_245 : decode cX12_arrays 245 = .ok (.goto (-32), 3) := by decide +kernel
theorem dX12_arrays_248 : decode cX12_arrays 248 = .ok (.iload 6, 2) := by decide +kernel
theorem dX12_arrays_250 : decode cX12_arrays 250 = .ok (.ireturn, 1) := by decide +kernel
def fX12_arrays_213 (k_213 : Int32 → Int32 → Int32 → Int32 → Wd → Option (Option Int32 × Wd)) (a5 : Int32) (a6 : Int32) (a8 : Int32) (a10 : Int32) (w : Wd) : Option (Option Int32 × Wd) :=
  if a5 ≤ a10 then (some (some a6, w)) else (if inb a10 5000 = true then lt (si w 24 (Int32.toNatClampNeg a10) a8) fun w3 => bn2 (fX12_slots 8 w3) fun x4 w5 => if inb a10 5000 = true then lt (si w5 26 (Int32.toNatClampNeg a10) x4) fun w7 => lt (a10 + 1) fun x8 => k_213 a5 a6 a8 x8 w7 else none else none)
theorem pX12_arrays_213 {q : Gq} {l : Launch} {N : Option Value → Wd → Prop} {X : String → Wd → Prop} {w : Wd} {R : Option Int32 × Wd} (hN : ∀ r : Int32, R.1 = some r → N (some (.int r)) R.2) (hX : R.1 = none → X RAE R.2) {k_213 : Int32 → Int32 → Int32 → Int32 → Wd → Option (Option Int32 × Wd)} (hk_213 : ∀ (a5 : Int32) (a6 : Int32) (a8 : Int32) (a10 : Int32) (w : Wd), k_213 a5 a6 a8 a10 w = some R → RT (GM q) l 904 yX12_arrays cX12_arrays 12 ((some .int)) N X 213 [] [(0, .ref 0), (5, .int a5), (6, .int a6), (8, .int a8), (10, .int a10)] w) {a5 : Int32} {a6 : Int32} {a8 : Int32} {a10 : Int32} (h : fX12_arrays_213 k_213 a5 a6 a8 a10 w = some R) : RT (GM q) l 904 yX12_arrays cX12_arrays 12 ((some .int)) N X 213 [] [(0, .ref 0), (5, .int a5), (6, .int a6), (8, .int a8), (10, .int a10)] w := by
  unfold fX12_arrays_213 at h
  refine r_iload (pc := 213) dX12_arrays_213 4 rfl ?_
  refine r_iload (pc := 215) dX12_arrays_215 1 rfl ?_
  refine r_icmp_ge (pc := 217) dX12_arrays_217 rfl (fun hc1 => ?_) (fun hc1 => ?_)
  · replace h := if_t hc1 h
    refine r_iload (pc := 248) dX12_arrays_248 2 rfl ?_
    exact rE_i (pc := 250) rfl dX12_arrays_250 h hN
  replace h := if_f hc1 h
  refine r_aload_n (pc := 220) dX12_arrays_220 rfl 0 rfl ?_
  refine r_get (pc := 221) (j := 37) (v := .ref 24) oM0 cf12 flRX12_150 rfl dX12_arrays_221 rfl ?_
  refine r_iload (pc := 224) dX12_arrays_224 4 rfl ?_
  refine r_iload (pc := 226) dX12_arrays_226 3 rfl ?_
  replace h := if_n h; obtain ⟨hb2, h⟩ := h
  replace h := lt_e h; obtain ⟨w3, ew3, h⟩ := h
  refine r_iast (pc := 228) aM24 (inb_in hb2) dX12_arrays_228 ?_
  refine r_w ew3 ?_
  refine r_aload_n (pc := 229) dX12_arrays_229 rfl 0 rfl ?_
  refine r_get (pc := 230) (j := 39) (v := .ref 26) oM0 cf12 flRX12_156 rfl dX12_arrays_230 rfl ?_
  refine r_iload (pc := 233) dX12_arrays_233 4 rfl ?_
  refine r_aload_n (pc := 235) dX12_arrays_235 rfl 0 rfl ?_
  refine r_bipush (pc := 236) dX12_arrays_236 kb_8 ?_
  replace h := bn2_e h; obtain ⟨x4, w5, ew5, h⟩ := h
  refine r_cVi (pc := 238) wyX12_slots oM0 rfl mlRX12_504 iyX12_slots syX12_slots ⟨(Nat.le_of_ble_eq_true rfl), (Nat.le_of_ble_eq_true rfl)⟩ rfl rfl (Nat.le_of_ble_eq_true rfl) dX12_arrays_238 (mX12_slots ew5 (pI.mk ?_))
  replace h := if_n h; obtain ⟨hb6, h⟩ := h
  replace h := lt_e h; obtain ⟨w7, ew7, h⟩ := h
  refine r_iast (pc := 241) aM26 (inb_in hb6) dX12_arrays_241 ?_
  refine r_w ew7 ?_
  replace h := lt_e h; obtain ⟨x8, ex8, h⟩ := h
  refine r_inc (pc := 242) (loc' := [(10, .int x8), (0, .ref 0), (5, .int a5), (6, .int a6), (8, .int a8)]) dX12_arrays_242 ki_1 ex8 4 rfl (Nat.le_of_ble_eq_true rfl) rfl ?_
  refine r_goto (pc := 245) dX12_arrays_245 rfl ?_
  refine r_drop (loc' := [(0, .ref 0), (5, .int a5), (6, .int a6), (8, .int a8), (10, .int x8)]) [1, 2, 3, 4, 0] rfl ?_
  exact hk_213 a5 a6 a8 x8 w7 h
def oX12_arrays_213 : Nat → Int32 → Int32 → Int32 → Int32 → Wd → Option (Option Int32 × Wd)
  | 0 => fun _ _ _ _ _ => none
  | n + 1 => fX12_arrays_213 (oX12_arrays_213 n)
theorem qX12_arrays_213 {q : Gq} {l : Launch} {N : Option Value → Wd → Prop} {X : String → Wd → Prop} {R : Option Int32 × Wd} (hN : ∀ r : Int32, R.1 = some r → N (some (.int r)) R.2) (hX : R.1 = none → X RAE R.2) : ∀ (n : Nat) (a5 : Int32) (a6 : Int32) (a8 : Int32) (a10 : Int32) (w : Wd), oX12_arrays_213 n a5 a6 a8 a10 w = some R → RT (GM q) l 904 yX12_arrays cX12_arrays 12 ((some .int)) N X 213 [] [(0, .ref 0), (5, .int a5), (6, .int a6), (8, .int a8), (10, .int a10)] w := by
  intro n
  induction n with
  | zero =>
    intro a5 a6 a8 a10 w h
    exact absurd h (fun q => nomatch q)
  | succ n ih =>
    intro a5 a6 a8 a10 w h
    exact pX12_arrays_213 hN hX ih h
def fX12_arrays_170 (k_95 : Int32 → Int32 → Int32 → Int32 → Int32 → Int32 → Wd → Option (Option Int32 × Wd)) (a4 : Int32) (a5 : Int32) (a6 : Int32) (a7 : Int32) (a8 : Int32) (a11 : Int32) (w : Wd) : Option (Option Int32 × Wd) :=
  lt (a8 + 1) fun x1 => be (fX12_skip 44 w) fun x2 w3 => if x2 = true then (k_95 a4 a5 a6 a7 x1 a11 w3) else (lt (si w3 0 29 a7) fun w6 => lt (si w6 0 8 ((gi w6 0 8) - 1)) fun w7 => be (fX12_expect 93 w7) fun x8 w9 => oX12_arrays_213 FU a5 a6 x1 a4 w9)
theorem pX12_arrays_170 {q : Gq} {l : Launch} {N : Option Value → Wd → Prop} {X : String → Wd → Prop} {w : Wd} {R : Option Int32 × Wd} (hN : ∀ r : Int32, R.1 = some r → N (some (.int r)) R.2) (hX : R.1 = none → X RAE R.2) {k_95 : Int32 → Int32 → Int32 → Int32 → Int32 → Int32 → Wd → Option (Option Int32 × Wd)} (hk_95 : ∀ (a4 : Int32) (a5 : Int32) (a6 : Int32) (a7 : Int32) (a8 : Int32) (a9 : Int32) (w : Wd), k_95 a4 a5 a6 a7 a8 a9 w = some R → RT (GM q) l 904 yX12_arrays cX12_arrays 12 ((some .int)) N X 95 [] [(0, .ref 0), (4, .int a4), (5, .int a5), (6, .int a6), (7, .int a7), (8, .int a8), (9, .int a9)] w) {a4 : Int32} {a5 : Int32} {a6 : Int32} {a7 : Int32} {a8 : Int32} {a11 : Int32} (h : fX12_arrays_170 k_95 a4 a5 a6 a7 a8 a11 w = some R) : RT (GM q) l 904 yX12_arrays cX12_arrays 12 ((some .int)) N X 170 [] [(0, .ref 0), (4, .int a4), (5, .int a5), (6, .int a6), (7, .int a7), (8, .int a8), (11, .int a11)] w := by
  unfold fX12_arrays_170 at h
  refine r_iload (pc := 170) dX12_arrays_170 6 rfl ?_
  refine r_istore (pc := 172) (loc' := [(9, .int a11), (0, .ref 0), (4, .int a4), (5, .int a5), (6, .int a6), (7, .int a7), (8, .int a8), (11, .int a11)]) dX12_arrays_172 (Nat.le_of_ble_eq_true rfl) rfl ?_
  replace h := lt_e h; obtain ⟨x1, ex1, h⟩ := h
  refine r_inc (pc := 174) (loc' := [(8, .int x1), (9, .int a11), (0, .ref 0), (4, .int a4), (5, .int a5), (6, .int a6), (7, .int a7), (11, .int a11)]) dX12_arrays_174 ki_1 ex1 6 rfl (Nat.le_of_ble_eq_true rfl) rfl ?_
  refine r_aload_n (pc := 177) dX12_arrays_177 rfl 2 rfl ?_
  refine r_bipush (pc := 178) dX12_arrays_178 kb_44 ?_
  replace h := be_e h; obtain ⟨o4, w3, ew3, h1, h2⟩ := h
  refine r_cVi (pc := 180) wyX12_skip oM0 rfl mlRX12_517 iyX12_skip syX12_skip ⟨(Nat.le_of_ble_eq_true rfl), (Nat.le_of_ble_eq_true rfl)⟩ rfl rfl (Nat.le_of_ble_eq_true rfl) dX12_arrays_180 (mX12_skip ew3 (fun x2 ex2 => pI.mk ?_) (fun ez => be_x h2 ez hX))
  replace h := h1 _ ex2
  refine r_z_ne (pc := 183) dX12_arrays_183 rfl (fun hc5 => ?_) (fun hc5 => ?_)
  · replace h := if_t hc5 h
    refine r_drop (loc' := [(0, .ref 0), (4, .int a4), (5, .int a5), (6, .int a6), (7, .int a7), (8, .int x1), (9, .int a11)]) [2, 3, 4, 5, 6, 0, 1] rfl ?_
    exact hk_95 a4 a5 a6 a7 x1 a11 w3 h
  replace h := if_f hc5 h
  refine r_aload_n (pc := 186) dX12_arrays_186 rfl 2 rfl ?_
  refine r_iload (pc := 187) dX12_arrays_187 6 rfl ?_
  replace h := lt_e h; obtain ⟨w6, ew6, h⟩ := h
  refine r_putI (pc := 189) (j := 29) oM0 cf12 flRX12_471 rfl rfl rfl rfl dX12_arrays_189 ?_
  refine r_w ew6 ?_
  refine r_aload_n (pc := 192) dX12_arrays_192 rfl 2 rfl ?_
  refine r_dup (pc := 193) dX12_arrays_193 rfl ?_
  refine r_get (pc := 194) (j := 8) (v := .int (gi w6 0 8)) oM0 cf12 flRX12_449 rfl dX12_arrays_194 rfl ?_
  refine r_iconst (pc := 197) dX12_arrays_197 ki_1 ?_
  refine r_isub (pc := 198) dX12_arrays_198 ?_
  replace h := lt_e h; obtain ⟨w7, ew7, h⟩ := h
  refine r_putI (pc := 199) (j := 8) oM0 cf12 flRX12_449 rfl rfl rfl rfl dX12_arrays_199 ?_
  refine r_w ew7 ?_
  refine r_aload_n (pc := 202) dX12_arrays_202 rfl 2 rfl ?_
  refine r_bipush (pc := 203) dX12_arrays_203 kb_93 ?_
  replace h := be_e h; obtain ⟨o10, w9, ew9, h1, h2⟩ := h
  refine r_cVi (pc := 205) wyX12_expect oM0 rfl mlRX12_491 iyX12_expect syX12_expect ⟨(Nat.le_of_ble_eq_true rfl), (Nat.le_of_ble_eq_true rfl)⟩ rfl rfl (Nat.le_of_ble_eq_true rfl) dX12_arrays_205 (mX12_expect ew9 (fun x8 ex8 => pI.mk ?_) (fun ez => be_x h2 ez hX))
  replace h := h1 _ ex8
  refine r_istore_n (pc := 208) (loc' := [(3, .int x8), (8, .int x1), (9, .int a11), (0, .ref 0), (4, .int a4), (5, .int a5), (6, .int a6), (7, .int a7), (11, .int a11)]) dX12_arrays_208 rfl (Nat.le_of_ble_eq_true rfl) rfl ?_
  refine r_iload (pc := 209) dX12_arrays_209 4 rfl ?_
  refine r_istore (pc := 211) (loc' := [(10, .int a4), (3, .int x8), (8, .int x1), (9, .int a11), (0, .ref 0), (4, .int a4), (5, .int a5), (6, .int a6), (7, .int a7), (11, .int a11)]) dX12_arrays_211 (Nat.le_of_ble_eq_true rfl) rfl ?_
  refine r_drop (loc' := [(0, .ref 0), (5, .int a5), (6, .int a6), (8, .int x1), (10, .int a4)]) [4, 6, 7, 2, 0] rfl ?_
  exact qX12_arrays_213 hN hX FU a5 a6 x1 a4 w9 h
def fX12_arrays_95 (k_95 : Int32 → Int32 → Int32 → Int32 → Int32 → Int32 → Wd → Option (Option Int32 × Wd)) (a4 : Int32) (a5 : Int32) (a6 : Int32) (a7 : Int32) (a8 : Int32) (a9 : Int32) (w : Wd) : Option (Option Int32 × Wd) :=
  if a8 = 3 then (lt (si w 0 7 ((gi w 0 7) - 1)) fun w2 => bn (fX12_bad w2) fun w3 => some (none, w3)) else (be (RX12_variable 900 4 0 0 0 w) fun x4 w5 => be (fX12_expect 58 w5) fun x7 w8 => be (RX12_variable 900 4 0 0 0 w8) fun x10 w11 => if inb x4 24000 = true then lt (si w11 11 (Int32.toNatClampNeg x4) x10) fun w14 => if 0 ≤ a9 then (if inb a9 24000 = true then lt (si w14 11 (Int32.toNatClampNeg a9) x4) fun w17 => fX12_arrays_170 k_95 a4 a5 a6 a7 a8 x10 w17 else none) else (if inb a6 24000 = true then lt (si w14 10 (Int32.toNatClampNeg a6) x4) fun w19 => fX12_arrays_170 k_95 a4 a5 a6 a7 a8 x10 w19 else none) else none)
theorem pX12_arrays_95 {q : Gq} {l : Launch} {N : Option Value → Wd → Prop} {X : String → Wd → Prop} {w : Wd} {R : Option Int32 × Wd} (hN : ∀ r : Int32, R.1 = some r → N (some (.int r)) R.2) (hX : R.1 = none → X RAE R.2) {k_95 : Int32 → Int32 → Int32 → Int32 → Int32 → Int32 → Wd → Option (Option Int32 × Wd)} (hk_95 : ∀ (a4 : Int32) (a5 : Int32) (a6 : Int32) (a7 : Int32) (a8 : Int32) (a9 : Int32) (w : Wd), k_95 a4 a5 a6 a7 a8 a9 w = some R → RT (GM q) l 904 yX12_arrays cX12_arrays 12 ((some .int)) N X 95 [] [(0, .ref 0), (4, .int a4), (5, .int a5), (6, .int a6), (7, .int a7), (8, .int a8), (9, .int a9)] w) {a4 : Int32} {a5 : Int32} {a6 : Int32} {a7 : Int32} {a8 : Int32} {a9 : Int32} (h : fX12_arrays_95 k_95 a4 a5 a6 a7 a8 a9 w = some R) : RT (GM q) l 904 yX12_arrays cX12_arrays 12 ((some .int)) N X 95 [] [(0, .ref 0), (4, .int a4), (5, .int a5), (6, .int a6), (7, .int a7), (8, .int a8), (9, .int a9)] w := by
  unfold fX12_arrays_95 at h
  refine r_iload (pc := 95) dX12_arrays_95 5 rfl ?_
  refine r_iconst (pc := 97) dX12_arrays_97 ki_3 ?_
  refine r_icmp_ne (pc := 98) dX12_arrays_98 rfl (fun hc1 => ?_) (fun hc1 => ?_)
  · replace h := if_f hc1 h
    refine r_aload_n (pc := 116) dX12_arrays_116 rfl 0 rfl ?_
    replace h := be_e h; obtain ⟨o6, w5, ew5, h1, h2⟩ := h
    refine r_cVi (pc := 117) wyX12_expr oM0 rfl mlRX12_538 iyX12_expr syX12_expr ⟨(Nat.le_of_ble_eq_true rfl), (Nat.le_of_ble_eq_true rfl)⟩ rfl rfl (Nat.le_of_ble_eq_true rfl) dX12_arrays_117 (mX12_expr ew5 (fun x4 ex4 => pI.mk ?_) (fun ez => be_x h2 ez hX))
    replace h := h1 _ ex4
    refine r_istore (pc := 120) (loc' := [(10, .int x4), (0, .ref 0), (4, .int a4), (5, .int a5), (6, .int a6), (7, .int a7), (8, .int a8), (9, .int a9)]) dX12_arrays_120 (Nat.le_of_ble_eq_true rfl) rfl ?_
    refine r_aload_n (pc := 122) dX12_arrays_122 rfl 1 rfl ?_
    refine r_bipush (pc := 123) dX12_arrays_123 kb_58 ?_
    replace h := be_e h; obtain ⟨o9, w8, ew8, h1, h2⟩ := h
    refine r_cVi (pc := 125) wyX12_expect oM0 rfl mlRX12_491 iyX12_expect syX12_expect ⟨(Nat.le_of_ble_eq_true rfl), (Nat.le_of_ble_eq_true rfl)⟩ rfl rfl (Nat.le_of_ble_eq_true rfl) dX12_arrays_125 (mX12_expect ew8 (fun x7 ex7 => pI.mk ?_) (fun ez => be_x h2 ez hX))
    replace h := h1 _ ex7
    refine r_istore_n (pc := 128) (loc' := [(3, .int x7), (10, .int x4), (0, .ref 0), (4, .int a4), (5, .int a5), (6, .int a6), (7, .int a7), (8, .int a8), (9, .int a9)]) dX12_arrays_128 rfl (Nat.le_of_ble_eq_true rfl) rfl ?_
    refine r_aload_n (pc := 129) dX12_arrays_129 rfl 2 rfl ?_
    replace h := be_e h; obtain ⟨o12, w11, ew11, h1, h2⟩ := h
    refine r_cVi (pc := 130) wyX12_expr oM0 rfl mlRX12_538 iyX12_expr syX12_expr ⟨(Nat.le_of_ble_eq_true rfl), (Nat.le_of_ble_eq_true rfl)⟩ rfl rfl (Nat.le_of_ble_eq_true rfl) dX12_arrays_130 (mX12_expr ew11 (fun x10 ex10 => pI.mk ?_) (fun ez => be_x h2 ez hX))
    replace h := h1 _ ex10
    refine r_istore (pc := 133) (loc' := [(11, .int x10), (3, .int x7), (10, .int x4), (0, .ref 0), (4, .int a4), (5, .int a5), (6, .int a6), (7, .int a7), (8, .int a8), (9, .int a9)]) dX12_arrays_133 (Nat.le_of_ble_eq_true rfl) rfl ?_
    refine r_aload_n (pc := 135) dX12_arrays_135 rfl 3 rfl ?_
    refine r_get (pc := 136) (j := 20) (v := .ref 11) oM0 cf12 flRX12_111 rfl dX12_arrays_136 rfl ?_
    refine r_iload (pc := 139) dX12_arrays_139 2 rfl ?_
    refine r_iload (pc := 141) dX12_arrays_141 0 rfl ?_
    replace h := if_n h; obtain ⟨hb13, h⟩ := h
    replace h := lt_e h; obtain ⟨w14, ew14, h⟩ := h
    refine r_iast (pc := 143) aM11 (inb_in hb13) dX12_arrays_143 ?_
    refine r_w ew14 ?_
    refine r_iload (pc := 144) dX12_arrays_144 9 rfl ?_
    refine r_if_ge (pc := 146) dX12_arrays_146 rfl (fun hc15 => ?_) (fun hc15 => ?_)
    · replace h := if_t hc15 h
      refine r_aload_n (pc := 161) dX12_arrays_161 rfl 3 rfl ?_
      refine r_get (pc := 162) (j := 20) (v := .ref 11) oM0 cf12 flRX12_111 rfl dX12_arrays_162 rfl ?_
      refine r_iload (pc := 165) dX12_arrays_165 9 rfl ?_
      refine r_iload (pc := 167) dX12_arrays_167 2 rfl ?_
      replace h := if_n h; obtain ⟨hb16, h⟩ := h
      replace h := lt_e h; obtain ⟨w17, ew17, h⟩ := h
      refine r_iast (pc := 169) aM11 (inb_in hb16) dX12_arrays_169 ?_
      refine r_w ew17 ?_
      refine r_drop (loc' := [(0, .ref 0), (4, .int a4), (5, .int a5), (6, .int a6), (7, .int a7), (8, .int a8), (11, .int x10)]) [3, 4, 5, 6, 7, 8, 0] rfl ?_
      exact pX12_arrays_170 hN hX hk_95 h
    replace h := if_f hc15 h
    refine r_aload_n (pc := 149) dX12_arrays_149 rfl 3 rfl ?_
    refine r_get (pc := 150) (j := 19) (v := .ref 10) oM0 cf12 flRX12_108 rfl dX12_arrays_150 rfl ?_
    refine r_iload (pc := 153) dX12_arrays_153 6 rfl ?_
    refine r_iload (pc := 155) dX12_arrays_155 2 rfl ?_
    replace h := if_n h; obtain ⟨hb18, h⟩ := h
    replace h := lt_e h; obtain ⟨w19, ew19, h⟩ := h
    refine r_iast (pc := 157) aM10 (inb_in hb18) dX12_arrays_157 ?_
    refine r_w ew19 ?_
    refine r_goto (pc := 158) dX12_arrays_158 rfl ?_
    refine r_drop (loc' := [(0, .ref 0), (4, .int a4), (5, .int a5), (6, .int a6), (7, .int a7), (8, .int a8), (11, .int x10)]) [3, 4, 5, 6, 7, 8, 0] rfl ?_
    exact pX12_arrays_170 hN hX hk_95 h
  replace h := if_t hc1 h
  refine r_aload_n (pc := 101) dX12_arrays_101 rfl 0 rfl ?_
  refine r_dup (pc := 102) dX12_arrays_102 rfl ?_
  refine r_get (pc := 103) (j := 7) (v := .int (gi w 0 7)) oM0 cf12 flRX12_443 rfl dX12_arrays_103 rfl ?_
  refine r_iconst (pc := 106) dX12_arrays_106 ki_1 ?_
  refine r_isub (pc := 107) dX12_arrays_107 ?_
  replace h := lt_e h; obtain ⟨w2, ew2, h⟩ := h
  refine r_putI (pc := 108) (j := 7) oM0 cf12 flRX12_443 rfl rfl rfl rfl dX12_arrays_108 ?_
  refine r_w ew2 ?_
  refine r_aload_n (pc := 111) dX12_arrays_111 rfl 0 rfl ?_
  replace h := bn_e h; obtain ⟨w3, ew3, h⟩ := h
  refine r_cVr (pc := 112) wyX12_bad oM0 rfl mlRX12_455 iyX12_bad syX12_bad ⟨(Nat.le_of_ble_eq_true rfl), (Nat.le_of_ble_eq_true rfl)⟩ rfl rfl (Nat.le_of_ble_eq_true rfl) dX12_arrays_112 (mX12_bad ew3 (pR.mk ?_))
  exact rE_x (pc := 115) oM5 dX12_arrays_115 h hX
def oX12_arrays_95 : Nat → Int32 → Int32 → Int32 → Int32 → Int32 → Int32 → Wd → Option (Option Int32 × Wd)
  | 0 => fun _ _ _ _ _ _ _ => none
  | n + 1 => fX12_arrays_95 (oX12_arrays_95 n)
theorem qX12_arrays_95 {q : Gq} {l : Launch} {N : Option Value → Wd → Prop} {X : String → Wd → Prop} {R : Option Int32 × Wd} (hN : ∀ r : Int32, R.1 = some r → N (some (.int r)) R.2) (hX : R.1 = none → X RAE R.2) : ∀ (n : Nat) (a4 : Int32) (a5 : Int32) (a6 : Int32) (a7 : Int32) (a8 : Int32) (a9 : Int32) (w : Wd), oX12_arrays_95 n a4 a5 a6 a7 a8 a9 w = some R → RT (GM q) l 904 yX12_arrays cX12_arrays 12 ((some .int)) N X 95 [] [(0, .ref 0), (4, .int a4), (5, .int a5), (6, .int a6), (7, .int a7), (8, .int a8), (9, .int a9)] w := by
  intro n
  induction n with
  | zero =>
    intro a4 a5 a6 a7 a8 a9 w h
    exact absurd h (fun q => nomatch q)
  | succ n ih =>
    intro a4 a5 a6 a7 a8 a9 w h
    exact pX12_arrays_95 hN hX ih h
def fX12_arrays_11 (k_11 : Int32 → Int32 → Int32 → Wd → Option (Option Int32 × Wd)) (a1 : Int32) (a2 : Int32) (a4 : Int32) (w : Wd) : Option (Option Int32 × Wd) :=
  be (fX12_expect 285 w) fun x1 w2 => bn2 (fX12_declare (gi w 0 29) x1 2 a1 w2) fun x4 w5 => be (fX12_skip 44 w5) fun x6 w7 => if x6 = true then (k_11 a1 a2 a4 w7) else (lt ((gi w7 0 42)) fun x10 => bn2 (fX12_node 40 a4 x10 (-1) (gi w7 0 7) w7) fun x11 w12 => be (fX12_expect 91 w12) fun x13 w14 => lt (si w14 0 8 ((gi w14 0 8) + 1)) fun w16 => lt ((gi w16 0 29)) fun x17 => lt (si w16 0 29 a2) fun w18 => oX12_arrays_95 FU a4 x10 x11 x17 0 (-1) w18)
theorem pX12_arrays_11 {q : Gq} {l : Launch} {N : Option Value → Wd → Prop} {X : String → Wd → Prop} {w : Wd} {R : Option Int32 × Wd} (hN : ∀ r : Int32, R.1 = some r → N (some (.int r)) R.2) (hX : R.1 = none → X RAE R.2) {k_11 : Int32 → Int32 → Int32 → Wd → Option (Option Int32 × Wd)} (hk_11 : ∀ (a1 : Int32) (a2 : Int32) (a4 : Int32) (w : Wd), k_11 a1 a2 a4 w = some R → RT (GM q) l 904 yX12_arrays cX12_arrays 12 ((some .int)) N X 11 [] [(0, .ref 0), (1, .int a1), (2, .int a2), (4, .int a4)] w) {a1 : Int32} {a2 : Int32} {a4 : Int32} (h : fX12_arrays_11 k_11 a1 a2 a4 w = some R) : RT (GM q) l 904 yX12_arrays cX12_arrays 12 ((some .int)) N X 11 [] [(0, .ref 0), (1, .int a1), (2, .int a2), (4, .int a4)] w := by
  unfold fX12_arrays_11 at h
  refine r_aload_n (pc := 11) dX12_arrays_11 rfl 0 rfl ?_
  refine r_aload_n (pc := 12) dX12_arrays_12 rfl 0 rfl ?_
  refine r_get (pc := 13) (j := 29) (v := .int (gi w 0 29)) oM0 cf12 flRX12_471 rfl dX12_arrays_13 rfl ?_
  refine r_aload_n (pc := 16) dX12_arrays_16 rfl 0 rfl ?_
  refine r_sipush (pc := 17) dX12_arrays_17 ks_285 ?_
  replace h := be_e h; obtain ⟨o3, w2, ew2, h1, h2⟩ := h
  refine r_cVi (pc := 20) wyX12_expect oM0 rfl mlRX12_491 iyX12_expect syX12_expect ⟨(Nat.le_of_ble_eq_true rfl), (Nat.le_of_ble_eq_true rfl)⟩ rfl rfl (Nat.le_of_ble_eq_true rfl) dX12_arrays_20 (mX12_expect ew2 (fun x1 ex1 => pI.mk ?_) (fun ez => be_x h2 ez hX))
  replace h := h1 _ ex1
  refine r_iconst (pc := 23) dX12_arrays_23 ki_2 ?_
  refine r_iload_n (pc := 24) dX12_arrays_24 rfl 1 rfl ?_
  replace h := bn2_e h; obtain ⟨x4, w5, ew5, h⟩ := h
  refine r_cVi (pc := 25) wyX12_declare oM0 rfl mlRX12_531 iyX12_declare syX12_declare ⟨(Nat.le_of_ble_eq_true rfl), (Nat.le_of_ble_eq_true rfl)⟩ rfl rfl (Nat.le_of_ble_eq_true rfl) dX12_arrays_25 (mX12_declare ew5 (pI.mk ?_))
  refine r_istore_n (pc := 28) (loc' := [(3, .int x4), (0, .ref 0), (1, .int a1), (2, .int a2), (4, .int a4)]) dX12_arrays_28 rfl (Nat.le_of_ble_eq_true rfl) rfl ?_
  refine r_aload_n (pc := 29) dX12_arrays_29 rfl 1 rfl ?_
  refine r_bipush (pc := 30) dX12_arrays_30 kb_44 ?_
  replace h := be_e h; obtain ⟨o8, w7, ew7, h1, h2⟩ := h
  refine r_cVi (pc := 32) wyX12_skip oM0 rfl mlRX12_517 iyX12_skip syX12_skip ⟨(Nat.le_of_ble_eq_true rfl), (Nat.le_of_ble_eq_true rfl)⟩ rfl rfl (Nat.le_of_ble_eq_true rfl) dX12_arrays_32 (mX12_skip ew7 (fun x6 ex6 => pI.mk ?_) (fun ez => be_x h2 ez hX))
  replace h := h1 _ ex6
  refine r_z_ne (pc := 35) dX12_arrays_35 rfl (fun hc9 => ?_) (fun hc9 => ?_)
  · replace h := if_t hc9 h
    refine r_drop (loc' := [(0, .ref 0), (1, .int a1), (2, .int a2), (4, .int a4)]) [1, 2, 3, 4] rfl ?_
    exact hk_11 a1 a2 a4 w7 h
  replace h := if_f hc9 h
  refine r_aload_n (pc := 38) dX12_arrays_38 rfl 1 rfl ?_
  refine r_get (pc := 39) (j := 42) (v := .int (gi w7 0 42)) oM0 cf12 flRX12_488 rfl dX12_arrays_39 rfl ?_
  replace h := lt_e h; obtain ⟨x10, ex10, h⟩ := h
  refine r_topi ex10 ?_
  refine r_istore (pc := 42) (loc' := [(5, .int x10), (3, .int x4), (0, .ref 0), (1, .int a1), (2, .int a2), (4, .int a4)]) dX12_arrays_42 (Nat.le_of_ble_eq_true rfl) rfl ?_
  refine r_aload_n (pc := 44) dX12_arrays_44 rfl 2 rfl ?_
  refine r_bipush (pc := 45) dX12_arrays_45 kb_40 ?_
  refine r_iload (pc := 47) dX12_arrays_47 5 rfl ?_
  refine r_iload (pc := 49) dX12_arrays_49 0 rfl ?_
  refine r_iconst (pc := 51) dX12_arrays_51 ki_m1 ?_
  refine r_aload_n (pc := 52) dX12_arrays_52 rfl 2 rfl ?_
  refine r_get (pc := 53) (j := 7) (v := .int (gi w7 0 7)) oM0 cf12 flRX12_443 rfl dX12_arrays_53 rfl ?_
  replace h := bn2_e h; obtain ⟨x11, w12, ew12, h⟩ := h
  refine r_cVi (pc := 56) wyX12_node oM0 rfl mlRX12_500 iyX12_node syX12_node ⟨(Nat.le_of_ble_eq_true rfl), (Nat.le_of_ble_eq_true rfl)⟩ rfl rfl (Nat.le_of_ble_eq_true rfl) dX12_arrays_56 (mX12_node ew12 (pI.mk ?_))
  refine r_istore (pc := 59) (loc' := [(6, .int x11), (5, .int x10), (3, .int x4), (0, .ref 0), (1, .int a1), (2, .int a2), (4, .int a4)]) dX12_arrays_59 (Nat.le_of_ble_eq_true rfl) rfl ?_
  refine r_aload_n (pc := 61) dX12_arrays_61 rfl 3 rfl ?_
  refine r_bipush (pc := 62) dX12_arrays_62 kb_91 ?_
  replace h := be_e h; obtain ⟨o15, w14, ew14, h1, h2⟩ := h
  refine r_cVi (pc := 64) wyX12_expect oM0 rfl mlRX12_491 iyX12_expect syX12_expect ⟨(Nat.le_of_ble_eq_true rfl), (Nat.le_of_ble_eq_true rfl)⟩ rfl rfl (Nat.le_of_ble_eq_true rfl) dX12_arrays_64 (mX12_expect ew14 (fun x13 ex13 => pI.mk ?_) (fun ez => be_x h2 ez hX))
  replace h := h1 _ ex13
  refine r_istore_n (pc := 67) (loc' := [(3, .int x13), (6, .int x11), (5, .int x10), (0, .ref 0), (1, .int a1), (2, .int a2), (4, .int a4)]) dX12_arrays_67 rfl (Nat.le_of_ble_eq_true rfl) rfl ?_
  refine r_aload_n (pc := 68) dX12_arrays_68 rfl 3 rfl ?_
  refine r_dup (pc := 69) dX12_arrays_69 rfl ?_
  refine r_get (pc := 70) (j := 8) (v := .int (gi w14 0 8)) oM0 cf12 flRX12_449 rfl dX12_arrays_70 rfl ?_
  refine r_iconst (pc := 73) dX12_arrays_73 ki_1 ?_
  refine r_iadd (pc := 74) dX12_arrays_74 ?_
  replace h := lt_e h; obtain ⟨w16, ew16, h⟩ := h
  refine r_putI (pc := 75) (j := 8) oM0 cf12 flRX12_449 rfl rfl rfl rfl dX12_arrays_75 ?_
  refine r_w ew16 ?_
  refine r_aload_n (pc := 78) dX12_arrays_78 rfl 3 rfl ?_
  refine r_get (pc := 79) (j := 29) (v := .int (gi w16 0 29)) oM0 cf12 flRX12_471 rfl dX12_arrays_79 rfl ?_
  replace h := lt_e h; obtain ⟨x17, ex17, h⟩ := h
  refine r_topi ex17 ?_
  refine r_istore (pc := 82) (loc' := [(7, .int x17), (3, .int x13), (6, .int x11), (5, .int x10), (0, .ref 0), (1, .int a1), (2, .int a2), (4, .int a4)]) dX12_arrays_82 (Nat.le_of_ble_eq_true rfl) rfl ?_
  refine r_aload_n (pc := 84) dX12_arrays_84 rfl 4 rfl ?_
  refine r_iload_n (pc := 85) dX12_arrays_85 rfl 6 rfl ?_
  replace h := lt_e h; obtain ⟨w18, ew18, h⟩ := h
  refine r_putI (pc := 86) (j := 29) oM0 cf12 flRX12_471 rfl rfl rfl rfl dX12_arrays_86 ?_
  refine r_w ew18 ?_
  refine r_iconst (pc := 89) dX12_arrays_89 ki_0 ?_
  refine r_istore (pc := 90) (loc' := [(8, .int 0), (7, .int x17), (3, .int x13), (6, .int x11), (5, .int x10), (0, .ref 0), (1, .int a1), (2, .int a2), (4, .int a4)]) dX12_arrays_90 (Nat.le_of_ble_eq_true rfl) rfl ?_
  refine r_iconst (pc := 92) dX12_arrays_92 ki_m1 ?_
  refine r_istore (pc := 93) (loc' := [(9, .int (-1)), (8, .int 0), (7, .int x17), (3, .int x13), (6, .int x11), (5, .int x10), (0, .ref 0), (1, .int a1), (2, .int a2), (4, .int a4)]) dX12_arrays_93 (Nat.le_of_ble_eq_true rfl) rfl ?_
  refine r_drop (loc' := [(0, .ref 0), (4, .int a4), (5, .int x10), (6, .int x11), (7, .int x17), (8, .int 0), (9, .int (-1))]) [6, 9, 5, 4, 2, 1, 0] rfl ?_
  exact qX12_arrays_95 hN hX FU a4 x10 x11 x17 0 (-1) w18 h
def oX12_arrays_11 : Nat → Int32 → Int32 → Int32 → Wd → Option (Option Int32 × Wd)
  | 0 => fun _ _ _ _ => none
  | n + 1 => fX12_arrays_11 (oX12_arrays_11 n)
theorem qX12_arrays_11 {q : Gq} {l : Launch} {N : Option Value → Wd → Prop} {X : String → Wd → Prop} {R : Option Int32 × Wd} (hN : ∀ r : Int32, R.1 = some r → N (some (.int r)) R.2) (hX : R.1 = none → X RAE R.2) : ∀ (n : Nat) (a1 : Int32) (a2 : Int32) (a4 : Int32) (w : Wd), oX12_arrays_11 n a1 a2 a4 w = some R → RT (GM q) l 904 yX12_arrays cX12_arrays 12 ((some .int)) N X 11 [] [(0, .ref 0), (1, .int a1), (2, .int a2), (4, .int a4)] w := by
  intro n
  induction n with
  | zero =>
    intro a1 a2 a4 w h
    exact absurd h (fun q => nomatch q)
  | succ n ih =>
    intro a1 a2 a4 w h
    exact pX12_arrays_11 hN hX ih h
def fX12_arrays (a1 : Int32) (a2 : Int32) (w : Wd) : Option (Option Int32 × Wd) :=
  be (fX12_taken w) fun x1 w2 => lt ((gi w2 0 42)) fun x4 => oX12_arrays_11 FU a1 a2 x4 w2
theorem pX12_arrays {q : Gq} {l : Launch} {N : Option Value → Wd → Prop} {X : String → Wd → Prop} {w : Wd} {R : Option Int32 × Wd} (hN : ∀ r : Int32, R.1 = some r → N (some (.int r)) R.2) (hX : R.1 = none → X RAE R.2) {a1 : Int32} {a2 : Int32} (h : fX12_arrays a1 a2 w = some R) : RT (GM q) l 904 yX12_arrays cX12_arrays 12 ((some .int)) N X 0 [] [(0, .ref 0), (1, .int a1), (2, .int a2)] w := by
  unfold fX12_arrays at h
  refine r_aload_n (pc := 0) dX12_arrays_0 rfl 0 rfl ?_
  replace h := be_e h; obtain ⟨o3, w2, ew2, h1, h2⟩ := h
  refine r_cVi (pc := 1) wyX12_taken oM0 rfl mlRX12_459 iyX12_taken syX12_taken ⟨(Nat.le_of_ble_eq_true rfl), (Nat.le_of_ble_eq_true rfl)⟩ rfl rfl (Nat.le_of_ble_eq_true rfl) dX12_arrays_1 (mX12_taken ew2 (fun x1 ex1 => pI.mk ?_) (fun ez => be_x h2 ez hX))
  replace h := h1 _ ex1
  refine r_istore_n (pc := 4) (loc' := [(3, .int x1), (0, .ref 0), (1, .int a1), (2, .int a2)]) dX12_arrays_4 rfl (Nat.le_of_ble_eq_true rfl) rfl ?_
  refine r_aload_n (pc := 5) dX12_arrays_5 rfl 1 rfl ?_
  refine r_get (pc := 6) (j := 42) (v := .int (gi w2 0 42)) oM0 cf12 flRX12_488 rfl dX12_arrays_6 rfl ?_
  replace h := lt_e h; obtain ⟨x4, ex4, h⟩ := h
  refine r_topi ex4 ?_
  refine r_istore (pc := 9) (loc' := [(4, .int x4), (3, .int x1), (0, .ref 0), (1, .int a1), (2, .int a2)]) dX12_arrays_9 (Nat.le_of_ble_eq_true rfl) rfl ?_
  refine r_drop (loc' := [(0, .ref 0), (1, .int a1), (2, .int a2), (4, .int x4)]) [2, 3, 4, 0] rfl ?_
  exact qX12_arrays_11 hN hX FU a1 a2 x4 w2 h
theorem mX12_arrays {q : Gq} {l : Launch} {N : Option Value → Wd → Prop} {X : String → Wd → Prop} {a1 : Int32} {a2 : Int32} {w : Wd} {o : Option Int32} {u : Wd} (h : fX12_arrays a1 a2 w = some (o, u)) (hN : ∀ r : Int32, o = some r → N (some (.int r)) u) (hX : o = none → X RAE u) : Ct (GM q) l 904 yX12_arrays cX12_arrays 12 ((some .int)) [.ref 0, .int a1, .int a2] w N X := Ct.of (by decide) (Nat.le_of_ble_eq_true rfl) (pX12_arrays hN hX h)
/-! AlgolMillModel.formalOf (JI)I: O, 0 -/
theorem dX12_formalOf_0 : decode cX12_formalOf 0 = .ok (.aload_n 0, 1) := by decide +kernel
theorem dX12_formalOf_1 : decode cX12_formalOf 1 = .ok (.getfield 175, 3) := by decide +kernel
theorem dX12_formalOf_4 : decode cX12_formalOf 4 = .ok (.aload_n 0, 1) := by decide +kernel
theorem dX12_formalOf_5 : decode cX12_formalOf 5 = .ok (.getfield 477, 3) := by decide +kernel
theorem dX12_formalOf_8 : decode cX12_formalOf 8 = .ok (.iaload, 1) := by decide +kernel
theorem dX12_formalOf_9 : decode cX12_formalOf 9 = .ok (.istore 4, 2) := by decide +kernel
theorem dX12_formalOf_11 : decode cX12_formalOf 11 = .ok (.iload 4, 2) := by decide +kernel
theorem dX12_formalOf_13 : decode cX12_formalOf 13 = .ok (.iload_n 3, 1) := by decide +kernel
theorem dX12_formalOf_14 : decode cX12_formalOf 14 = .ok (.if_icmp .ge 24, 3) := by decide +kernel
theorem dX12_formalOf_17 : decode cX12_formalOf 17 = .ok (.aload_n 0, 1) := by decide +kernel
theorem dX12_formalOf_18 : decode cX12_formalOf 18 = .ok (.getfield 132, 3) := by decide +kernel
theorem dX12_formalOf_21 : decode cX12_formalOf 21 = .ok (.iload 4, 2) := by decide +kernel
theorem dX12_formalOf_23 : decode cX12_formalOf 23 = .ok (.laload, 1) := by decide +kernel
theorem dX12_formalOf_24 : decode cX12_formalOf 24 = .ok (.lload_n 1, 1) := by decide +kernel
theorem dX12_formalOf_25 : decode cX12_formalOf 25 = .ok (.lcmp, 1) := by decide +kernel
theorem dX12_formalOf_26 : decode cX12_formalOf 26 = .ok (.ifCond .ne 6, 3) := by decide +kernel
theorem dX12_formalOf_29 : decode cX12_formalOf 29 = .ok (.iload 4, 2) := by decide +kernel
theorem dX12_formalOf_31 : decode cX12_formalOf 31 = .ok (.ireturn, 1) := by decide +kernel
theorem dX12_formalOf_32 : decode cX12_formalOf 32 = .ok (.iinc 4 1, 3) := by decide +kernel
theorem dX12_formalOf_35 : decode cX12_formalOf 35 = .ok (.goto (-24), 3) := by decide +kernel
theorem dX12_formalOf_38 : decode cX12_formalOf 38 = .ok (.iconst (-1), 1) := by decide +kernel
theorem dX12_formalOf_39 : decode cX12_formalOf 39 = .ok (.ireturn, 1) := by decide +kernel
def fX12_formalOf_11 (k_11 : Int64 → Int32 → Int32 → Wd → Option (Int32 × Wd)) (a1 : Int64) (a3 : Int32) (a4 : Int32) (w : Wd) : Option (Int32 × Wd) :=
  if a3 ≤ a4 then (some ((-1), w)) else (if inb a4 5000 = true then if (gl w 18 (Int32.toNatClampNeg a4)) = a1 then (some (a4, w)) else (lt (a4 + 1) fun x4 => k_11 a1 a3 x4 w) else none)
theorem pX12_formalOf_11 {q : Gq} {l : Launch} {N : Option Value → Wd → Prop} {X : String → Wd → Prop} {w : Wd} {R : Int32 × Wd} (hN : N (some (.int R.1)) R.2) {k_11 : Int64 → Int32 → Int32 → Wd → Option (Int32 × Wd)} (hk_11 : ∀ (a1 : Int64) (a3 : Int32) (a4 : Int32) (w : Wd), k_11 a1 a3 a4 w = some R → RT (GM q) l 0 yX12_formalOf cX12_formalOf 5 ((some .int)) N X 11 [] [(0, .ref 0), (1, .long a1), (3, .int a3), (4, .int a4)] w) {a1 : Int64} {a3 : Int32} {a4 : Int32} (h : fX12_formalOf_11 k_11 a1 a3 a4 w = some R) : RT (GM q) l 0 yX12_formalOf cX12_formalOf 5 ((some .int)) N X 11 [] [(0, .ref 0), (1, .long a1), (3, .int a3), (4, .int a4)] w := by
  unfold fX12_formalOf_11 at h
  refine r_iload (pc := 11) dX12_formalOf_11 3 rfl ?_
  refine r_iload_n (pc := 13) dX12_formalOf_13 rfl 2 rfl ?_
  refine r_icmp_ge (pc := 14) dX12_formalOf_14 rfl (fun hc1 => ?_) (fun hc1 => ?_)
  · replace h := if_t hc1 h
    refine r_iconst (pc := 38) dX12_formalOf_38 ki_m1 ?_
    exact rO_i (pc := 39) rfl dX12_formalOf_39 h hN
  replace h := if_f hc1 h
  refine r_aload_n (pc := 17) dX12_formalOf_17 rfl 0 rfl ?_
  refine r_get (pc := 18) (j := 31) (v := .ref 18) oM0 cf12 flRX12_132 rfl dX12_formalOf_18 rfl ?_
  refine r_iload (pc := 21) dX12_formalOf_21 3 rfl ?_
  replace h := if_n h; obtain ⟨hb2, h⟩ := h
  refine r_lald (pc := 23) aM18 (inb_in hb2) dX12_formalOf_23 ?_
  refine r_lload_n (pc := 24) dX12_formalOf_24 rfl 1 rfl ?_
  refine r_l_ne (pc := 25) dX12_formalOf_25 dX12_formalOf_26 rfl (fun hc3 => ?_) (fun hc3 => ?_)
  · replace h := if_f hc3 h
    replace h := lt_e h; obtain ⟨x4, ex4, h⟩ := h
    refine r_inc (pc := 32) (loc' := [(4, .int x4), (0, .ref 0), (1, .long a1), (3, .int a3)]) dX12_formalOf_32 ki_1 ex4 3 rfl (Nat.le_of_ble_eq_true rfl) rfl ?_
    refine r_goto (pc := 35) dX12_formalOf_35 rfl ?_
    refine r_drop (loc' := [(0, .ref 0), (1, .long a1), (3, .int a3), (4, .int x4)]) [1, 2, 3, 0] rfl ?_
    exact hk_11 a1 a3 x4 w h
  replace h := if_t hc3 h
  refine r_iload (pc := 29) dX12_formalOf_29 3 rfl ?_
  exact rO_i (pc := 31) rfl dX12_formalOf_31 h hN
def oX12_formalOf_11 : Nat → Int64 → Int32 → Int32 → Wd → Option (Int32 × Wd)
  | 0 => fun _ _ _ _ => none
  | n + 1 => fX12_formalOf_11 (oX12_formalOf_11 n)
theorem qX12_formalOf_11 {q : Gq} {l : Launch} {N : Option Value → Wd → Prop} {X : String → Wd → Prop} {R : Int32 × Wd} (hN : N (some (.int R.1)) R.2) : ∀ (n : Nat) (a1 : Int64) (a3 : Int32) (a4 : Int32) (w : Wd), oX12_formalOf_11 n a1 a3 a4 w = some R → RT (GM q) l 0 yX12_formalOf cX12_formalOf 5 ((some .int)) N X 11 [] [(0, .ref 0), (1, .long a1), (3, .int a3), (4, .int a4)] w := by
  intro n
  induction n with
  | zero =>
    intro a1 a3 a4 w h
    exact absurd h (fun q => nomatch q)
  | succ n ih =>
    intro a1 a3 a4 w h
    exact pX12_formalOf_11 hN ih h
def fX12_formalOf (a1 : Int64) (a3 : Int32) (w : Wd) : Option (Int32 × Wd) :=
  if inb (gi w 0 30) 1200 = true then lt ((gi w 32 (Int32.toNatClampNeg (gi w 0 30)))) fun x2 => oX12_formalOf_11 FU a1 a3 x2 w else none
theorem pX12_formalOf {q : Gq} {l : Launch} {N : Option Value → Wd → Prop} {X : String → Wd → Prop} {w : Wd} {R : Int32 × Wd} (hN : N (some (.int R.1)) R.2) {a1 : Int64} {a3 : Int32} (h : fX12_formalOf a1 a3 w = some R) : RT (GM q) l 0 yX12_formalOf cX12_formalOf 5 ((some .int)) N X 0 [] [(0, .ref 0), (1, .long a1), (3, .int a3)] w := by
  unfold fX12_formalOf at h
  refine r_aload_n (pc := 0) dX12_formalOf_0 rfl 0 rfl ?_
  refine r_get (pc := 1) (j := 46) (v := .ref 32) oM0 cf12 flRX12_175 rfl dX12_formalOf_1 rfl ?_
  refine r_aload_n (pc := 4) dX12_formalOf_4 rfl 0 rfl ?_
  refine r_get (pc := 5) (j := 30) (v := .int (gi w 0 30)) oM0 cf12 flRX12_477 rfl dX12_formalOf_5 rfl ?_
  replace h := if_n h; obtain ⟨hb1, h⟩ := h
  refine r_iald (pc := 8) aM32 (inb_in hb1) dX12_formalOf_8 ?_
  replace h := lt_e h; obtain ⟨x2, ex2, h⟩ := h
  refine r_topi ex2 ?_
  refine r_istore (pc := 9) (loc' := [(4, .int x2), (0, .ref 0), (1, .long a1), (3, .int a3)]) dX12_formalOf_9 (Nat.le_of_ble_eq_true rfl) rfl ?_
  refine r_drop (loc' := [(0, .ref 0), (1, .long a1), (3, .int a3), (4, .int x2)]) [1, 2, 3, 0] rfl ?_
  exact qX12_formalOf_11 hN FU a1 a3 x2 w h
theorem mX12_formalOf {q : Gq} {l : Launch} {N : Option Value → Wd → Prop} {X : String → Wd → Prop} {a1 : Int64} {a3 : Int32} {w : Wd} {x : Int32} {u : Wd} (h : fX12_formalOf a1 a3 w = some (x, u)) (hN : N (some (.int x)) u) : Ct (GM q) l 0 yX12_formalOf cX12_formalOf 5 ((some .int)) [.ref 0, .long a1, .int a3] w N X := Ct.of (by decide) (Nat.le_of_ble_eq_true rfl) (pX12_formalOf hN h)
/-! AlgolMillModel.spec (I)V: E, 3 -/
theorem dX12_spec_0 : decode cX12_spec 0 = .ok (.iconst 0, 1) := by decide +kernel
theorem dX12_spec_1 : decode cX12_spec 1 = .ok (.istore_n 2, 1) := by decide +kernel
theorem dX12_spec_2 : decode cX12_spec 2 = .ok (.iconst 1, 1) := by decide +kernel
theorem dX12_spec_3 : decode cX12_spec 3 = .ok (.istore_n 3, 1) := by decide +kernel
theorem dX12_spec_4 : decode cX12_spec 4 = .ok (.aload_n 0, 1) := by decide +kernel
theorem dX12_spec_5 : decode cX12_spec 5 = .ok (.invokevirtual 507, 3) := by decide +kernel
theorem dX12_spec_8 : decode cX12_spec 8 = .ok (.ifCond .eq 16, 3) := by decide +kernel
theorem dX12_spec_11 : decode cX12_spec 11 = .ok (.aload_n 0, 1) := by decide +kernel
theorem dX12_spec_12 : decode cX12_spec 12 = .ok (.getfield 13, 3) := by decide +kernel
theorem dX12_spec_15 : decode cX12_spec 15 = .ok (.aload_n 0, 1) := by decide +kernel
theorem dX12_spec_16 : decode cX12_spec 16 = .ok (.invokevirtual 459, 3) := by decide +kernel
theorem dX12_spec_19 : decode cX12_spec 19 = .ok (.iaload, 1) := by decide +kernel
theorem dX12_spec_20 : decode cX12_spec 20 = .ok (.invokestatic 523, 3) := by decide +kernel
theorem dX12_spec_23 : decode cX12_spec 23 = .ok (.istore_n 2, 1) := by decide +kernel
theorem dX12_spec_24 : decode cX12_spec 24 = .ok (.aload_n 0, 1) := by decide +kernel
theorem dX12_spec_25 : decode cX12_spec 25 = .ok (.invokevirtual 452, 3) := by decide +kernel
theorem dX12_spec_28 : decode cX12_spec 28 = .ok (.sipush 261, 3) := by decide +kernel
theorem dX12_spec_31 : decode cX12_spec 31 = .ok (.if_icmp .ne 14, 3) := by decide +kernel
theorem dX12_spec_34 : decode cX12_spec 34 = .ok (.iconst 2, 1) := by decide +kernel
theorem dX12_spec_35 : decode cX12_spec 35 = .ok (.istore_n 3, 1) := by decide +kernel
theorem dX12_spec_36 : decode cX12_spec 36 = .ok (.iload_n 2, 1) := by decide +kernel
theorem dX12_spec_37 : decode cX12_spec 37 = .ok (.ifCond .ne 58, 3) := by decide +kernel
theorem dX12_spec_40 : decode cX12_spec 40 = .ok (.iconst 1, 1) := by decide +kernel
theorem dX12_spec_41 : decode cX12_spec 41 = .ok (.istore_n 2, 1) := by decide +kernel
theorem dX12_spec_42 : decode cX12_spec 42 = .ok (.goto 53, 3) := by decide +kernel
theorem dX12_spec_45 : decode cX12_spec 45 = .ok (.aload_n 0, 1) := by decide +kernel
theorem dX12_spec_46 : decode cX12_spec 46 = .ok (.invokevirtual 452, 3) := by decide +kernel
theorem dX12_spec_49 : decode cX12_spec 49 = .ok (.sipush 262, 3) := by decide +kernel
theorem dX12_spec_52 : decode cX12_spec 52 = .ok (.if_icmp .ne 8, 3) := by decide +kernel
theorem dX12_spec_55 : decode cX12_spec 55 = .ok (.iconst 3, 1) := by decide +kernel
theorem dX12_spec_56 : decode cX12_spec 56 = .ok (.istore_n 3, 1) := by decide +kernel
theorem dX12_spec_57 : decode cX12_spec 57 = .ok (.goto 38, 3) := by decide +kernel
theorem dX12_spec_60 : decode cX12_spec 60 = .ok (.aload_n 0, 1) := by decide +kernel
theorem dX12_spec_61 : decode cX12_spec 61 = .ok (.invokevirtual 452, 3) := by decide +kernel
theorem dX12_spec_64 : decode cX12_spec 64 = .ok (.sipush 264, 3) := by decide +kernel
theorem dX12_spec_67 : decode cX12_spec 67 = .ok (.if_icmp .ne 12, 3) := by decide +kernel
theorem dX12_spec_70 : decode cX12_spec 70 = .ok (.iload_n 2, 1) := by decide +kernel
theorem dX12_spec_71 : decode cX12_spec 71 = .ok (.ifCond .ne 8, 3) := by decide +kernel
theorem dX12_spec_74 : decode cX12_spec 74 = .ok (.iconst 4, 1) := by decide +kernel
theorem dX12_spec_75 : decode cX12_spec 75 = .ok (.istore_n 3, 1) := by decide +kernel
theorem dX12_spec_76 : decode cX12_spec 76 = .ok (.goto 19, 3) := by decide +kernel
theorem dX12_spec_79 : decode cX12_spec 79 = .ok (.aload_n 0, 1) := by decide +kernel
theorem dX12_spec_80 : decode cX12_spec 80 = .ok (.invokevirtual 452, 3) := by decide +kernel
theorem dX12_spec_83 : decode cX12_spec 83 = .ok (.sipush 265, 3) := by decide +kernel
theorem dX12_spec_86 : decode cX12_spec 86 = .ok (.if_icmp .ne 9, 3) := by decide +kernel
theorem dX12_spec_89 : decode cX12_spec 89 = .ok (.iload_n 2, 1) := by decide +kernel
theorem dX12_spec_90 : decode cX12_spec 90 = .ok (.ifCond .ne 5, 3) := by decide +kernel
theorem dX12_spec_93 : decode cX12_spec 93 = .ok (.iconst 5, 1) := by decide +kernel
theorem dX12_spec_94 : decode cX12_spec 94 = .ok (.istore_n 3, 1) := by decide +kernel
theorem dX12_spec_95 : decode cX12_spec 95 = .ok (.iload_n 3, 1) := by decide +kernel
theorem dX12_spec_96 : decode cX12_spec 96 = .ok (.iconst 1, 1) := by decide +kernel
theorem dX12_spec_97 : decode cX12_spec 97 = .ok (.if_icmp .ne 7, 3) := by decide +kernel
theorem dX12_spec_100 : decode cX12_spec 100 = .ok (.iconst 0, 1) := by decide +kernel
theorem dX12_spec_101 : decode cX12_spec 101 = .ok (.goto 7, 3) := by decide +kernel
theorem dX12_spec_104 : decode cX12_spec 104 = .ok (.aload_n 0, 1) := by decide +kernel
theorem dX12_spec_105 : decode cX12_spec 105 = .ok (.invokevirtual 459, 3) := by decide +kernel
theorem dX12_spec_108 : decode cX12_spec 108 = .ok (.istore 4, 2) := by decide +kernel
theorem dX12_spec_110 : decode cX12_spec 110 = .ok (.aload_n 0, 1) := by decide +kernel
theorem dX12_spec_111 : decode cX12_spec 111 = .ok (.sipush 285, 3) := by decide +kernel
theorem dX12_spec_114 : decode cX12_spec 114 = .ok (.invokevirtual 491, 3) := by decide +kernel
theorem dX12_spec_117 : decode cX12_spec 117 = .ok (.istore 5, 2) := by decide +kernel
theorem dX12_spec_119 : decode cX12_spec 119 = .ok (.aload_n 0, 1) := by decide +kernel
theorem dX12_spec_120 : decode cX12_spec 120 = .ok (.aload_n 0, 1) := by decide +kernel
theorem dX12_spec_121 : decode cX12_spec 121 = .ok (.getfield 20, 3) := by decide +kernel
theorem dX12_spec_124 : decode cX12_spec 124 = .ok (.iload 5, 2) := by decide +kernel
theorem dX12_spec_126 : decode cX12_spec 126 = .ok (.laload, 1) := by decide +kernel
theorem dX12_spec_127 : decode cX12_spec 127 = .ok (.iload_n 1, 1) := by decide +kernel
theorem dX12_spec_128 : decode cX12_spec 128 = .ok (.invokevirtual 550, 3) := by decide +kernel
theorem dX12_spec_131 : decode cX12_spec 131 = .ok (.istore 6, 2) := by decide +kernel
theorem dX12_spec_133 : decode cX12_spec 133 = .ok (.iload 6, 2) := by decide +kernel
theorem dX12_spec_135 : decode cX12_spec 135 = .ok (.ifCond .ge 13, 3) := by decide +kernel
theorem dX12_spec_138 : decode cX12_spec 138 = .ok (.aload_n 0, 1) := by decide +kernel
theorem dX12_spec_139 : decode cX12_spec 139 = .ok (.iconst 3, 1) := by decide +kernel
theorem dX12_spec_140 : decode cX12_spec 140 = .ok (.iload 5, 2) := by decide +kernel
theorem dX12_spec_142 : decode cX12_spec 142 = .ok (.invokevirtual 484, 3) := by decide +kernel
theorem dX12_spec_145 : decode cX12_spec 145 = .ok (.goto 41, 3) := by decide +kernel
theorem dX12_spec_148 : decode cX12_spec 148 = .ok (.aload_n 0, 1) := by decide +kernel
theorem dX12_spec_149 : decode cX12_spec 149 = .ok (.getfield 153, 3) := by decide +kernel
theorem dX12_spec_152 : decode cX12_spec 152 = .ok (.iload 6, 2) := by decide +kernel
theorem dX12_spec_154 : decode cX12_spec 154 = .ok (.aload_n 0, 1) := by decide +kernel
theorem dX12_spec_155 : decode cX12_spec 155 = .ok (.getfield 153, 3) := by decide +kernel
theorem dX12_spec_158 : decode cX12_spec 158 = .ok (.iload 6, 2) := by decide +kernel
theorem dX12_spec_160 : decode cX12_spec 160 = .ok (.iaload, 1) := by decide +kernel
theorem dX12_spec_161 : decode cX12_spec 161 = .ok (.ifCond .ge 7, 3) := by decide +kernel
theorem dX12_spec_164 : decode cX12_spec 164 = .ok (.iconst 1, 1) := by decide +kernel
theorem dX12_spec_165 : decode cX12_spec 165 = .ok (.goto 4, 3) := by decide +kernel
theorem dX12_spec_168 : decode cX12_spec 168 = .ok (.iconst 2, 1) := by decide +kernel
theorem dX12_spec_169 : decode cX12_spec 169 = .ok (.iastore, 1) := by decide +kernel
theorem dX12_spec_170 : decode cX12_spec 170 = .ok (.aload_n 0, 1) := by decide +kernel
theorem dX12_spec_171 : decode cX12_spec 171 = .ok (.getfield 150, 3) := by decide +kernel
theorem dX12_spec_174 : decode cX12_spec 174 = .ok (.iload 6, 2) := by decide +kernel
theorem dX12_spec_176 : decode cX12_spec 176 = .ok (.iload_n 3, 1) := by decide +kernel
theorem dX12_spec_177 : decode cX12_spec 177 = .ok (.iastore, 1) := by decide +kernel
theorem dX12_spec_178 : decode cX12_spec 178 = .ok (.aload_n 0, 1) := by decide +kernel
theorem dX12_spec_179 : decode cX12_spec 179 = .ok (.getfield 138, 3) := by decide +kernel
theorem dX12_spec_182 : decode cX12_spec 182 = .ok (.iload 6, 2) := by decide +kernel
theorem dX12_spec_184 : decode cX12_spec 184 = .ok (.iload_n 2, 1) := by decide +kernel
theorem dX12_spec_185 : decode cX12_spec 185 = .ok (.iastore, 1) := by decide +kernel
theorem dX12_spec_186 : decode cX12_spec 186 = .ok (.aload_n 0, 1) := by decide +kernel
theorem dX12_spec_187 : decode cX12_spec 187 = .ok (.bipush 44, 2) := by decide +kernel
theorem dX12_spec_189 : decode cX12_spec 189 = .ok (.invokevirtual 517, 3) := by decide +kernel
theorem dX12_spec_192 : decode cX12_spec 192 = .ok (.ifCond .ne (-82), 3) := by decide +kernel
theorem dX12_spec_195 : decode cX12_spec 195 = .ok (.aload_n 0, 1) := by decide +kernel
theorem dX12_spec_196 : decode cX12_spec 196 = .ok (.bipush 59, 2) := by decide +kernel
theorem dX12_spec_198 : decode cX12_spec 198 = .ok (.invokevirtual 491, 3) := by decide +kernel
theorem dX12_spec_201 : decode cX12_spec 201 = .ok (.istore 4, 2) := by decide +kernel
theorem dX12_spec_203 : decode cX12_spec 203 = .ok (.return_, 1) := by decide +kernel
def fX12_spec_186 (k_110 : Int32 → Int32 → Int32 → Wd → Option (Option Unit × Wd)) (a1 : Int32) (a2 : Int32) (a3 : Int32) (w : Wd) : Option (Option Unit × Wd) :=
  be (fX12_skip 44 w) fun x1 w2 => if x1 = true then (k_110 a1 a2 a3 w2) else (be (fX12_expect 59 w2) fun x5 w6 => some (some (), w6))
theorem pX12_spec_186 {q : Gq} {l : Launch} {N : Option Value → Wd → Prop} {X : String → Wd → Prop} {w : Wd} {R : Option Unit × Wd} (hN : ∀ r : Unit, R.1 = some r → N none R.2) (hX : R.1 = none → X RAE R.2) {k_110 : Int32 → Int32 → Int32 → Wd → Option (Option Unit × Wd)} (hk_110 : ∀ (a1 : Int32) (a2 : Int32) (a3 : Int32) (w : Wd), k_110 a1 a2 a3 w = some R → RT (GM q) l 3 yX12_spec cX12_spec 7 (none) N X 110 [] [(0, .ref 0), (1, .int a1), (2, .int a2), (3, .int a3)] w) {a1 : Int32} {a2 : Int32} {a3 : Int32} (h : fX12_spec_186 k_110 a1 a2 a3 w = some R) : RT (GM q) l 3 yX12_spec cX12_spec 7 (none) N X 186 [] [(0, .ref 0), (1, .int a1), (2, .int a2), (3, .int a3)] w := by
  unfold fX12_spec_186 at h
  refine r_aload_n (pc := 186) dX12_spec_186 rfl 0 rfl ?_
  refine r_bipush (pc := 187) dX12_spec_187 kb_44 ?_
  replace h := be_e h; obtain ⟨o3, w2, ew2, h1, h2⟩ := h
  refine r_cVi (pc := 189) wyX12_skip oM0 rfl mlRX12_517 iyX12_skip syX12_skip ⟨(Nat.le_of_ble_eq_true rfl), (Nat.le_of_ble_eq_true rfl)⟩ rfl rfl (Nat.le_of_ble_eq_true rfl) dX12_spec_189 (mX12_skip ew2 (fun x1 ex1 => pI.mk ?_) (fun ez => be_x h2 ez hX))
  replace h := h1 _ ex1
  refine r_z_ne (pc := 192) dX12_spec_192 rfl (fun hc4 => ?_) (fun hc4 => ?_)
  · replace h := if_t hc4 h
    exact hk_110 a1 a2 a3 w2 h
  replace h := if_f hc4 h
  refine r_aload_n (pc := 195) dX12_spec_195 rfl 0 rfl ?_
  refine r_bipush (pc := 196) dX12_spec_196 kb_59 ?_
  replace h := be_e h; obtain ⟨o7, w6, ew6, h1, h2⟩ := h
  refine r_cVi (pc := 198) wyX12_expect oM0 rfl mlRX12_491 iyX12_expect syX12_expect ⟨(Nat.le_of_ble_eq_true rfl), (Nat.le_of_ble_eq_true rfl)⟩ rfl rfl (Nat.le_of_ble_eq_true rfl) dX12_spec_198 (mX12_expect ew6 (fun x5 ex5 => pI.mk ?_) (fun ez => be_x h2 ez hX))
  replace h := h1 _ ex5
  refine r_istore (pc := 201) (loc' := [(4, .int x5), (0, .ref 0), (1, .int a1), (2, .int a2), (3, .int a3)]) dX12_spec_201 (Nat.le_of_ble_eq_true rfl) rfl ?_
  exact rE_v (pc := 203) rfl dX12_spec_203 h hN
def fX12_spec_169 (k_110 : Int32 → Int32 → Int32 → Wd → Option (Option Unit × Wd)) (s1 : Int32) (s2 : Int32) (a1 : Int32) (a2 : Int32) (a3 : Int32) (a6 : Int32) (w : Wd) : Option (Option Unit × Wd) :=
  if inb s1 5000 = true then lt (si w 25 (Int32.toNatClampNeg s1) s2) fun w2 => if inb a6 5000 = true then lt (si w2 24 (Int32.toNatClampNeg a6) a3) fun w4 => if inb a6 5000 = true then lt (si w4 20 (Int32.toNatClampNeg a6) a2) fun w6 => fX12_spec_186 k_110 a1 a2 a3 w6 else none else none else none
theorem pX12_spec_169 {q : Gq} {l : Launch} {N : Option Value → Wd → Prop} {X : String → Wd → Prop} {w : Wd} {R : Option Unit × Wd} (hN : ∀ r : Unit, R.1 = some r → N none R.2) (hX : R.1 = none → X RAE R.2) {k_110 : Int32 → Int32 → Int32 → Wd → Option (Option Unit × Wd)} (hk_110 : ∀ (a1 : Int32) (a2 : Int32) (a3 : Int32) (w : Wd), k_110 a1 a2 a3 w = some R → RT (GM q) l 3 yX12_spec cX12_spec 7 (none) N X 110 [] [(0, .ref 0), (1, .int a1), (2, .int a2), (3, .int a3)] w) {s1 : Int32} {s2 : Int32} {a1 : Int32} {a2 : Int32} {a3 : Int32} {a6 : Int32} (h : fX12_spec_169 k_110 s1 s2 a1 a2 a3 a6 w = some R) : RT (GM q) l 3 yX12_spec cX12_spec 7 (none) N X 169 [.int s2, .int s1, .ref 25] [(0, .ref 0), (1, .int a1), (2, .int a2), (3, .int a3), (6, .int a6)] w := by
  unfold fX12_spec_169 at h
  replace h := if_n h; obtain ⟨hb1, h⟩ := h
  replace h := lt_e h; obtain ⟨w2, ew2, h⟩ := h
  refine r_iast (pc := 169) aM25 (inb_in hb1) dX12_spec_169 ?_
  refine r_w ew2 ?_
  refine r_aload_n (pc := 170) dX12_spec_170 rfl 0 rfl ?_
  refine r_get (pc := 171) (j := 37) (v := .ref 24) oM0 cf12 flRX12_150 rfl dX12_spec_171 rfl ?_
  refine r_iload (pc := 174) dX12_spec_174 4 rfl ?_
  refine r_iload_n (pc := 176) dX12_spec_176 rfl 3 rfl ?_
  replace h := if_n h; obtain ⟨hb3, h⟩ := h
  replace h := lt_e h; obtain ⟨w4, ew4, h⟩ := h
  refine r_iast (pc := 177) aM24 (inb_in hb3) dX12_spec_177 ?_
  refine r_w ew4 ?_
  refine r_aload_n (pc := 178) dX12_spec_178 rfl 0 rfl ?_
  refine r_get (pc := 179) (j := 33) (v := .ref 20) oM0 cf12 flRX12_138 rfl dX12_spec_179 rfl ?_
  refine r_iload (pc := 182) dX12_spec_182 4 rfl ?_
  refine r_iload_n (pc := 184) dX12_spec_184 rfl 2 rfl ?_
  replace h := if_n h; obtain ⟨hb5, h⟩ := h
  replace h := lt_e h; obtain ⟨w6, ew6, h⟩ := h
  refine r_iast (pc := 185) aM20 (inb_in hb5) dX12_spec_185 ?_
  refine r_w ew6 ?_
  refine r_drop (loc' := [(0, .ref 0), (1, .int a1), (2, .int a2), (3, .int a3)]) [0, 1, 2, 3] rfl ?_
  exact pX12_spec_186 hN hX hk_110 h
def fX12_spec_110 (k_110 : Int32 → Int32 → Int32 → Wd → Option (Option Unit × Wd)) (a1 : Int32) (a2 : Int32) (a3 : Int32) (w : Wd) : Option (Option Unit × Wd) :=
  be (fX12_expect 285 w) fun x1 w2 => if inb x1 8194 = true then bn2 (fX12_formalOf (gl w2 4 (Int32.toNatClampNeg x1)) a1 w2) fun x5 w6 => if 0 ≤ x5 then (if inb x5 5000 = true then if 0 ≤ (gi w6 25 (Int32.toNatClampNeg x5)) then (fX12_spec_169 k_110 x5 2 a1 a2 a3 x5 w6) else (fX12_spec_169 k_110 x5 1 a1 a2 a3 x5 w6) else none) else (bn (fX12_found 3 x1 w6) fun w10 => fX12_spec_186 k_110 a1 a2 a3 w10) else none
theorem pX12_spec_110 {q : Gq} {l : Launch} {N : Option Value → Wd → Prop} {X : String → Wd → Prop} {w : Wd} {R : Option Unit × Wd} (hN : ∀ r : Unit, R.1 = some r → N none R.2) (hX : R.1 = none → X RAE R.2) {k_110 : Int32 → Int32 → Int32 → Wd → Option (Option Unit × Wd)} (hk_110 : ∀ (a1 : Int32) (a2 : Int32) (a3 : Int32) (w : Wd), k_110 a1 a2 a3 w = some R → RT (GM q) l 3 yX12_spec cX12_spec 7 (none) N X 110 [] [(0, .ref 0), (1, .int a1), (2, .int a2), (3, .int a3)] w) {a1 : Int32} {a2 : Int32} {a3 : Int32} (h : fX12_spec_110 k_110 a1 a2 a3 w = some R) : RT (GM q) l 3 yX12_spec cX12_spec 7 (none) N X 110 [] [(0, .ref 0), (1, .int a1), (2, .int a2), (3, .int a3)] w := by
  unfold fX12_spec_110 at h
  refine r_aload_n (pc := 110) dX12_spec_110 rfl 0 rfl ?_
  refine r_sipush (pc := 111) dX12_spec_111 ks_285 ?_
  replace h := be_e h; obtain ⟨o3, w2, ew2, h1, h2⟩ := h
  refine r_cVi (pc := 114) wyX12_expect oM0 rfl mlRX12_491 iyX12_expect syX12_expect ⟨(Nat.le_of_ble_eq_true rfl), (Nat.le_of_ble_eq_true rfl)⟩ rfl rfl (Nat.le_of_ble_eq_true rfl) dX12_spec_114 (mX12_expect ew2 (fun x1 ex1 => pI.mk ?_) (fun ez => be_x h2 ez hX))
  replace h := h1 _ ex1
  refine r_istore (pc := 117) (loc' := [(5, .int x1), (0, .ref 0), (1, .int a1), (2, .int a2), (3, .int a3)]) dX12_spec_117 (Nat.le_of_ble_eq_true rfl) rfl ?_
  refine r_aload_n (pc := 119) dX12_spec_119 rfl 1 rfl ?_
  refine r_aload_n (pc := 120) dX12_spec_120 rfl 1 rfl ?_
  refine r_get (pc := 121) (j := 5) (v := .ref 4) oM0 cf12 flRX12_20 rfl dX12_spec_121 rfl ?_
  refine r_iload (pc := 124) dX12_spec_124 0 rfl ?_
  replace h := if_n h; obtain ⟨hb4, h⟩ := h
  refine r_lald (pc := 126) aM4 (inb_in hb4) dX12_spec_126 ?_
  refine r_iload_n (pc := 127) dX12_spec_127 rfl 2 rfl ?_
  replace h := bn2_e h; obtain ⟨x5, w6, ew6, h⟩ := h
  refine r_cVi (pc := 128) wyX12_formalOf oM0 rfl mlRX12_550 iyX12_formalOf syX12_formalOf ⟨(Nat.le_of_ble_eq_true rfl), (Nat.le_of_ble_eq_true rfl)⟩ rfl rfl (Nat.le_of_ble_eq_true rfl) dX12_spec_128 (mX12_formalOf ew6 (pI.mk ?_))
  refine r_istore (pc := 131) (loc' := [(6, .int x5), (5, .int x1), (0, .ref 0), (1, .int a1), (2, .int a2), (3, .int a3)]) dX12_spec_131 (Nat.le_of_ble_eq_true rfl) rfl ?_
  refine r_iload (pc := 133) dX12_spec_133 0 rfl ?_
  refine r_if_ge (pc := 135) dX12_spec_135 rfl (fun hc7 => ?_) (fun hc7 => ?_)
  · replace h := if_t hc7 h
    refine r_aload_n (pc := 148) dX12_spec_148 rfl 2 rfl ?_
    refine r_get (pc := 149) (j := 38) (v := .ref 25) oM0 cf12 flRX12_153 rfl dX12_spec_149 rfl ?_
    refine r_iload (pc := 152) dX12_spec_152 0 rfl ?_
    refine r_aload_n (pc := 154) dX12_spec_154 rfl 2 rfl ?_
    refine r_get (pc := 155) (j := 38) (v := .ref 25) oM0 cf12 flRX12_153 rfl dX12_spec_155 rfl ?_
    refine r_iload (pc := 158) dX12_spec_158 0 rfl ?_
    replace h := if_n h; obtain ⟨hb8, h⟩ := h
    refine r_iald (pc := 160) aM25 (inb_in hb8) dX12_spec_160 ?_
    refine r_if_ge (pc := 161) dX12_spec_161 rfl (fun hc9 => ?_) (fun hc9 => ?_)
    · replace h := if_t hc9 h
      refine r_iconst (pc := 168) dX12_spec_168 ki_2 ?_
      refine r_drop (loc' := [(0, .ref 0), (1, .int a1), (2, .int a2), (3, .int a3), (6, .int x5)]) [2, 3, 4, 5, 0] rfl ?_
      exact pX12_spec_169 hN hX hk_110 h
    replace h := if_f hc9 h
    refine r_iconst (pc := 164) dX12_spec_164 ki_1 ?_
    refine r_goto (pc := 165) dX12_spec_165 rfl ?_
    refine r_drop (loc' := [(0, .ref 0), (1, .int a1), (2, .int a2), (3, .int a3), (6, .int x5)]) [2, 3, 4, 5, 0] rfl ?_
    exact pX12_spec_169 hN hX hk_110 h
  replace h := if_f hc7 h
  refine r_aload_n (pc := 138) dX12_spec_138 rfl 2 rfl ?_
  refine r_iconst (pc := 139) dX12_spec_139 ki_3 ?_
  refine r_iload (pc := 140) dX12_spec_140 1 rfl ?_
  replace h := bn_e h; obtain ⟨w10, ew10, h⟩ := h
  refine r_cVv (pc := 142) wyX12_found oM0 rfl mlRX12_484 iyX12_found syX12_found ⟨(Nat.le_of_ble_eq_true rfl), (Nat.le_of_ble_eq_true rfl)⟩ rfl rfl (Nat.le_of_ble_eq_true rfl) dX12_spec_142 (mX12_found ew10 (pV.mk ?_))
  refine r_goto (pc := 145) dX12_spec_145 rfl ?_
  refine r_drop (loc' := [(0, .ref 0), (1, .int a1), (2, .int a2), (3, .int a3)]) [2, 3, 4, 5] rfl ?_
  exact pX12_spec_186 hN hX hk_110 h
def oX12_spec_110 : Nat → Int32 → Int32 → Int32 → Wd → Option (Option Unit × Wd)
  | 0 => fun _ _ _ _ => none
  | n + 1 => fX12_spec_110 (oX12_spec_110 n)
theorem qX12_spec_110 {q : Gq} {l : Launch} {N : Option Value → Wd → Prop} {X : String → Wd → Prop} {R : Option Unit × Wd} (hN : ∀ r : Unit, R.1 = some r → N none R.2) (hX : R.1 = none → X RAE R.2) : ∀ (n : Nat) (a1 : Int32) (a2 : Int32) (a3 : Int32) (w : Wd), oX12_spec_110 n a1 a2 a3 w = some R → RT (GM q) l 3 yX12_spec cX12_spec 7 (none) N X 110 [] [(0, .ref 0), (1, .int a1), (2, .int a2), (3, .int a3)] w := by
  intro n
  induction n with
  | zero =>
    intro a1 a2 a3 w h
    exact absurd h (fun q => nomatch q)
  | succ n ih =>
    intro a1 a2 a3 w h
    exact pX12_spec_110 hN hX ih h
def fX12_spec_95 (a1 : Int32) (a2 : Int32) (a3 : Int32) (w : Wd) : Option (Option Unit × Wd) :=
  if a3 = 1 then (oX12_spec_110 FU a1 a2 a3 w) else (be (fX12_taken w) fun x2 w3 => oX12_spec_110 FU a1 a2 a3 w3)
theorem pX12_spec_95 {q : Gq} {l : Launch} {N : Option Value → Wd → Prop} {X : String → Wd → Prop} {w : Wd} {R : Option Unit × Wd} (hN : ∀ r : Unit, R.1 = some r → N none R.2) (hX : R.1 = none → X RAE R.2) {a1 : Int32} {a2 : Int32} {a3 : Int32} (h : fX12_spec_95 a1 a2 a3 w = some R) : RT (GM q) l 3 yX12_spec cX12_spec 7 (none) N X 95 [] [(0, .ref 0), (1, .int a1), (2, .int a2), (3, .int a3)] w := by
  unfold fX12_spec_95 at h
  refine r_iload_n (pc := 95) dX12_spec_95 rfl 3 rfl ?_
  refine r_iconst (pc := 96) dX12_spec_96 ki_1 ?_
  refine r_icmp_ne (pc := 97) dX12_spec_97 rfl (fun hc1 => ?_) (fun hc1 => ?_)
  · replace h := if_f hc1 h
    refine r_aload_n (pc := 104) dX12_spec_104 rfl 0 rfl ?_
    replace h := be_e h; obtain ⟨o4, w3, ew3, h1, h2⟩ := h
    refine r_cVi (pc := 105) wyX12_taken oM0 rfl mlRX12_459 iyX12_taken syX12_taken ⟨(Nat.le_of_ble_eq_true rfl), (Nat.le_of_ble_eq_true rfl)⟩ rfl rfl (Nat.le_of_ble_eq_true rfl) dX12_spec_105 (mX12_taken ew3 (fun x2 ex2 => pI.mk ?_) (fun ez => be_x h2 ez hX))
    replace h := h1 _ ex2
    refine r_istore (pc := 108) (loc' := [(4, .int x2), (0, .ref 0), (1, .int a1), (2, .int a2), (3, .int a3)]) dX12_spec_108 (Nat.le_of_ble_eq_true rfl) rfl ?_
    refine r_drop (loc' := [(0, .ref 0), (1, .int a1), (2, .int a2), (3, .int a3)]) [1, 2, 3, 4] rfl ?_
    exact qX12_spec_110 hN hX FU a1 a2 a3 w3 h
  replace h := if_t hc1 h
  refine r_iconst (pc := 100) dX12_spec_100 ki_0 ?_
  refine r_goto (pc := 101) dX12_spec_101 rfl ?_
  refine r_istore (pc := 108) (loc' := [(4, .int 0), (0, .ref 0), (1, .int a1), (2, .int a2), (3, .int a3)]) dX12_spec_108 (Nat.le_of_ble_eq_true rfl) rfl ?_
  refine r_drop (loc' := [(0, .ref 0), (1, .int a1), (2, .int a2), (3, .int a3)]) [1, 2, 3, 4] rfl ?_
  exact qX12_spec_110 hN hX FU a1 a2 a3 w h
def fX12_spec_79 (a1 : Int32) (a2 : Int32) (a3 : Bool) (w : Wd) : Option (Option Unit × Wd) :=
  bn2 (fX12_kind w) fun x1 w2 => if x1 = 265 then (if a2 = 0 then (fX12_spec_95 a1 a2 5 w2) else (fX12_spec_95 a1 a2 (b2i a3) w2)) else (fX12_spec_95 a1 a2 (b2i a3) w2)
theorem pX12_spec_79 {q : Gq} {l : Launch} {N : Option Value → Wd → Prop} {X : String → Wd → Prop} {w : Wd} {R : Option Unit × Wd} (hN : ∀ r : Unit, R.1 = some r → N none R.2) (hX : R.1 = none → X RAE R.2) {a1 : Int32} {a2 : Int32} {a3 : Bool} (h : fX12_spec_79 a1 a2 a3 w = some R) : RT (GM q) l 3 yX12_spec cX12_spec 7 (none) N X 79 [] [(0, .ref 0), (1, .int a1), (2, .int a2), (3, .int (b2i a3))] w := by
  unfold fX12_spec_79 at h
  refine r_aload_n (pc := 79) dX12_spec_79 rfl 0 rfl ?_
  replace h := bn2_e h; obtain ⟨x1, w2, ew2, h⟩ := h
  refine r_cVi (pc := 80) wyX12_kind oM0 rfl mlRX12_452 iyX12_kind syX12_kind ⟨(Nat.le_of_ble_eq_true rfl), (Nat.le_of_ble_eq_true rfl)⟩ rfl rfl (Nat.le_of_ble_eq_true rfl) dX12_spec_80 (mX12_kind ew2 (pI.mk ?_))
  refine r_sipush (pc := 83) dX12_spec_83 ks_265 ?_
  refine r_icmp_ne (pc := 86) dX12_spec_86 rfl (fun hc3 => ?_) (fun hc3 => ?_)
  · replace h := if_f hc3 h
    exact pX12_spec_95 hN hX h
  replace h := if_t hc3 h
  refine r_iload_n (pc := 89) dX12_spec_89 rfl 2 rfl ?_
  refine r_if_ne (pc := 90) dX12_spec_90 rfl (fun hc4 => ?_) (fun hc4 => ?_)
  · replace h := if_f hc4 h
    exact pX12_spec_95 hN hX h
  replace h := if_t hc4 h
  refine r_iconst (pc := 93) dX12_spec_93 ki_5 ?_
  refine r_istore_n (pc := 94) (loc' := [(3, .int 5), (0, .ref 0), (1, .int a1), (2, .int a2)]) dX12_spec_94 rfl (Nat.le_of_ble_eq_true rfl) rfl ?_
  refine r_drop (loc' := [(0, .ref 0), (1, .int a1), (2, .int a2), (3, .int 5)]) [1, 2, 3, 0] rfl ?_
  exact pX12_spec_95 hN hX h
def fX12_spec_24 (a1 : Int32) (a2 : Int32) (a3 : Bool) (w : Wd) : Option (Option Unit × Wd) :=
  bn2 (fX12_kind w) fun x1 w2 => if x1 = 261 then (if a2 = 0 then (fX12_spec_95 a1 1 2 w2) else (fX12_spec_95 a1 a2 2 w2)) else (bn2 (fX12_kind w2) fun x5 w6 => if x5 = 262 then (fX12_spec_95 a1 a2 3 w6) else (bn2 (fX12_kind w6) fun x8 w9 => if x8 = 264 then (if a2 = 0 then (fX12_spec_95 a1 a2 4 w9) else (fX12_spec_79 a1 a2 a3 w9)) else (fX12_spec_79 a1 a2 a3 w9)))
theorem pX12_spec_24 {q : Gq} {l : Launch} {N : Option Value → Wd → Prop} {X : String → Wd → Prop} {w : Wd} {R : Option Unit × Wd} (hN : ∀ r : Unit, R.1 = some r → N none R.2) (hX : R.1 = none → X RAE R.2) {a1 : Int32} {a2 : Int32} {a3 : Bool} (h : fX12_spec_24 a1 a2 a3 w = some R) : RT (GM q) l 3 yX12_spec cX12_spec 7 (none) N X 24 [] [(0, .ref 0), (1, .int a1), (2, .int a2), (3, .int (b2i a3))] w := by
  unfold fX12_spec_24 at h
  refine r_aload_n (pc := 24) dX12_spec_24 rfl 0 rfl ?_
  replace h := bn2_e h; obtain ⟨x1, w2, ew2, h⟩ := h
  refine r_cVi (pc := 25) wyX12_kind oM0 rfl mlRX12_452 iyX12_kind syX12_kind ⟨(Nat.le_of_ble_eq_true rfl), (Nat.le_of_ble_eq_true rfl)⟩ rfl rfl (Nat.le_of_ble_eq_true rfl) dX12_spec_25 (mX12_kind ew2 (pI.mk ?_))
  refine r_sipush (pc := 28) dX12_spec_28 ks_261 ?_
  refine r_icmp_ne (pc := 31) dX12_spec_31 rfl (fun hc3 => ?_) (fun hc3 => ?_)
  · replace h := if_f hc3 h
    refine r_aload_n (pc := 45) dX12_spec_45 rfl 0 rfl ?_
    replace h := bn2_e h; obtain ⟨x5, w6, ew6, h⟩ := h
    refine r_cVi (pc := 46) wyX12_kind oM0 rfl mlRX12_452 iyX12_kind syX12_kind ⟨(Nat.le_of_ble_eq_true rfl), (Nat.le_of_ble_eq_true rfl)⟩ rfl rfl (Nat.le_of_ble_eq_true rfl) dX12_spec_46 (mX12_kind ew6 (pI.mk ?_))
    refine r_sipush (pc := 49) dX12_spec_49 ks_262 ?_
    refine r_icmp_ne (pc := 52) dX12_spec_52 rfl (fun hc7 => ?_) (fun hc7 => ?_)
    · replace h := if_f hc7 h
      refine r_aload_n (pc := 60) dX12_spec_60 rfl 0 rfl ?_
      replace h := bn2_e h; obtain ⟨x8, w9, ew9, h⟩ := h
      refine r_cVi (pc := 61) wyX12_kind oM0 rfl mlRX12_452 iyX12_kind syX12_kind ⟨(Nat.le_of_ble_eq_true rfl), (Nat.le_of_ble_eq_true rfl)⟩ rfl rfl (Nat.le_of_ble_eq_true rfl) dX12_spec_61 (mX12_kind ew9 (pI.mk ?_))
      refine r_sipush (pc := 64) dX12_spec_64 ks_264 ?_
      refine r_icmp_ne (pc := 67) dX12_spec_67 rfl (fun hc10 => ?_) (fun hc10 => ?_)
      · replace h := if_f hc10 h
        exact pX12_spec_79 hN hX h
      replace h := if_t hc10 h
      refine r_iload_n (pc := 70) dX12_spec_70 rfl 2 rfl ?_
      refine r_if_ne (pc := 71) dX12_spec_71 rfl (fun hc11 => ?_) (fun hc11 => ?_)
      · replace h := if_f hc11 h
        exact pX12_spec_79 hN hX h
      replace h := if_t hc11 h
      refine r_iconst (pc := 74) dX12_spec_74 ki_4 ?_
      refine r_istore_n (pc := 75) (loc' := [(3, .int 4), (0, .ref 0), (1, .int a1), (2, .int a2)]) dX12_spec_75 rfl (Nat.le_of_ble_eq_true rfl) rfl ?_
      refine r_goto (pc := 76) dX12_spec_76 rfl ?_
      refine r_drop (loc' := [(0, .ref 0), (1, .int a1), (2, .int a2), (3, .int 4)]) [1, 2, 3, 0] rfl ?_
      exact pX12_spec_95 hN hX h
    replace h := if_t hc7 h
    refine r_iconst (pc := 55) dX12_spec_55 ki_3 ?_
    refine r_istore_n (pc := 56) (loc' := [(3, .int 3), (0, .ref 0), (1, .int a1), (2, .int a2)]) dX12_spec_56 rfl (Nat.le_of_ble_eq_true rfl) rfl ?_
    refine r_goto (pc := 57) dX12_spec_57 rfl ?_
    refine r_drop (loc' := [(0, .ref 0), (1, .int a1), (2, .int a2), (3, .int 3)]) [1, 2, 3, 0] rfl ?_
    exact pX12_spec_95 hN hX h
  replace h := if_t hc3 h
  refine r_iconst (pc := 34) dX12_spec_34 ki_2 ?_
  refine r_istore_n (pc := 35) (loc' := [(3, .int 2), (0, .ref 0), (1, .int a1), (2, .int a2)]) dX12_spec_35 rfl (Nat.le_of_ble_eq_true rfl) rfl ?_
  refine r_iload_n (pc := 36) dX12_spec_36 rfl 3 rfl ?_
  refine r_if_ne (pc := 37) dX12_spec_37 rfl (fun hc4 => ?_) (fun hc4 => ?_)
  · replace h := if_f hc4 h
    refine r_drop (loc' := [(0, .ref 0), (1, .int a1), (2, .int a2), (3, .int 2)]) [1, 2, 3, 0] rfl ?_
    exact pX12_spec_95 hN hX h
  replace h := if_t hc4 h
  refine r_iconst (pc := 40) dX12_spec_40 ki_1 ?_
  refine r_istore_n (pc := 41) (loc' := [(2, .int 1), (3, .int 2), (0, .ref 0), (1, .int a1)]) dX12_spec_41 rfl (Nat.le_of_ble_eq_true rfl) rfl ?_
  refine r_goto (pc := 42) dX12_spec_42 rfl ?_
  refine r_drop (loc' := [(0, .ref 0), (1, .int a1), (2, .int 1), (3, .int 2)]) [2, 3, 0, 1] rfl ?_
  exact pX12_spec_95 hN hX h
def fX12_spec (a1 : Int32) (w : Wd) : Option (Option Unit × Wd) :=
  bn2 (fX12_isType w) fun x1 w2 => if x1 = true then (be (fX12_taken w2) fun x4 w5 => if inb x4 8194 = true then lt (fX12_typeOf (gi w5 2 (Int32.toNatClampNeg x4)) w5) fun x8 => fX12_spec_24 a1 x8 true w5 else none) else (fX12_spec_24 a1 0 true w2)
theorem pX12_spec {q : Gq} {l : Launch} {N : Option Value → Wd → Prop} {X : String → Wd → Prop} {w : Wd} {R : Option Unit × Wd} (hN : ∀ r : Unit, R.1 = some r → N none R.2) (hX : R.1 = none → X RAE R.2) {a1 : Int32} (h : fX12_spec a1 w = some R) : RT (GM q) l 3 yX12_spec cX12_spec 7 (none) N X 0 [] [(0, .ref 0), (1, .int a1)] w := by
  unfold fX12_spec at h
  refine r_iconst (pc := 0) dX12_spec_0 ki_0 ?_
  refine r_istore_n (pc := 1) (loc' := [(2, .int 0), (0, .ref 0), (1, .int a1)]) dX12_spec_1 rfl (Nat.le_of_ble_eq_true rfl) rfl ?_
  refine r_iconst (pc := 2) dX12_spec_2 ki_1 ?_
  refine r_istore_n (pc := 3) (loc' := [(3, .int 1), (2, .int 0), (0, .ref 0), (1, .int a1)]) dX12_spec_3 rfl (Nat.le_of_ble_eq_true rfl) rfl ?_
  refine r_aload_n (pc := 4) dX12_spec_4 rfl 2 rfl ?_
  replace h := bn2_e h; obtain ⟨x1, w2, ew2, h⟩ := h
  refine r_cVi (pc := 5) wyX12_isType oM0 rfl mlRX12_507 iyX12_isType syX12_isType ⟨(Nat.le_of_ble_eq_true rfl), (Nat.le_of_ble_eq_true rfl)⟩ rfl rfl (Nat.le_of_ble_eq_true rfl) dX12_spec_5 (mX12_isType ew2 (pI.mk ?_))
  refine r_z_eq (pc := 8) dX12_spec_8 rfl (fun hc3 => ?_) (fun hc3 => ?_)
  · replace h := if_f hc3 h
    refine r_drop (loc' := [(0, .ref 0), (1, .int a1), (2, .int 0), (3, .int 1)]) [2, 3, 1, 0] rfl ?_
    exact pX12_spec_24 hN hX h
  replace h := if_t hc3 h
  refine r_aload_n (pc := 11) dX12_spec_11 rfl 2 rfl ?_
  refine r_get (pc := 12) (j := 3) (v := .ref 2) oM0 cf12 flRX12_13 rfl dX12_spec_12 rfl ?_
  refine r_aload_n (pc := 15) dX12_spec_15 rfl 2 rfl ?_
  replace h := be_e h; obtain ⟨o6, w5, ew5, h1, h2⟩ := h
  refine r_cVi (pc := 16) wyX12_taken oM0 rfl mlRX12_459 iyX12_taken syX12_taken ⟨(Nat.le_of_ble_eq_true rfl), (Nat.le_of_ble_eq_true rfl)⟩ rfl rfl (Nat.le_of_ble_eq_true rfl) dX12_spec_16 (mX12_taken ew5 (fun x4 ex4 => pI.mk ?_) (fun ez => be_x h2 ez hX))
  replace h := h1 _ ex4
  replace h := if_n h; obtain ⟨hb7, h⟩ := h
  refine r_iald (pc := 19) aM2 (inb_in hb7) dX12_spec_19 ?_
  replace h := lt_e h; obtain ⟨x8, ex8, h⟩ := h
  refine r_cSi (pc := 20) wyX12_typeOf mlRX12_523 tyX12_typeOf ⟨(Nat.le_of_ble_eq_true rfl), (Nat.le_of_ble_eq_true rfl)⟩ rfl rfl (Nat.le_of_ble_eq_true rfl) dX12_spec_20 (mX12_typeOf ex8 (pI.mk ?_))
  refine r_istore_n (pc := 23) (loc' := [(2, .int x8), (3, .int 1), (0, .ref 0), (1, .int a1)]) dX12_spec_23 rfl (Nat.le_of_ble_eq_true rfl) rfl ?_
  refine r_drop (loc' := [(0, .ref 0), (1, .int a1), (2, .int x8), (3, .int 1)]) [2, 3, 0, 1] rfl ?_
  exact pX12_spec_24 hN hX h
theorem mX12_spec {q : Gq} {l : Launch} {N : Option Value → Wd → Prop} {X : String → Wd → Prop} {a1 : Int32} {w : Wd} {o : Option Unit} {u : Wd} (h : fX12_spec a1 w = some (o, u)) (hN : ∀ r : Unit, o = some r → N none u) (hX : o = none → X RAE u) : Ct (GM q) l 3 yX12_spec cX12_spec 7 (none) [.ref 0, .int a1] w N X := Ct.of (by decide) (Nat.le_of_ble_eq_true rfl) (pX12_spec hN hX h)
/-! AlgolMillModel.setOrCall ()I: E, 904 -/
theorem dX12_setOrCall_0 : decode cX12_setOrCall 0 = .ok (.aload_n 0, 1) := by decide +kernel
theorem dX12_setOrCall_1 : decode cX12_setOrCall 1 = .ok (.getfield 443, 3) := by decide +kernel
theorem dX12_setOrCall_4 : decode cX12_setOrCall 4 = .ok (.istore_n 1, 1) := by decide +kernel
theorem dX12_setOrCall_5 : decode cX12_setOrCall 5 = .ok (.aload_n 0, 1) := by decide +kernel
theorem dX12_setOrCall_6 : decode cX12_setOrCall 6 = .ok (.getfield 13, 3) := by decide +kernel
theorem dX12_setOrCall_9 : decode cX12_setOrCall 9 = .ok (.aload_n 0, 1) := by decide +kernel
theorem dX12_setOrCall_10 : decode cX12_setOrCall 10 = .ok (.getfield 443, 3) := by decide +kernel
theorem dX12_setOrCall_13 : decode cX12_setOrCall 13 = .ok (.iconst 1, 1) := by decide +kernel
theorem dX12_setOrCall_14 : decode cX12_setOrCall 14 = .ok (.iadd, 1) := by decide +kernel
theorem dX12_setOrCall_15 : decode cX12_setOrCall 15 = .ok (.iaload, 1) := by decide +kernel
theorem dX12_setOrCall_16 : decode cX12_setOrCall 16 = .ok (.bipush 40, 2) := by decide +kernel
theorem dX12_setOrCall_18 : decode cX12_setOrCall 18 = .ok (.if_icmp .ne 10, 3) := by decide +kernel
theorem dX12_setOrCall_21 : decode cX12_setOrCall 21 = .ok (.aload_n 0, 1) := by decide +kernel
theorem dX12_setOrCall_22 : decode cX12_setOrCall 22 = .ok (.invokevirtual 575, 3) := by decide +kernel
theorem dX12_setOrCall_25 : decode cX12_setOrCall 25 = .ok (.goto 7, 3) := by decide +kernel
theorem dX12_setOrCall_28 : decode cX12_setOrCall 28 = .ok (.aload_n 0, 1) := by decide +kernel
theorem dX12_setOrCall_29 : decode cX12_setOrCall 29 = .ok (.invokevirtual 569, 3) := by decide +kernel
theorem dX12_setOrCall_32 : decode cX12_setOrCall 32 = .ok (.istore_n 2, 1) := by decide +kernel
theorem dX12_setOrCall_33 : decode cX12_setOrCall 33 = .ok (.aload_n 0, 1) := by decide +kernel
theorem dX12_setOrCall_34 : decode cX12_setOrCall 34 = .ok (.getfield 99, 3) := by decide +kernel
theorem dX12_setOrCall_37 : decode cX12_setOrCall 37 = .ok (.iload_n 2, 1) := by decide +kernel
theorem dX12_setOrCall_38 : decode cX12_setOrCall 38 = .ok (.iaload, 1) := by decide +kernel
theorem dX12_setOrCall_39 : decode cX12_setOrCall 39 = .ok (.iconst 5, 1) := by decide +kernel
theorem dX12_setOrCall_40 : decode cX12_setOrCall 40 = .ok (.if_icmp .eq 23, 3) := by decide +kernel
theorem dX12_setOrCall_43 : decode cX12_setOrCall 43 = .ok (.aload_n 0, 1) := by decide +kernel
theorem dX12_setOrCall_44 : decode cX12_setOrCall 44 = .ok (.getfield 99, 3) := by decide +kernel
theorem dX12_setOrCall_47 : decode cX12_setOrCall 47 = .ok (.iload_n 2, 1) := by decide +kernel
theorem dX12_setOrCall_48 : decode cX12_setOrCall 48 = .ok (.iaload, 1) := by decide +kernel
theorem dX12_setOrCall_49 : decode cX12_setOrCall 49 = .ok (.iconst 3, 1) := by decide +kernel
theorem dX12_setOrCall_50 : decode cX12_setOrCall 50 = .ok (.if_icmp .ne 24, 3) := by decide +kernel
theorem dX12_setOrCall_53 : decode cX12_setOrCall 53 = .ok (.aload_n 0, 1) := by decide +kernel
theorem dX12_setOrCall_54 : decode cX12_setOrCall 54 = .ok (.invokevirtual 452, 3) := by decide +kernel
theorem dX12_setOrCall_57 : decode cX12_setOrCall 57 = .ok (.sipush 290, 3) := by decide +kernel
theorem dX12_setOrCall_60 : decode cX12_setOrCall 60 = .ok (.if_icmp .eq 14, 3) := by decide +kernel
theorem dX12_setOrCall_63 : decode cX12_setOrCall 63 = .ok (.aload_n 0, 1) := by decide +kernel
theorem dX12_setOrCall_64 : decode cX12_setOrCall 64 = .ok (.bipush 22, 2) := by decide +kernel
theorem dX12_setOrCall_66 : decode cX12_setOrCall 66 = .ok (.iload_n 2, 1) := by decide +kernel
theorem dX12_setOrCall_67 : decode cX12_setOrCall 67 = .ok (.iconst 0, 1) := by decide +kernel
theorem dX12_setOrCall_68 : decode cX12_setOrCall 68 = .ok (.iconst 0, 1) := by decide +kernel
theorem dX12_setOrCall_69 : decode cX12_setOrCall 69 = .ok (.iload_n 1, 1) := by decide +kernel
theorem dX12_setOrCall_70 : decode cX12_setOrCall 70 = .ok (.invokevirtual 500, 3) := by decide +kernel
theorem dX12_setOrCall_73 : decode cX12_setOrCall 73 = .ok (.ireturn, 1) := by decide +kernel
theorem dX12_setOrCall_74 : decode cX12_setOrCall 74 = .ok (.aload_n 0, 1) := by decide +kernel
theorem dX12_setOrCall_75 : decode cX12_setOrCall 75 = .ok (.sipush 290, 3) := by decide +kernel
theorem dX12_setOrCall_78 : decode cX12_setOrCall 78 = .ok (.invokevirtual 491, 3) := by decide +kernel
theorem dX12_setOrCall_81 : decode cX12_setOrCall 81 = .ok (.istore_n 3, 1) := by decide +kernel
theorem dX12_setOrCall_82 : decode cX12_setOrCall 82 = .ok (.iload_n 2, 1) := by decide +kernel
theorem dX12_setOrCall_83 : decode cX12_setOrCall 83 = .ok (.istore 4, 2) := by decide +kernel
theorem dX12_setOrCall_85 : decode cX12_setOrCall 85 = .ok (.iload_n 2, 1) := by decide +kernel
theorem dX12_setOrCall_86 : decode cX12_setOrCall 86 = .ok (.istore 5, 2) := by decide +kernel
theorem dX12_setOrCall_88 : decode cX12_setOrCall 88 = .ok (.iconst 1, 1) := by decide +kernel
theorem dX12_setOrCall_89 : decode cX12_setOrCall 89 = .ok (.istore 6, 2) := by decide +kernel
theorem dX12_setOrCall_91 : decode cX12_setOrCall 91 = .ok (.aload_n 0, 1) := by decide +kernel
theorem dX12_setOrCall_92 : decode cX12_setOrCall 92 = .ok (.invokevirtual 538, 3) := by decide +kernel
theorem dX12_setOrCall_95 : decode cX12_setOrCall 95 = .ok (.istore 7, 2) := by decide +kernel
theorem dX12_setOrCall_97 : decode cX12_setOrCall 97 = .ok (.aload_n 0, 1) := by decide +kernel
theorem dX12_setOrCall_98 : decode cX12_setOrCall 98 = .ok (.getfield 99, 3) := by decide +kernel
theorem dX12_setOrCall_101 : decode cX12_setOrCall 101 = .ok (.iload 7, 2) := by decide +kernel
theorem dX12_setOrCall_103 : decode cX12_setOrCall 103 = .ok (.iaload, 1) := by decide +kernel
theorem dX12_setOrCall_104 : decode cX12_setOrCall 104 = .ok (.iconst 3, 1) := by decide +kernel
theorem dX12_setOrCall_105 : decode cX12_setOrCall 105 = .ok (.if_icmp .eq 14, 3) := by decide +kernel
theorem dX12_setOrCall_108 : decode cX12_setOrCall 108 = .ok (.aload_n 0, 1) := by decide +kernel
theorem dX12_setOrCall_109 : decode cX12_setOrCall 109 = .ok (.getfield 99, 3) := by decide +kernel
theorem dX12_setOrCall_112 : decode cX12_setOrCall 112 = .ok (.iload 7, 2) := by decide +kernel
theorem dX12_setOrCall_114 : decode cX12_setOrCall 114 = .ok (.iaload, 1) := by decide +kernel
theorem dX12_setOrCall_115 : decode cX12_setOrCall 115 = .ok (.iconst 4, 1) := by decide +kernel
theorem dX12_setOrCall_116 : decode cX12_setOrCall 116 = .ok (.if_icmp .ne 17, 3) := by decide +kernel
theorem dX12_setOrCall_119 : decode cX12_setOrCall 119 = .ok (.aload_n 0, 1) := by decide +kernel
theorem dX12_setOrCall_120 : decode cX12_setOrCall 120 = .ok (.invokevirtual 452, 3) := by decide +kernel
theorem dX12_setOrCall_123 : decode cX12_setOrCall 123 = .ok (.sipush 290, 3) := by decide +kernel
theorem dX12_setOrCall_126 : decode cX12_setOrCall 126 = .ok (.if_icmp .ne 7, 3) := by decide +kernel
theorem dX12_setOrCall_129 : decode cX12_setOrCall 129 = .ok (.iconst 1, 1) := by decide +kernel
theorem dX12_setOrCall_130 : decode cX12_setOrCall 130 = .ok (.goto 4, 3) := by decide +kernel
theorem dX12_setOrCall_133 : decode cX12_setOrCall 133 = .ok (.iconst 0, 1) := by decide +kernel
theorem dX12_setOrCall_134 : decode cX12_setOrCall 134 = .ok (.istore 8, 2) := by decide +kernel
theorem dX12_setOrCall_136 : decode cX12_setOrCall 136 = .ok (.iload 8, 2) := by decide +kernel
theorem dX12_setOrCall_138 : decode cX12_setOrCall 138 = .ok (.ifCond .ne 16, 3) := by decide +kernel
theorem dX12_setOrCall_141 : decode cX12_setOrCall 141 = .ok (.aload_n 0, 1) := by decide +kernel
theorem dX12_setOrCall_142 : decode cX12_setOrCall 142 = .ok (.bipush 21, 2) := by decide +kernel
theorem dX12_setOrCall_144 : decode cX12_setOrCall 144 = .ok (.iload 4, 2) := by decide +kernel
theorem dX12_setOrCall_146 : decode cX12_setOrCall 146 = .ok (.iload 7, 2) := by decide +kernel
theorem dX12_setOrCall_148 : decode cX12_setOrCall 148 = .ok (.iconst 0, 1) := by decide +kernel
theorem dX12_setOrCall_149 : decode cX12_setOrCall 149 = .ok (.iload_n 1, 1) := by decide +kernel
theorem dX12_setOrCall_150 : decode cX12_setOrCall 150 = .ok (.invokevirtual 500, 3) := by decide +kernel
theorem dX12_setOrCall_153 : decode cX12_setOrCall 153 = .ok (.ireturn, 1) := by decide +kernel
theorem dX12_setOrCall_154 : decode cX12_setOrCall 154 = .ok (.aload_n 0, 1) := by decide +kernel
theorem dX12_setOrCall_155 : decode cX12_setOrCall 155 = .ok (.invokevirtual 459, 3) := by decide +kernel
theorem dX12_setOrCall_158 : decode cX12_setOrCall 158 = .ok (.istore_n 3, 1) := by decide +kernel
theorem dX12_setOrCall_159 : decode cX12_setOrCall 159 = .ok (.aload_n 0, 1) := by decide +kernel
theorem dX12_setOrCall_160 : decode cX12_setOrCall 160 = .ok (.getfield 111, 3) := by decide +kernel
theorem dX12_setOrCall_163 : decode cX12_setOrCall 163 = .ok (.iload 5, 2) := by decide +kernel
theorem dX12_setOrCall_165 : decode cX12_setOrCall 165 = .ok (.iload 7, 2) := by decide +kernel
theorem dX12_setOrCall_167 : decode cX12_setOrCall 167 = .ok (.iastore, 1) := by decide +kernel
theorem dX12_setOrCall_168 : decode cX12_setOrCall 168 = .ok (.iload 7, 2) := by decide +kernel
theorem dX12_setOrCall_170 : decode cX12_setOrCall 170 = .ok (.istore 5, 2) := by decide +kernel
theorem dX12_setOrCall_172 : decode cX12_setOrCall 172 = .ok (.iinc 6 1, 3) := by decide +kernel
theorem dX12_setOrCall_175 : decode cX12_setOrCall 175 = .ok (.iload 6, 2) := by decide +kernel
theorem dX12_setOrCall_177 : decode cX12_setOrCall 177 = .ok (.bipush 21, 2) := by decide +kernel
theorem dX12_setOrCall_179 : decode cX12_setOrCall 179 = .ok (.if_icmp .ne 15, 3) := by decide +kernel
theorem dX12_setOrCall_182 : decode cX12_setOrCall 182 = .ok (.aload_n 0, 1) := by decide +kernel
theorem dX12_setOrCall_183 : decode cX12_setOrCall 183 = .ok (.iconst 5, 1) := by decide +kernel
theorem dX12_setOrCall_184 : decode cX12_setOrCall 184 = .ok (.aload_n 0, 1) := by decide +kernel
theorem dX12_setOrCall_185 : decode cX12_setOrCall 185 = .ok (.getfield 114, 3) := by decide +kernel
theorem dX12_setOrCall_188 : decode cX12_setOrCall 188 = .ok (.iload 7, 2) := by decide +kernel
theorem dX12_setOrCall_190 : decode cX12_setOrCall 190 = .ok (.iaload, 1) := by decide +kernel
theorem dX12_setOrCall_191 : decode cX12_setOrCall 191 = .ok (.invokevirtual 484, 3) := by decide +kernel
theorem dX12_setOrCall_194 : decode cX12_setOrCall 194 = .ok (.goto (-103), 3) := by decide +kernel
def fX12_setOrCall_134 (k_91 : Int32 → Int32 → Int32 → Int32 → Wd → Option (Option Int32 × Wd)) (s0 : Bool) (a1 : Int32) (a4 : Int32) (a5 : Int32) (a6 : Int32) (a7 : Int32) (w : Wd) : Option (Option Int32 × Wd) :=
  if s0 = true then (be (fX12_taken w) fun x2 w3 => if inb a5 24000 = true then lt (si w3 11 (Int32.toNatClampNeg a5) a7) fun w6 => lt (a6 + 1) fun x7 => if x7 = 21 then (if inb a7 24000 = true then bn (fX12_found 5 (gi w6 12 (Int32.toNatClampNeg a7)) w6) fun w10 => k_91 a1 a4 a7 x7 w10 else none) else (k_91 a1 a4 a7 x7 w6) else none) else (bn2 (fX12_node 21 a4 a7 0 a1 w) fun x11 w12 => some (some x11, w12))
theorem pX12_setOrCall_134 {q : Gq} {l : Launch} {N : Option Value → Wd → Prop} {X : String → Wd → Prop} {w : Wd} {R : Option Int32 × Wd} (hN : ∀ r : Int32, R.1 = some r → N (some (.int r)) R.2) (hX : R.1 = none → X RAE R.2) {k_91 : Int32 → Int32 → Int32 → Int32 → Wd → Option (Option Int32 × Wd)} (hk_91 : ∀ (a1 : Int32) (a4 : Int32) (a5 : Int32) (a6 : Int32) (w : Wd), k_91 a1 a4 a5 a6 w = some R → RT (GM q) l 904 yX12_setOrCall cX12_setOrCall 9 ((some .int)) N X 91 [] [(0, .ref 0), (1, .int a1), (4, .int a4), (5, .int a5), (6, .int a6)] w) {s0 : Bool} {a1 : Int32} {a4 : Int32} {a5 : Int32} {a6 : Int32} {a7 : Int32} (h : fX12_setOrCall_134 k_91 s0 a1 a4 a5 a6 a7 w = some R) : RT (GM q) l 904 yX12_setOrCall cX12_setOrCall 9 ((some .int)) N X 134 [.int (b2i s0)] [(0, .ref 0), (1, .int a1), (4, .int a4), (5, .int a5), (6, .int a6), (7, .int a7)] w := by
  unfold fX12_setOrCall_134 at h
  refine r_istore (pc := 134) (loc' := [(8, .int (b2i s0)), (0, .ref 0), (1, .int a1), (4, .int a4), (5, .int a5), (6, .int a6), (7, .int a7)]) dX12_setOrCall_134 (Nat.le_of_ble_eq_true rfl) rfl ?_
  refine r_iload (pc := 136) dX12_setOrCall_136 0 rfl ?_
  refine r_z_ne (pc := 138) dX12_setOrCall_138 rfl (fun hc1 => ?_) (fun hc1 => ?_)
  · replace h := if_t hc1 h
    refine r_aload_n (pc := 154) dX12_setOrCall_154 rfl 1 rfl ?_
    replace h := be_e h; obtain ⟨o4, w3, ew3, h1, h2⟩ := h
    refine r_cVi (pc := 155) wyX12_taken oM0 rfl mlRX12_459 iyX12_taken syX12_taken ⟨(Nat.le_of_ble_eq_true rfl), (Nat.le_of_ble_eq_true rfl)⟩ rfl rfl (Nat.le_of_ble_eq_true rfl) dX12_setOrCall_155 (mX12_taken ew3 (fun x2 ex2 => pI.mk ?_) (fun ez => be_x h2 ez hX))
    replace h := h1 _ ex2
    refine r_istore_n (pc := 158) (loc' := [(3, .int x2), (8, .int (b2i s0)), (0, .ref 0), (1, .int a1), (4, .int a4), (5, .int a5), (6, .int a6), (7, .int a7)]) dX12_setOrCall_158 rfl (Nat.le_of_ble_eq_true rfl) rfl ?_
    refine r_aload_n (pc := 159) dX12_setOrCall_159 rfl 2 rfl ?_
    refine r_get (pc := 160) (j := 20) (v := .ref 11) oM0 cf12 flRX12_111 rfl dX12_setOrCall_160 rfl ?_
    refine r_iload (pc := 163) dX12_setOrCall_163 5 rfl ?_
    refine r_iload (pc := 165) dX12_setOrCall_165 7 rfl ?_
    replace h := if_n h; obtain ⟨hb5, h⟩ := h
    replace h := lt_e h; obtain ⟨w6, ew6, h⟩ := h
    refine r_iast (pc := 167) aM11 (inb_in hb5) dX12_setOrCall_167 ?_
    refine r_w ew6 ?_
    refine r_iload (pc := 168) dX12_setOrCall_168 7 rfl ?_
    refine r_istore (pc := 170) (loc' := [(5, .int a7), (3, .int x2), (8, .int (b2i s0)), (0, .ref 0), (1, .int a1), (4, .int a4), (6, .int a6), (7, .int a7)]) dX12_setOrCall_170 (Nat.le_of_ble_eq_true rfl) rfl ?_
    replace h := lt_e h; obtain ⟨x7, ex7, h⟩ := h
    refine r_inc (pc := 172) (loc' := [(6, .int x7), (5, .int a7), (3, .int x2), (8, .int (b2i s0)), (0, .ref 0), (1, .int a1), (4, .int a4), (7, .int a7)]) dX12_setOrCall_172 ki_1 ex7 6 rfl (Nat.le_of_ble_eq_true rfl) rfl ?_
    refine r_iload (pc := 175) dX12_setOrCall_175 0 rfl ?_
    refine r_bipush (pc := 177) dX12_setOrCall_177 kb_21 ?_
    refine r_icmp_ne (pc := 179) dX12_setOrCall_179 rfl (fun hc8 => ?_) (fun hc8 => ?_)
    · replace h := if_f hc8 h
      refine r_goto (pc := 194) dX12_setOrCall_194 rfl ?_
      refine r_drop (loc' := [(0, .ref 0), (1, .int a1), (4, .int a4), (5, .int a7), (6, .int x7)]) [4, 5, 6, 1, 0] rfl ?_
      exact hk_91 a1 a4 a7 x7 w6 h
    replace h := if_t hc8 h
    refine r_aload_n (pc := 182) dX12_setOrCall_182 rfl 4 rfl ?_
    refine r_iconst (pc := 183) dX12_setOrCall_183 ki_5 ?_
    refine r_aload_n (pc := 184) dX12_setOrCall_184 rfl 4 rfl ?_
    refine r_get (pc := 185) (j := 21) (v := .ref 12) oM0 cf12 flRX12_114 rfl dX12_setOrCall_185 rfl ?_
    refine r_iload (pc := 188) dX12_setOrCall_188 7 rfl ?_
    replace h := if_n h; obtain ⟨hb9, h⟩ := h
    refine r_iald (pc := 190) aM12 (inb_in hb9) dX12_setOrCall_190 ?_
    replace h := bn_e h; obtain ⟨w10, ew10, h⟩ := h
    refine r_cVv (pc := 191) wyX12_found oM0 rfl mlRX12_484 iyX12_found syX12_found ⟨(Nat.le_of_ble_eq_true rfl), (Nat.le_of_ble_eq_true rfl)⟩ rfl rfl (Nat.le_of_ble_eq_true rfl) dX12_setOrCall_191 (mX12_found ew10 (pV.mk ?_))
    refine r_goto (pc := 194) dX12_setOrCall_194 rfl ?_
    refine r_drop (loc' := [(0, .ref 0), (1, .int a1), (4, .int a4), (5, .int a7), (6, .int x7)]) [4, 5, 6, 1, 0] rfl ?_
    exact hk_91 a1 a4 a7 x7 w10 h
  replace h := if_f hc1 h
  refine r_aload_n (pc := 141) dX12_setOrCall_141 rfl 1 rfl ?_
  refine r_bipush (pc := 142) dX12_setOrCall_142 kb_21 ?_
  refine r_iload (pc := 144) dX12_setOrCall_144 3 rfl ?_
  refine r_iload (pc := 146) dX12_setOrCall_146 6 rfl ?_
  refine r_iconst (pc := 148) dX12_setOrCall_148 ki_0 ?_
  refine r_iload_n (pc := 149) dX12_setOrCall_149 rfl 2 rfl ?_
  replace h := bn2_e h; obtain ⟨x11, w12, ew12, h⟩ := h
  refine r_cVi (pc := 150) wyX12_node oM0 rfl mlRX12_500 iyX12_node syX12_node ⟨(Nat.le_of_ble_eq_true rfl), (Nat.le_of_ble_eq_true rfl)⟩ rfl rfl (Nat.le_of_ble_eq_true rfl) dX12_setOrCall_150 (mX12_node ew12 (pI.mk ?_))
  exact rE_i (pc := 153) rfl dX12_setOrCall_153 h hN
def fX12_setOrCall_119 (k_91 : Int32 → Int32 → Int32 → Int32 → Wd → Option (Option Int32 × Wd)) (a1 : Int32) (a4 : Int32) (a5 : Int32) (a6 : Int32) (a7 : Int32) (w : Wd) : Option (Option Int32 × Wd) :=
  bn2 (fX12_kind w) fun x1 w2 => if x1 = 290 then (fX12_setOrCall_134 k_91 true a1 a4 a5 a6 a7 w2) else (fX12_setOrCall_134 k_91 false a1 a4 a5 a6 a7 w2)
theorem pX12_setOrCall_119 {q : Gq} {l : Launch} {N : Option Value → Wd → Prop} {X : String → Wd → Prop} {w : Wd} {R : Option Int32 × Wd} (hN : ∀ r : Int32, R.1 = some r → N (some (.int r)) R.2) (hX : R.1 = none → X RAE R.2) {k_91 : Int32 → Int32 → Int32 → Int32 → Wd → Option (Option Int32 × Wd)} (hk_91 : ∀ (a1 : Int32) (a4 : Int32) (a5 : Int32) (a6 : Int32) (w : Wd), k_91 a1 a4 a5 a6 w = some R → RT (GM q) l 904 yX12_setOrCall cX12_setOrCall 9 ((some .int)) N X 91 [] [(0, .ref 0), (1, .int a1), (4, .int a4), (5, .int a5), (6, .int a6)] w) {a1 : Int32} {a4 : Int32} {a5 : Int32} {a6 : Int32} {a7 : Int32} (h : fX12_setOrCall_119 k_91 a1 a4 a5 a6 a7 w = some R) : RT (GM q) l 904 yX12_setOrCall cX12_setOrCall 9 ((some .int)) N X 119 [] [(0, .ref 0), (1, .int a1), (4, .int a4), (5, .int a5), (6, .int a6), (7, .int a7)] w := by
  unfold fX12_setOrCall_119 at h
  refine r_aload_n (pc := 119) dX12_setOrCall_119 rfl 0 rfl ?_
  replace h := bn2_e h; obtain ⟨x1, w2, ew2, h⟩ := h
  refine r_cVi (pc := 120) wyX12_kind oM0 rfl mlRX12_452 iyX12_kind syX12_kind ⟨(Nat.le_of_ble_eq_true rfl), (Nat.le_of_ble_eq_true rfl)⟩ rfl rfl (Nat.le_of_ble_eq_true rfl) dX12_setOrCall_120 (mX12_kind ew2 (pI.mk ?_))
  refine r_sipush (pc := 123) dX12_setOrCall_123 ks_290 ?_
  refine r_icmp_ne (pc := 126) dX12_setOrCall_126 rfl (fun hc3 => ?_) (fun hc3 => ?_)
  · replace h := if_f hc3 h
    refine r_iconst (pc := 133) dX12_setOrCall_133 ki_0 ?_
    exact pX12_setOrCall_134 hN hX hk_91 h
  replace h := if_t hc3 h
  refine r_iconst (pc := 129) dX12_setOrCall_129 ki_1 ?_
  refine r_goto (pc := 130) dX12_setOrCall_130 rfl ?_
  exact pX12_setOrCall_134 hN hX hk_91 h
def fX12_setOrCall_91 (k_91 : Int32 → Int32 → Int32 → Int32 → Wd → Option (Option Int32 × Wd)) (a1 : Int32) (a4 : Int32) (a5 : Int32) (a6 : Int32) (w : Wd) : Option (Option Int32 × Wd) :=
  be (RX12_variable 900 4 0 0 0 w) fun x1 w2 => if inb x1 24000 = true then if (gi w2 7 (Int32.toNatClampNeg x1)) = 3 then (fX12_setOrCall_119 k_91 a1 a4 a5 a6 x1 w2) else (if inb x1 24000 = true then if (gi w2 7 (Int32.toNatClampNeg x1)) = 4 then (fX12_setOrCall_119 k_91 a1 a4 a5 a6 x1 w2) else (fX12_setOrCall_134 k_91 false a1 a4 a5 a6 x1 w2) else none) else none
theorem pX12_setOrCall_91 {q : Gq} {l : Launch} {N : Option Value → Wd → Prop} {X : String → Wd → Prop} {w : Wd} {R : Option Int32 × Wd} (hN : ∀ r : Int32, R.1 = some r → N (some (.int r)) R.2) (hX : R.1 = none → X RAE R.2) {k_91 : Int32 → Int32 → Int32 → Int32 → Wd → Option (Option Int32 × Wd)} (hk_91 : ∀ (a1 : Int32) (a4 : Int32) (a5 : Int32) (a6 : Int32) (w : Wd), k_91 a1 a4 a5 a6 w = some R → RT (GM q) l 904 yX12_setOrCall cX12_setOrCall 9 ((some .int)) N X 91 [] [(0, .ref 0), (1, .int a1), (4, .int a4), (5, .int a5), (6, .int a6)] w) {a1 : Int32} {a4 : Int32} {a5 : Int32} {a6 : Int32} (h : fX12_setOrCall_91 k_91 a1 a4 a5 a6 w = some R) : RT (GM q) l 904 yX12_setOrCall cX12_setOrCall 9 ((some .int)) N X 91 [] [(0, .ref 0), (1, .int a1), (4, .int a4), (5, .int a5), (6, .int a6)] w := by
  unfold fX12_setOrCall_91 at h
  refine r_aload_n (pc := 91) dX12_setOrCall_91 rfl 0 rfl ?_
  replace h := be_e h; obtain ⟨o3, w2, ew2, h1, h2⟩ := h
  refine r_cVi (pc := 92) wyX12_expr oM0 rfl mlRX12_538 iyX12_expr syX12_expr ⟨(Nat.le_of_ble_eq_true rfl), (Nat.le_of_ble_eq_true rfl)⟩ rfl rfl (Nat.le_of_ble_eq_true rfl) dX12_setOrCall_92 (mX12_expr ew2 (fun x1 ex1 => pI.mk ?_) (fun ez => be_x h2 ez hX))
  replace h := h1 _ ex1
  refine r_istore (pc := 95) (loc' := [(7, .int x1), (0, .ref 0), (1, .int a1), (4, .int a4), (5, .int a5), (6, .int a6)]) dX12_setOrCall_95 (Nat.le_of_ble_eq_true rfl) rfl ?_
  refine r_aload_n (pc := 97) dX12_setOrCall_97 rfl 1 rfl ?_
  refine r_get (pc := 98) (j := 16) (v := .ref 7) oM0 cf12 flRX12_99 rfl dX12_setOrCall_98 rfl ?_
  refine r_iload (pc := 101) dX12_setOrCall_101 0 rfl ?_
  replace h := if_n h; obtain ⟨hb4, h⟩ := h
  refine r_iald (pc := 103) aM7 (inb_in hb4) dX12_setOrCall_103 ?_
  refine r_iconst (pc := 104) dX12_setOrCall_104 ki_3 ?_
  refine r_icmp_eq (pc := 105) dX12_setOrCall_105 rfl (fun hc5 => ?_) (fun hc5 => ?_)
  · replace h := if_t hc5 h
    refine r_drop (loc' := [(0, .ref 0), (1, .int a1), (4, .int a4), (5, .int a5), (6, .int a6), (7, .int x1)]) [1, 2, 3, 4, 5, 0] rfl ?_
    exact pX12_setOrCall_119 hN hX hk_91 h
  replace h := if_f hc5 h
  refine r_aload_n (pc := 108) dX12_setOrCall_108 rfl 1 rfl ?_
  refine r_get (pc := 109) (j := 16) (v := .ref 7) oM0 cf12 flRX12_99 rfl dX12_setOrCall_109 rfl ?_
  refine r_iload (pc := 112) dX12_setOrCall_112 0 rfl ?_
  replace h := if_n h; obtain ⟨hb6, h⟩ := h
  refine r_iald (pc := 114) aM7 (inb_in hb6) dX12_setOrCall_114 ?_
  refine r_iconst (pc := 115) dX12_setOrCall_115 ki_4 ?_
  refine r_icmp_ne (pc := 116) dX12_setOrCall_116 rfl (fun hc7 => ?_) (fun hc7 => ?_)
  · replace h := if_f hc7 h
    refine r_iconst (pc := 133) dX12_setOrCall_133 ki_0 ?_
    refine r_drop (loc' := [(0, .ref 0), (1, .int a1), (4, .int a4), (5, .int a5), (6, .int a6), (7, .int x1)]) [1, 2, 3, 4, 5, 0] rfl ?_
    exact pX12_setOrCall_134 hN hX hk_91 h
  replace h := if_t hc7 h
  refine r_drop (loc' := [(0, .ref 0), (1, .int a1), (4, .int a4), (5, .int a5), (6, .int a6), (7, .int x1)]) [1, 2, 3, 4, 5, 0] rfl ?_
  exact pX12_setOrCall_119 hN hX hk_91 h
def oX12_setOrCall_91 : Nat → Int32 → Int32 → Int32 → Int32 → Wd → Option (Option Int32 × Wd)
  | 0 => fun _ _ _ _ _ => none
  | n + 1 => fX12_setOrCall_91 (oX12_setOrCall_91 n)
theorem qX12_setOrCall_91 {q : Gq} {l : Launch} {N : Option Value → Wd → Prop} {X : String → Wd → Prop} {R : Option Int32 × Wd} (hN : ∀ r : Int32, R.1 = some r → N (some (.int r)) R.2) (hX : R.1 = none → X RAE R.2) : ∀ (n : Nat) (a1 : Int32) (a4 : Int32) (a5 : Int32) (a6 : Int32) (w : Wd), oX12_setOrCall_91 n a1 a4 a5 a6 w = some R → RT (GM q) l 904 yX12_setOrCall cX12_setOrCall 9 ((some .int)) N X 91 [] [(0, .ref 0), (1, .int a1), (4, .int a4), (5, .int a5), (6, .int a6)] w := by
  intro n
  induction n with
  | zero =>
    intro a1 a4 a5 a6 w h
    exact absurd h (fun q => nomatch q)
  | succ n ih =>
    intro a1 a4 a5 a6 w h
    exact pX12_setOrCall_91 hN hX ih h
def fX12_setOrCall_74 (a1 : Int32) (a2 : Int32) (w : Wd) : Option (Option Int32 × Wd) :=
  be (fX12_expect 290 w) fun x1 w2 => oX12_setOrCall_91 FU a1 a2 a2 1 w2
theorem pX12_setOrCall_74 {q : Gq} {l : Launch} {N : Option Value → Wd → Prop} {X : String → Wd → Prop} {w : Wd} {R : Option Int32 × Wd} (hN : ∀ r : Int32, R.1 = some r → N (some (.int r)) R.2) (hX : R.1 = none → X RAE R.2) {a1 : Int32} {a2 : Int32} (h : fX12_setOrCall_74 a1 a2 w = some R) : RT (GM q) l 904 yX12_setOrCall cX12_setOrCall 9 ((some .int)) N X 74 [] [(0, .ref 0), (1, .int a1), (2, .int a2)] w := by
  unfold fX12_setOrCall_74 at h
  refine r_aload_n (pc := 74) dX12_setOrCall_74 rfl 0 rfl ?_
  refine r_sipush (pc := 75) dX12_setOrCall_75 ks_290 ?_
  replace h := be_e h; obtain ⟨o3, w2, ew2, h1, h2⟩ := h
  refine r_cVi (pc := 78) wyX12_expect oM0 rfl mlRX12_491 iyX12_expect syX12_expect ⟨(Nat.le_of_ble_eq_true rfl), (Nat.le_of_ble_eq_true rfl)⟩ rfl rfl (Nat.le_of_ble_eq_true rfl) dX12_setOrCall_78 (mX12_expect ew2 (fun x1 ex1 => pI.mk ?_) (fun ez => be_x h2 ez hX))
  replace h := h1 _ ex1
  refine r_istore_n (pc := 81) (loc' := [(3, .int x1), (0, .ref 0), (1, .int a1), (2, .int a2)]) dX12_setOrCall_81 rfl (Nat.le_of_ble_eq_true rfl) rfl ?_
  refine r_iload_n (pc := 82) dX12_setOrCall_82 rfl 3 rfl ?_
  refine r_istore (pc := 83) (loc' := [(4, .int a2), (3, .int x1), (0, .ref 0), (1, .int a1), (2, .int a2)]) dX12_setOrCall_83 (Nat.le_of_ble_eq_true rfl) rfl ?_
  refine r_iload_n (pc := 85) dX12_setOrCall_85 rfl 4 rfl ?_
  refine r_istore (pc := 86) (loc' := [(5, .int a2), (4, .int a2), (3, .int x1), (0, .ref 0), (1, .int a1), (2, .int a2)]) dX12_setOrCall_86 (Nat.le_of_ble_eq_true rfl) rfl ?_
  refine r_iconst (pc := 88) dX12_setOrCall_88 ki_1 ?_
  refine r_istore (pc := 89) (loc' := [(6, .int 1), (5, .int a2), (4, .int a2), (3, .int x1), (0, .ref 0), (1, .int a1), (2, .int a2)]) dX12_setOrCall_89 (Nat.le_of_ble_eq_true rfl) rfl ?_
  refine r_drop (loc' := [(0, .ref 0), (1, .int a1), (4, .int a2), (5, .int a2), (6, .int 1)]) [4, 5, 2, 1, 0] rfl ?_
  exact qX12_setOrCall_91 hN hX FU a1 a2 a2 1 w2 h
def fX12_setOrCall_32 (s0 : Int32) (a1 : Int32) (w : Wd) : Option (Option Int32 × Wd) :=
  if inb s0 24000 = true then if (gi w 7 (Int32.toNatClampNeg s0)) = 5 then (bn2 (fX12_node 22 s0 0 0 a1 w) fun x3 w4 => some (some x3, w4)) else (if inb s0 24000 = true then if (gi w 7 (Int32.toNatClampNeg s0)) = 3 then (bn2 (fX12_kind w) fun x7 w8 => if x7 = 290 then (fX12_setOrCall_74 a1 s0 w8) else (bn2 (fX12_node 22 s0 0 0 a1 w8) fun x10 w11 => some (some x10, w11))) else (fX12_setOrCall_74 a1 s0 w) else none) else none
theorem pX12_setOrCall_32 {q : Gq} {l : Launch} {N : Option Value → Wd → Prop} {X : String → Wd → Prop} {w : Wd} {R : Option Int32 × Wd} (hN : ∀ r : Int32, R.1 = some r → N (some (.int r)) R.2) (hX : R.1 = none → X RAE R.2) {s0 : Int32} {a1 : Int32} (h : fX12_setOrCall_32 s0 a1 w = some R) : RT (GM q) l 904 yX12_setOrCall cX12_setOrCall 9 ((some .int)) N X 32 [.int s0] [(0, .ref 0), (1, .int a1)] w := by
  unfold fX12_setOrCall_32 at h
  refine r_istore_n (pc := 32) (loc' := [(2, .int s0), (0, .ref 0), (1, .int a1)]) dX12_setOrCall_32 rfl (Nat.le_of_ble_eq_true rfl) rfl ?_
  refine r_aload_n (pc := 33) dX12_setOrCall_33 rfl 1 rfl ?_
  refine r_get (pc := 34) (j := 16) (v := .ref 7) oM0 cf12 flRX12_99 rfl dX12_setOrCall_34 rfl ?_
  refine r_iload_n (pc := 37) dX12_setOrCall_37 rfl 0 rfl ?_
  replace h := if_n h; obtain ⟨hb1, h⟩ := h
  refine r_iald (pc := 38) aM7 (inb_in hb1) dX12_setOrCall_38 ?_
  refine r_iconst (pc := 39) dX12_setOrCall_39 ki_5 ?_
  refine r_icmp_eq (pc := 40) dX12_setOrCall_40 rfl (fun hc2 => ?_) (fun hc2 => ?_)
  · replace h := if_t hc2 h
    refine r_aload_n (pc := 63) dX12_setOrCall_63 rfl 1 rfl ?_
    refine r_bipush (pc := 64) dX12_setOrCall_64 kb_22 ?_
    refine r_iload_n (pc := 66) dX12_setOrCall_66 rfl 0 rfl ?_
    refine r_iconst (pc := 67) dX12_setOrCall_67 ki_0 ?_
    refine r_iconst (pc := 68) dX12_setOrCall_68 ki_0 ?_
    refine r_iload_n (pc := 69) dX12_setOrCall_69 rfl 2 rfl ?_
    replace h := bn2_e h; obtain ⟨x3, w4, ew4, h⟩ := h
    refine r_cVi (pc := 70) wyX12_node oM0 rfl mlRX12_500 iyX12_node syX12_node ⟨(Nat.le_of_ble_eq_true rfl), (Nat.le_of_ble_eq_true rfl)⟩ rfl rfl (Nat.le_of_ble_eq_true rfl) dX12_setOrCall_70 (mX12_node ew4 (pI.mk ?_))
    exact rE_i (pc := 73) rfl dX12_setOrCall_73 h hN
  replace h := if_f hc2 h
  refine r_aload_n (pc := 43) dX12_setOrCall_43 rfl 1 rfl ?_
  refine r_get (pc := 44) (j := 16) (v := .ref 7) oM0 cf12 flRX12_99 rfl dX12_setOrCall_44 rfl ?_
  refine r_iload_n (pc := 47) dX12_setOrCall_47 rfl 0 rfl ?_
  replace h := if_n h; obtain ⟨hb5, h⟩ := h
  refine r_iald (pc := 48) aM7 (inb_in hb5) dX12_setOrCall_48 ?_
  refine r_iconst (pc := 49) dX12_setOrCall_49 ki_3 ?_
  refine r_icmp_ne (pc := 50) dX12_setOrCall_50 rfl (fun hc6 => ?_) (fun hc6 => ?_)
  · replace h := if_f hc6 h
    refine r_drop (loc' := [(0, .ref 0), (1, .int a1), (2, .int s0)]) [1, 2, 0] rfl ?_
    exact pX12_setOrCall_74 hN hX h
  replace h := if_t hc6 h
  refine r_aload_n (pc := 53) dX12_setOrCall_53 rfl 1 rfl ?_
  replace h := bn2_e h; obtain ⟨x7, w8, ew8, h⟩ := h
  refine r_cVi (pc := 54) wyX12_kind oM0 rfl mlRX12_452 iyX12_kind syX12_kind ⟨(Nat.le_of_ble_eq_true rfl), (Nat.le_of_ble_eq_true rfl)⟩ rfl rfl (Nat.le_of_ble_eq_true rfl) dX12_setOrCall_54 (mX12_kind ew8 (pI.mk ?_))
  refine r_sipush (pc := 57) dX12_setOrCall_57 ks_290 ?_
  refine r_icmp_eq (pc := 60) dX12_setOrCall_60 rfl (fun hc9 => ?_) (fun hc9 => ?_)
  · replace h := if_t hc9 h
    refine r_drop (loc' := [(0, .ref 0), (1, .int a1), (2, .int s0)]) [1, 2, 0] rfl ?_
    exact pX12_setOrCall_74 hN hX h
  replace h := if_f hc9 h
  refine r_aload_n (pc := 63) dX12_setOrCall_63 rfl 1 rfl ?_
  refine r_bipush (pc := 64) dX12_setOrCall_64 kb_22 ?_
  refine r_iload_n (pc := 66) dX12_setOrCall_66 rfl 0 rfl ?_
  refine r_iconst (pc := 67) dX12_setOrCall_67 ki_0 ?_
  refine r_iconst (pc := 68) dX12_setOrCall_68 ki_0 ?_
  refine r_iload_n (pc := 69) dX12_setOrCall_69 rfl 2 rfl ?_
  replace h := bn2_e h; obtain ⟨x10, w11, ew11, h⟩ := h
  refine r_cVi (pc := 70) wyX12_node oM0 rfl mlRX12_500 iyX12_node syX12_node ⟨(Nat.le_of_ble_eq_true rfl), (Nat.le_of_ble_eq_true rfl)⟩ rfl rfl (Nat.le_of_ble_eq_true rfl) dX12_setOrCall_70 (mX12_node ew11 (pI.mk ?_))
  exact rE_i (pc := 73) rfl dX12_setOrCall_73 h hN
def fX12_setOrCall (w : Wd) : Option (Option Int32 × Wd) :=
  lt ((gi w 0 7)) fun x1 => if inb ((gi w 0 7) + 1) 8194 = true then if (gi w 2 (Int32.toNatClampNeg ((gi w 0 7) + 1))) = 40 then (be (RX12_variable 900 2 0 0 0 w) fun x4 w5 => fX12_setOrCall_32 x4 x1 w5) else (be (RX12_variable 900 0 0 0 0 w) fun x7 w8 => fX12_setOrCall_32 x7 x1 w8) else none
theorem pX12_setOrCall {q : Gq} {l : Launch} {N : Option Value → Wd → Prop} {X : String → Wd → Prop} {w : Wd} {R : Option Int32 × Wd} (hN : ∀ r : Int32, R.1 = some r → N (some (.int r)) R.2) (hX : R.1 = none → X RAE R.2) (h : fX12_setOrCall w = some R) : RT (GM q) l 904 yX12_setOrCall cX12_setOrCall 9 ((some .int)) N X 0 [] [(0, .ref 0)] w := by
  unfold fX12_setOrCall at h
  refine r_aload_n (pc := 0) dX12_setOrCall_0 rfl 0 rfl ?_
  refine r_get (pc := 1) (j := 7) (v := .int (gi w 0 7)) oM0 cf12 flRX12_443 rfl dX12_setOrCall_1 rfl ?_
  replace h := lt_e h; obtain ⟨x1, ex1, h⟩ := h
  refine r_topi ex1 ?_
  refine r_istore_n (pc := 4) (loc' := [(1, .int x1), (0, .ref 0)]) dX12_setOrCall_4 rfl (Nat.le_of_ble_eq_true rfl) rfl ?_
  refine r_aload_n (pc := 5) dX12_setOrCall_5 rfl 1 rfl ?_
  refine r_get (pc := 6) (j := 3) (v := .ref 2) oM0 cf12 flRX12_13 rfl dX12_setOrCall_6 rfl ?_
  refine r_aload_n (pc := 9) dX12_setOrCall_9 rfl 1 rfl ?_
  refine r_get (pc := 10) (j := 7) (v := .int (gi w 0 7)) oM0 cf12 flRX12_443 rfl dX12_setOrCall_10 rfl ?_
  refine r_iconst (pc := 13) dX12_setOrCall_13 ki_1 ?_
  refine r_iadd (pc := 14) dX12_setOrCall_14 ?_
  replace h := if_n h; obtain ⟨hb2, h⟩ := h
  refine r_iald (pc := 15) aM2 (inb_in hb2) dX12_setOrCall_15 ?_
  refine r_bipush (pc := 16) dX12_setOrCall_16 kb_40 ?_
  refine r_icmp_ne (pc := 18) dX12_setOrCall_18 rfl (fun hc3 => ?_) (fun hc3 => ?_)
  · replace h := if_f hc3 h
    refine r_aload_n (pc := 28) dX12_setOrCall_28 rfl 1 rfl ?_
    replace h := be_e h; obtain ⟨o9, w8, ew8, h1, h2⟩ := h
    refine r_cVi (pc := 29) wyX12_variable oM0 rfl mlRX12_569 iyX12_variable syX12_variable ⟨(Nat.le_of_ble_eq_true rfl), (Nat.le_of_ble_eq_true rfl)⟩ rfl rfl (Nat.le_of_ble_eq_true rfl) dX12_setOrCall_29 (mX12_variable ew8 (fun x7 ex7 => pI.mk ?_) (fun ez => be_x h2 ez hX))
    replace h := h1 _ ex7
    refine r_drop (loc' := [(0, .ref 0), (1, .int x1)]) [1, 0] rfl ?_
    exact pX12_setOrCall_32 hN hX h
  replace h := if_t hc3 h
  refine r_aload_n (pc := 21) dX12_setOrCall_21 rfl 1 rfl ?_
  replace h := be_e h; obtain ⟨o6, w5, ew5, h1, h2⟩ := h
  refine r_cVi (pc := 22) wyX12_call oM0 rfl mlRX12_575 iyX12_call syX12_call ⟨(Nat.le_of_ble_eq_true rfl), (Nat.le_of_ble_eq_true rfl)⟩ rfl rfl (Nat.le_of_ble_eq_true rfl) dX12_setOrCall_22 (mX12_call ew5 (fun x4 ex4 => pI.mk ?_) (fun ez => be_x h2 ez hX))
  replace h := h1 _ ex4
  refine r_goto (pc := 25) dX12_setOrCall_25 rfl ?_
  refine r_drop (loc' := [(0, .ref 0), (1, .int x1)]) [1, 0] rfl ?_
  exact pX12_setOrCall_32 hN hX h
theorem mX12_setOrCall {q : Gq} {l : Launch} {N : Option Value → Wd → Prop} {X : String → Wd → Prop} {w : Wd} {o : Option Int32} {u : Wd} (h : fX12_setOrCall w = some (o, u)) (hN : ∀ r : Int32, o = some r → N (some (.int r)) u) (hX : o = none → X RAE u) : Ct (GM q) l 904 yX12_setOrCall cX12_setOrCall 9 ((some .int)) [.ref 0] w N X := Ct.of (by decide) (Nat.le_of_ble_eq_true rfl) (pX12_setOrCall hN hX h)
