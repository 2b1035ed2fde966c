/-! the reference -/
theorem ka_29 : Int32.ofNat 29 = 29 := by decide
theorem kb_58 : (Int8.ofInt 58).toInt32 = 58 := by decide
theorem ki_m8 : Int32.ofInt (-8) = (-8) := by decide
theorem ks_200 : (Int16.ofInt 200).toInt32 = 200 := by decide
theorem ks_255 : (Int16.ofInt 255).toInt32 = 255 := by decide
theorem ks_256 : (Int16.ofInt 256).toInt32 = 256 := by decide
theorem ks_259 : (Int16.ofInt 259).toInt32 = 259 := by decide
theorem ks_260 : (Int16.ofInt 260).toInt32 = 260 := by decide
theorem ks_285 : (Int16.ofInt 285).toInt32 = 285 := by decide
theorem ks_286 : (Int16.ofInt 286).toInt32 = 286 := by decide
theorem ks_287 : (Int16.ofInt 287).toInt32 = 287 := by decide
theorem ks_288 : (Int16.ofInt 288).toInt32 = 288 := by decide
theorem ks_289 : (Int16.ofInt 289).toInt32 = 289 := by decide
theorem ks_290 : (Int16.ofInt 290).toInt32 = 290 := by decide
theorem ks_291 : (Int16.ofInt 291).toInt32 = 291 := by decide
theorem ks_292 : (Int16.ofInt 292).toInt32 = 292 := by decide
theorem kcRX12_413 : Cond.constantLong RX12 413 37 ∈ TB := tb1 sg11 70 rfl rfl
theorem kcRX12_423 : Cond.constantLong RX12 423 10 ∈ TB := tb1 sg11 81 rfl rfl
theorem kcRX12_425 : Cond.constantLong RX12 425 48 ∈ TB := tb1 sg11 82 rfl rfl
theorem kcRX12_427 : Cond.constantLong RX12 427 1099511627776 ∈ TB := tb1 sg11 83 rfl rfl
/-- the lengths and the letters of the reference's words -/
def wdl (k : Nat) : List Int32 := match k with
  | 0 => [98, 101, 103, 105, 110]
  | 1 => [101, 110, 100]
  | 2 => [111, 119, 110]
  | 3 => [105, 110, 116, 101, 103, 101, 114]
  | 4 => [98, 111, 111, 108, 101, 97, 110]
  | 5 => [97, 114, 114, 97, 121]
  | 6 => [112, 114, 111, 99, 101, 100, 117, 114, 101]
  | 7 => [118, 97, 108, 117, 101]
  | 8 => [108, 97, 98, 101, 108]
  | 9 => [115, 119, 105, 116, 99, 104]
  | 10 => [103, 111, 116, 111]
  | 11 => [105, 102]
  | 12 => [116, 104, 101, 110]
  | 13 => [101, 108, 115, 101]
  | 14 => [102, 111, 114]
  | 15 => [100, 111]
  | 16 => [115, 116, 101, 112]
  | 17 => [117, 110, 116, 105, 108]
  | 18 => [119, 104, 105, 108, 101]
  | 19 => [116, 114, 117, 101]
  | 20 => [102, 97, 108, 115, 101]
  | 21 => [97, 110, 100]
  | 22 => [111, 114]
  | 23 => [105, 109, 112, 108]
  | 24 => [101, 113, 117, 105, 118]
  | 25 => [110, 111, 116]
  | 26 => [100, 105, 118]
  | 27 => [109, 111, 100]
  | 28 => [112, 114, 105, 110, 116]
  | _ => []
def wln (i : Int32) : Int32 := Int32.ofNat (wdl i.toNatClampNeg).length
def wch (i j : Int32) : Int32 := ((wdl i.toNatClampNeg)[j.toNatClampNeg]?).getD 0
theorem inb_ge {i : Int32} {n : Nat} (h : inb i n = true) : inb i n = true := h
/-- what the reference asks of its strings -/
def SGM (q : Gq) (l : Launch) : Prop := (∀ (d : Nat) (N : Option Value → Wd → Prop) (X : String → Wd → Prop), 10 ≤ d → ∀ (rest : List Value) (loc : List (Nat × Value)) (w : Wd), RT (GM q) l d yX12_cut cX12_cut 7 (none) N X 274 (.ref 700 :: rest) loc w → RT (GM q) l d yX12_cut cX12_cut 7 (none) N X 271 rest loc w) ∧ (∀ (d : Nat) (N : Option Value → Wd → Prop) (X : String → Wd → Prop), 10 ≤ d → ∀ (x : Int32) (rest : List Value) (loc : List (Nat × Value)) (w : Wd), (rest.map fun v => v.category).sum ≤ 8 → RT (GM q) l d yX12_cut cX12_cut 7 (none) N X 278 (.int (sgn x) :: rest) loc w → RT (GM q) l d yX12_cut cX12_cut 7 (none) N X 275 (.int x :: .ref 700 :: rest) loc w) ∧ (∀ (d : Nat) (N : Option Value → Wd → Prop) (X : String → Wd → Prop), 10 ≤ d → ∀ (i : Int32) (rest : List Value) (loc : List (Nat × Value)) (w : Wd), inb i 29 = true → (rest.map fun v => v.category).sum ≤ 8 → RT (GM q) l d yX12_word cX12_word 7 ((some .int)) N X 24 (.int (wln i) :: rest) loc w → RT (GM q) l d yX12_word cX12_word 7 ((some .int)) N X 21 (.ref (600 + i.toNatClampNeg) :: rest) loc w) ∧ (∀ (d : Nat) (N : Option Value → Wd → Prop) (X : String → Wd → Prop), 10 ≤ d → ∀ (i j : Int32) (rest : List Value) (loc : List (Nat × Value)) (w : Wd), inb i 29 = true ∧ inb j (wdl i.toNatClampNeg).length = true → (rest.map fun v => v.category).sum ≤ 8 → RT (GM q) l d yX12_word cX12_word 7 ((some .int)) N X 56 (.int (wch i j) :: rest) loc w → RT (GM q) l d yX12_word cX12_word 7 ((some .int)) N X 53 (.int j :: .ref (600 + i.toNatClampNeg) :: rest) loc w)
/-! AlgolMillModel.thrown ()I: P, 0 -/
theorem dX12_thrown_0 : decode cX12_thrown 0 = .ok (.aload_n 0, 1) := by decide +kernel
theorem dX12_thrown_1 : decode cX12_thrown 1 = .ok (.getfield 378, 3) := by decide +kernel
theorem dX12_thrown_4 : decode cX12_thrown 4 = .ok (.ireturn, 1) := by decide +kernel
def fX12_thrown (w : Wd) : Int32 :=
  (gi w 0 0)
theorem pX12_thrown {q : Gq} {l : Launch} {N : Option Value → Wd → Prop} {X : String → Wd → Prop} {w : Wd} {R : Int32} (hN : N (some (.int R)) w) (h : fX12_thrown w = R) : RT (GM q) l 0 yX12_thrown cX12_thrown 1 ((some .int)) N X 0 [] [(0, .ref 0)] w := by
  unfold fX12_thrown at h
  refine r_aload_n (pc := 0) dX12_thrown_0 rfl 0 rfl ?_
  refine r_get (pc := 1) (j := 0) (v := .int (gi w 0 0)) oM0 cf12 flRX12_378 rfl dX12_thrown_1 rfl ?_
  exact rP_i (pc := 4) rfl dX12_thrown_4 h hN
theorem mX12_thrown {q : Gq} {l : Launch} {N : Option Value → Wd → Prop} {X : String → Wd → Prop} {w : Wd} {x : Int32} (h : fX12_thrown w = x) (hN : N (some (.int x)) w) : Ct (GM q) l 0 yX12_thrown cX12_thrown 1 ((some .int)) [.ref 0] w N X := Ct.of (by decide) (Nat.le_of_ble_eq_true rfl) (pX12_thrown hN h)
/-! AlgolMillModel.no (I)I: S, 0 -/
theorem dX12_no_0 : decode cX12_no 0 = .ok (.aload_n 0, 1) := by decide +kernel
theorem dX12_no_1 : decode cX12_no 1 = .ok (.iload_n 1, 1) := by decide +kernel
theorem dX12_no_2 : decode cX12_no 2 = .ok (.putfield 378, 3) := by decide +kernel
theorem dX12_no_5 : decode cX12_no 5 = .ok (.iconst 0, 1) := by decide +kernel
theorem dX12_no_6 : decode cX12_no 6 = .ok (.ireturn, 1) := by decide +kernel
def fX12_no (a1 : Int32) (w : Wd) : Int32 × Wd :=
  lt (si w 0 0 a1) fun w1 => (0, w1)
theorem pX12_no {q : Gq} {l : Launch} {N : Option Value → Wd → Prop} {X : String → Wd → Prop} {w : Wd} {R : Int32 × Wd} (hN : N (some (.int R.1)) R.2) {a1 : Int32} (h : fX12_no a1 w = R) : RT (GM q) l 0 yX12_no cX12_no 2 ((some .int)) N X 0 [] [(0, .ref 0), (1, .int a1)] w := by
  unfold fX12_no at h
  refine r_aload_n (pc := 0) dX12_no_0 rfl 0 rfl ?_
  refine r_iload_n (pc := 1) dX12_no_1 rfl 1 rfl ?_
  replace h := lt_e h; obtain ⟨w1, ew1, h⟩ := h
  refine r_putI (pc := 2) (j := 0) oM0 cf12 flRX12_378 rfl rfl rfl rfl dX12_no_2 ?_
  refine r_w ew1 ?_
  refine r_iconst (pc := 5) dX12_no_5 ki_0 ?_
  exact rS_i (pc := 6) rfl dX12_no_6 h hN
theorem mX12_no {q : Gq} {l : Launch} {N : Option Value → Wd → Prop} {X : String → Wd → Prop} {a1 : Int32} {w : Wd} {x : Int32} {u : Wd} (h : fX12_no a1 w = (x, u)) (hN : N (some (.int x)) u) : Ct (GM q) l 0 yX12_no cX12_no 2 ((some .int)) [.ref 0, .int a1] w N X := Ct.of (by decide) (Nat.le_of_ble_eq_true rfl) (pX12_no hN h)
/-! AlgolMillModel.four (I)V: O, 0 -/
theorem dX12_four_0 : decode cX12_four 0 = .ok (.bipush 24, 2) := by decide +kernel
theorem dX12_four_2 : decode cX12_four 2 = .ok (.istore_n 2, 1) := by decide +kernel
theorem dX12_four_3 : decode cX12_four 3 = .ok (.iload_n 2, 1) := by decide +kernel
theorem dX12_four_4 : decode cX12_four 4 = .ok (.ifCond .lt 32, 3) := by decide +kernel
theorem dX12_four_7 : decode cX12_four 7 = .ok (.aload_n 0, 1) := by decide +kernel
theorem dX12_four_8 : decode cX12_four 8 = .ok (.getfield 7, 3) := by decide +kernel
theorem dX12_four_11 : decode cX12_four 11 = .ok (.aload_n 0, 1) := by decide +kernel
theorem dX12_four_12 : decode cX12_four 12 = .ok (.getfield 381, 3) := by decide +kernel
theorem dX12_four_15 : decode cX12_four 15 = .ok (.iload_n 1, 1) := by decide +kernel
theorem dX12_four_16 : decode cX12_four 16 = .ok (.iload_n 2, 1) := by decide +kernel
theorem dX12_four_17 : decode cX12_four 17 = .ok (.ishr, 1) := by decide +kernel
theorem dX12_four_18 : decode cX12_four 18 = .ok (.i2b, 1) := by decide +kernel
theorem dX12_four_19 : decode cX12_four 19 = .ok (.bastore, 1) := by decide +kernel
theorem dX12_four_20 : decode cX12_four 20 = .ok (.aload_n 0, 1) := by decide +kernel
theorem dX12_four_21 : decode cX12_four 21 = .ok (.dup, 1) := by decide +kernel
theorem dX12_four_22 : decode cX12_four 22 = .ok (.getfield 381, 3) := by decide +kernel
theorem dX12_four_25 : decode cX12_four 25 = .ok (.iconst 1, 1) := by decide +kernel
theorem dX12_four_26 : decode cX12_four 26 = .ok (.iadd, 1) := by decide +kernel
theorem dX12_four_27 : decode cX12_four 27 = .ok (.putfield 381, 3) := by decide +kernel
theorem dX12_four_30 : decode cX12_four 30 = .ok (.iinc 2 (-8), 3) := by decide +kernel
theorem dX12_four_33 : decode cX12_four 33 = .ok (.goto (-30), 3) := by decide +kernel
theorem dX12_four_36 : decode cX12_four 36 = .ok (.return_, 1) := by decide +kernel
def fX12_four_3 (k_3 : Int32 → Int32 → Wd → Option Wd) (a1 : Int32) (a2 : Int32) (w : Wd) : Option Wd :=
  if a2 < 0 then (some w) else (if inb (gi w 0 2) 8192 = true then lt (si w 1 (Int32.toNatClampNeg (gi w 0 2)) (vp_nar .byte ((Int32.toInt8 (a1 >>> (a2 &&& 31))).toInt32))) fun w3 => lt (si w3 0 2 ((gi w3 0 2) + 1)) fun w4 => lt (a2 + (-8)) fun x5 => k_3 a1 x5 w4 else none)
theorem pX12_four_3 {q : Gq} {l : Launch} {N : Option Value → Wd → Prop} {X : String → Wd → Prop} {w : Wd} {R : Wd} (hN : N none R) {k_3 : Int32 → Int32 → Wd → Option Wd} (hk_3 : ∀ (a1 : Int32) (a2 : Int32) (w : Wd), k_3 a1 a2 w = some R → RT (GM q) l 0 yX12_four cX12_four 3 (none) N X 3 [] [(0, .ref 0), (1, .int a1), (2, .int a2)] w) {a1 : Int32} {a2 : Int32} (h : fX12_four_3 k_3 a1 a2 w = some R) : RT (GM q) l 0 yX12_four cX12_four 3 (none) N X 3 [] [(0, .ref 0), (1, .int a1), (2, .int a2)] w := by
  unfold fX12_four_3 at h
  refine r_iload_n (pc := 3) dX12_four_3 rfl 2 rfl ?_
  refine r_if_lt (pc := 4) dX12_four_4 rfl (fun hc1 => ?_) (fun hc1 => ?_)
  · replace h := if_t hc1 h
    exact rO_v (pc := 36) rfl dX12_four_36 h hN
  replace h := if_f hc1 h
  refine r_aload_n (pc := 7) dX12_four_7 rfl 0 rfl ?_
  refine r_get (pc := 8) (j := 1) (v := .ref 1) oM0 cf12 flRX12_7 rfl dX12_four_8 rfl ?_
  refine r_aload_n (pc := 11) dX12_four_11 rfl 0 rfl ?_
  refine r_get (pc := 12) (j := 2) (v := .int (gi w 0 2)) oM0 cf12 flRX12_381 rfl dX12_four_12 rfl ?_
  refine r_iload_n (pc := 15) dX12_four_15 rfl 1 rfl ?_
  refine r_iload_n (pc := 16) dX12_four_16 rfl 2 rfl ?_
  refine r_ishr (pc := 17) dX12_four_17 ?_
  refine r_i2b (pc := 18) dX12_four_18 ?_
  replace h := if_n h; obtain ⟨hb2, h⟩ := h
  replace h := lt_e h; obtain ⟨w3, ew3, h⟩ := h
  refine r_bast (pc := 19) aM1 (inb_in hb2) dX12_four_19 ?_
  refine r_w ew3 ?_
  refine r_aload_n (pc := 20) dX12_four_20 rfl 0 rfl ?_
  refine r_dup (pc := 21) dX12_four_21 rfl ?_
  refine r_get (pc := 22) (j := 2) (v := .int (gi w3 0 2)) oM0 cf12 flRX12_381 rfl dX12_four_22 rfl ?_
  refine r_iconst (pc := 25) dX12_four_25 ki_1 ?_
  refine r_iadd (pc := 26) dX12_four_26 ?_
  replace h := lt_e h; obtain ⟨w4, ew4, h⟩ := h
  refine r_putI (pc := 27) (j := 2) oM0 cf12 flRX12_381 rfl rfl rfl rfl dX12_four_27 ?_
  refine r_w ew4 ?_
  replace h := lt_e h; obtain ⟨x5, ex5, h⟩ := h
  refine r_inc (pc := 30) (loc' := [(2, .int x5), (0, .ref 0), (1, .int a1)]) dX12_four_30 ki_m8 ex5 2 rfl (Nat.le_of_ble_eq_true rfl) rfl ?_
  refine r_goto (pc := 33) dX12_four_33 rfl ?_
  refine r_drop (loc' := [(0, .ref 0), (1, .int a1), (2, .int x5)]) [1, 2, 0] rfl ?_
  exact hk_3 a1 x5 w4 h
def oX12_four_3 : Nat → Int32 → Int32 → Wd → Option Wd
  | 0 => fun _ _ _ => none
  | n + 1 => fX12_four_3 (oX12_four_3 n)
theorem qX12_four_3 {q : Gq} {l : Launch} {N : Option Value → Wd → Prop} {X : String → Wd → Prop} {R : Wd} (hN : N none R) : ∀ (n : Nat) (a1 : Int32) (a2 : Int32) (w : Wd), oX12_four_3 n a1 a2 w = some R → RT (GM q) l 0 yX12_four cX12_four 3 (none) N X 3 [] [(0, .ref 0), (1, .int a1), (2, .int a2)] w := by
  intro n
  induction n with
  | zero =>
    intro a1 a2 w h
    exact absurd h (fun q => nomatch q)
  | succ n ih =>
    intro a1 a2 w h
    exact pX12_four_3 hN ih h
def fX12_four (a1 : Int32) (w : Wd) : Option Wd :=
  oX12_four_3 FU a1 24 w
theorem pX12_four {q : Gq} {l : Launch} {N : Option Value → Wd → Prop} {X : String → Wd → Prop} {w : Wd} {R : Wd} (hN : N none R) {a1 : Int32} (h : fX12_four a1 w = some R) : RT (GM q) l 0 yX12_four cX12_four 3 (none) N X 0 [] [(0, .ref 0), (1, .int a1)] w := by
  unfold fX12_four at h
  refine r_bipush (pc := 0) dX12_four_0 kb_24 ?_
  refine r_istore_n (pc := 2) (loc' := [(2, .int 24), (0, .ref 0), (1, .int a1)]) dX12_four_2 rfl (Nat.le_of_ble_eq_true rfl) rfl ?_
  refine r_drop (loc' := [(0, .ref 0), (1, .int a1), (2, .int 24)]) [1, 2, 0] rfl ?_
  exact qX12_four_3 hN FU a1 24 w h
theorem mX12_four {q : Gq} {l : Launch} {N : Option Value → Wd → Prop} {X : String → Wd → Prop} {a1 : Int32} {w : Wd} {u : Wd} (h : fX12_four a1 w = some u) (hN : N none u) : Ct (GM q) l 0 yX12_four cX12_four 3 (none) [.ref 0, .int a1] w N X := Ct.of (by decide) (Nat.le_of_ble_eq_true rfl) (pX12_four hN h)
/-! AlgolMillModel.feed (IIIII)I: O, 1 -/
theorem dX12_feed_0 : decode cX12_feed 0 = .ok (.aload_n 0, 1) := by decide +kernel
theorem dX12_feed_1 : decode cX12_feed 1 = .ok (.getfield 381, 3) := by decide +kernel
theorem dX12_feed_4 : decode cX12_feed 4 = .ok (.bipush 20, 2) := by decide +kernel
theorem dX12_feed_6 : decode cX12_feed 6 = .ok (.iadd, 1) := by decide +kernel
theorem dX12_feed_7 : decode cX12_feed 7 = .ok (.sipush 8192, 3) := by decide +kernel
theorem dX12_feed_10 : decode cX12_feed 10 = .ok (.if_icmp .le 9, 3) := by decide +kernel
theorem dX12_feed_13 : decode cX12_feed 13 = .ok (.aload_n 0, 1) := by decide +kernel
theorem dX12_feed_14 : decode cX12_feed 14 = .ok (.iconst 1, 1) := by decide +kernel
theorem dX12_feed_15 : decode cX12_feed 15 = .ok (.invokevirtual 384, 3) := by decide +kernel
theorem dX12_feed_18 : decode cX12_feed 18 = .ok (.ireturn, 1) := by decide +kernel
theorem dX12_feed_19 : decode cX12_feed 19 = .ok (.aload_n 0, 1) := by decide +kernel
theorem dX12_feed_20 : decode cX12_feed 20 = .ok (.iconst 0, 1) := by decide +kernel
theorem dX12_feed_21 : decode cX12_feed 21 = .ok (.putfield 378, 3) := by decide +kernel
theorem dX12_feed_24 : decode cX12_feed 24 = .ok (.aload_n 0, 1) := by decide +kernel
theorem dX12_feed_25 : decode cX12_feed 25 = .ok (.iload_n 1, 1) := by decide +kernel
theorem dX12_feed_26 : decode cX12_feed 26 = .ok (.invokevirtual 388, 3) := by decide +kernel
theorem dX12_feed_29 : decode cX12_feed 29 = .ok (.aload_n 0, 1) := by decide +kernel
theorem dX12_feed_30 : decode cX12_feed 30 = .ok (.iload_n 2, 1) := by decide +kernel
theorem dX12_feed_31 : decode cX12_feed 31 = .ok (.invokevirtual 388, 3) := by decide +kernel
theorem dX12_feed_34 : decode cX12_feed 34 = .ok (.aload_n 0, 1) := by decide +kernel
theorem dX12_feed_35 : decode cX12_feed 35 = .ok (.iload_n 3, 1) := by decide +kernel
theorem dX12_feed_36 : decode cX12_feed 36 = .ok (.invokevirtual 388, 3) := by decide +kernel
theorem dX12_feed_39 : decode cX12_feed 39 = .ok (.aload_n 0, 1) := by decide +kernel
theorem dX12_feed_40 : decode cX12_feed 40 = .ok (.iload 4, 2) := by decide +kernel
theorem dX12_feed_42 : decode cX12_feed 42 = .ok (.invokevirtual 388, 3) := by decide +kernel
theorem dX12_feed_45 : decode cX12_feed 45 = .ok (.aload_n 0, 1) := by decide +kernel
theorem dX12_feed_46 : decode cX12_feed 46 = .ok (.iload 5, 2) := by decide +kernel
theorem dX12_feed_48 : decode cX12_feed 48 = .ok (.invokevirtual 388, 3) := by decide +kernel
theorem dX12_feed_51 : decode cX12_feed 51 = .ok (.aload_n 0, 1) := by decide +kernel
theorem dX12_feed_52 : decode cX12_feed 52 = .ok (.getfield 381, 3) := by decide +kernel
theorem dX12_feed_55 : decode cX12_feed 55 = .ok (.ireturn, 1) := by decide +kernel
def fX12_feed (a1 : Int32) (a2 : Int32) (a3 : Int32) (a4 : Int32) (a5 : Int32) (w : Wd) : Option (Int32 × Wd) :=
  if ((gi w 0 2) + 20) ≤ 8192 then (lt (si w 0 0 0) fun w2 => bn (fX12_four a1 w2) fun w3 => bn (fX12_four a2 w3) fun w4 => bn (fX12_four a3 w4) fun w5 => bn (fX12_four a4 w5) fun w6 => bn (fX12_four a5 w6) fun w7 => some ((gi w7 0 2), w7)) else (lt2 (fX12_no 1 w) fun x8 w9 => some (x8, w9))
theorem pX12_feed {q : Gq} {l : Launch} {N : Option Value → Wd → Prop} {X : String → Wd → Prop} {w : Wd} {R : Int32 × Wd} (hN : N (some (.int R.1)) R.2) {a1 : Int32} {a2 : Int32} {a3 : Int32} {a4 : Int32} {a5 : Int32} (h : fX12_feed a1 a2 a3 a4 a5 w = some R) : RT (GM q) l 1 yX12_feed cX12_feed 6 ((some .int)) N X 0 [] [(0, .ref 0), (1, .int a1), (2, .int a2), (3, .int a3), (4, .int a4), (5, .int a5)] w := by
  unfold fX12_feed at h
  refine r_aload_n (pc := 0) dX12_feed_0 rfl 0 rfl ?_
  refine r_get (pc := 1) (j := 2) (v := .int (gi w 0 2)) oM0 cf12 flRX12_381 rfl dX12_feed_1 rfl ?_
  refine r_bipush (pc := 4) dX12_feed_4 kb_20 ?_
  refine r_iadd (pc := 6) dX12_feed_6 ?_
  refine r_sipush (pc := 7) dX12_feed_7 ks_8192 ?_
  refine r_icmp_le (pc := 10) dX12_feed_10 rfl (fun hc1 => ?_) (fun hc1 => ?_)
  · replace h := if_t hc1 h
    refine r_aload_n (pc := 19) dX12_feed_19 rfl 0 rfl ?_
    refine r_iconst (pc := 20) dX12_feed_20 ki_0 ?_
    replace h := lt_e h; obtain ⟨w2, ew2, h⟩ := h
    refine r_putI (pc := 21) (j := 0) oM0 cf12 flRX12_378 rfl rfl rfl rfl dX12_feed_21 ?_
    refine r_w ew2 ?_
    refine r_aload_n (pc := 24) dX12_feed_24 rfl 0 rfl ?_
    refine r_iload_n (pc := 25) dX12_feed_25 rfl 1 rfl ?_
    replace h := bn_e h; obtain ⟨w3, ew3, h⟩ := h
    refine r_cVv (pc := 26) wyX12_four oM0 rfl mlRX12_388 iyX12_four syX12_four ⟨(Nat.le_of_ble_eq_true rfl), (Nat.le_of_ble_eq_true rfl)⟩ rfl rfl (Nat.le_of_ble_eq_true rfl) dX12_feed_26 (mX12_four ew3 (pV.mk ?_))
    refine r_aload_n (pc := 29) dX12_feed_29 rfl 0 rfl ?_
    refine r_iload_n (pc := 30) dX12_feed_30 rfl 2 rfl ?_
    replace h := bn_e h; obtain ⟨w4, ew4, h⟩ := h
    refine r_cVv (pc := 31) wyX12_four oM0 rfl mlRX12_388 iyX12_four syX12_four ⟨(Nat.le_of_ble_eq_true rfl), (Nat.le_of_ble_eq_true rfl)⟩ rfl rfl (Nat.le_of_ble_eq_true rfl) dX12_feed_31 (mX12_four ew4 (pV.mk ?_))
    refine r_aload_n (pc := 34) dX12_feed_34 rfl 0 rfl ?_
    refine r_iload_n (pc := 35) dX12_feed_35 rfl 3 rfl ?_
    replace h := bn_e h; obtain ⟨w5, ew5, h⟩ := h
    refine r_cVv (pc := 36) wyX12_four oM0 rfl mlRX12_388 iyX12_four syX12_four ⟨(Nat.le_of_ble_eq_true rfl), (Nat.le_of_ble_eq_true rfl)⟩ rfl rfl (Nat.le_of_ble_eq_true rfl) dX12_feed_36 (mX12_four ew5 (pV.mk ?_))
    refine r_aload_n (pc := 39) dX12_feed_39 rfl 0 rfl ?_
    refine r_iload (pc := 40) dX12_feed_40 4 rfl ?_
    replace h := bn_e h; obtain ⟨w6, ew6, h⟩ := h
    refine r_cVv (pc := 42) wyX12_four oM0 rfl mlRX12_388 iyX12_four syX12_four ⟨(Nat.le_of_ble_eq_true rfl), (Nat.le_of_ble_eq_true rfl)⟩ rfl rfl (Nat.le_of_ble_eq_true rfl) dX12_feed_42 (mX12_four ew6 (pV.mk ?_))
    refine r_aload_n (pc := 45) dX12_feed_45 rfl 0 rfl ?_
    refine r_iload (pc := 46) dX12_feed_46 5 rfl ?_
    replace h := bn_e h; obtain ⟨w7, ew7, h⟩ := h
    refine r_cVv (pc := 48) wyX12_four oM0 rfl mlRX12_388 iyX12_four syX12_four ⟨(Nat.le_of_ble_eq_true rfl), (Nat.le_of_ble_eq_true rfl)⟩ rfl rfl (Nat.le_of_ble_eq_true rfl) dX12_feed_48 (mX12_four ew7 (pV.mk ?_))
    refine r_aload_n (pc := 51) dX12_feed_51 rfl 0 rfl ?_
    refine r_get (pc := 52) (j := 2) (v := .int (gi w7 0 2)) oM0 cf12 flRX12_381 rfl dX12_feed_52 rfl ?_
    exact rO_i (pc := 55) rfl dX12_feed_55 h hN
  replace h := if_f hc1 h
  refine r_aload_n (pc := 13) dX12_feed_13 rfl 0 rfl ?_
  refine r_iconst (pc := 14) dX12_feed_14 ki_1 ?_
  replace h := lt2_e h; obtain ⟨x8, w9, ew9, h⟩ := h
  refine r_cVi (pc := 15) wyX12_no oM0 rfl mlRX12_384 iyX12_no syX12_no ⟨(Nat.le_of_ble_eq_true rfl), (Nat.le_of_ble_eq_true rfl)⟩ rfl rfl (Nat.le_of_ble_eq_true rfl) dX12_feed_15 (mX12_no ew9 (pI.mk ?_))
  exact rO_i (pc := 18) rfl dX12_feed_18 h hN
theorem mX12_feed {q : Gq} {l : Launch} {N : Option Value → Wd → Prop} {X : String → Wd → Prop} {a1 : Int32} {a2 : Int32} {a3 : Int32} {a4 : Int32} {a5 : Int32} {w : Wd} {x : Int32} {u : Wd} (h : fX12_feed a1 a2 a3 a4 a5 w = some (x, u)) (hN : N (some (.int x)) u) : Ct (GM q) l 1 yX12_feed cX12_feed 6 ((some .int)) [.ref 0, .int a1, .int a2, .int a3, .int a4, .int a5] w N X := Ct.of (by decide) (Nat.le_of_ble_eq_true rfl) (pX12_feed hN h)
/-! AlgolMillModel.end (I)I: S, 1 -/
theorem dX12_end_0 : decode cX12_end 0 = .ok (.iload_n 1, 1) := by decide +kernel
theorem dX12_end_1 : decode cX12_end 1 = .ok (.ifCond .lt 11, 3) := by decide +kernel
theorem dX12_end_4 : decode cX12_end 4 = .ok (.iload_n 1, 1) := by decide +kernel
theorem dX12_end_5 : decode cX12_end 5 = .ok (.aload_n 0, 1) := by decide +kernel
theorem dX12_end_6 : decode cX12_end 6 = .ok (.getfield 381, 3) := by decide +kernel
theorem dX12_end_9 : decode cX12_end 9 = .ok (.if_icmp .le 9, 3) := by decide +kernel
theorem dX12_end_12 : decode cX12_end 12 = .ok (.aload_n 0, 1) := by decide +kernel
theorem dX12_end_13 : decode cX12_end 13 = .ok (.iconst 1, 1) := by decide +kernel
theorem dX12_end_14 : decode cX12_end 14 = .ok (.invokevirtual 384, 3) := by decide +kernel
theorem dX12_end_17 : decode cX12_end 17 = .ok (.ireturn, 1) := by decide +kernel
theorem dX12_end_18 : decode cX12_end 18 = .ok (.aload_n 0, 1) := by decide +kernel
theorem dX12_end_19 : decode cX12_end 19 = .ok (.iconst 0, 1) := by decide +kernel
theorem dX12_end_20 : decode cX12_end 20 = .ok (.putfield 378, 3) := by decide +kernel
theorem dX12_end_23 : decode cX12_end 23 = .ok (.aload_n 0, 1) := by decide +kernel
theorem dX12_end_24 : decode cX12_end 24 = .ok (.dup, 1) := by decide +kernel
theorem dX12_end_25 : decode cX12_end 25 = .ok (.getfield 381, 3) := by decide +kernel
theorem dX12_end_28 : decode cX12_end 28 = .ok (.iload_n 1, 1) := by decide +kernel
theorem dX12_end_29 : decode cX12_end 29 = .ok (.isub, 1) := by decide +kernel
theorem dX12_end_30 : decode cX12_end 30 = .ok (.putfield 381, 3) := by decide +kernel
theorem dX12_end_33 : decode cX12_end 33 = .ok (.aload_n 0, 1) := by decide +kernel
theorem dX12_end_34 : decode cX12_end 34 = .ok (.getfield 381, 3) := by decide +kernel
theorem dX12_end_37 : decode cX12_end 37 = .ok (.ireturn, 1) := by decide +kernel
def fX12_end (a1 : Int32) (w : Wd) : Int32 × Wd :=
  if a1 < 0 then (lt2 (fX12_no 1 w) fun x2 w3 => (x2, w3)) else (if a1 ≤ (gi w 0 2) then (lt (si w 0 0 0) fun w5 => lt (si w5 0 2 ((gi w5 0 2) - a1)) fun w6 => ((gi w6 0 2), w6)) else (lt2 (fX12_no 1 w) fun x7 w8 => (x7, w8)))
theorem pX12_end {q : Gq} {l : Launch} {N : Option Value → Wd → Prop} {X : String → Wd → Prop} {w : Wd} {R : Int32 × Wd} (hN : N (some (.int R.1)) R.2) {a1 : Int32} (h : fX12_end a1 w = R) : RT (GM q) l 1 yX12_end cX12_end 2 ((some .int)) N X 0 [] [(0, .ref 0), (1, .int a1)] w := by
  unfold fX12_end at h
  refine r_iload_n (pc := 0) dX12_end_0 rfl 1 rfl ?_
  refine r_if_lt (pc := 1) dX12_end_1 rfl (fun hc1 => ?_) (fun hc1 => ?_)
  · replace h := if_t hc1 h
    refine r_aload_n (pc := 12) dX12_end_12 rfl 0 rfl ?_
    refine r_iconst (pc := 13) dX12_end_13 ki_1 ?_
    replace h := lt2_e h; obtain ⟨x2, w3, ew3, h⟩ := h
    refine r_cVi (pc := 14) wyX12_no oM0 rfl mlRX12_384 iyX12_no syX12_no ⟨(Nat.le_of_ble_eq_true rfl), (Nat.le_of_ble_eq_true rfl)⟩ rfl rfl (Nat.le_of_ble_eq_true rfl) dX12_end_14 (mX12_no ew3 (pI.mk ?_))
    exact rS_i (pc := 17) rfl dX12_end_17 h hN
  replace h := if_f hc1 h
  refine r_iload_n (pc := 4) dX12_end_4 rfl 1 rfl ?_
  refine r_aload_n (pc := 5) dX12_end_5 rfl 0 rfl ?_
  refine r_get (pc := 6) (j := 2) (v := .int (gi w 0 2)) oM0 cf12 flRX12_381 rfl dX12_end_6 rfl ?_
  refine r_icmp_le (pc := 9) dX12_end_9 rfl (fun hc4 => ?_) (fun hc4 => ?_)
  · replace h := if_t hc4 h
    refine r_aload_n (pc := 18) dX12_end_18 rfl 0 rfl ?_
    refine r_iconst (pc := 19) dX12_end_19 ki_0 ?_
    replace h := lt_e h; obtain ⟨w5, ew5, h⟩ := h
    refine r_putI (pc := 20) (j := 0) oM0 cf12 flRX12_378 rfl rfl rfl rfl dX12_end_20 ?_
    refine r_w ew5 ?_
    refine r_aload_n (pc := 23) dX12_end_23 rfl 0 rfl ?_
    refine r_dup (pc := 24) dX12_end_24 rfl ?_
    refine r_get (pc := 25) (j := 2) (v := .int (gi w5 0 2)) oM0 cf12 flRX12_381 rfl dX12_end_25 rfl ?_
    refine r_iload_n (pc := 28) dX12_end_28 rfl 1 rfl ?_
    refine r_isub (pc := 29) dX12_end_29 ?_
    replace h := lt_e h; obtain ⟨w6, ew6, h⟩ := h
    refine r_putI (pc := 30) (j := 2) oM0 cf12 flRX12_381 rfl rfl rfl rfl dX12_end_30 ?_
    refine r_w ew6 ?_
    refine r_aload_n (pc := 33) dX12_end_33 rfl 0 rfl ?_
    refine r_get (pc := 34) (j := 2) (v := .int (gi w6 0 2)) oM0 cf12 flRX12_381 rfl dX12_end_34 rfl ?_
    exact rS_i (pc := 37) rfl dX12_end_37 h hN
  replace h := if_f hc4 h
  refine r_aload_n (pc := 12) dX12_end_12 rfl 0 rfl ?_
  refine r_iconst (pc := 13) dX12_end_13 ki_1 ?_
  replace h := lt2_e h; obtain ⟨x7, w8, ew8, h⟩ := h
  refine r_cVi (pc := 14) wyX12_no oM0 rfl mlRX12_384 iyX12_no syX12_no ⟨(Nat.le_of_ble_eq_true rfl), (Nat.le_of_ble_eq_true rfl)⟩ rfl rfl (Nat.le_of_ble_eq_true rfl) dX12_end_14 (mX12_no ew8 (pI.mk ?_))
  exact rS_i (pc := 17) rfl dX12_end_17 h hN
theorem mX12_end {q : Gq} {l : Launch} {N : Option Value → Wd → Prop} {X : String → Wd → Prop} {a1 : Int32} {w : Wd} {x : Int32} {u : Wd} (h : fX12_end a1 w = (x, u)) (hN : N (some (.int x)) u) : Ct (GM q) l 1 yX12_end cX12_end 2 ((some .int)) [.ref 0, .int a1] w N X := Ct.of (by decide) (Nat.le_of_ble_eq_true rfl) (pX12_end hN h)
/-! AlgolMillModel.look (I)I: O, 0 -/
theorem dX12_look_0 : decode cX12_look 0 = .ok (.iload_n 1, 1) := by decide +kernel
theorem dX12_look_1 : decode cX12_look 1 = .ok (.aload_n 0, 1) := by decide +kernel
theorem dX12_look_2 : decode cX12_look 2 = .ok (.getfield 381, 3) := by decide +kernel
theorem dX12_look_5 : decode cX12_look 5 = .ok (.if_icmp .ge 16, 3) := by decide +kernel
theorem dX12_look_8 : decode cX12_look 8 = .ok (.aload_n 0, 1) := by decide +kernel
theorem dX12_look_9 : decode cX12_look 9 = .ok (.getfield 7, 3) := by decide +kernel
theorem dX12_look_12 : decode cX12_look 12 = .ok (.iload_n 1, 1) := by decide +kernel
theorem dX12_look_13 : decode cX12_look 13 = .ok (.baload, 1) := by decide +kernel
theorem dX12_look_14 : decode cX12_look 14 = .ok (.sipush 255, 3) := by decide +kernel
theorem dX12_look_17 : decode cX12_look 17 = .ok (.iand, 1) := by decide +kernel
theorem dX12_look_18 : decode cX12_look 18 = .ok (.goto 4, 3) := by decide +kernel
theorem dX12_look_21 : decode cX12_look 21 = .ok (.iconst (-1), 1) := by decide +kernel
theorem dX12_look_22 : decode cX12_look 22 = .ok (.ireturn, 1) := by decide +kernel
def fX12_look (a1 : Int32) (w : Wd) : Option (Int32 × Wd) :=
  if (gi w 0 2) ≤ a1 then (some ((-1), w)) else (if inb a1 8192 = true then some (((gi w 1 (Int32.toNatClampNeg a1)) &&& 255), w) else none)
theorem pX12_look {q : Gq} {l : Launch} {N : Option Value → Wd → Prop} {X : String → Wd → Prop} {w : Wd} {R : Int32 × Wd} (hN : N (some (.int R.1)) R.2) {a1 : Int32} (h : fX12_look a1 w = some R) : RT (GM q) l 0 yX12_look cX12_look 2 ((some .int)) N X 0 [] [(0, .ref 0), (1, .int a1)] w := by
  unfold fX12_look at h
  refine r_iload_n (pc := 0) dX12_look_0 rfl 1 rfl ?_
  refine r_aload_n (pc := 1) dX12_look_1 rfl 0 rfl ?_
  refine r_get (pc := 2) (j := 2) (v := .int (gi w 0 2)) oM0 cf12 flRX12_381 rfl dX12_look_2 rfl ?_
  refine r_icmp_ge (pc := 5) dX12_look_5 rfl (fun hc1 => ?_) (fun hc1 => ?_)
  · replace h := if_t hc1 h
    refine r_iconst (pc := 21) dX12_look_21 ki_m1 ?_
    exact rO_i (pc := 22) rfl dX12_look_22 h hN
  replace h := if_f hc1 h
  refine r_aload_n (pc := 8) dX12_look_8 rfl 0 rfl ?_
  refine r_get (pc := 9) (j := 1) (v := .ref 1) oM0 cf12 flRX12_7 rfl dX12_look_9 rfl ?_
  refine r_iload_n (pc := 12) dX12_look_12 rfl 1 rfl ?_
  replace h := if_n h; obtain ⟨hb2, h⟩ := h
  refine r_bald (pc := 13) aM1 (inb_in hb2) dX12_look_13 ?_
  refine r_sipush (pc := 14) dX12_look_14 ks_255 ?_
  refine r_iand (pc := 17) dX12_look_17 ?_
  refine r_goto (pc := 18) dX12_look_18 rfl ?_
  exact rO_i (pc := 22) rfl dX12_look_22 h hN
theorem mX12_look {q : Gq} {l : Launch} {N : Option Value → Wd → Prop} {X : String → Wd → Prop} {a1 : Int32} {w : Wd} {x : Int32} {u : Wd} (h : fX12_look a1 w = some (x, u)) (hN : N (some (.int x)) u) : Ct (GM q) l 0 yX12_look cX12_look 2 ((some .int)) [.ref 0, .int a1] w N X := Ct.of (by decide) (Nat.le_of_ble_eq_true rfl) (pX12_look hN h)
/-! AlgolMillModel.letter (I)Z: P, 0 -/
theorem dX12_letter_0 : decode cX12_letter 0 = .ok (.iload_n 0, 1) := by decide +kernel
theorem dX12_letter_1 : decode cX12_letter 1 = .ok (.bipush 97, 2) := by decide +kernel
theorem dX12_letter_3 : decode cX12_letter 3 = .ok (.if_icmp .lt 13, 3) := by decide +kernel
theorem dX12_letter_6 : decode cX12_letter 6 = .ok (.iload_n 0, 1) := by decide +kernel
theorem dX12_letter_7 : decode cX12_letter 7 = .ok (.bipush 122, 2) := by decide +kernel
theorem dX12_letter_9 : decode cX12_letter 9 = .ok (.if_icmp .gt 7, 3) := by decide +kernel
theorem dX12_letter_12 : decode cX12_letter 12 = .ok (.iconst 1, 1) := by decide +kernel
theorem dX12_letter_13 : decode cX12_letter 13 = .ok (.goto 4, 3) := by decide +kernel
theorem dX12_letter_16 : decode cX12_letter 16 = .ok (.iconst 0, 1) := by decide +kernel
theorem dX12_letter_17 : decode cX12_letter 17 = .ok (.ireturn, 1) := by decide +kernel
def fX12_letter (a0 : Int32) (w : Wd) : Bool :=
  if a0 < 97 then (false) else (if 122 < a0 then (false) else (true))
theorem pX12_letter {q : Gq} {l : Launch} {N : Option Value → Wd → Prop} {X : String → Wd → Prop} {w : Wd} {R : Bool} (hN : N (some (.int (b2i R))) w) {a0 : Int32} (h : fX12_letter a0 w = R) : RT (GM q) l 0 yX12_letter cX12_letter 1 ((some .boolean)) N X 0 [] [(0, .int a0)] w := by
  unfold fX12_letter at h
  refine r_iload_n (pc := 0) dX12_letter_0 rfl 0 rfl ?_
  refine r_bipush (pc := 1) dX12_letter_1 kb_97 ?_
  refine r_icmp_lt (pc := 3) dX12_letter_3 rfl (fun hc1 => ?_) (fun hc1 => ?_)
  · replace h := if_t hc1 h
    refine r_iconst (pc := 16) dX12_letter_16 ki_0 ?_
    exact rP_z (pc := 17) (x := false) rfl dX12_letter_17 h hN
  replace h := if_f hc1 h
  refine r_iload_n (pc := 6) dX12_letter_6 rfl 0 rfl ?_
  refine r_bipush (pc := 7) dX12_letter_7 kb_122 ?_
  refine r_icmp_gt (pc := 9) dX12_letter_9 rfl (fun hc2 => ?_) (fun hc2 => ?_)
  · replace h := if_t hc2 h
    refine r_iconst (pc := 16) dX12_letter_16 ki_0 ?_
    exact rP_z (pc := 17) (x := false) rfl dX12_letter_17 h hN
  replace h := if_f hc2 h
  refine r_iconst (pc := 12) dX12_letter_12 ki_1 ?_
  refine r_goto (pc := 13) dX12_letter_13 rfl ?_
  exact rP_z (pc := 17) (x := true) rfl dX12_letter_17 h hN
theorem mX12_letter {q : Gq} {l : Launch} {N : Option Value → Wd → Prop} {X : String → Wd → Prop} {a0 : Int32} {w : Wd} {x : Bool} (h : fX12_letter a0 w = x) (hN : N (some (.int (b2i x))) w) : Ct (GM q) l 0 yX12_letter cX12_letter 1 ((some .boolean)) [.int a0] w N X := Ct.of (by decide) (Nat.le_of_ble_eq_true rfl) (pX12_letter hN h)
/-! AlgolMillModel.digit (I)Z: P, 0 -/
theorem dX12_digit_0 : decode cX12_digit 0 = .ok (.iload_n 0, 1) := by decide +kernel
theorem dX12_digit_1 : decode cX12_digit 1 = .ok (.bipush 48, 2) := by decide +kernel
theorem dX12_digit_3 : decode cX12_digit 3 = .ok (.if_icmp .lt 13, 3) := by decide +kernel
theorem dX12_digit_6 : decode cX12_digit 6 = .ok (.iload_n 0, 1) := by decide +kernel
theorem dX12_digit_7 : decode cX12_digit 7 = .ok (.bipush 57, 2) := by decide +kernel
theorem dX12_digit_9 : decode cX12_digit 9 = .ok (.if_icmp .gt 7, 3) := by decide +kernel
theorem dX12_digit_12 : decode cX12_digit 12 = .ok (.iconst 1, 1) := by decide +kernel
theorem dX12_digit_13 : decode cX12_digit 13 = .ok (.goto 4, 3) := by decide +kernel
theorem dX12_digit_16 : decode cX12_digit 16 = .ok (.iconst 0, 1) := by decide +kernel
theorem dX12_digit_17 : decode cX12_digit 17 = .ok (.ireturn, 1) := by decide +kernel
def fX12_digit (a0 : Int32) (w : Wd) : Bool :=
  if a0 < 48 then (false) else (if 57 < a0 then (false) else (true))
theorem pX12_digit {q : Gq} {l : Launch} {N : Option Value → Wd → Prop} {X : String → Wd → Prop} {w : Wd} {R : Bool} (hN : N (some (.int (b2i R))) w) {a0 : Int32} (h : fX12_digit a0 w = R) : RT (GM q) l 0 yX12_digit cX12_digit 1 ((some .boolean)) N X 0 [] [(0, .int a0)] w := by
  unfold fX12_digit at h
  refine r_iload_n (pc := 0) dX12_digit_0 rfl 0 rfl ?_
  refine r_bipush (pc := 1) dX12_digit_1 kb_48 ?_
  refine r_icmp_lt (pc := 3) dX12_digit_3 rfl (fun hc1 => ?_) (fun hc1 => ?_)
  · replace h := if_t hc1 h
    refine r_iconst (pc := 16) dX12_digit_16 ki_0 ?_
    exact rP_z (pc := 17) (x := false) rfl dX12_digit_17 h hN
  replace h := if_f hc1 h
  refine r_iload_n (pc := 6) dX12_digit_6 rfl 0 rfl ?_
  refine r_bipush (pc := 7) dX12_digit_7 kb_57 ?_
  refine r_icmp_gt (pc := 9) dX12_digit_9 rfl (fun hc2 => ?_) (fun hc2 => ?_)
  · replace h := if_t hc2 h
    refine r_iconst (pc := 16) dX12_digit_16 ki_0 ?_
    exact rP_z (pc := 17) (x := false) rfl dX12_digit_17 h hN
  replace h := if_f hc2 h
  refine r_iconst (pc := 12) dX12_digit_12 ki_1 ?_
  refine r_goto (pc := 13) dX12_digit_13 rfl ?_
  exact rP_z (pc := 17) (x := true) rfl dX12_digit_17 h hN
theorem mX12_digit {q : Gq} {l : Launch} {N : Option Value → Wd → Prop} {X : String → Wd → Prop} {a0 : Int32} {w : Wd} {x : Bool} (h : fX12_digit a0 w = x) (hN : N (some (.int (b2i x))) w) : Ct (GM q) l 0 yX12_digit cX12_digit 1 ((some .boolean)) [.int a0] w N X := Ct.of (by decide) (Nat.le_of_ble_eq_true rfl) (pX12_digit hN h)
/-! AlgolMillModel.token (IIJ)V: O, 0 -/
theorem dX12_token_0 : decode cX12_token 0 = .ok (.aload_n 0, 1) := by decide +kernel
theorem dX12_token_1 : decode cX12_token 1 = .ok (.getfield 13, 3) := by decide +kernel
theorem dX12_token_4 : decode cX12_token 4 = .ok (.aload_n 0, 1) := by decide +kernel
theorem dX12_token_5 : decode cX12_token 5 = .ok (.getfield 392, 3) := by decide +kernel
theorem dX12_token_8 : decode cX12_token 8 = .ok (.iload_n 1, 1) := by decide +kernel
theorem dX12_token_9 : decode cX12_token 9 = .ok (.iastore, 1) := by decide +kernel
theorem dX12_token_10 : decode cX12_token 10 = .ok (.aload_n 0, 1) := by decide +kernel
theorem dX12_token_11 : decode cX12_token 11 = .ok (.getfield 17, 3) := by decide +kernel
theorem dX12_token_14 : decode cX12_token 14 = .ok (.aload_n 0, 1) := by decide +kernel
theorem dX12_token_15 : decode cX12_token 15 = .ok (.getfield 392, 3) := by decide +kernel
theorem dX12_token_18 : decode cX12_token 18 = .ok (.iload_n 2, 1) := by decide +kernel
theorem dX12_token_19 : decode cX12_token 19 = .ok (.iastore, 1) := by decide +kernel
theorem dX12_token_20 : decode cX12_token 20 = .ok (.aload_n 0, 1) := by decide +kernel
theorem dX12_token_21 : decode cX12_token 21 = .ok (.getfield 20, 3) := by decide +kernel
theorem dX12_token_24 : decode cX12_token 24 = .ok (.aload_n 0, 1) := by decide +kernel
theorem dX12_token_25 : decode cX12_token 25 = .ok (.getfield 392, 3) := by decide +kernel
theorem dX12_token_28 : decode cX12_token 28 = .ok (.lload_n 3, 1) := by decide +kernel
theorem dX12_token_29 : decode cX12_token 29 = .ok (.lastore, 1) := by decide +kernel
theorem dX12_token_30 : decode cX12_token 30 = .ok (.aload_n 0, 1) := by decide +kernel
theorem dX12_token_31 : decode cX12_token 31 = .ok (.dup, 1) := by decide +kernel
theorem dX12_token_32 : decode cX12_token 32 = .ok (.getfield 392, 3) := by decide +kernel
theorem dX12_token_35 : decode cX12_token 35 = .ok (.iconst 1, 1) := by decide +kernel
theorem dX12_token_36 : decode cX12_token 36 = .ok (.iadd, 1) := by decide +kernel
theorem dX12_token_37 : decode cX12_token 37 = .ok (.putfield 392, 3) := by decide +kernel
theorem dX12_token_40 : decode cX12_token 40 = .ok (.return_, 1) := by decide +kernel
def fX12_token (a1 : Int32) (a2 : Int32) (a3 : Int64) (w : Wd) : Option Wd :=
  if inb (gi w 0 6) 8194 = true then lt (si w 2 (Int32.toNatClampNeg (gi w 0 6)) a1) fun w2 => if inb (gi w2 0 6) 8194 = true then lt (si w2 3 (Int32.toNatClampNeg (gi w2 0 6)) a2) fun w4 => if inb (gi w4 0 6) 8194 = true then lt (sl w4 4 (Int32.toNatClampNeg (gi w4 0 6)) a3) fun w6 => lt (si w6 0 6 ((gi w6 0 6) + 1)) fun w7 => some w7 else none else none else none
theorem pX12_token {q : Gq} {l : Launch} {N : Option Value → Wd → Prop} {X : String → Wd → Prop} {w : Wd} {R : Wd} (hN : N none R) {a1 : Int32} {a2 : Int32} {a3 : Int64} (h : fX12_token a1 a2 a3 w = some R) : RT (GM q) l 0 yX12_token cX12_token 5 (none) N X 0 [] [(0, .ref 0), (1, .int a1), (2, .int a2), (3, .long a3)] w := by
  unfold fX12_token at h
  refine r_aload_n (pc := 0) dX12_token_0 rfl 0 rfl ?_
  refine r_get (pc := 1) (j := 3) (v := .ref 2) oM0 cf12 flRX12_13 rfl dX12_token_1 rfl ?_
  refine r_aload_n (pc := 4) dX12_token_4 rfl 0 rfl ?_
  refine r_get (pc := 5) (j := 6) (v := .int (gi w 0 6)) oM0 cf12 flRX12_392 rfl dX12_token_5 rfl ?_
  refine r_iload_n (pc := 8) dX12_token_8 rfl 1 rfl ?_
  replace h := if_n h; obtain ⟨hb1, h⟩ := h
  replace h := lt_e h; obtain ⟨w2, ew2, h⟩ := h
  refine r_iast (pc := 9) aM2 (inb_in hb1) dX12_token_9 ?_
  refine r_w ew2 ?_
  refine r_aload_n (pc := 10) dX12_token_10 rfl 0 rfl ?_
  refine r_get (pc := 11) (j := 4) (v := .ref 3) oM0 cf12 flRX12_17 rfl dX12_token_11 rfl ?_
  refine r_aload_n (pc := 14) dX12_token_14 rfl 0 rfl ?_
  refine r_get (pc := 15) (j := 6) (v := .int (gi w2 0 6)) oM0 cf12 flRX12_392 rfl dX12_token_15 rfl ?_
  refine r_iload_n (pc := 18) dX12_token_18 rfl 2 rfl ?_
  replace h := if_n h; obtain ⟨hb3, h⟩ := h
  replace h := lt_e h; obtain ⟨w4, ew4, h⟩ := h
  refine r_iast (pc := 19) aM3 (inb_in hb3) dX12_token_19 ?_
  refine r_w ew4 ?_
  refine r_aload_n (pc := 20) dX12_token_20 rfl 0 rfl ?_
  refine r_get (pc := 21) (j := 5) (v := .ref 4) oM0 cf12 flRX12_20 rfl dX12_token_21 rfl ?_
  refine r_aload_n (pc := 24) dX12_token_24 rfl 0 rfl ?_
  refine r_get (pc := 25) (j := 6) (v := .int (gi w4 0 6)) oM0 cf12 flRX12_392 rfl dX12_token_25 rfl ?_
  refine r_lload_n (pc := 28) dX12_token_28 rfl 3 rfl ?_
  replace h := if_n h; obtain ⟨hb5, h⟩ := h
  replace h := lt_e h; obtain ⟨w6, ew6, h⟩ := h
  refine r_last (pc := 29) aM4 (inb_in hb5) dX12_token_29 ?_
  refine r_w ew6 ?_
  refine r_aload_n (pc := 30) dX12_token_30 rfl 0 rfl ?_
  refine r_dup (pc := 31) dX12_token_31 rfl ?_
  refine r_get (pc := 32) (j := 6) (v := .int (gi w6 0 6)) oM0 cf12 flRX12_392 rfl dX12_token_32 rfl ?_
  refine r_iconst (pc := 35) dX12_token_35 ki_1 ?_
  refine r_iadd (pc := 36) dX12_token_36 ?_
  replace h := lt_e h; obtain ⟨w7, ew7, h⟩ := h
  refine r_putI (pc := 37) (j := 6) oM0 cf12 flRX12_392 rfl rfl rfl rfl dX12_token_37 ?_
  refine r_w ew7 ?_
  exact rO_v (pc := 40) rfl dX12_token_40 h hN
theorem mX12_token {q : Gq} {l : Launch} {N : Option Value → Wd → Prop} {X : String → Wd → Prop} {a1 : Int32} {a2 : Int32} {a3 : Int64} {w : Wd} {u : Wd} (h : fX12_token a1 a2 a3 w = some u) (hN : N none u) : Ct (GM q) l 0 yX12_token cX12_token 5 (none) [.ref 0, .int a1, .int a2, .long a3] w N X := Ct.of (by decide) (Nat.le_of_ble_eq_true rfl) (pX12_token hN h)
/-! AlgolMillModel.word (II)I: O, 10 -/
theorem dX12_word_0 : decode cX12_word 0 = .ok (.iconst 0, 1) := by decide +kernel
theorem dX12_word_1 : decode cX12_word 1 = .ok (.istore_n 3, 1) := by decide +kernel
theorem dX12_word_2 : decode cX12_word 2 = .ok (.iload_n 3, 1) := by decide +kernel
theorem dX12_word_3 : decode cX12_word 3 = .ok (.aload_n 0, 1) := by decide +kernel
theorem dX12_word_4 : decode cX12_word 4 = .ok (.getfield 95, 3) := by decide +kernel
theorem dX12_word_7 : decode cX12_word 7 = .ok (.arraylength, 1) := by decide +kernel
theorem dX12_word_8 : decode cX12_word 8 = .ok (.if_icmp .ge 90, 3) := by decide +kernel
theorem dX12_word_11 : decode cX12_word 11 = .ok (.aload_n 0, 1) := by decide +kernel
theorem dX12_word_12 : decode cX12_word 12 = .ok (.getfield 95, 3) := by decide +kernel
theorem dX12_word_15 : decode cX12_word 15 = .ok (.iload_n 3, 1) := by decide +kernel
theorem dX12_word_16 : decode cX12_word 16 = .ok (.aaload, 1) := by decide +kernel
theorem dX12_word_17 : decode cX12_word 17 = .ok (.astore 4, 2) := by decide +kernel
theorem dX12_word_19 : decode cX12_word 19 = .ok (.aload 4, 2) := by decide +kernel
theorem dX12_word_21 : decode cX12_word 21 = .ok (.invokevirtual 395, 3) := by decide +kernel
theorem dX12_word_24 : decode cX12_word 24 = .ok (.iload_n 2, 1) := by decide +kernel
theorem dX12_word_25 : decode cX12_word 25 = .ok (.if_icmp .ne 7, 3) := by decide +kernel
theorem dX12_word_28 : decode cX12_word 28 = .ok (.iconst 1, 1) := by decide +kernel
theorem dX12_word_29 : decode cX12_word 29 = .ok (.goto 4, 3) := by decide +kernel
theorem dX12_word_32 : decode cX12_word 32 = .ok (.iconst 0, 1) := by decide +kernel
theorem dX12_word_33 : decode cX12_word 33 = .ok (.istore 5, 2) := by decide +kernel
theorem dX12_word_35 : decode cX12_word 35 = .ok (.iconst 0, 1) := by decide +kernel
theorem dX12_word_36 : decode cX12_word 36 = .ok (.istore 6, 2) := by decide +kernel
theorem dX12_word_38 : decode cX12_word 38 = .ok (.iload 5, 2) := by decide +kernel
theorem dX12_word_40 : decode cX12_word 40 = .ok (.ifCond .eq 41, 3) := by decide +kernel
theorem dX12_word_43 : decode cX12_word 43 = .ok (.iload 6, 2) := by decide +kernel
theorem dX12_word_45 : decode cX12_word 45 = .ok (.iload_n 2, 1) := by decide +kernel
theorem dX12_word_46 : decode cX12_word 46 = .ok (.if_icmp .ge 35, 3) := by decide +kernel
theorem dX12_word_49 : decode cX12_word 49 = .ok (.aload 4, 2) := by decide +kernel
theorem dX12_word_51 : decode cX12_word 51 = .ok (.iload 6, 2) := by decide +kernel
theorem dX12_word_53 : decode cX12_word 53 = .ok (.invokevirtual 399, 3) := by decide +kernel
theorem dX12_word_56 : decode cX12_word 56 = .ok (.aload_n 0, 1) := by decide +kernel
theorem dX12_word_57 : decode cX12_word 57 = .ok (.getfield 7, 3) := by decide +kernel
theorem dX12_word_60 : decode cX12_word 60 = .ok (.iload_n 1, 1) := by decide +kernel
theorem dX12_word_61 : decode cX12_word 61 = .ok (.iload 6, 2) := by decide +kernel
theorem dX12_word_63 : decode cX12_word 63 = .ok (.iadd, 1) := by decide +kernel
theorem dX12_word_64 : decode cX12_word 64 = .ok (.baload, 1) := by decide +kernel
theorem dX12_word_65 : decode cX12_word 65 = .ok (.if_icmp .ne 7, 3) := by decide +kernel
theorem dX12_word_68 : decode cX12_word 68 = .ok (.iconst 1, 1) := by decide +kernel
theorem dX12_word_69 : decode cX12_word 69 = .ok (.goto 4, 3) := by decide +kernel
theorem dX12_word_72 : decode cX12_word 72 = .ok (.iconst 0, 1) := by decide +kernel
theorem dX12_word_73 : decode cX12_word 73 = .ok (.istore 5, 2) := by decide +kernel
theorem dX12_word_75 : decode cX12_word 75 = .ok (.iinc 6 1, 3) := by decide +kernel
theorem dX12_word_78 : decode cX12_word 78 = .ok (.goto (-40), 3) := by decide +kernel
theorem dX12_word_81 : decode cX12_word 81 = .ok (.iload 5, 2) := by decide +kernel
theorem dX12_word_83 : decode cX12_word 83 = .ok (.ifCond .eq 9, 3) := by decide +kernel
theorem dX12_word_86 : decode cX12_word 86 = .ok (.sipush 256, 3) := by decide +kernel
theorem dX12_word_89 : decode cX12_word 89 = .ok (.iload_n 3, 1) := by decide +kernel
theorem dX12_word_90 : decode cX12_word 90 = .ok (.iadd, 1) := by decide +kernel
theorem dX12_word_91 : decode cX12_word 91 = .ok (.ireturn, 1) := by decide +kernel
theorem dX12_word_92 : decode cX12_word 92 = .ok (.iinc 3 1, 3) := by decide +kernel
theorem dX12_word_95 : decode cX12_word 95 = .ok (.goto (-93), 3) := by decide +kernel
theorem dX12_word_98 : decode cX12_word 98 = .ok (.sipush 285, 3) := by decide +kernel
theorem dX12_word_101 : decode cX12_word 101 = .ok (.ireturn, 1) := by decide +kernel
def fX12_word_38 (k_2 : Int32 → Int32 → Int32 → Wd → Option (Int32 × Wd)) (k_38 : Int32 → Int32 → Int32 → Int32 → Bool → Int32 → Wd → Option (Int32 × Wd)) (a1 : Int32) (a2 : Int32) (a3 : Int32) (a4 : Int32) (a5 : Bool) (a6 : Int32) (w : Wd) : Option (Int32 × Wd) :=
  if a5 = true then (if a2 ≤ a6 then (if a5 = true then (some ((256 + a3), w)) else (lt (a3 + 1) fun x4 => k_2 a1 a2 x4 w)) else (if inb a4 29 = true then if inb a6 (wdl (Int32.toNatClampNeg a4)).length = true then if inb (a1 + a6) 8192 = true then if (wch a4 a6) = (gi w 1 (Int32.toNatClampNeg (a1 + a6))) then (lt (a6 + 1) fun x9 => k_38 a1 a2 a3 a4 true x9 w) else (lt (a6 + 1) fun x10 => k_38 a1 a2 a3 a4 false x10 w) else none else none else none)) else (if a5 = true then (some ((256 + a3), w)) else (lt (a3 + 1) fun x12 => k_2 a1 a2 x12 w))
theorem pX12_word_38 {q : Gq} {l : Launch} {N : Option Value → Wd → Prop} {X : String → Wd → Prop} (hz : SGM q l) {w : Wd} {R : Int32 × Wd} (hN : N (some (.int R.1)) R.2) {k_2 : Int32 → Int32 → Int32 → Wd → Option (Int32 × Wd)} {k_38 : Int32 → Int32 → Int32 → Int32 → Bool → Int32 → Wd → Option (Int32 × Wd)} (hk_2 : ∀ (a1 : Int32) (a2 : Int32) (a3 : Int32) (w : Wd), k_2 a1 a2 a3 w = some R → RT (GM q) l 10 yX12_word cX12_word 7 ((some .int)) N X 2 [] [(0, .ref 0), (1, .int a1), (2, .int a2), (3, .int a3)] w) (hk_38 : ∀ (a1 : Int32) (a2 : Int32) (a3 : Int32) (a4 : Int32) (a5 : Bool) (a6 : Int32) (w : Wd), k_38 a1 a2 a3 a4 a5 a6 w = some R → RT (GM q) l 10 yX12_word cX12_word 7 ((some .int)) N X 38 [] [(0, .ref 0), (1, .int a1), (2, .int a2), (3, .int a3), (4, .ref (600 + Int32.toNatClampNeg a4)), (5, .int (b2i a5)), (6, .int a6)] w) {a1 : Int32} {a2 : Int32} {a3 : Int32} {a4 : Int32} {a5 : Bool} {a6 : Int32} (h : fX12_word_38 k_2 k_38 a1 a2 a3 a4 a5 a6 w = some R) : RT (GM q) l 10 yX12_word cX12_word 7 ((some .int)) N X 38 [] [(0, .ref 0), (1, .int a1), (2, .int a2), (3, .int a3), (4, .ref (600 + Int32.toNatClampNeg a4)), (5, .int (b2i a5)), (6, .int a6)] w := by
  unfold fX12_word_38 at h
  refine r_iload (pc := 38) dX12_word_38 5 rfl ?_
  refine r_z_eq (pc := 40) dX12_word_40 rfl (fun hc1 => ?_) (fun hc1 => ?_)
  · replace h := if_f hc1 h
    refine r_iload (pc := 81) dX12_word_81 5 rfl ?_
    refine r_z_eq (pc := 83) dX12_word_83 rfl (fun hc11 => ?_) (fun hc11 => ?_)
    · replace h := if_f hc11 h
      replace h := lt_e h; obtain ⟨x12, ex12, h⟩ := h
      refine r_inc (pc := 92) (loc' := [(3, .int x12), (0, .ref 0), (1, .int a1), (2, .int a2), (4, .ref (600 + Int32.toNatClampNeg a4)), (5, .int (b2i a5)), (6, .int a6)]) dX12_word_92 ki_1 ex12 3 rfl (Nat.le_of_ble_eq_true rfl) rfl ?_
      refine r_goto (pc := 95) dX12_word_95 rfl ?_
      refine r_drop (loc' := [(0, .ref 0), (1, .int a1), (2, .int a2), (3, .int x12)]) [1, 2, 3, 0] rfl ?_
      exact hk_2 a1 a2 x12 w h
    replace h := if_t hc11 h
    refine r_sipush (pc := 86) dX12_word_86 ks_256 ?_
    refine r_iload_n (pc := 89) dX12_word_89 rfl 3 rfl ?_
    refine r_iadd (pc := 90) dX12_word_90 ?_
    exact rO_i (pc := 91) rfl dX12_word_91 h hN
  replace h := if_t hc1 h
  refine r_iload (pc := 43) dX12_word_43 6 rfl ?_
  refine r_iload_n (pc := 45) dX12_word_45 rfl 2 rfl ?_
  refine r_icmp_ge (pc := 46) dX12_word_46 rfl (fun hc2 => ?_) (fun hc2 => ?_)
  · replace h := if_t hc2 h
    refine r_iload (pc := 81) dX12_word_81 5 rfl ?_
    refine r_z_eq (pc := 83) dX12_word_83 rfl (fun hc3 => ?_) (fun hc3 => ?_)
    · replace h := if_f hc3 h
      replace h := lt_e h; obtain ⟨x4, ex4, h⟩ := h
      refine r_inc (pc := 92) (loc' := [(3, .int x4), (0, .ref 0), (1, .int a1), (2, .int a2), (4, .ref (600 + Int32.toNatClampNeg a4)), (5, .int (b2i a5)), (6, .int a6)]) dX12_word_92 ki_1 ex4 3 rfl (Nat.le_of_ble_eq_true rfl) rfl ?_
      refine r_goto (pc := 95) dX12_word_95 rfl ?_
      refine r_drop (loc' := [(0, .ref 0), (1, .int a1), (2, .int a2), (3, .int x4)]) [1, 2, 3, 0] rfl ?_
      exact hk_2 a1 a2 x4 w h
    replace h := if_t hc3 h
    refine r_sipush (pc := 86) dX12_word_86 ks_256 ?_
    refine r_iload_n (pc := 89) dX12_word_89 rfl 3 rfl ?_
    refine r_iadd (pc := 90) dX12_word_90 ?_
    exact rO_i (pc := 91) rfl dX12_word_91 h hN
  replace h := if_f hc2 h
  refine r_aload (pc := 49) dX12_word_49 4 rfl ?_
  refine r_iload (pc := 51) dX12_word_51 6 rfl ?_
  replace h := if_n h; obtain ⟨hb5, h⟩ := h
  replace h := if_n h; obtain ⟨hb6, h⟩ := h
  refine hz.2.2.2 _ _ _ (Nat.le_of_ble_eq_true rfl) _ _ _ _ _ ⟨hb5, hb6⟩ (Nat.le_of_ble_eq_true rfl) ?_
  refine r_aload_n (pc := 56) dX12_word_56 rfl 0 rfl ?_
  refine r_get (pc := 57) (j := 1) (v := .ref 1) oM0 cf12 flRX12_7 rfl dX12_word_57 rfl ?_
  refine r_iload_n (pc := 60) dX12_word_60 rfl 1 rfl ?_
  refine r_iload (pc := 61) dX12_word_61 6 rfl ?_
  refine r_iadd (pc := 63) dX12_word_63 ?_
  replace h := if_n h; obtain ⟨hb7, h⟩ := h
  refine r_bald (pc := 64) aM1 (inb_in hb7) dX12_word_64 ?_
  refine r_icmp_ne (pc := 65) dX12_word_65 rfl (fun hc8 => ?_) (fun hc8 => ?_)
  · replace h := if_f hc8 h
    refine r_iconst (pc := 72) dX12_word_72 ki_0 ?_
    refine r_istore (pc := 73) (loc' := [(5, .int 0), (0, .ref 0), (1, .int a1), (2, .int a2), (3, .int a3), (4, .ref (600 + Int32.toNatClampNeg a4)), (6, .int a6)]) dX12_word_73 (Nat.le_of_ble_eq_true rfl) rfl ?_
    replace h := lt_e h; obtain ⟨x10, ex10, h⟩ := h
    refine r_inc (pc := 75) (loc' := [(6, .int x10), (5, .int 0), (0, .ref 0), (1, .int a1), (2, .int a2), (3, .int a3), (4, .ref (600 + Int32.toNatClampNeg a4))]) dX12_word_75 ki_1 ex10 6 rfl (Nat.le_of_ble_eq_true rfl) rfl ?_
    refine r_goto (pc := 78) dX12_word_78 rfl ?_
    refine r_drop (loc' := [(0, .ref 0), (1, .int a1), (2, .int a2), (3, .int a3), (4, .ref (600 + Int32.toNatClampNeg a4)), (5, .int 0), (6, .int x10)]) [2, 3, 4, 5, 6, 1, 0] rfl ?_
    exact hk_38 a1 a2 a3 a4 false x10 w h
  replace h := if_t hc8 h
  refine r_iconst (pc := 68) dX12_word_68 ki_1 ?_
  refine r_goto (pc := 69) dX12_word_69 rfl ?_
  refine r_istore (pc := 73) (loc' := [(5, .int 1), (0, .ref 0), (1, .int a1), (2, .int a2), (3, .int a3), (4, .ref (600 + Int32.toNatClampNeg a4)), (6, .int a6)]) dX12_word_73 (Nat.le_of_ble_eq_true rfl) rfl ?_
  replace h := lt_e h; obtain ⟨x9, ex9, h⟩ := h
  refine r_inc (pc := 75) (loc' := [(6, .int x9), (5, .int 1), (0, .ref 0), (1, .int a1), (2, .int a2), (3, .int a3), (4, .ref (600 + Int32.toNatClampNeg a4))]) dX12_word_75 ki_1 ex9 6 rfl (Nat.le_of_ble_eq_true rfl) rfl ?_
  refine r_goto (pc := 78) dX12_word_78 rfl ?_
  refine r_drop (loc' := [(0, .ref 0), (1, .int a1), (2, .int a2), (3, .int a3), (4, .ref (600 + Int32.toNatClampNeg a4)), (5, .int 1), (6, .int x9)]) [2, 3, 4, 5, 6, 1, 0] rfl ?_
  exact hk_38 a1 a2 a3 a4 true x9 w h
def oX12_word_38 (k_2 : Int32 → Int32 → Int32 → Wd → Option (Int32 × Wd)) : Nat → Int32 → Int32 → Int32 → Int32 → Bool → Int32 → Wd → Option (Int32 × Wd)
  | 0 => fun _ _ _ _ _ _ _ => none
  | n + 1 => fX12_word_38 k_2 (oX12_word_38 k_2 n)
theorem qX12_word_38 {q : Gq} {l : Launch} {N : Option Value → Wd → Prop} {X : String → Wd → Prop} (hz : SGM q l) {R : Int32 × Wd} (hN : N (some (.int R.1)) R.2) {k_2 : Int32 → Int32 → Int32 → Wd → Option (Int32 × Wd)} (hk_2 : ∀ (a1 : Int32) (a2 : Int32) (a3 : Int32) (w : Wd), k_2 a1 a2 a3 w = some R → RT (GM q) l 10 yX12_word cX12_word 7 ((some .int)) N X 2 [] [(0, .ref 0), (1, .int a1), (2, .int a2), (3, .int a3)] w) : ∀ (n : Nat) (a1 : Int32) (a2 : Int32) (a3 : Int32) (a4 : Int32) (a5 : Bool) (a6 : Int32) (w : Wd), oX12_word_38 k_2 n a1 a2 a3 a4 a5 a6 w = some R → RT (GM q) l 10 yX12_word cX12_word 7 ((some .int)) N X 38 [] [(0, .ref 0), (1, .int a1), (2, .int a2), (3, .int a3), (4, .ref (600 + Int32.toNatClampNeg a4)), (5, .int (b2i a5)), (6, .int a6)] w := by
  intro n
  induction n with
  | zero =>
    intro a1 a2 a3 a4 a5 a6 w h
    exact absurd h (fun q => nomatch q)
  | succ n ih =>
    intro a1 a2 a3 a4 a5 a6 w h
    exact pX12_word_38 hz hN hk_2 ih h
def fX12_word_2 (k_2 : Int32 → Int32 → Int32 → Wd → Option (Int32 × Wd)) (a1 : Int32) (a2 : Int32) (a3 : Int32) (w : Wd) : Option (Int32 × Wd) :=
  if 29 ≤ a3 then (some (285, w)) else (if inb a3 29 = true then if inb a3 29 = true then if (wln a3) = a2 then (oX12_word_38 k_2 FU a1 a2 a3 a3 true 0 w) else (oX12_word_38 k_2 FU a1 a2 a3 a3 false 0 w) else none else none)
theorem pX12_word_2 {q : Gq} {l : Launch} {N : Option Value → Wd → Prop} {X : String → Wd → Prop} (hz : SGM q l) {w : Wd} {R : Int32 × Wd} (hN : N (some (.int R.1)) R.2) {k_2 : Int32 → Int32 → Int32 → Wd → Option (Int32 × Wd)} (hk_2 : ∀ (a1 : Int32) (a2 : Int32) (a3 : Int32) (w : Wd), k_2 a1 a2 a3 w = some R → RT (GM q) l 10 yX12_word cX12_word 7 ((some .int)) N X 2 [] [(0, .ref 0), (1, .int a1), (2, .int a2), (3, .int a3)] w) {a1 : Int32} {a2 : Int32} {a3 : Int32} (h : fX12_word_2 k_2 a1 a2 a3 w = some R) : RT (GM q) l 10 yX12_word cX12_word 7 ((some .int)) N X 2 [] [(0, .ref 0), (1, .int a1), (2, .int a2), (3, .int a3)] w := by
  unfold fX12_word_2 at h
  refine r_iload_n (pc := 2) dX12_word_2 rfl 3 rfl ?_
  refine r_aload_n (pc := 3) dX12_word_3 rfl 0 rfl ?_
  refine r_get (pc := 4) (j := 15) (v := .ref 6) oM0 cf12 flRX12_95 rfl dX12_word_4 rfl ?_
  refine r_alen (pc := 7) aM6 ka_29 dX12_word_7 ?_
  refine r_icmp_ge (pc := 8) dX12_word_8 rfl (fun hc1 => ?_) (fun hc1 => ?_)
  · replace h := if_t hc1 h
    refine r_sipush (pc := 98) dX12_word_98 ks_285 ?_
    exact rO_i (pc := 101) rfl dX12_word_101 h hN
  replace h := if_f hc1 h
  refine r_aload_n (pc := 11) dX12_word_11 rfl 0 rfl ?_
  refine r_get (pc := 12) (j := 15) (v := .ref 6) oM0 cf12 flRX12_95 rfl dX12_word_12 rfl ?_
  refine r_iload_n (pc := 15) dX12_word_15 rfl 3 rfl ?_
  replace h := if_n h; obtain ⟨hb2, h⟩ := h
  refine r_aald (pc := 16) aM6 (inb_in hb2) dX12_word_16 ?_
  refine r_astore (pc := 17) (loc' := [(4, .ref (600 + Int32.toNatClampNeg a3)), (0, .ref 0), (1, .int a1), (2, .int a2), (3, .int a3)]) dX12_word_17 (Nat.le_of_ble_eq_true rfl) rfl ?_
  refine r_aload (pc := 19) dX12_word_19 0 rfl ?_
  replace h := if_n h; obtain ⟨hb3, h⟩ := h
  refine hz.2.2.1 _ _ _ (Nat.le_of_ble_eq_true rfl) _ _ _ _ hb3 (Nat.le_of_ble_eq_true rfl) ?_
  refine r_iload_n (pc := 24) dX12_word_24 rfl 3 rfl ?_
  refine r_icmp_ne (pc := 25) dX12_word_25 rfl (fun hc4 => ?_) (fun hc4 => ?_)
  · replace h := if_f hc4 h
    refine r_iconst (pc := 32) dX12_word_32 ki_0 ?_
    refine r_istore (pc := 33) (loc' := [(5, .int 0), (4, .ref (600 + Int32.toNatClampNeg a3)), (0, .ref 0), (1, .int a1), (2, .int a2), (3, .int a3)]) dX12_word_33 (Nat.le_of_ble_eq_true rfl) rfl ?_
    refine r_iconst (pc := 35) dX12_word_35 ki_0 ?_
    refine r_istore (pc := 36) (loc' := [(6, .int 0), (5, .int 0), (4, .ref (600 + Int32.toNatClampNeg a3)), (0, .ref 0), (1, .int a1), (2, .int a2), (3, .int a3)]) dX12_word_36 (Nat.le_of_ble_eq_true rfl) rfl ?_
    refine r_drop (loc' := [(0, .ref 0), (1, .int a1), (2, .int a2), (3, .int a3), (4, .ref (600 + Int32.toNatClampNeg a3)), (5, .int 0), (6, .int 0)]) [3, 4, 5, 6, 2, 1, 0] rfl ?_
    exact qX12_word_38 hz hN hk_2 FU a1 a2 a3 a3 false 0 w h
  replace h := if_t hc4 h
  refine r_iconst (pc := 28) dX12_word_28 ki_1 ?_
  refine r_goto (pc := 29) dX12_word_29 rfl ?_
  refine r_istore (pc := 33) (loc' := [(5, .int 1), (4, .ref (600 + Int32.toNatClampNeg a3)), (0, .ref 0), (1, .int a1), (2, .int a2), (3, .int a3)]) dX12_word_33 (Nat.le_of_ble_eq_true rfl) rfl ?_
  refine r_iconst (pc := 35) dX12_word_35 ki_0 ?_
  refine r_istore (pc := 36) (loc' := [(6, .int 0), (5, .int 1), (4, .ref (600 + Int32.toNatClampNeg a3)), (0, .ref 0), (1, .int a1), (2, .int a2), (3, .int a3)]) dX12_word_36 (Nat.le_of_ble_eq_true rfl) rfl ?_
  refine r_drop (loc' := [(0, .ref 0), (1, .int a1), (2, .int a2), (3, .int a3), (4, .ref (600 + Int32.toNatClampNeg a3)), (5, .int 1), (6, .int 0)]) [3, 4, 5, 6, 2, 1, 0] rfl ?_
  exact qX12_word_38 hz hN hk_2 FU a1 a2 a3 a3 true 0 w h
def oX12_word_2 : Nat → Int32 → Int32 → Int32 → Wd → Option (Int32 × Wd)
  | 0 => fun _ _ _ _ => none
  | n + 1 => fX12_word_2 (oX12_word_2 n)
theorem qX12_word_2 {q : Gq} {l : Launch} {N : Option Value → Wd → Prop} {X : String → Wd → Prop} (hz : SGM q l) {R : Int32 × Wd} (hN : N (some (.int R.1)) R.2) : ∀ (n : Nat) (a1 : Int32) (a2 : Int32) (a3 : Int32) (w : Wd), oX12_word_2 n a1 a2 a3 w = some R → RT (GM q) l 10 yX12_word cX12_word 7 ((some .int)) N X 2 [] [(0, .ref 0), (1, .int a1), (2, .int a2), (3, .int a3)] w := by
  intro n
  induction n with
  | zero =>
    intro a1 a2 a3 w h
    exact absurd h (fun q => nomatch q)
  | succ n ih =>
    intro a1 a2 a3 w h
    exact pX12_word_2 hz hN ih h
def fX12_word (a1 : Int32) (a2 : Int32) (w : Wd) : Option (Int32 × Wd) :=
  oX12_word_2 FU a1 a2 0 w
theorem pX12_word {q : Gq} {l : Launch} {N : Option Value → Wd → Prop} {X : String → Wd → Prop} (hz : SGM q l) {w : Wd} {R : Int32 × Wd} (hN : N (some (.int R.1)) R.2) {a1 : Int32} {a2 : Int32} (h : fX12_word a1 a2 w = some R) : RT (GM q) l 10 yX12_word cX12_word 7 ((some .int)) N X 0 [] [(0, .ref 0), (1, .int a1), (2, .int a2)] w := by
  unfold fX12_word at h
  refine r_iconst (pc := 0) dX12_word_0 ki_0 ?_
  refine r_istore_n (pc := 1) (loc' := [(3, .int 0), (0, .ref 0), (1, .int a1), (2, .int a2)]) dX12_word_1 rfl (Nat.le_of_ble_eq_true rfl) rfl ?_
  refine r_drop (loc' := [(0, .ref 0), (1, .int a1), (2, .int a2), (3, .int 0)]) [1, 2, 3, 0] rfl ?_
  exact qX12_word_2 hz hN FU a1 a2 0 w h
theorem mX12_word {q : Gq} {l : Launch} {N : Option Value → Wd → Prop} {X : String → Wd → Prop} {a1 : Int32} {a2 : Int32} {w : Wd} (hz : SGM q l) {x : Int32} {u : Wd} (h : fX12_word a1 a2 w = some (x, u)) (hN : N (some (.int x)) u) : Ct (GM q) l 10 yX12_word cX12_word 7 ((some .int)) [.ref 0, .int a1, .int a2] w N X := Ct.of (by decide) (Nat.le_of_ble_eq_true rfl) (pX12_word hz hN h)
/-! AlgolMillModel.pair (II)I: P, 0 -/
theorem dX12_pair_0 : decode cX12_pair 0 = .ok (.iload_n 0, 1) := by decide +kernel
theorem dX12_pair_1 : decode cX12_pair 1 = .ok (.bipush 60, 2) := by decide +kernel
theorem dX12_pair_3 : decode cX12_pair 3 = .ok (.if_icmp .ne 13, 3) := by decide +kernel
theorem dX12_pair_6 : decode cX12_pair 6 = .ok (.iload_n 1, 1) := by decide +kernel
theorem dX12_pair_7 : decode cX12_pair 7 = .ok (.bipush 61, 2) := by decide +kernel
theorem dX12_pair_9 : decode cX12_pair 9 = .ok (.if_icmp .ne 7, 3) := by decide +kernel
theorem dX12_pair_12 : decode cX12_pair 12 = .ok (.sipush 287, 3) := by decide +kernel
theorem dX12_pair_15 : decode cX12_pair 15 = .ok (.ireturn, 1) := by decide +kernel
theorem dX12_pair_16 : decode cX12_pair 16 = .ok (.iload_n 0, 1) := by decide +kernel
theorem dX12_pair_17 : decode cX12_pair 17 = .ok (.bipush 62, 2) := by decide +kernel
theorem dX12_pair_19 : decode cX12_pair 19 = .ok (.if_icmp .ne 13, 3) := by decide +kernel
theorem dX12_pair_22 : decode cX12_pair 22 = .ok (.iload_n 1, 1) := by decide +kernel
theorem dX12_pair_23 : decode cX12_pair 23 = .ok (.bipush 61, 2) := by decide +kernel
theorem dX12_pair_25 : decode cX12_pair 25 = .ok (.if_icmp .ne 7, 3) := by decide +kernel
theorem dX12_pair_28 : decode cX12_pair 28 = .ok (.sipush 288, 3) := by decide +kernel
theorem dX12_pair_31 : decode cX12_pair 31 = .ok (.ireturn, 1) := by decide +kernel
theorem dX12_pair_32 : decode cX12_pair 32 = .ok (.iload_n 0, 1) := by decide +kernel
theorem dX12_pair_33 : decode cX12_pair 33 = .ok (.bipush 60, 2) := by decide +kernel
theorem dX12_pair_35 : decode cX12_pair 35 = .ok (.if_icmp .ne 13, 3) := by decide +kernel
theorem dX12_pair_38 : decode cX12_pair 38 = .ok (.iload_n 1, 1) := by decide +kernel
theorem dX12_pair_39 : decode cX12_pair 39 = .ok (.bipush 62, 2) := by decide +kernel
theorem dX12_pair_41 : decode cX12_pair 41 = .ok (.if_icmp .ne 7, 3) := by decide +kernel
theorem dX12_pair_44 : decode cX12_pair 44 = .ok (.sipush 289, 3) := by decide +kernel
theorem dX12_pair_47 : decode cX12_pair 47 = .ok (.ireturn, 1) := by decide +kernel
theorem dX12_pair_48 : decode cX12_pair 48 = .ok (.iload_n 0, 1) := by decide +kernel
theorem dX12_pair_49 : decode cX12_pair 49 = .ok (.bipush 58, 2) := by decide +kernel
theorem dX12_pair_51 : decode cX12_pair 51 = .ok (.if_icmp .ne 15, 3) := by decide +kernel
theorem dX12_pair_54 : decode cX12_pair 54 = .ok (.iload_n 1, 1) := by decide +kernel
theorem dX12_pair_55 : decode cX12_pair 55 = .ok (.bipush 61, 2) := by decide +kernel
theorem dX12_pair_57 : decode cX12_pair 57 = .ok (.if_icmp .ne 9, 3) := by decide +kernel
theorem dX12_pair_60 : decode cX12_pair 60 = .ok (.sipush 290, 3) := by decide +kernel
theorem dX12_pair_63 : decode cX12_pair 63 = .ok (.goto 4, 3) := by decide +kernel
theorem dX12_pair_66 : decode cX12_pair 66 = .ok (.iconst 0, 1) := by decide +kernel
theorem dX12_pair_67 : decode cX12_pair 67 = .ok (.ireturn, 1) := by decide +kernel
def fX12_pair_48 (a0 : Int32) (a1 : Int32) (w : Wd) : Int32 :=
  if a0 = 58 then (if a1 = 61 then (290) else (0)) else (0)
theorem pX12_pair_48 {q : Gq} {l : Launch} {N : Option Value → Wd → Prop} {X : String → Wd → Prop} {w : Wd} {R : Int32} (hN : N (some (.int R)) w) {a0 : Int32} {a1 : Int32} (h : fX12_pair_48 a0 a1 w = R) : RT (GM q) l 0 yX12_pair cX12_pair 2 ((some .int)) N X 48 [] [(0, .int a0), (1, .int a1)] w := by
  unfold fX12_pair_48 at h
  refine r_iload_n (pc := 48) dX12_pair_48 rfl 0 rfl ?_
  refine r_bipush (pc := 49) dX12_pair_49 kb_58 ?_
  refine r_icmp_ne (pc := 51) dX12_pair_51 rfl (fun hc1 => ?_) (fun hc1 => ?_)
  · replace h := if_f hc1 h
    refine r_iconst (pc := 66) dX12_pair_66 ki_0 ?_
    exact rP_i (pc := 67) rfl dX12_pair_67 h hN
  replace h := if_t hc1 h
  refine r_iload_n (pc := 54) dX12_pair_54 rfl 1 rfl ?_
  refine r_bipush (pc := 55) dX12_pair_55 kb_61 ?_
  refine r_icmp_ne (pc := 57) dX12_pair_57 rfl (fun hc2 => ?_) (fun hc2 => ?_)
  · replace h := if_f hc2 h
    refine r_iconst (pc := 66) dX12_pair_66 ki_0 ?_
    exact rP_i (pc := 67) rfl dX12_pair_67 h hN
  replace h := if_t hc2 h
  refine r_sipush (pc := 60) dX12_pair_60 ks_290 ?_
  refine r_goto (pc := 63) dX12_pair_63 rfl ?_
  exact rP_i (pc := 67) rfl dX12_pair_67 h hN
def fX12_pair_16 (a0 : Int32) (a1 : Int32) (w : Wd) : Int32 :=
  if a0 = 62 then (if a1 = 61 then (288) else (if a0 = 60 then (if a1 = 62 then (289) else (fX12_pair_48 a0 a1 w)) else (fX12_pair_48 a0 a1 w))) else (if a0 = 60 then (if a1 = 62 then (289) else (fX12_pair_48 a0 a1 w)) else (fX12_pair_48 a0 a1 w))
theorem pX12_pair_16 {q : Gq} {l : Launch} {N : Option Value → Wd → Prop} {X : String → Wd → Prop} {w : Wd} {R : Int32} (hN : N (some (.int R)) w) {a0 : Int32} {a1 : Int32} (h : fX12_pair_16 a0 a1 w = R) : RT (GM q) l 0 yX12_pair cX12_pair 2 ((some .int)) N X 16 [] [(0, .int a0), (1, .int a1)] w := by
  unfold fX12_pair_16 at h
  refine r_iload_n (pc := 16) dX12_pair_16 rfl 0 rfl ?_
  refine r_bipush (pc := 17) dX12_pair_17 kb_62 ?_
  refine r_icmp_ne (pc := 19) dX12_pair_19 rfl (fun hc1 => ?_) (fun hc1 => ?_)
  · replace h := if_f hc1 h
    refine r_iload_n (pc := 32) dX12_pair_32 rfl 0 rfl ?_
    refine r_bipush (pc := 33) dX12_pair_33 kb_60 ?_
    refine r_icmp_ne (pc := 35) dX12_pair_35 rfl (fun hc5 => ?_) (fun hc5 => ?_)
    · replace h := if_f hc5 h
      exact pX12_pair_48 hN h
    replace h := if_t hc5 h
    refine r_iload_n (pc := 38) dX12_pair_38 rfl 1 rfl ?_
    refine r_bipush (pc := 39) dX12_pair_39 kb_62 ?_
    refine r_icmp_ne (pc := 41) dX12_pair_41 rfl (fun hc6 => ?_) (fun hc6 => ?_)
    · replace h := if_f hc6 h
      exact pX12_pair_48 hN h
    replace h := if_t hc6 h
    refine r_sipush (pc := 44) dX12_pair_44 ks_289 ?_
    exact rP_i (pc := 47) rfl dX12_pair_47 h hN
  replace h := if_t hc1 h
  refine r_iload_n (pc := 22) dX12_pair_22 rfl 1 rfl ?_
  refine r_bipush (pc := 23) dX12_pair_23 kb_61 ?_
  refine r_icmp_ne (pc := 25) dX12_pair_25 rfl (fun hc2 => ?_) (fun hc2 => ?_)
  · replace h := if_f hc2 h
    refine r_iload_n (pc := 32) dX12_pair_32 rfl 0 rfl ?_
    refine r_bipush (pc := 33) dX12_pair_33 kb_60 ?_
    refine r_icmp_ne (pc := 35) dX12_pair_35 rfl (fun hc3 => ?_) (fun hc3 => ?_)
    · replace h := if_f hc3 h
      exact pX12_pair_48 hN h
    replace h := if_t hc3 h
    refine r_iload_n (pc := 38) dX12_pair_38 rfl 1 rfl ?_
    refine r_bipush (pc := 39) dX12_pair_39 kb_62 ?_
    refine r_icmp_ne (pc := 41) dX12_pair_41 rfl (fun hc4 => ?_) (fun hc4 => ?_)
    · replace h := if_f hc4 h
      exact pX12_pair_48 hN h
    replace h := if_t hc4 h
    refine r_sipush (pc := 44) dX12_pair_44 ks_289 ?_
    exact rP_i (pc := 47) rfl dX12_pair_47 h hN
  replace h := if_t hc2 h
  refine r_sipush (pc := 28) dX12_pair_28 ks_288 ?_
  exact rP_i (pc := 31) rfl dX12_pair_31 h hN
def fX12_pair (a0 : Int32) (a1 : Int32) (w : Wd) : Int32 :=
  if a0 = 60 then (if a1 = 61 then (287) else (fX12_pair_16 a0 a1 w)) else (fX12_pair_16 a0 a1 w)
theorem pX12_pair {q : Gq} {l : Launch} {N : Option Value → Wd → Prop} {X : String → Wd → Prop} {w : Wd} {R : Int32} (hN : N (some (.int R)) w) {a0 : Int32} {a1 : Int32} (h : fX12_pair a0 a1 w = R) : RT (GM q) l 0 yX12_pair cX12_pair 2 ((some .int)) N X 0 [] [(0, .int a0), (1, .int a1)] w := by
  unfold fX12_pair at h
  refine r_iload_n (pc := 0) dX12_pair_0 rfl 0 rfl ?_
  refine r_bipush (pc := 1) dX12_pair_1 kb_60 ?_
  refine r_icmp_ne (pc := 3) dX12_pair_3 rfl (fun hc1 => ?_) (fun hc1 => ?_)
  · replace h := if_f hc1 h
    exact pX12_pair_16 hN h
  replace h := if_t hc1 h
  refine r_iload_n (pc := 6) dX12_pair_6 rfl 1 rfl ?_
  refine r_bipush (pc := 7) dX12_pair_7 kb_61 ?_
  refine r_icmp_ne (pc := 9) dX12_pair_9 rfl (fun hc2 => ?_) (fun hc2 => ?_)
  · replace h := if_f hc2 h
    exact pX12_pair_16 hN h
  replace h := if_t hc2 h
  refine r_sipush (pc := 12) dX12_pair_12 ks_287 ?_
  exact rP_i (pc := 15) rfl dX12_pair_15 h hN
theorem mX12_pair {q : Gq} {l : Launch} {N : Option Value → Wd → Prop} {X : String → Wd → Prop} {a0 : Int32} {a1 : Int32} {w : Wd} {x : Int32} (h : fX12_pair a0 a1 w = x) (hN : N (some (.int x)) w) : Ct (GM q) l 0 yX12_pair cX12_pair 2 ((some .int)) [.int a0, .int a1] w N X := Ct.of (by decide) (Nat.le_of_ble_eq_true rfl) (pX12_pair hN h)
/-! AlgolMillModel.cut ()V: O, 11 -/
theorem dX12_cut_0 : decode cX12_cut 0 = .ok (.aload_n 0, 1) := by decide +kernel
theorem dX12_cut_1 : decode cX12_cut 1 = .ok (.iconst 0, 1) := by decide +kernel
theorem dX12_cut_2 : decode cX12_cut 2 = .ok (.putfield 392, 3) := by decide +kernel
theorem dX12_cut_5 : decode cX12_cut 5 = .ok (.iconst 0, 1) := by decide +kernel
theorem dX12_cut_6 : decode cX12_cut 6 = .ok (.istore_n 1, 1) := by decide +kernel
theorem dX12_cut_7 : decode cX12_cut 7 = .ok (.iload_n 1, 1) := by decide +kernel
theorem dX12_cut_8 : decode cX12_cut 8 = .ok (.aload_n 0, 1) := by decide +kernel
theorem dX12_cut_9 : decode cX12_cut 9 = .ok (.getfield 381, 3) := by decide +kernel
theorem dX12_cut_12 : decode cX12_cut 12 = .ok (.if_icmp .ge 331, 3) := by decide +kernel
theorem dX12_cut_15 : decode cX12_cut 15 = .ok (.aload_n 0, 1) := by decide +kernel
theorem dX12_cut_16 : decode cX12_cut 16 = .ok (.iload_n 1, 1) := by decide +kernel
theorem dX12_cut_17 : decode cX12_cut 17 = .ok (.invokevirtual 403, 3) := by decide +kernel
theorem dX12_cut_20 : decode cX12_cut 20 = .ok (.istore_n 2, 1) := by decide +kernel
theorem dX12_cut_21 : decode cX12_cut 21 = .ok (.iload_n 2, 1) := by decide +kernel
theorem dX12_cut_22 : decode cX12_cut 22 = .ok (.bipush 32, 2) := by decide +kernel
theorem dX12_cut_24 : decode cX12_cut 24 = .ok (.if_icmp .eq 9, 3) := by decide +kernel
theorem dX12_cut_27 : decode cX12_cut 27 = .ok (.iload_n 2, 1) := by decide +kernel
theorem dX12_cut_28 : decode cX12_cut 28 = .ok (.bipush 10, 2) := by decide +kernel
theorem dX12_cut_30 : decode cX12_cut 30 = .ok (.if_icmp .ne 9, 3) := by decide +kernel
theorem dX12_cut_33 : decode cX12_cut 33 = .ok (.iinc 1 1, 3) := by decide +kernel
theorem dX12_cut_36 : decode cX12_cut 36 = .ok (.goto (-29), 3) := by decide +kernel
theorem dX12_cut_39 : decode cX12_cut 39 = .ok (.iload_n 1, 1) := by decide +kernel
theorem dX12_cut_40 : decode cX12_cut 40 = .ok (.istore_n 3, 1) := by decide +kernel
theorem dX12_cut_41 : decode cX12_cut 41 = .ok (.iload_n 2, 1) := by decide +kernel
theorem dX12_cut_42 : decode cX12_cut 42 = .ok (.invokestatic 406, 3) := by decide +kernel
theorem dX12_cut_45 : decode cX12_cut 45 = .ok (.ifCond .eq 121, 3) := by decide +kernel
theorem dX12_cut_48 : decode cX12_cut 48 = .ok (.lconst 0, 1) := by decide +kernel
theorem dX12_cut_49 : decode cX12_cut 49 = .ok (.lstore 4, 2) := by decide +kernel
theorem dX12_cut_51 : decode cX12_cut 51 = .ok (.aload_n 0, 1) := by decide +kernel
theorem dX12_cut_52 : decode cX12_cut 52 = .ok (.iload_n 1, 1) := by decide +kernel
theorem dX12_cut_53 : decode cX12_cut 53 = .ok (.invokevirtual 403, 3) := by decide +kernel
theorem dX12_cut_56 : decode cX12_cut 56 = .ok (.invokestatic 406, 3) := by decide +kernel
theorem dX12_cut_59 : decode cX12_cut 59 = .ok (.ifCond .ne 14, 3) := by decide +kernel
theorem dX12_cut_62 : decode cX12_cut 62 = .ok (.aload_n 0, 1) := by decide +kernel
theorem dX12_cut_63 : decode cX12_cut 63 = .ok (.iload_n 1, 1) := by decide +kernel
theorem dX12_cut_64 : decode cX12_cut 64 = .ok (.invokevirtual 403, 3) := by decide +kernel
theorem dX12_cut_67 : decode cX12_cut 67 = .ok (.invokestatic 410, 3) := by decide +kernel
theorem dX12_cut_70 : decode cX12_cut 70 = .ok (.ifCond .eq 60, 3) := by decide +kernel
theorem dX12_cut_73 : decode cX12_cut 73 = .ok (.aload_n 0, 1) := by decide +kernel
theorem dX12_cut_74 : decode cX12_cut 74 = .ok (.iload_n 1, 1) := by decide +kernel
theorem dX12_cut_75 : decode cX12_cut 75 = .ok (.invokevirtual 403, 3) := by decide +kernel
theorem dX12_cut_78 : decode cX12_cut 78 = .ok (.istore 6, 2) := by decide +kernel
theorem dX12_cut_80 : decode cX12_cut 80 = .ok (.iload_n 1, 1) := by decide +kernel
theorem dX12_cut_81 : decode cX12_cut 81 = .ok (.iload_n 3, 1) := by decide +kernel
theorem dX12_cut_82 : decode cX12_cut 82 = .ok (.isub, 1) := by decide +kernel
theorem dX12_cut_83 : decode cX12_cut 83 = .ok (.bipush 10, 2) := by decide +kernel
theorem dX12_cut_85 : decode cX12_cut 85 = .ok (.if_icmp .ge 39, 3) := by decide +kernel
theorem dX12_cut_88 : decode cX12_cut 88 = .ok (.lload 4, 2) := by decide +kernel
theorem dX12_cut_90 : decode cX12_cut 90 = .ok (.ldc2_w 413, 3) := by decide +kernel
theorem dX12_cut_93 : decode cX12_cut 93 = .ok (.lmul, 1) := by decide +kernel
theorem dX12_cut_94 : decode cX12_cut 94 = .ok (.iload 6, 2) := by decide +kernel
theorem dX12_cut_96 : decode cX12_cut 96 = .ok (.invokestatic 406, 3) := by decide +kernel
theorem dX12_cut_99 : decode cX12_cut 99 = .ok (.ifCond .eq 13, 3) := by decide +kernel
theorem dX12_cut_102 : decode cX12_cut 102 = .ok (.iload 6, 2) := by decide +kernel
theorem dX12_cut_104 : decode cX12_cut 104 = .ok (.bipush 97, 2) := by decide +kernel
theorem dX12_cut_106 : decode cX12_cut 106 = .ok (.isub, 1) := by decide +kernel
theorem dX12_cut_107 : decode cX12_cut 107 = .ok (.iconst 1, 1) := by decide +kernel
theorem dX12_cut_108 : decode cX12_cut 108 = .ok (.iadd, 1) := by decide +kernel
theorem dX12_cut_109 : decode cX12_cut 109 = .ok (.goto 11, 3) := by decide +kernel
theorem dX12_cut_112 : decode cX12_cut 112 = .ok (.iload 6, 2) := by decide +kernel
theorem dX12_cut_114 : decode cX12_cut 114 = .ok (.bipush 48, 2) := by decide +kernel
theorem dX12_cut_116 : decode cX12_cut 116 = .ok (.isub, 1) := by decide +kernel
theorem dX12_cut_117 : decode cX12_cut 117 = .ok (.bipush 27, 2) := by decide +kernel
theorem dX12_cut_119 : decode cX12_cut 119 = .ok (.iadd, 1) := by decide +kernel
theorem dX12_cut_120 : decode cX12_cut 120 = .ok (.i2l, 1) := by decide +kernel
theorem dX12_cut_121 : decode cX12_cut 121 = .ok (.ladd, 1) := by decide +kernel
theorem dX12_cut_122 : decode cX12_cut 122 = .ok (.lstore 4, 2) := by decide +kernel
theorem dX12_cut_124 : decode cX12_cut 124 = .ok (.iinc 1 1, 3) := by decide +kernel
theorem dX12_cut_127 : decode cX12_cut 127 = .ok (.goto (-76), 3) := by decide +kernel
theorem dX12_cut_130 : decode cX12_cut 130 = .ok (.iload_n 1, 1) := by decide +kernel
theorem dX12_cut_131 : decode cX12_cut 131 = .ok (.iload_n 3, 1) := by decide +kernel
theorem dX12_cut_132 : decode cX12_cut 132 = .ok (.isub, 1) := by decide +kernel
theorem dX12_cut_133 : decode cX12_cut 133 = .ok (.bipush 10, 2) := by decide +kernel
theorem dX12_cut_135 : decode cX12_cut 135 = .ok (.if_icmp .le 13, 3) := by decide +kernel
theorem dX12_cut_138 : decode cX12_cut 138 = .ok (.aload_n 0, 1) := by decide +kernel
theorem dX12_cut_139 : decode cX12_cut 139 = .ok (.sipush 292, 3) := by decide +kernel
theorem dX12_cut_142 : decode cX12_cut 142 = .ok (.iload_n 3, 1) := by decide +kernel
theorem dX12_cut_143 : decode cX12_cut 143 = .ok (.lconst 0, 1) := by decide +kernel
theorem dX12_cut_144 : decode cX12_cut 144 = .ok (.invokevirtual 415, 3) := by decide +kernel
theorem dX12_cut_147 : decode cX12_cut 147 = .ok (.return_, 1) := by decide +kernel
theorem dX12_cut_148 : decode cX12_cut 148 = .ok (.aload_n 0, 1) := by decide +kernel
theorem dX12_cut_149 : decode cX12_cut 149 = .ok (.aload_n 0, 1) := by decide +kernel
theorem dX12_cut_150 : decode cX12_cut 150 = .ok (.iload_n 3, 1) := by decide +kernel
theorem dX12_cut_151 : decode cX12_cut 151 = .ok (.iload_n 1, 1) := by decide +kernel
theorem dX12_cut_152 : decode cX12_cut 152 = .ok (.iload_n 3, 1) := by decide +kernel
theorem dX12_cut_153 : decode cX12_cut 153 = .ok (.isub, 1) := by decide +kernel
theorem dX12_cut_154 : decode cX12_cut 154 = .ok (.invokevirtual 419, 3) := by decide +kernel
theorem dX12_cut_157 : decode cX12_cut 157 = .ok (.iload_n 3, 1) := by decide +kernel
theorem dX12_cut_158 : decode cX12_cut 158 = .ok (.lload 4, 2) := by decide +kernel
theorem dX12_cut_160 : decode cX12_cut 160 = .ok (.invokevirtual 415, 3) := by decide +kernel
theorem dX12_cut_163 : decode cX12_cut 163 = .ok (.goto 177, 3) := by decide +kernel
theorem dX12_cut_166 : decode cX12_cut 166 = .ok (.iload_n 2, 1) := by decide +kernel
theorem dX12_cut_167 : decode cX12_cut 167 = .ok (.invokestatic 410, 3) := by decide +kernel
theorem dX12_cut_170 : decode cX12_cut 170 = .ok (.ifCond .eq 88, 3) := by decide +kernel
theorem dX12_cut_173 : decode cX12_cut 173 = .ok (.lconst 0, 1) := by decide +kernel
theorem dX12_cut_174 : decode cX12_cut 174 = .ok (.lstore 4, 2) := by decide +kernel
theorem dX12_cut_176 : decode cX12_cut 176 = .ok (.aload_n 0, 1) := by decide +kernel
theorem dX12_cut_177 : decode cX12_cut 177 = .ok (.iload_n 1, 1) := by decide +kernel
theorem dX12_cut_178 : decode cX12_cut 178 = .ok (.invokevirtual 403, 3) := by decide +kernel
theorem dX12_cut_181 : decode cX12_cut 181 = .ok (.invokestatic 410, 3) := by decide +kernel
theorem dX12_cut_184 : decode cX12_cut 184 = .ok (.ifCond .eq 34, 3) := by decide +kernel
theorem dX12_cut_187 : decode cX12_cut 187 = .ok (.lload 4, 2) := by decide +kernel
theorem dX12_cut_189 : decode cX12_cut 189 = .ok (.ldc2_w 423, 3) := by decide +kernel
theorem dX12_cut_192 : decode cX12_cut 192 = .ok (.lmul, 1) := by decide +kernel
theorem dX12_cut_193 : decode cX12_cut 193 = .ok (.aload_n 0, 1) := by decide +kernel
theorem dX12_cut_194 : decode cX12_cut 194 = .ok (.iload_n 1, 1) := by decide +kernel
theorem dX12_cut_195 : decode cX12_cut 195 = .ok (.invokevirtual 403, 3) := by decide +kernel
theorem dX12_cut_198 : decode cX12_cut 198 = .ok (.i2l, 1) := by decide +kernel
theorem dX12_cut_199 : decode cX12_cut 199 = .ok (.ladd, 1) := by decide +kernel
theorem dX12_cut_200 : decode cX12_cut 200 = .ok (.ldc2_w 425, 3) := by decide +kernel
theorem dX12_cut_203 : decode cX12_cut 203 = .ok (.lsub, 1) := by decide +kernel
theorem dX12_cut_204 : decode cX12_cut 204 = .ok (.ldc2_w 427, 3) := by decide +kernel
theorem dX12_cut_207 : decode cX12_cut 207 = .ok (.invokestatic 429, 3) := by decide +kernel
theorem dX12_cut_210 : decode cX12_cut 210 = .ok (.lstore 4, 2) := by decide +kernel
theorem dX12_cut_212 : decode cX12_cut 212 = .ok (.iinc 1 1, 3) := by decide +kernel
theorem dX12_cut_215 : decode cX12_cut 215 = .ok (.goto (-39), 3) := by decide +kernel
theorem dX12_cut_218 : decode cX12_cut 218 = .ok (.aload_n 0, 1) := by decide +kernel
theorem dX12_cut_219 : decode cX12_cut 219 = .ok (.lload 4, 2) := by decide +kernel
theorem dX12_cut_221 : decode cX12_cut 221 = .ok (.bipush 35, 2) := by decide +kernel
theorem dX12_cut_223 : decode cX12_cut 223 = .ok (.lshr, 1) := by decide +kernel
theorem dX12_cut_224 : decode cX12_cut 224 = .ok (.lconst 0, 1) := by decide +kernel
theorem dX12_cut_225 : decode cX12_cut 225 = .ok (.lcmp, 1) := by decide +kernel
theorem dX12_cut_226 : decode cX12_cut 226 = .ok (.ifCond .eq 9, 3) := by decide +kernel
theorem dX12_cut_229 : decode cX12_cut 229 = .ok (.sipush 292, 3) := by decide +kernel
theorem dX12_cut_232 : decode cX12_cut 232 = .ok (.goto 6, 3) := by decide +kernel
theorem dX12_cut_235 : decode cX12_cut 235 = .ok (.sipush 286, 3) := by decide +kernel
theorem dX12_cut_238 : decode cX12_cut 238 = .ok (.iload_n 3, 1) := by decide +kernel
theorem dX12_cut_239 : decode cX12_cut 239 = .ok (.lload 4, 2) := by decide +kernel
theorem dX12_cut_241 : decode cX12_cut 241 = .ok (.invokevirtual 415, 3) := by decide +kernel
theorem dX12_cut_244 : decode cX12_cut 244 = .ok (.lload 4, 2) := by decide +kernel
theorem dX12_cut_246 : decode cX12_cut 246 = .ok (.bipush 35, 2) := by decide +kernel
theorem dX12_cut_248 : decode cX12_cut 248 = .ok (.lshr, 1) := by decide +kernel
theorem dX12_cut_249 : decode cX12_cut 249 = .ok (.lconst 0, 1) := by decide +kernel
theorem dX12_cut_250 : decode cX12_cut 250 = .ok (.lcmp, 1) := by decide +kernel
theorem dX12_cut_251 : decode cX12_cut 251 = .ok (.ifCond .eq 4, 3) := by decide +kernel
theorem dX12_cut_254 : decode cX12_cut 254 = .ok (.return_, 1) := by decide +kernel
theorem dX12_cut_255 : decode cX12_cut 255 = .ok (.goto 85, 3) := by decide +kernel
theorem dX12_cut_258 : decode cX12_cut 258 = .ok (.iload_n 2, 1) := by decide +kernel
theorem dX12_cut_259 : decode cX12_cut 259 = .ok (.aload_n 0, 1) := by decide +kernel
theorem dX12_cut_260 : decode cX12_cut 260 = .ok (.iload_n 1, 1) := by decide +kernel
theorem dX12_cut_261 : decode cX12_cut 261 = .ok (.iconst 1, 1) := by decide +kernel
theorem dX12_cut_262 : decode cX12_cut 262 = .ok (.iadd, 1) := by decide +kernel
theorem dX12_cut_263 : decode cX12_cut 263 = .ok (.invokevirtual 403, 3) := by decide +kernel
theorem dX12_cut_266 : decode cX12_cut 266 = .ok (.invokestatic 435, 3) := by decide +kernel
theorem dX12_cut_269 : decode cX12_cut 269 = .ok (.istore 4, 2) := by decide +kernel
theorem dX12_cut_271 : decode cX12_cut 271 = .ok (.ldc_w 438, 3) := by decide +kernel
theorem dX12_cut_274 : decode cX12_cut 274 = .ok (.iload_n 2, 1) := by decide +kernel
theorem dX12_cut_275 : decode cX12_cut 275 = .ok (.invokevirtual 440, 3) := by decide +kernel
theorem dX12_cut_278 : decode cX12_cut 278 = .ok (.ifCond .lt 7, 3) := by decide +kernel
theorem dX12_cut_281 : decode cX12_cut 281 = .ok (.iconst 1, 1) := by decide +kernel
theorem dX12_cut_282 : decode cX12_cut 282 = .ok (.goto 4, 3) := by decide +kernel
theorem dX12_cut_285 : decode cX12_cut 285 = .ok (.iconst 0, 1) := by decide +kernel
theorem dX12_cut_286 : decode cX12_cut 286 = .ok (.istore 5, 2) := by decide +kernel
theorem dX12_cut_288 : decode cX12_cut 288 = .ok (.aload_n 0, 1) := by decide +kernel
theorem dX12_cut_289 : decode cX12_cut 289 = .ok (.iload 4, 2) := by decide +kernel
theorem dX12_cut_291 : decode cX12_cut 291 = .ok (.ifCond .eq 8, 3) := by decide +kernel
theorem dX12_cut_294 : decode cX12_cut 294 = .ok (.iload 4, 2) := by decide +kernel
theorem dX12_cut_296 : decode cX12_cut 296 = .ok (.goto 15, 3) := by decide +kernel
theorem dX12_cut_299 : decode cX12_cut 299 = .ok (.iload 5, 2) := by decide +kernel
theorem dX12_cut_301 : decode cX12_cut 301 = .ok (.ifCond .eq 7, 3) := by decide +kernel
theorem dX12_cut_304 : decode cX12_cut 304 = .ok (.iload_n 2, 1) := by decide +kernel
theorem dX12_cut_305 : decode cX12_cut 305 = .ok (.goto 6, 3) := by decide +kernel
theorem dX12_cut_308 : decode cX12_cut 308 = .ok (.sipush 292, 3) := by decide +kernel
theorem dX12_cut_311 : decode cX12_cut 311 = .ok (.iload_n 3, 1) := by decide +kernel
theorem dX12_cut_312 : decode cX12_cut 312 = .ok (.lconst 0, 1) := by decide +kernel
theorem dX12_cut_313 : decode cX12_cut 313 = .ok (.invokevirtual 415, 3) := by decide +kernel
theorem dX12_cut_316 : decode cX12_cut 316 = .ok (.iload 4, 2) := by decide +kernel
theorem dX12_cut_318 : decode cX12_cut 318 = .ok (.ifCond .ne 9, 3) := by decide +kernel
theorem dX12_cut_321 : decode cX12_cut 321 = .ok (.iload 5, 2) := by decide +kernel
theorem dX12_cut_323 : decode cX12_cut 323 = .ok (.ifCond .ne 4, 3) := by decide +kernel
theorem dX12_cut_326 : decode cX12_cut 326 = .ok (.return_, 1) := by decide +kernel
theorem dX12_cut_327 : decode cX12_cut 327 = .ok (.iload_n 1, 1) := by decide +kernel
theorem dX12_cut_328 : decode cX12_cut 328 = .ok (.iload 4, 2) := by decide +kernel
theorem dX12_cut_330 : decode cX12_cut 330 = .ok (.ifCond .eq 7, 3) := by decide +kernel
theorem dX12_cut_333 : decode cX12_cut 333 = .ok (.iconst 2, 1) := by decide +kernel
theorem dX12_cut_334 : decode cX12_cut 334 = .ok (.goto 4, 3) := by decide +kernel
theorem dX12_cut_337 : decode cX12_cut 337 = .ok (.iconst 1, 1) := by decide +kernel
theorem dX12_cut_338 : decode cX12_cut 338 = .ok (.iadd, 1) := by decide +kernel
theorem dX12_cut_339 : decode cX12_cut 339 = .ok (.istore_n 1, 1) := by decide +kernel
theorem dX12_cut_340 : decode cX12_cut 340 = .ok (.goto (-333), 3) := by decide +kernel
theorem dX12_cut_343 : decode cX12_cut 343 = .ok (.aload_n 0, 1) := by decide +kernel
theorem dX12_cut_344 : decode cX12_cut 344 = .ok (.sipush 291, 3) := by decide +kernel
theorem dX12_cut_347 : decode cX12_cut 347 = .ok (.aload_n 0, 1) := by decide +kernel
theorem dX12_cut_348 : decode cX12_cut 348 = .ok (.getfield 381, 3) := by decide +kernel
theorem dX12_cut_351 : decode cX12_cut 351 = .ok (.lconst 0, 1) := by decide +kernel
theorem dX12_cut_352 : decode cX12_cut 352 = .ok (.invokevirtual 415, 3) := by decide +kernel
theorem dX12_cut_355 : decode cX12_cut 355 = .ok (.return_, 1) := by decide +kernel
def fX12_cut_327 (k_7 : Int32 → Wd → Option Wd) (a1 : Int32) (a4 : Int32) (w : Wd) : Option Wd :=
  if a4 = 0 then (lt ((a1 + 1)) fun x2 => k_7 x2 w) else (lt ((a1 + 2)) fun x3 => k_7 x3 w)
theorem pX12_cut_327 {q : Gq} {l : Launch} {N : Option Value → Wd → Prop} {X : String → Wd → Prop} (hz : SGM q l) {w : Wd} {R : Wd} (hN : N none R) {k_7 : Int32 → Wd → Option Wd} (hk_7 : ∀ (a1 : Int32) (w : Wd), k_7 a1 w = some R → RT (GM q) l 11 yX12_cut cX12_cut 7 (none) N X 7 [] [(0, .ref 0), (1, .int a1)] w) {a1 : Int32} {a4 : Int32} (h : fX12_cut_327 k_7 a1 a4 w = some R) : RT (GM q) l 11 yX12_cut cX12_cut 7 (none) N X 327 [] [(0, .ref 0), (1, .int a1), (4, .int a4)] w := by
  unfold fX12_cut_327 at h
  refine r_iload_n (pc := 327) dX12_cut_327 rfl 1 rfl ?_
  refine r_iload (pc := 328) dX12_cut_328 2 rfl ?_
  refine r_if_eq (pc := 330) dX12_cut_330 rfl (fun hc1 => ?_) (fun hc1 => ?_)
  · replace h := if_t hc1 h
    refine r_iconst (pc := 337) dX12_cut_337 ki_1 ?_
    refine r_iadd (pc := 338) dX12_cut_338 ?_
    replace h := lt_e h; obtain ⟨x2, ex2, h⟩ := h
    refine r_topi ex2 ?_
    refine r_istore_n (pc := 339) (loc' := [(1, .int x2), (0, .ref 0), (4, .int a4)]) dX12_cut_339 rfl (Nat.le_of_ble_eq_true rfl) rfl ?_
    refine r_goto (pc := 340) dX12_cut_340 rfl ?_
    refine r_drop (loc' := [(0, .ref 0), (1, .int x2)]) [1, 0] rfl ?_
    exact hk_7 x2 w h
  replace h := if_f hc1 h
  refine r_iconst (pc := 333) dX12_cut_333 ki_2 ?_
  refine r_goto (pc := 334) dX12_cut_334 rfl ?_
  refine r_iadd (pc := 338) dX12_cut_338 ?_
  replace h := lt_e h; obtain ⟨x3, ex3, h⟩ := h
  refine r_topi ex3 ?_
  refine r_istore_n (pc := 339) (loc' := [(1, .int x3), (0, .ref 0), (4, .int a4)]) dX12_cut_339 rfl (Nat.le_of_ble_eq_true rfl) rfl ?_
  refine r_goto (pc := 340) dX12_cut_340 rfl ?_
  refine r_drop (loc' := [(0, .ref 0), (1, .int x3)]) [1, 0] rfl ?_
  exact hk_7 x3 w h
def fX12_cut_311 (k_7 : Int32 → Wd → Option Wd) (s1 : Int32) (a1 : Int32) (a3 : Int32) (a4 : Int32) (a5 : Bool) (w : Wd) : Option Wd :=
  bn (fX12_token s1 a3 0 w) fun w1 => if a4 = 0 then (if a5 = true then (fX12_cut_327 k_7 a1 a4 w1) else (some w1)) else (fX12_cut_327 k_7 a1 a4 w1)
theorem pX12_cut_311 {q : Gq} {l : Launch} {N : Option Value → Wd → Prop} {X : String → Wd → Prop} (hz : SGM q l) {w : Wd} {R : Wd} (hN : N none R) {k_7 : Int32 → Wd → Option Wd} (hk_7 : ∀ (a1 : Int32) (w : Wd), k_7 a1 w = some R → RT (GM q) l 11 yX12_cut cX12_cut 7 (none) N X 7 [] [(0, .ref 0), (1, .int a1)] w) {s1 : Int32} {a1 : Int32} {a3 : Int32} {a4 : Int32} {a5 : Bool} (h : fX12_cut_311 k_7 s1 a1 a3 a4 a5 w = some R) : RT (GM q) l 11 yX12_cut cX12_cut 7 (none) N X 311 [.int s1, .ref 0] [(0, .ref 0), (1, .int a1), (3, .int a3), (4, .int a4), (5, .int (b2i a5))] w := by
  unfold fX12_cut_311 at h
  refine r_iload_n (pc := 311) dX12_cut_311 rfl 2 rfl ?_
  refine r_lconst (pc := 312) dX12_cut_312 kl_0 ?_
  replace h := bn_e h; obtain ⟨w1, ew1, h⟩ := h
  refine r_cVv (pc := 313) wyX12_token oM0 rfl mlRX12_415 iyX12_token syX12_token ⟨(Nat.le_of_ble_eq_true rfl), (Nat.le_of_ble_eq_true rfl)⟩ rfl rfl (Nat.le_of_ble_eq_true rfl) dX12_cut_313 (mX12_token ew1 (pV.mk ?_))
  refine r_iload (pc := 316) dX12_cut_316 3 rfl ?_
  refine r_if_ne (pc := 318) dX12_cut_318 rfl (fun hc2 => ?_) (fun hc2 => ?_)
  · replace h := if_f hc2 h
    refine r_drop (loc' := [(0, .ref 0), (1, .int a1), (4, .int a4)]) [0, 1, 3] rfl ?_
    exact pX12_cut_327 hz hN hk_7 h
  replace h := if_t hc2 h
  refine r_iload (pc := 321) dX12_cut_321 4 rfl ?_
  refine r_z_ne (pc := 323) dX12_cut_323 rfl (fun hc3 => ?_) (fun hc3 => ?_)
  · replace h := if_t hc3 h
    refine r_drop (loc' := [(0, .ref 0), (1, .int a1), (4, .int a4)]) [0, 1, 3] rfl ?_
    exact pX12_cut_327 hz hN hk_7 h
  replace h := if_f hc3 h
  exact rO_v (pc := 326) rfl dX12_cut_326 h hN
def fX12_cut_286 (k_7 : Int32 → Wd → Option Wd) (s0 : Bool) (a1 : Int32) (a2 : Int32) (a3 : Int32) (a4 : Int32) (w : Wd) : Option Wd :=
  if a4 = 0 then (if s0 = true then (fX12_cut_311 k_7 a2 a1 a3 a4 s0 w) else (fX12_cut_311 k_7 292 a1 a3 a4 s0 w)) else (fX12_cut_311 k_7 a4 a1 a3 a4 s0 w)
theorem pX12_cut_286 {q : Gq} {l : Launch} {N : Option Value → Wd → Prop} {X : String → Wd → Prop} (hz : SGM q l) {w : Wd} {R : Wd} (hN : N none R) {k_7 : Int32 → Wd → Option Wd} (hk_7 : ∀ (a1 : Int32) (w : Wd), k_7 a1 w = some R → RT (GM q) l 11 yX12_cut cX12_cut 7 (none) N X 7 [] [(0, .ref 0), (1, .int a1)] w) {s0 : Bool} {a1 : Int32} {a2 : Int32} {a3 : Int32} {a4 : Int32} (h : fX12_cut_286 k_7 s0 a1 a2 a3 a4 w = some R) : RT (GM q) l 11 yX12_cut cX12_cut 7 (none) N X 286 [.int (b2i s0)] [(0, .ref 0), (1, .int a1), (2, .int a2), (3, .int a3), (4, .int a4)] w := by
  unfold fX12_cut_286 at h
  refine r_istore (pc := 286) (loc' := [(5, .int (b2i s0)), (0, .ref 0), (1, .int a1), (2, .int a2), (3, .int a3), (4, .int a4)]) dX12_cut_286 (Nat.le_of_ble_eq_true rfl) rfl ?_
  refine r_aload_n (pc := 288) dX12_cut_288 rfl 1 rfl ?_
  refine r_iload (pc := 289) dX12_cut_289 5 rfl ?_
  refine r_if_eq (pc := 291) dX12_cut_291 rfl (fun hc1 => ?_) (fun hc1 => ?_)
  · replace h := if_t hc1 h
    refine r_iload (pc := 299) dX12_cut_299 0 rfl ?_
    refine r_z_eq (pc := 301) dX12_cut_301 rfl (fun hc2 => ?_) (fun hc2 => ?_)
    · replace h := if_f hc2 h
      refine r_sipush (pc := 308) dX12_cut_308 ks_292 ?_
      refine r_drop (loc' := [(0, .ref 0), (1, .int a1), (3, .int a3), (4, .int a4), (5, .int (b2i s0))]) [1, 2, 4, 5, 0] rfl ?_
      exact pX12_cut_311 hz hN hk_7 h
    replace h := if_t hc2 h
    refine r_iload_n (pc := 304) dX12_cut_304 rfl 3 rfl ?_
    refine r_goto (pc := 305) dX12_cut_305 rfl ?_
    refine r_drop (loc' := [(0, .ref 0), (1, .int a1), (3, .int a3), (4, .int a4), (5, .int (b2i s0))]) [1, 2, 4, 5, 0] rfl ?_
    exact pX12_cut_311 hz hN hk_7 h
  replace h := if_f hc1 h
  refine r_iload (pc := 294) dX12_cut_294 5 rfl ?_
  refine r_goto (pc := 296) dX12_cut_296 rfl ?_
  refine r_drop (loc' := [(0, .ref 0), (1, .int a1), (3, .int a3), (4, .int a4), (5, .int (b2i s0))]) [1, 2, 4, 5, 0] rfl ?_
  exact pX12_cut_311 hz hN hk_7 h
def fX12_cut_238 (k_7 : Int32 → Wd → Option Wd) (s1 : Int32) (a1 : Int32) (a3 : Int32) (a4 : Int64) (w : Wd) : Option Wd :=
  bn (fX12_token s1 a3 a4 w) fun w1 => if (a4 >>> (Int32.toInt64 35 &&& 63)) = 0 then (k_7 a1 w1) else (some w1)
theorem pX12_cut_238 {q : Gq} {l : Launch} {N : Option Value → Wd → Prop} {X : String → Wd → Prop} (hz : SGM q l) {w : Wd} {R : Wd} (hN : N none R) {k_7 : Int32 → Wd → Option Wd} (hk_7 : ∀ (a1 : Int32) (w : Wd), k_7 a1 w = some R → RT (GM q) l 11 yX12_cut cX12_cut 7 (none) N X 7 [] [(0, .ref 0), (1, .int a1)] w) {s1 : Int32} {a1 : Int32} {a3 : Int32} {a4 : Int64} (h : fX12_cut_238 k_7 s1 a1 a3 a4 w = some R) : RT (GM q) l 11 yX12_cut cX12_cut 7 (none) N X 238 [.int s1, .ref 0] [(0, .ref 0), (1, .int a1), (3, .int a3), (4, .long a4)] w := by
  unfold fX12_cut_238 at h
  refine r_iload_n (pc := 238) dX12_cut_238 rfl 2 rfl ?_
  refine r_lload (pc := 239) dX12_cut_239 3 rfl ?_
  replace h := bn_e h; obtain ⟨w1, ew1, h⟩ := h
  refine r_cVv (pc := 241) wyX12_token oM0 rfl mlRX12_415 iyX12_token syX12_token ⟨(Nat.le_of_ble_eq_true rfl), (Nat.le_of_ble_eq_true rfl)⟩ rfl rfl (Nat.le_of_ble_eq_true rfl) dX12_cut_241 (mX12_token ew1 (pV.mk ?_))
  refine r_lload (pc := 244) dX12_cut_244 3 rfl ?_
  refine r_bipush (pc := 246) dX12_cut_246 kb_35 ?_
  refine r_lshr (pc := 248) dX12_cut_248 ?_
  refine r_lconst (pc := 249) dX12_cut_249 kl_0 ?_
  refine r_l_eq (pc := 250) dX12_cut_250 dX12_cut_251 rfl (fun hc2 => ?_) (fun hc2 => ?_)
  · replace h := if_t hc2 h
    refine r_goto (pc := 255) dX12_cut_255 rfl ?_
    refine r_goto (pc := 340) dX12_cut_340 rfl ?_
    refine r_drop (loc' := [(0, .ref 0), (1, .int a1)]) [0, 1] rfl ?_
    exact hk_7 a1 w1 h
  replace h := if_f hc2 h
  exact rO_v (pc := 254) rfl dX12_cut_254 h hN
def fX12_cut_176 (k_7 : Int32 → Wd → Option Wd) (k_176 : Int32 → Int32 → Int64 → Wd → Option Wd) (a1 : Int32) (a3 : Int32) (a4 : Int64) (w : Wd) : Option Wd :=
  bn2 (fX12_look a1 w) fun x1 w2 => lt (fX12_digit x1 w2) fun x3 => if x3 = true then (bn2 (fX12_look a1 w2) fun x5 w6 => lt (fJ9_min_f86c9 (((a4 * 10) + (Int32.toInt64 x5)) - 48) 1099511627776) fun x7 => lt (a1 + 1) fun x8 => k_176 x8 a3 x7 w6) else (if (a4 >>> (Int32.toInt64 35 &&& 63)) = 0 then (fX12_cut_238 k_7 286 a1 a3 a4 w2) else (fX12_cut_238 k_7 292 a1 a3 a4 w2))
theorem pX12_cut_176 {q : Gq} {l : Launch} {N : Option Value → Wd → Prop} {X : String → Wd → Prop} (hz : SGM q l) {w : Wd} {R : Wd} (hN : N none R) {k_7 : Int32 → Wd → Option Wd} {k_176 : Int32 → Int32 → Int64 → Wd → Option Wd} (hk_7 : ∀ (a1 : Int32) (w : Wd), k_7 a1 w = some R → RT (GM q) l 11 yX12_cut cX12_cut 7 (none) N X 7 [] [(0, .ref 0), (1, .int a1)] w) (hk_176 : ∀ (a1 : Int32) (a3 : Int32) (a4 : Int64) (w : Wd), k_176 a1 a3 a4 w = some R → RT (GM q) l 11 yX12_cut cX12_cut 7 (none) N X 176 [] [(0, .ref 0), (1, .int a1), (3, .int a3), (4, .long a4)] w) {a1 : Int32} {a3 : Int32} {a4 : Int64} (h : fX12_cut_176 k_7 k_176 a1 a3 a4 w = some R) : RT (GM q) l 11 yX12_cut cX12_cut 7 (none) N X 176 [] [(0, .ref 0), (1, .int a1), (3, .int a3), (4, .long a4)] w := by
  unfold fX12_cut_176 at h
  refine r_aload_n (pc := 176) dX12_cut_176 rfl 0 rfl ?_
  refine r_iload_n (pc := 177) dX12_cut_177 rfl 1 rfl ?_
  replace h := bn2_e h; obtain ⟨x1, w2, ew2, h⟩ := h
  refine r_cVi (pc := 178) wyX12_look oM0 rfl mlRX12_403 iyX12_look syX12_look ⟨(Nat.le_of_ble_eq_true rfl), (Nat.le_of_ble_eq_true rfl)⟩ rfl rfl (Nat.le_of_ble_eq_true rfl) dX12_cut_178 (mX12_look ew2 (pI.mk ?_))
  replace h := lt_e h; obtain ⟨x3, ex3, h⟩ := h
  refine r_cSi (pc := 181) wyX12_digit mlRX12_410 tyX12_digit ⟨(Nat.le_of_ble_eq_true rfl), (Nat.le_of_ble_eq_true rfl)⟩ rfl rfl (Nat.le_of_ble_eq_true rfl) dX12_cut_181 (mX12_digit ex3 (pI.mk ?_))
  refine r_z_eq (pc := 184) dX12_cut_184 rfl (fun hc4 => ?_) (fun hc4 => ?_)
  · replace h := if_f hc4 h
    refine r_aload_n (pc := 218) dX12_cut_218 rfl 0 rfl ?_
    refine r_lload (pc := 219) dX12_cut_219 3 rfl ?_
    refine r_bipush (pc := 221) dX12_cut_221 kb_35 ?_
    refine r_lshr (pc := 223) dX12_cut_223 ?_
    refine r_lconst (pc := 224) dX12_cut_224 kl_0 ?_
    refine r_l_eq (pc := 225) dX12_cut_225 dX12_cut_226 rfl (fun hc9 => ?_) (fun hc9 => ?_)
    · replace h := if_t hc9 h
      refine r_sipush (pc := 235) dX12_cut_235 ks_286 ?_
      exact pX12_cut_238 hz hN hk_7 h
    replace h := if_f hc9 h
    refine r_sipush (pc := 229) dX12_cut_229 ks_292 ?_
    refine r_goto (pc := 232) dX12_cut_232 rfl ?_
    exact pX12_cut_238 hz hN hk_7 h
  replace h := if_t hc4 h
  refine r_lload (pc := 187) dX12_cut_187 3 rfl ?_
  refine r_ldc2 (pc := 189) dX12_cut_189 kcRX12_423 ?_
  refine r_lmul (pc := 192) dX12_cut_192 ?_
  refine r_aload_n (pc := 193) dX12_cut_193 rfl 0 rfl ?_
  refine r_iload_n (pc := 194) dX12_cut_194 rfl 1 rfl ?_
  replace h := bn2_e h; obtain ⟨x5, w6, ew6, h⟩ := h
  refine r_cVi (pc := 195) wyX12_look oM0 rfl mlRX12_403 iyX12_look syX12_look ⟨(Nat.le_of_ble_eq_true rfl), (Nat.le_of_ble_eq_true rfl)⟩ rfl rfl (Nat.le_of_ble_eq_true rfl) dX12_cut_195 (mX12_look ew6 (pI.mk ?_))
  refine r_i2l (pc := 198) dX12_cut_198 ?_
  refine r_ladd (pc := 199) dX12_cut_199 ?_
  refine r_ldc2 (pc := 200) dX12_cut_200 kcRX12_425 ?_
  refine r_lsub (pc := 203) dX12_cut_203 ?_
  refine r_ldc2 (pc := 204) dX12_cut_204 kcRX12_427 ?_
  replace h := lt_e h; obtain ⟨x7, ex7, h⟩ := h
  refine r_cSl (pc := 207) wyJ9_min_f86c9 mlRX12_429 tyJ9_min_f86c9 ⟨(Nat.le_of_ble_eq_true rfl), (Nat.le_of_ble_eq_true rfl)⟩ rfl rfl (Nat.le_of_ble_eq_true rfl) dX12_cut_207 (mJ9_min_f86c9 ex7 (pL.mk ?_))
  refine r_lstore (pc := 210) (loc' := [(4, .long x7), (0, .ref 0), (1, .int a1), (3, .int a3)]) dX12_cut_210 (Nat.le_of_ble_eq_true rfl) rfl ?_
  replace h := lt_e h; obtain ⟨x8, ex8, h⟩ := h
  refine r_inc (pc := 212) (loc' := [(1, .int x8), (4, .long x7), (0, .ref 0), (3, .int a3)]) dX12_cut_212 ki_1 ex8 2 rfl (Nat.le_of_ble_eq_true rfl) rfl ?_
  refine r_goto (pc := 215) dX12_cut_215 rfl ?_
  refine r_drop (loc' := [(0, .ref 0), (1, .int x8), (3, .int a3), (4, .long x7)]) [2, 0, 3, 1] rfl ?_
  exact hk_176 x8 a3 x7 w6 h
def oX12_cut_176 (k_7 : Int32 → Wd → Option Wd) : Nat → Int32 → Int32 → Int64 → Wd → Option Wd
  | 0 => fun _ _ _ _ => none
  | n + 1 => fX12_cut_176 k_7 (oX12_cut_176 k_7 n)
theorem qX12_cut_176 {q : Gq} {l : Launch} {N : Option Value → Wd → Prop} {X : String → Wd → Prop} (hz : SGM q l) {R : Wd} (hN : N none R) {k_7 : Int32 → Wd → Option Wd} (hk_7 : ∀ (a1 : Int32) (w : Wd), k_7 a1 w = some R → RT (GM q) l 11 yX12_cut cX12_cut 7 (none) N X 7 [] [(0, .ref 0), (1, .int a1)] w) : ∀ (n : Nat) (a1 : Int32) (a3 : Int32) (a4 : Int64) (w : Wd), oX12_cut_176 k_7 n a1 a3 a4 w = some R → RT (GM q) l 11 yX12_cut cX12_cut 7 (none) N X 176 [] [(0, .ref 0), (1, .int a1), (3, .int a3), (4, .long a4)] w := by
  intro n
  induction n with
  | zero =>
    intro a1 a3 a4 w h
    exact absurd h (fun q => nomatch q)
  | succ n ih =>
    intro a1 a3 a4 w h
    exact pX12_cut_176 hz hN hk_7 ih h
def fX12_cut_73 (k_7 : Int32 → Wd → Option Wd) (k_51 : Int32 → Int32 → Int64 → Wd → Option Wd) (a1 : Int32) (a3 : Int32) (a4 : Int64) (w : Wd) : Option Wd :=
  bn2 (fX12_look a1 w) fun x1 w2 => if 10 ≤ (a1 - a3) then (lt (a1 + 1) fun x4 => k_51 x4 a3 a4 w2) else (lt (fX12_letter x1 w2) fun x5 => if x5 = true then (lt (((a4 * 37) + (Int32.toInt64 ((x1 - 97) + 1)))) fun x7 => lt (a1 + 1) fun x8 => k_51 x8 a3 x7 w2) else (lt (((a4 * 37) + (Int32.toInt64 ((x1 - 48) + 27)))) fun x9 => lt (a1 + 1) fun x10 => k_51 x10 a3 x9 w2))
theorem pX12_cut_73 {q : Gq} {l : Launch} {N : Option Value → Wd → Prop} {X : String → Wd → Prop} (hz : SGM q l) {w : Wd} {R : Wd} (hN : N none R) {k_7 : Int32 → Wd → Option Wd} {k_51 : Int32 → Int32 → Int64 → Wd → Option Wd} (hk_7 : ∀ (a1 : Int32) (w : Wd), k_7 a1 w = some R → RT (GM q) l 11 yX12_cut cX12_cut 7 (none) N X 7 [] [(0, .ref 0), (1, .int a1)] w) (hk_51 : ∀ (a1 : Int32) (a3 : Int32) (a4 : Int64) (w : Wd), k_51 a1 a3 a4 w = some R → RT (GM q) l 11 yX12_cut cX12_cut 7 (none) N X 51 [] [(0, .ref 0), (1, .int a1), (3, .int a3), (4, .long a4)] w) {a1 : Int32} {a3 : Int32} {a4 : Int64} (h : fX12_cut_73 k_7 k_51 a1 a3 a4 w = some R) : RT (GM q) l 11 yX12_cut cX12_cut 7 (none) N X 73 [] [(0, .ref 0), (1, .int a1), (3, .int a3), (4, .long a4)] w := by
  unfold fX12_cut_73 at h
  refine r_aload_n (pc := 73) dX12_cut_73 rfl 0 rfl ?_
  refine r_iload_n (pc := 74) dX12_cut_74 rfl 1 rfl ?_
  replace h := bn2_e h; obtain ⟨x1, w2, ew2, h⟩ := h
  refine r_cVi (pc := 75) wyX12_look oM0 rfl mlRX12_403 iyX12_look syX12_look ⟨(Nat.le_of_ble_eq_true rfl), (Nat.le_of_ble_eq_true rfl)⟩ rfl rfl (Nat.le_of_ble_eq_true rfl) dX12_cut_75 (mX12_look ew2 (pI.mk ?_))
  refine r_istore (pc := 78) (loc' := [(6, .int x1), (0, .ref 0), (1, .int a1), (3, .int a3), (4, .long a4)]) dX12_cut_78 (Nat.le_of_ble_eq_true rfl) rfl ?_
  refine r_iload_n (pc := 80) dX12_cut_80 rfl 2 rfl ?_
  refine r_iload_n (pc := 81) dX12_cut_81 rfl 3 rfl ?_
  refine r_isub (pc := 82) dX12_cut_82 ?_
  refine r_bipush (pc := 83) dX12_cut_83 kb_10 ?_
  refine r_icmp_ge (pc := 85) dX12_cut_85 rfl (fun hc3 => ?_) (fun hc3 => ?_)
  · replace h := if_t hc3 h
    replace h := lt_e h; obtain ⟨x4, ex4, h⟩ := h
    refine r_inc (pc := 124) (loc' := [(1, .int x4), (6, .int x1), (0, .ref 0), (3, .int a3), (4, .long a4)]) dX12_cut_124 ki_1 ex4 2 rfl (Nat.le_of_ble_eq_true rfl) rfl ?_
    refine r_goto (pc := 127) dX12_cut_127 rfl ?_
    refine r_drop (loc' := [(0, .ref 0), (1, .int x4), (3, .int a3), (4, .long a4)]) [2, 0, 3, 4] rfl ?_
    exact hk_51 x4 a3 a4 w2 h
  replace h := if_f hc3 h
  refine r_lload (pc := 88) dX12_cut_88 4 rfl ?_
  refine r_ldc2 (pc := 90) dX12_cut_90 kcRX12_413 ?_
  refine r_lmul (pc := 93) dX12_cut_93 ?_
  refine r_iload (pc := 94) dX12_cut_94 0 rfl ?_
  replace h := lt_e h; obtain ⟨x5, ex5, h⟩ := h
  refine r_cSi (pc := 96) wyX12_letter mlRX12_406 tyX12_letter ⟨(Nat.le_of_ble_eq_true rfl), (Nat.le_of_ble_eq_true rfl)⟩ rfl rfl (Nat.le_of_ble_eq_true rfl) dX12_cut_96 (mX12_letter ex5 (pI.mk ?_))
  refine r_z_eq (pc := 99) dX12_cut_99 rfl (fun hc6 => ?_) (fun hc6 => ?_)
  · replace h := if_f hc6 h
    refine r_iload (pc := 112) dX12_cut_112 0 rfl ?_
    refine r_bipush (pc := 114) dX12_cut_114 kb_48 ?_
    refine r_isub (pc := 116) dX12_cut_116 ?_
    refine r_bipush (pc := 117) dX12_cut_117 kb_27 ?_
    refine r_iadd (pc := 119) dX12_cut_119 ?_
    refine r_i2l (pc := 120) dX12_cut_120 ?_
    refine r_ladd (pc := 121) dX12_cut_121 ?_
    replace h := lt_e h; obtain ⟨x9, ex9, h⟩ := h
    refine r_topl ex9 ?_
    refine r_lstore (pc := 122) (loc' := [(4, .long x9), (6, .int x1), (0, .ref 0), (1, .int a1), (3, .int a3)]) dX12_cut_122 (Nat.le_of_ble_eq_true rfl) rfl ?_
    replace h := lt_e h; obtain ⟨x10, ex10, h⟩ := h
    refine r_inc (pc := 124) (loc' := [(1, .int x10), (4, .long x9), (6, .int x1), (0, .ref 0), (3, .int a3)]) dX12_cut_124 ki_1 ex10 3 rfl (Nat.le_of_ble_eq_true rfl) rfl ?_
    refine r_goto (pc := 127) dX12_cut_127 rfl ?_
    refine r_drop (loc' := [(0, .ref 0), (1, .int x10), (3, .int a3), (4, .long x9)]) [3, 0, 4, 1] rfl ?_
    exact hk_51 x10 a3 x9 w2 h
  replace h := if_t hc6 h
  refine r_iload (pc := 102) dX12_cut_102 0 rfl ?_
  refine r_bipush (pc := 104) dX12_cut_104 kb_97 ?_
  refine r_isub (pc := 106) dX12_cut_106 ?_
  refine r_iconst (pc := 107) dX12_cut_107 ki_1 ?_
  refine r_iadd (pc := 108) dX12_cut_108 ?_
  refine r_goto (pc := 109) dX12_cut_109 rfl ?_
  refine r_i2l (pc := 120) dX12_cut_120 ?_
  refine r_ladd (pc := 121) dX12_cut_121 ?_
  replace h := lt_e h; obtain ⟨x7, ex7, h⟩ := h
  refine r_topl ex7 ?_
  refine r_lstore (pc := 122) (loc' := [(4, .long x7), (6, .int x1), (0, .ref 0), (1, .int a1), (3, .int a3)]) dX12_cut_122 (Nat.le_of_ble_eq_true rfl) rfl ?_
  replace h := lt_e h; obtain ⟨x8, ex8, h⟩ := h
  refine r_inc (pc := 124) (loc' := [(1, .int x8), (4, .long x7), (6, .int x1), (0, .ref 0), (3, .int a3)]) dX12_cut_124 ki_1 ex8 3 rfl (Nat.le_of_ble_eq_true rfl) rfl ?_
  refine r_goto (pc := 127) dX12_cut_127 rfl ?_
  refine r_drop (loc' := [(0, .ref 0), (1, .int x8), (3, .int a3), (4, .long x7)]) [3, 0, 4, 1] rfl ?_
  exact hk_51 x8 a3 x7 w2 h
def fX12_cut_51 (k_7 : Int32 → Wd → Option Wd) (k_51 : Int32 → Int32 → Int64 → Wd → Option Wd) (a1 : Int32) (a3 : Int32) (a4 : Int64) (w : Wd) : Option Wd :=
  bn2 (fX12_look a1 w) fun x1 w2 => lt (fX12_letter x1 w2) fun x3 => if x3 = true then (fX12_cut_73 k_7 k_51 a1 a3 a4 w2) else (bn2 (fX12_look a1 w2) fun x5 w6 => lt (fX12_digit x5 w6) fun x7 => if x7 = true then (fX12_cut_73 k_7 k_51 a1 a3 a4 w6) else (if (a1 - a3) ≤ 10 then (bn2 (fX12_word a3 (a1 - a3) w6) fun x10 w11 => bn (fX12_token x10 a3 a4 w11) fun w12 => k_7 a1 w12) else (bn (fX12_token 292 a3 0 w6) fun w13 => some w13)))
theorem pX12_cut_51 {q : Gq} {l : Launch} {N : Option Value → Wd → Prop} {X : String → Wd → Prop} (hz : SGM q l) {w : Wd} {R : Wd} (hN : N none R) {k_7 : Int32 → Wd → Option Wd} {k_51 : Int32 → Int32 → Int64 → Wd → Option Wd} (hk_7 : ∀ (a1 : Int32) (w : Wd), k_7 a1 w = some R → RT (GM q) l 11 yX12_cut cX12_cut 7 (none) N X 7 [] [(0, .ref 0), (1, .int a1)] w) (hk_51 : ∀ (a1 : Int32) (a3 : Int32) (a4 : Int64) (w : Wd), k_51 a1 a3 a4 w = some R → RT (GM q) l 11 yX12_cut cX12_cut 7 (none) N X 51 [] [(0, .ref 0), (1, .int a1), (3, .int a3), (4, .long a4)] w) {a1 : Int32} {a3 : Int32} {a4 : Int64} (h : fX12_cut_51 k_7 k_51 a1 a3 a4 w = some R) : RT (GM q) l 11 yX12_cut cX12_cut 7 (none) N X 51 [] [(0, .ref 0), (1, .int a1), (3, .int a3), (4, .long a4)] w := by
  unfold fX12_cut_51 at h
  refine r_aload_n (pc := 51) dX12_cut_51 rfl 0 rfl ?_
  refine r_iload_n (pc := 52) dX12_cut_52 rfl 1 rfl ?_
  replace h := bn2_e h; obtain ⟨x1, w2, ew2, h⟩ := h
  refine r_cVi (pc := 53) wyX12_look oM0 rfl mlRX12_403 iyX12_look syX12_look ⟨(Nat.le_of_ble_eq_true rfl), (Nat.le_of_ble_eq_true rfl)⟩ rfl rfl (Nat.le_of_ble_eq_true rfl) dX12_cut_53 (mX12_look ew2 (pI.mk ?_))
  replace h := lt_e h; obtain ⟨x3, ex3, h⟩ := h
  refine r_cSi (pc := 56) wyX12_letter mlRX12_406 tyX12_letter ⟨(Nat.le_of_ble_eq_true rfl), (Nat.le_of_ble_eq_true rfl)⟩ rfl rfl (Nat.le_of_ble_eq_true rfl) dX12_cut_56 (mX12_letter ex3 (pI.mk ?_))
  refine r_z_ne (pc := 59) dX12_cut_59 rfl (fun hc4 => ?_) (fun hc4 => ?_)
  · replace h := if_t hc4 h
    exact pX12_cut_73 hz hN hk_7 hk_51 h
  replace h := if_f hc4 h
  refine r_aload_n (pc := 62) dX12_cut_62 rfl 0 rfl ?_
  refine r_iload_n (pc := 63) dX12_cut_63 rfl 1 rfl ?_
  replace h := bn2_e h; obtain ⟨x5, w6, ew6, h⟩ := h
  refine r_cVi (pc := 64) wyX12_look oM0 rfl mlRX12_403 iyX12_look syX12_look ⟨(Nat.le_of_ble_eq_true rfl), (Nat.le_of_ble_eq_true rfl)⟩ rfl rfl (Nat.le_of_ble_eq_true rfl) dX12_cut_64 (mX12_look ew6 (pI.mk ?_))
  replace h := lt_e h; obtain ⟨x7, ex7, h⟩ := h
  refine r_cSi (pc := 67) wyX12_digit mlRX12_410 tyX12_digit ⟨(Nat.le_of_ble_eq_true rfl), (Nat.le_of_ble_eq_true rfl)⟩ rfl rfl (Nat.le_of_ble_eq_true rfl) dX12_cut_67 (mX12_digit ex7 (pI.mk ?_))
  refine r_z_eq (pc := 70) dX12_cut_70 rfl (fun hc8 => ?_) (fun hc8 => ?_)
  · replace h := if_f hc8 h
    refine r_iload_n (pc := 130) dX12_cut_130 rfl 1 rfl ?_
    refine r_iload_n (pc := 131) dX12_cut_131 rfl 2 rfl ?_
    refine r_isub (pc := 132) dX12_cut_132 ?_
    refine r_bipush (pc := 133) dX12_cut_133 kb_10 ?_
    refine r_icmp_le (pc := 135) dX12_cut_135 rfl (fun hc9 => ?_) (fun hc9 => ?_)
    · replace h := if_t hc9 h
      refine r_aload_n (pc := 148) dX12_cut_148 rfl 0 rfl ?_
      refine r_aload_n (pc := 149) dX12_cut_149 rfl 0 rfl ?_
      refine r_iload_n (pc := 150) dX12_cut_150 rfl 2 rfl ?_
      refine r_iload_n (pc := 151) dX12_cut_151 rfl 1 rfl ?_
      refine r_iload_n (pc := 152) dX12_cut_152 rfl 2 rfl ?_
      refine r_isub (pc := 153) dX12_cut_153 ?_
      replace h := bn2_e h; obtain ⟨x10, w11, ew11, h⟩ := h
      refine r_cVi (pc := 154) wyX12_word oM0 rfl mlRX12_419 iyX12_word syX12_word ⟨(Nat.le_of_ble_eq_true rfl), (Nat.le_of_ble_eq_true rfl)⟩ rfl rfl (Nat.le_of_ble_eq_true rfl) dX12_cut_154 (mX12_word hz ew11 (pI.mk ?_))
      refine r_iload_n (pc := 157) dX12_cut_157 rfl 2 rfl ?_
      refine r_lload (pc := 158) dX12_cut_158 3 rfl ?_
      replace h := bn_e h; obtain ⟨w12, ew12, h⟩ := h
      refine r_cVv (pc := 160) wyX12_token oM0 rfl mlRX12_415 iyX12_token syX12_token ⟨(Nat.le_of_ble_eq_true rfl), (Nat.le_of_ble_eq_true rfl)⟩ rfl rfl (Nat.le_of_ble_eq_true rfl) dX12_cut_160 (mX12_token ew12 (pV.mk ?_))
      refine r_goto (pc := 163) dX12_cut_163 rfl ?_
      refine r_goto (pc := 340) dX12_cut_340 rfl ?_
      refine r_drop (loc' := [(0, .ref 0), (1, .int a1)]) [0, 1] rfl ?_
      exact hk_7 a1 w12 h
    replace h := if_f hc9 h
    refine r_aload_n (pc := 138) dX12_cut_138 rfl 0 rfl ?_
    refine r_sipush (pc := 139) dX12_cut_139 ks_292 ?_
    refine r_iload_n (pc := 142) dX12_cut_142 rfl 2 rfl ?_
    refine r_lconst (pc := 143) dX12_cut_143 kl_0 ?_
    replace h := bn_e h; obtain ⟨w13, ew13, h⟩ := h
    refine r_cVv (pc := 144) wyX12_token oM0 rfl mlRX12_415 iyX12_token syX12_token ⟨(Nat.le_of_ble_eq_true rfl), (Nat.le_of_ble_eq_true rfl)⟩ rfl rfl (Nat.le_of_ble_eq_true rfl) dX12_cut_144 (mX12_token ew13 (pV.mk ?_))
    exact rO_v (pc := 147) rfl dX12_cut_147 h hN
  replace h := if_t hc8 h
  exact pX12_cut_73 hz hN hk_7 hk_51 h
def oX12_cut_51 (k_7 : Int32 → Wd → Option Wd) : Nat → Int32 → Int32 → Int64 → Wd → Option Wd
  | 0 => fun _ _ _ _ => none
  | n + 1 => fX12_cut_51 k_7 (oX12_cut_51 k_7 n)
theorem qX12_cut_51 {q : Gq} {l : Launch} {N : Option Value → Wd → Prop} {X : String → Wd → Prop} (hz : SGM q l) {R : Wd} (hN : N none R) {k_7 : Int32 → Wd → Option Wd} (hk_7 : ∀ (a1 : Int32) (w : Wd), k_7 a1 w = some R → RT (GM q) l 11 yX12_cut cX12_cut 7 (none) N X 7 [] [(0, .ref 0), (1, .int a1)] w) : ∀ (n : Nat) (a1 : Int32) (a3 : Int32) (a4 : Int64) (w : Wd), oX12_cut_51 k_7 n a1 a3 a4 w = some R → RT (GM q) l 11 yX12_cut cX12_cut 7 (none) N X 51 [] [(0, .ref 0), (1, .int a1), (3, .int a3), (4, .long a4)] w := by
  intro n
  induction n with
  | zero =>
    intro a1 a3 a4 w h
    exact absurd h (fun q => nomatch q)
  | succ n ih =>
    intro a1 a3 a4 w h
    exact pX12_cut_51 hz hN hk_7 ih h
def fX12_cut_7 (k_7 : Int32 → Wd → Option Wd) (a1 : Int32) (w : Wd) : Option Wd :=
  if (gi w 0 2) ≤ a1 then (bn (fX12_token 291 (gi w 0 2) 0 w) fun w2 => some w2) else (bn2 (fX12_look a1 w) fun x3 w4 => if x3 = 32 then (lt (a1 + 1) fun x6 => k_7 x6 w4) else (if x3 = 10 then (lt (a1 + 1) fun x8 => k_7 x8 w4) else (lt (fX12_letter x3 w4) fun x9 => if x9 = true then (oX12_cut_51 k_7 FU a1 a1 0 w4) else (lt (fX12_digit x3 w4) fun x11 => if x11 = true then (oX12_cut_176 k_7 FU a1 a1 0 w4) else (bn2 (fX12_look (a1 + 1) w4) fun x13 w14 => lt (fX12_pair x3 x13 w14) fun x15 => if (sgn x3) < 0 then (fX12_cut_286 k_7 false a1 x3 a1 x15 w14) else (fX12_cut_286 k_7 true a1 x3 a1 x15 w14))))))
theorem pX12_cut_7 {q : Gq} {l : Launch} {N : Option Value → Wd → Prop} {X : String → Wd → Prop} (hz : SGM q l) {w : Wd} {R : Wd} (hN : N none R) {k_7 : Int32 → Wd → Option Wd} (hk_7 : ∀ (a1 : Int32) (w : Wd), k_7 a1 w = some R → RT (GM q) l 11 yX12_cut cX12_cut 7 (none) N X 7 [] [(0, .ref 0), (1, .int a1)] w) {a1 : Int32} (h : fX12_cut_7 k_7 a1 w = some R) : RT (GM q) l 11 yX12_cut cX12_cut 7 (none) N X 7 [] [(0, .ref 0), (1, .int a1)] w := by
  unfold fX12_cut_7 at h
  refine r_iload_n (pc := 7) dX12_cut_7 rfl 1 rfl ?_
  refine r_aload_n (pc := 8) dX12_cut_8 rfl 0 rfl ?_
  refine r_get (pc := 9) (j := 2) (v := .int (gi w 0 2)) oM0 cf12 flRX12_381 rfl dX12_cut_9 rfl ?_
  refine r_icmp_ge (pc := 12) dX12_cut_12 rfl (fun hc1 => ?_) (fun hc1 => ?_)
  · replace h := if_t hc1 h
    refine r_aload_n (pc := 343) dX12_cut_343 rfl 0 rfl ?_
    refine r_sipush (pc := 344) dX12_cut_344 ks_291 ?_
    refine r_aload_n (pc := 347) dX12_cut_347 rfl 0 rfl ?_
    refine r_get (pc := 348) (j := 2) (v := .int (gi w 0 2)) oM0 cf12 flRX12_381 rfl dX12_cut_348 rfl ?_
    refine r_lconst (pc := 351) dX12_cut_351 kl_0 ?_
    replace h := bn_e h; obtain ⟨w2, ew2, h⟩ := h
    refine r_cVv (pc := 352) wyX12_token oM0 rfl mlRX12_415 iyX12_token syX12_token ⟨(Nat.le_of_ble_eq_true rfl), (Nat.le_of_ble_eq_true rfl)⟩ rfl rfl (Nat.le_of_ble_eq_true rfl) dX12_cut_352 (mX12_token ew2 (pV.mk ?_))
    exact rO_v (pc := 355) rfl dX12_cut_355 h hN
  replace h := if_f hc1 h
  refine r_aload_n (pc := 15) dX12_cut_15 rfl 0 rfl ?_
  refine r_iload_n (pc := 16) dX12_cut_16 rfl 1 rfl ?_
  replace h := bn2_e h; obtain ⟨x3, w4, ew4, h⟩ := h
  refine r_cVi (pc := 17) wyX12_look oM0 rfl mlRX12_403 iyX12_look syX12_look ⟨(Nat.le_of_ble_eq_true rfl), (Nat.le_of_ble_eq_true rfl)⟩ rfl rfl (Nat.le_of_ble_eq_true rfl) dX12_cut_17 (mX12_look ew4 (pI.mk ?_))
  refine r_istore_n (pc := 20) (loc' := [(2, .int x3), (0, .ref 0), (1, .int a1)]) dX12_cut_20 rfl (Nat.le_of_ble_eq_true rfl) rfl ?_
  refine r_iload_n (pc := 21) dX12_cut_21 rfl 0 rfl ?_
  refine r_bipush (pc := 22) dX12_cut_22 kb_32 ?_
  refine r_icmp_eq (pc := 24) dX12_cut_24 rfl (fun hc5 => ?_) (fun hc5 => ?_)
  · replace h := if_t hc5 h
    replace h := lt_e h; obtain ⟨x6, ex6, h⟩ := h
    refine r_inc (pc := 33) (loc' := [(1, .int x6), (2, .int x3), (0, .ref 0)]) dX12_cut_33 ki_1 ex6 2 rfl (Nat.le_of_ble_eq_true rfl) rfl ?_
    refine r_goto (pc := 36) dX12_cut_36 rfl ?_
    refine r_drop (loc' := [(0, .ref 0), (1, .int x6)]) [2, 0] rfl ?_
    exact hk_7 x6 w4 h
  replace h := if_f hc5 h
  refine r_iload_n (pc := 27) dX12_cut_27 rfl 0 rfl ?_
  refine r_bipush (pc := 28) dX12_cut_28 kb_10 ?_
  refine r_icmp_ne (pc := 30) dX12_cut_30 rfl (fun hc7 => ?_) (fun hc7 => ?_)
  · replace h := if_f hc7 h
    refine r_iload_n (pc := 39) dX12_cut_39 rfl 2 rfl ?_
    refine r_istore_n (pc := 40) (loc' := [(3, .int a1), (2, .int x3), (0, .ref 0), (1, .int a1)]) dX12_cut_40 rfl (Nat.le_of_ble_eq_true rfl) rfl ?_
    refine r_iload_n (pc := 41) dX12_cut_41 rfl 1 rfl ?_
    replace h := lt_e h; obtain ⟨x9, ex9, h⟩ := h
    refine r_cSi (pc := 42) wyX12_letter mlRX12_406 tyX12_letter ⟨(Nat.le_of_ble_eq_true rfl), (Nat.le_of_ble_eq_true rfl)⟩ rfl rfl (Nat.le_of_ble_eq_true rfl) dX12_cut_42 (mX12_letter ex9 (pI.mk ?_))
    refine r_z_eq (pc := 45) dX12_cut_45 rfl (fun hc10 => ?_) (fun hc10 => ?_)
    · replace h := if_f hc10 h
      refine r_iload_n (pc := 166) dX12_cut_166 rfl 1 rfl ?_
      replace h := lt_e h; obtain ⟨x11, ex11, h⟩ := h
      refine r_cSi (pc := 167) wyX12_digit mlRX12_410 tyX12_digit ⟨(Nat.le_of_ble_eq_true rfl), (Nat.le_of_ble_eq_true rfl)⟩ rfl rfl (Nat.le_of_ble_eq_true rfl) dX12_cut_167 (mX12_digit ex11 (pI.mk ?_))
      refine r_z_eq (pc := 170) dX12_cut_170 rfl (fun hc12 => ?_) (fun hc12 => ?_)
      · replace h := if_f hc12 h
        refine r_iload_n (pc := 258) dX12_cut_258 rfl 1 rfl ?_
        refine r_aload_n (pc := 259) dX12_cut_259 rfl 2 rfl ?_
        refine r_iload_n (pc := 260) dX12_cut_260 rfl 3 rfl ?_
        refine r_iconst (pc := 261) dX12_cut_261 ki_1 ?_
        refine r_iadd (pc := 262) dX12_cut_262 ?_
        replace h := bn2_e h; obtain ⟨x13, w14, ew14, h⟩ := h
        refine r_cVi (pc := 263) wyX12_look oM0 rfl mlRX12_403 iyX12_look syX12_look ⟨(Nat.le_of_ble_eq_true rfl), (Nat.le_of_ble_eq_true rfl)⟩ rfl rfl (Nat.le_of_ble_eq_true rfl) dX12_cut_263 (mX12_look ew14 (pI.mk ?_))
        replace h := lt_e h; obtain ⟨x15, ex15, h⟩ := h
        refine r_cSi (pc := 266) wyX12_pair mlRX12_435 tyX12_pair ⟨(Nat.le_of_ble_eq_true rfl), (Nat.le_of_ble_eq_true rfl)⟩ rfl rfl (Nat.le_of_ble_eq_true rfl) dX12_cut_266 (mX12_pair ex15 (pI.mk ?_))
        refine r_istore (pc := 269) (loc' := [(4, .int x15), (3, .int a1), (2, .int x3), (0, .ref 0), (1, .int a1)]) dX12_cut_269 (Nat.le_of_ble_eq_true rfl) rfl ?_
        refine hz.1 _ _ _ (Nat.le_of_ble_eq_true rfl) _ _ _ ?_
        refine r_iload_n (pc := 274) dX12_cut_274 rfl 2 rfl ?_
        refine hz.2.1 _ _ _ (Nat.le_of_ble_eq_true rfl) _ _ _ _ (Nat.le_of_ble_eq_true rfl) ?_
        refine r_if_lt (pc := 278) dX12_cut_278 rfl (fun hc16 => ?_) (fun hc16 => ?_)
        · replace h := if_t hc16 h
          refine r_iconst (pc := 285) dX12_cut_285 ki_0 ?_
          refine r_drop (loc' := [(0, .ref 0), (1, .int a1), (2, .int x3), (3, .int a1), (4, .int x15)]) [3, 4, 2, 1, 0] rfl ?_
          exact pX12_cut_286 hz hN hk_7 h
        replace h := if_f hc16 h
        refine r_iconst (pc := 281) dX12_cut_281 ki_1 ?_
        refine r_goto (pc := 282) dX12_cut_282 rfl ?_
        refine r_drop (loc' := [(0, .ref 0), (1, .int a1), (2, .int x3), (3, .int a1), (4, .int x15)]) [3, 4, 2, 1, 0] rfl ?_
        exact pX12_cut_286 hz hN hk_7 h
      replace h := if_t hc12 h
      refine r_lconst (pc := 173) dX12_cut_173 kl_0 ?_
      refine r_lstore (pc := 174) (loc' := [(4, .long 0), (3, .int a1), (2, .int x3), (0, .ref 0), (1, .int a1)]) dX12_cut_174 (Nat.le_of_ble_eq_true rfl) rfl ?_
      refine r_drop (loc' := [(0, .ref 0), (1, .int a1), (3, .int a1), (4, .long 0)]) [3, 4, 1, 0] rfl ?_
      exact qX12_cut_176 hz hN hk_7 FU a1 a1 0 w4 h
    replace h := if_t hc10 h
    refine r_lconst (pc := 48) dX12_cut_48 kl_0 ?_
    refine r_lstore (pc := 49) (loc' := [(4, .long 0), (3, .int a1), (2, .int x3), (0, .ref 0), (1, .int a1)]) dX12_cut_49 (Nat.le_of_ble_eq_true rfl) rfl ?_
    refine r_drop (loc' := [(0, .ref 0), (1, .int a1), (3, .int a1), (4, .long 0)]) [3, 4, 1, 0] rfl ?_
    exact qX12_cut_51 hz hN hk_7 FU a1 a1 0 w4 h
  replace h := if_t hc7 h
  replace h := lt_e h; obtain ⟨x8, ex8, h⟩ := h
  refine r_inc (pc := 33) (loc' := [(1, .int x8), (2, .int x3), (0, .ref 0)]) dX12_cut_33 ki_1 ex8 2 rfl (Nat.le_of_ble_eq_true rfl) rfl ?_
  refine r_goto (pc := 36) dX12_cut_36 rfl ?_
  refine r_drop (loc' := [(0, .ref 0), (1, .int x8)]) [2, 0] rfl ?_
  exact hk_7 x8 w4 h
def oX12_cut_7 : Nat → Int32 → Wd → Option Wd
  | 0 => fun _ _ => none
  | n + 1 => fX12_cut_7 (oX12_cut_7 n)
theorem qX12_cut_7 {q : Gq} {l : Launch} {N : Option Value → Wd → Prop} {X : String → Wd → Prop} (hz : SGM q l) {R : Wd} (hN : N none R) : ∀ (n : Nat) (a1 : Int32) (w : Wd), oX12_cut_7 n a1 w = some R → RT (GM q) l 11 yX12_cut cX12_cut 7 (none) N X 7 [] [(0, .ref 0), (1, .int a1)] w := by
  intro n
  induction n with
  | zero =>
    intro a1 w h
    exact absurd h (fun q => nomatch q)
  | succ n ih =>
    intro a1 w h
    exact pX12_cut_7 hz hN ih h
def fX12_cut (w : Wd) : Option Wd :=
  lt (si w 0 6 0) fun w1 => oX12_cut_7 FU 0 w1
theorem pX12_cut {q : Gq} {l : Launch} {N : Option Value → Wd → Prop} {X : String → Wd → Prop} (hz : SGM q l) {w : Wd} {R : Wd} (hN : N none R) (h : fX12_cut w = some R) : RT (GM q) l 11 yX12_cut cX12_cut 7 (none) N X 0 [] [(0, .ref 0)] w := by
  unfold fX12_cut at h
  refine r_aload_n (pc := 0) dX12_cut_0 rfl 0 rfl ?_
  refine r_iconst (pc := 1) dX12_cut_1 ki_0 ?_
  replace h := lt_e h; obtain ⟨w1, ew1, h⟩ := h
  refine r_putI (pc := 2) (j := 6) oM0 cf12 flRX12_392 rfl rfl rfl rfl dX12_cut_2 ?_
  refine r_w ew1 ?_
  refine r_iconst (pc := 5) dX12_cut_5 ki_0 ?_
  refine r_istore_n (pc := 6) (loc' := [(1, .int 0), (0, .ref 0)]) dX12_cut_6 rfl (Nat.le_of_ble_eq_true rfl) rfl ?_
  refine r_drop (loc' := [(0, .ref 0), (1, .int 0)]) [1, 0] rfl ?_
  exact qX12_cut_7 hz hN FU 0 w1 h
theorem mX12_cut {q : Gq} {l : Launch} {N : Option Value → Wd → Prop} {X : String → Wd → Prop} {w : Wd} (hz : SGM q l) {u : Wd} (h : fX12_cut w = some u) (hN : N none u) : Ct (GM q) l 11 yX12_cut cX12_cut 7 (none) [.ref 0] w N X := Ct.of (by decide) (Nat.le_of_ble_eq_true rfl) (pX12_cut hz hN h)
/-! AlgolMillModel.kind ()I: O, 0 -/
theorem dX12_kind_0 : decode cX12_kind 0 = .ok (.aload_n 0, 1) := by decide +kernel
theorem dX12_kind_1 : decode cX12_kind 1 = .ok (.getfield 13, 3) := by decide +kernel
theorem dX12_kind_4 : decode cX12_kind 4 = .ok (.aload_n 0, 1) := by decide +kernel
theorem dX12_kind_5 : decode cX12_kind 5 = .ok (.getfield 443, 3) := by decide +kernel
theorem dX12_kind_8 : decode cX12_kind 8 = .ok (.iaload, 1) := by decide +kernel
theorem dX12_kind_9 : decode cX12_kind 9 = .ok (.ireturn, 1) := by decide +kernel
def fX12_kind (w : Wd) : Option (Int32 × Wd) :=
  if inb (gi w 0 7) 8194 = true then some ((gi w 2 (Int32.toNatClampNeg (gi w 0 7))), w) else none
theorem pX12_kind {q : Gq} {l : Launch} {N : Option Value → Wd → Prop} {X : String → Wd → Prop} {w : Wd} {R : Int32 × Wd} (hN : N (some (.int R.1)) R.2) (h : fX12_kind w = some R) : RT (GM q) l 0 yX12_kind cX12_kind 1 ((some .int)) N X 0 [] [(0, .ref 0)] w := by
  unfold fX12_kind at h
  refine r_aload_n (pc := 0) dX12_kind_0 rfl 0 rfl ?_
  refine r_get (pc := 1) (j := 3) (v := .ref 2) oM0 cf12 flRX12_13 rfl dX12_kind_1 rfl ?_
  refine r_aload_n (pc := 4) dX12_kind_4 rfl 0 rfl ?_
  refine r_get (pc := 5) (j := 7) (v := .int (gi w 0 7)) oM0 cf12 flRX12_443 rfl dX12_kind_5 rfl ?_
  replace h := if_n h; obtain ⟨hb1, h⟩ := h
  refine r_iald (pc := 8) aM2 (inb_in hb1) dX12_kind_8 ?_
  exact rO_i (pc := 9) rfl dX12_kind_9 h hN
theorem mX12_kind {q : Gq} {l : Launch} {N : Option Value → Wd → Prop} {X : String → Wd → Prop} {w : Wd} {x : Int32} {u : Wd} (h : fX12_kind w = some (x, u)) (hN : N (some (.int x)) u) : Ct (GM q) l 0 yX12_kind cX12_kind 1 ((some .int)) [.ref 0] w N X := Ct.of (by decide) (Nat.le_of_ble_eq_true rfl) (pX12_kind hN h)
/-! AlgolMillModel.bad ()Ljava/lang/ArithmeticException;: O, 0 -/
theorem dX12_bad_0 : decode cX12_bad 0 = .ok (.aload_n 0, 1) := by decide +kernel
theorem dX12_bad_1 : decode cX12_bad 1 = .ok (.aload_n 0, 1) := by decide +kernel
theorem dX12_bad_2 : decode cX12_bad 2 = .ok (.getfield 17, 3) := by decide +kernel
theorem dX12_bad_5 : decode cX12_bad 5 = .ok (.aload_n 0, 1) := by decide +kernel
theorem dX12_bad_6 : decode cX12_bad 6 = .ok (.getfield 443, 3) := by decide +kernel
theorem dX12_bad_9 : decode cX12_bad 9 = .ok (.iaload, 1) := by decide +kernel
theorem dX12_bad_10 : decode cX12_bad 10 = .ok (.putfield 446, 3) := by decide +kernel
theorem dX12_bad_13 : decode cX12_bad 13 = .ok (.aload_n 0, 1) := by decide +kernel
theorem dX12_bad_14 : decode cX12_bad 14 = .ok (.getfield 31, 3) := by decide +kernel
theorem dX12_bad_17 : decode cX12_bad 17 = .ok (.areturn, 1) := by decide +kernel
def fX12_bad (w : Wd) : Option Wd :=
  if inb (gi w 0 7) 8194 = true then lt (si w 0 9 (gi w 3 (Int32.toNatClampNeg (gi w 0 7)))) fun w2 => some w2 else none
theorem pX12_bad {q : Gq} {l : Launch} {N : Option Value → Wd → Prop} {X : String → Wd → Prop} {w : Wd} {R : Wd} (hN : N (some (.ref 5)) R) (h : fX12_bad w = some R) : RT (GM q) l 0 yX12_bad cX12_bad 1 ((some (.object "java/lang/ArithmeticException"))) N X 0 [] [(0, .ref 0)] w := by
  unfold fX12_bad at h
  refine r_aload_n (pc := 0) dX12_bad_0 rfl 0 rfl ?_
  refine r_aload_n (pc := 1) dX12_bad_1 rfl 0 rfl ?_
  refine r_get (pc := 2) (j := 4) (v := .ref 3) oM0 cf12 flRX12_17 rfl dX12_bad_2 rfl ?_
  refine r_aload_n (pc := 5) dX12_bad_5 rfl 0 rfl ?_
  refine r_get (pc := 6) (j := 7) (v := .int (gi w 0 7)) oM0 cf12 flRX12_443 rfl dX12_bad_6 rfl ?_
  replace h := if_n h; obtain ⟨hb1, h⟩ := h
  refine r_iald (pc := 9) aM3 (inb_in hb1) dX12_bad_9 ?_
  replace h := lt_e h; obtain ⟨w2, ew2, h⟩ := h
  refine r_putI (pc := 10) (j := 9) oM0 cf12 flRX12_446 rfl rfl rfl rfl dX12_bad_10 ?_
  refine r_w ew2 ?_
  refine r_aload_n (pc := 13) dX12_bad_13 rfl 0 rfl ?_
  refine r_get (pc := 14) (j := 14) (v := .ref 5) oM0 cf12 flRX12_31 rfl dX12_bad_14 rfl ?_
  exact rS_r (pc := 17) rfl (Or.inl ⟨_, rfl⟩) dX12_bad_17 (Option.some.inj h) hN
theorem mX12_bad {q : Gq} {l : Launch} {N : Option Value → Wd → Prop} {X : String → Wd → Prop} {w : Wd} {u : Wd} (h : fX12_bad w = some u) (hN : N (some (.ref 5)) u) : Ct (GM q) l 0 yX12_bad cX12_bad 1 ((some (.object "java/lang/ArithmeticException"))) [.ref 0] w N X := Ct.of (by decide) (Nat.le_of_ble_eq_true rfl) (pX12_bad hN h)
/-! AlgolMillModel.taken ()I: E, 1 -/
theorem dX12_taken_0 : decode cX12_taken 0 = .ok (.aload_n 0, 1) := by decide +kernel
theorem dX12_taken_1 : decode cX12_taken 1 = .ok (.getfield 449, 3) := by decide +kernel
theorem dX12_taken_4 : decode cX12_taken 4 = .ok (.bipush 40, 2) := by decide +kernel
theorem dX12_taken_6 : decode cX12_taken 6 = .ok (.if_icmp .gt 23, 3) := by decide +kernel
theorem dX12_taken_9 : decode cX12_taken 9 = .ok (.aload_n 0, 1) := by decide +kernel
theorem dX12_taken_10 : decode cX12_taken 10 = .ok (.invokevirtual 452, 3) := by decide +kernel
theorem dX12_taken_13 : decode cX12_taken 13 = .ok (.sipush 291, 3) := by decide +kernel
theorem dX12_taken_16 : decode cX12_taken 16 = .ok (.if_icmp .eq 13, 3) := by decide +kernel
theorem dX12_taken_19 : decode cX12_taken 19 = .ok (.aload_n 0, 1) := by decide +kernel
theorem dX12_taken_20 : decode cX12_taken 20 = .ok (.invokevirtual 452, 3) := by decide +kernel
theorem dX12_taken_23 : decode cX12_taken 23 = .ok (.sipush 292, 3) := by decide +kernel
theorem dX12_taken_26 : decode cX12_taken 26 = .ok (.if_icmp .ne 8, 3) := by decide +kernel
theorem dX12_taken_29 : decode cX12_taken 29 = .ok (.aload_n 0, 1) := by decide +kernel
theorem dX12_taken_30 : decode cX12_taken 30 = .ok (.invokevirtual 455, 3) := by decide +kernel
theorem dX12_taken_33 : decode cX12_taken 33 = .ok (.athrow, 1) := by decide +kernel
theorem dX12_taken_34 : decode cX12_taken 34 = .ok (.aload_n 0, 1) := by decide +kernel
theorem dX12_taken_35 : decode cX12_taken 35 = .ok (.dup, 1) := by decide +kernel
theorem dX12_taken_36 : decode cX12_taken 36 = .ok (.getfield 443, 3) := by decide +kernel
theorem dX12_taken_39 : decode cX12_taken 39 = .ok (.iconst 1, 1) := by decide +kernel
theorem dX12_taken_40 : decode cX12_taken 40 = .ok (.iadd, 1) := by decide +kernel
theorem dX12_taken_41 : decode cX12_taken 41 = .ok (.putfield 443, 3) := by decide +kernel
theorem dX12_taken_44 : decode cX12_taken 44 = .ok (.aload_n 0, 1) := by decide +kernel
theorem dX12_taken_45 : decode cX12_taken 45 = .ok (.getfield 443, 3) := by decide +kernel
theorem dX12_taken_48 : decode cX12_taken 48 = .ok (.iconst 1, 1) := by decide +kernel
theorem dX12_taken_49 : decode cX12_taken 49 = .ok (.isub, 1) := by decide +kernel
theorem dX12_taken_50 : decode cX12_taken 50 = .ok (.ireturn, 1) := by decide +kernel
def fX12_taken (w : Wd) : Option (Option Int32 × Wd) :=
  if 40 < (gi w 0 8) then (bn (fX12_bad w) fun w2 => some (none, w2)) else (bn2 (fX12_kind w) fun x3 w4 => if x3 = 291 then (bn (fX12_bad w4) fun w6 => some (none, w6)) else (bn2 (fX12_kind w4) fun x7 w8 => if x7 = 292 then (bn (fX12_bad w8) fun w10 => some (none, w10)) else (lt (si w8 0 7 ((gi w8 0 7) + 1)) fun w11 => some (some ((gi w11 0 7) - 1), w11))))
theorem pX12_taken {q : Gq} {l : Launch} {N : Option Value → Wd → Prop} {X : String → Wd → Prop} {w : Wd} {R : Option Int32 × Wd} (hN : ∀ r : Int32, R.1 = some r → N (some (.int r)) R.2) (hX : R.1 = none → X RAE R.2) (h : fX12_taken w = some R) : RT (GM q) l 1 yX12_taken cX12_taken 1 ((some .int)) N X 0 [] [(0, .ref 0)] w := by
  unfold fX12_taken at h
  refine r_aload_n (pc := 0) dX12_taken_0 rfl 0 rfl ?_
  refine r_get (pc := 1) (j := 8) (v := .int (gi w 0 8)) oM0 cf12 flRX12_449 rfl dX12_taken_1 rfl ?_
  refine r_bipush (pc := 4) dX12_taken_4 kb_40 ?_
  refine r_icmp_gt (pc := 6) dX12_taken_6 rfl (fun hc1 => ?_) (fun hc1 => ?_)
  · replace h := if_t hc1 h
    refine r_aload_n (pc := 29) dX12_taken_29 rfl 0 rfl ?_
    replace h := bn_e h; obtain ⟨w2, ew2, h⟩ := h
    refine r_cVr (pc := 30) wyX12_bad oM0 rfl mlRX12_455 iyX12_bad syX12_bad ⟨(Nat.le_of_ble_eq_true rfl), (Nat.le_of_ble_eq_true rfl)⟩ rfl rfl (Nat.le_of_ble_eq_true rfl) dX12_taken_30 (mX12_bad ew2 (pR.mk ?_))
    exact rE_x (pc := 33) oM5 dX12_taken_33 h hX
  replace h := if_f hc1 h
  refine r_aload_n (pc := 9) dX12_taken_9 rfl 0 rfl ?_
  replace h := bn2_e h; obtain ⟨x3, w4, ew4, h⟩ := h
  refine r_cVi (pc := 10) wyX12_kind oM0 rfl mlRX12_452 iyX12_kind syX12_kind ⟨(Nat.le_of_ble_eq_true rfl), (Nat.le_of_ble_eq_true rfl)⟩ rfl rfl (Nat.le_of_ble_eq_true rfl) dX12_taken_10 (mX12_kind ew4 (pI.mk ?_))
  refine r_sipush (pc := 13) dX12_taken_13 ks_291 ?_
  refine r_icmp_eq (pc := 16) dX12_taken_16 rfl (fun hc5 => ?_) (fun hc5 => ?_)
  · replace h := if_t hc5 h
    refine r_aload_n (pc := 29) dX12_taken_29 rfl 0 rfl ?_
    replace h := bn_e h; obtain ⟨w6, ew6, h⟩ := h
    refine r_cVr (pc := 30) wyX12_bad oM0 rfl mlRX12_455 iyX12_bad syX12_bad ⟨(Nat.le_of_ble_eq_true rfl), (Nat.le_of_ble_eq_true rfl)⟩ rfl rfl (Nat.le_of_ble_eq_true rfl) dX12_taken_30 (mX12_bad ew6 (pR.mk ?_))
    exact rE_x (pc := 33) oM5 dX12_taken_33 h hX
  replace h := if_f hc5 h
  refine r_aload_n (pc := 19) dX12_taken_19 rfl 0 rfl ?_
  replace h := bn2_e h; obtain ⟨x7, w8, ew8, h⟩ := h
  refine r_cVi (pc := 20) wyX12_kind oM0 rfl mlRX12_452 iyX12_kind syX12_kind ⟨(Nat.le_of_ble_eq_true rfl), (Nat.le_of_ble_eq_true rfl)⟩ rfl rfl (Nat.le_of_ble_eq_true rfl) dX12_taken_20 (mX12_kind ew8 (pI.mk ?_))
  refine r_sipush (pc := 23) dX12_taken_23 ks_292 ?_
  refine r_icmp_ne (pc := 26) dX12_taken_26 rfl (fun hc9 => ?_) (fun hc9 => ?_)
  · replace h := if_f hc9 h
    refine r_aload_n (pc := 34) dX12_taken_34 rfl 0 rfl ?_
    refine r_dup (pc := 35) dX12_taken_35 rfl ?_
    refine r_get (pc := 36) (j := 7) (v := .int (gi w8 0 7)) oM0 cf12 flRX12_443 rfl dX12_taken_36 rfl ?_
    refine r_iconst (pc := 39) dX12_taken_39 ki_1 ?_
    refine r_iadd (pc := 40) dX12_taken_40 ?_
    replace h := lt_e h; obtain ⟨w11, ew11, h⟩ := h
    refine r_putI (pc := 41) (j := 7) oM0 cf12 flRX12_443 rfl rfl rfl rfl dX12_taken_41 ?_
    refine r_w ew11 ?_
    refine r_aload_n (pc := 44) dX12_taken_44 rfl 0 rfl ?_
    refine r_get (pc := 45) (j := 7) (v := .int (gi w11 0 7)) oM0 cf12 flRX12_443 rfl dX12_taken_45 rfl ?_
    refine r_iconst (pc := 48) dX12_taken_48 ki_1 ?_
    refine r_isub (pc := 49) dX12_taken_49 ?_
    exact rE_i (pc := 50) rfl dX12_taken_50 h hN
  replace h := if_t hc9 h
  refine r_aload_n (pc := 29) dX12_taken_29 rfl 0 rfl ?_
  replace h := bn_e h; obtain ⟨w10, ew10, h⟩ := h
  refine r_cVr (pc := 30) wyX12_bad oM0 rfl mlRX12_455 iyX12_bad syX12_bad ⟨(Nat.le_of_ble_eq_true rfl), (Nat.le_of_ble_eq_true rfl)⟩ rfl rfl (Nat.le_of_ble_eq_true rfl) dX12_taken_30 (mX12_bad ew10 (pR.mk ?_))
  exact rE_x (pc := 33) oM5 dX12_taken_33 h hX
theorem mX12_taken {q : Gq} {l : Launch} {N : Option Value → Wd → Prop} {X : String → Wd → Prop} {w : Wd} {o : Option Int32} {u : Wd} (h : fX12_taken w = some (o, u)) (hN : ∀ r : Int32, o = some r → N (some (.int r)) u) (hX : o = none → X RAE u) : Ct (GM q) l 1 yX12_taken cX12_taken 1 ((some .int)) [.ref 0] w N X := Ct.of (by decide) (Nat.le_of_ble_eq_true rfl) (pX12_taken hN hX h)
/-! AlgolMillModel.expect (I)I: E, 2 -/
theorem dX12_expect_0 : decode cX12_expect 0 = .ok (.aload_n 0, 1) := by decide +kernel
theorem dX12_expect_1 : decode cX12_expect 1 = .ok (.invokevirtual 452, 3) := by decide +kernel
theorem dX12_expect_4 : decode cX12_expect 4 = .ok (.iload_n 1, 1) := by decide +kernel
theorem dX12_expect_5 : decode cX12_expect 5 = .ok (.if_icmp .eq 8, 3) := by decide +kernel
theorem dX12_expect_8 : decode cX12_expect 8 = .ok (.aload_n 0, 1) := by decide +kernel
theorem dX12_expect_9 : decode cX12_expect 9 = .ok (.invokevirtual 455, 3) := by decide +kernel
theorem dX12_expect_12 : decode cX12_expect 12 = .ok (.athrow, 1) := by decide +kernel
theorem dX12_expect_13 : decode cX12_expect 13 = .ok (.aload_n 0, 1) := by decide +kernel
theorem dX12_expect_14 : decode cX12_expect 14 = .ok (.invokevirtual 459, 3) := by decide +kernel
theorem dX12_expect_17 : decode cX12_expect 17 = .ok (.ireturn, 1) := by decide +kernel
def fX12_expect (a1 : Int32) (w : Wd) : Option (Option Int32 × Wd) :=
  bn2 (fX12_kind w) fun x1 w2 => if x1 = a1 then (be (fX12_taken w2) fun x4 w5 => some (some x4, w5)) else (bn (fX12_bad w2) fun w7 => some (none, w7))
theorem pX12_expect {q : Gq} {l : Launch} {N : Option Value → Wd → Prop} {X : String → Wd → Prop} {w : Wd} {R : Option Int32 × Wd} (hN : ∀ r : Int32, R.1 = some r → N (some (.int r)) R.2) (hX : R.1 = none → X RAE R.2) {a1 : Int32} (h : fX12_expect a1 w = some R) : RT (GM q) l 2 yX12_expect cX12_expect 2 ((some .int)) N X 0 [] [(0, .ref 0), (1, .int a1)] w := by
  unfold fX12_expect at h
  refine r_aload_n (pc := 0) dX12_expect_0 rfl 0 rfl ?_
  replace h := bn2_e h; obtain ⟨x1, w2, ew2, h⟩ := h
  refine r_cVi (pc := 1) wyX12_kind oM0 rfl mlRX12_452 iyX12_kind syX12_kind ⟨(Nat.le_of_ble_eq_true rfl), (Nat.le_of_ble_eq_true rfl)⟩ rfl rfl (Nat.le_of_ble_eq_true rfl) dX12_expect_1 (mX12_kind ew2 (pI.mk ?_))
  refine r_iload_n (pc := 4) dX12_expect_4 rfl 1 rfl ?_
  refine r_icmp_eq (pc := 5) dX12_expect_5 rfl (fun hc3 => ?_) (fun hc3 => ?_)
  · replace h := if_t hc3 h
    refine r_aload_n (pc := 13) dX12_expect_13 rfl 0 rfl ?_
    replace h := be_e h; obtain ⟨o6, w5, ew5, h1, h2⟩ := h
    refine r_cVi (pc := 14) wyX12_taken oM0 rfl mlRX12_459 iyX12_taken syX12_taken ⟨(Nat.le_of_ble_eq_true rfl), (Nat.le_of_ble_eq_true rfl)⟩ rfl rfl (Nat.le_of_ble_eq_true rfl) dX12_expect_14 (mX12_taken ew5 (fun x4 ex4 => pI.mk ?_) (fun ez => be_x h2 ez hX))
    replace h := h1 _ ex4
    exact rE_i (pc := 17) rfl dX12_expect_17 h hN
  replace h := if_f hc3 h
  refine r_aload_n (pc := 8) dX12_expect_8 rfl 0 rfl ?_
  replace h := bn_e h; obtain ⟨w7, ew7, h⟩ := h
  refine r_cVr (pc := 9) wyX12_bad oM0 rfl mlRX12_455 iyX12_bad syX12_bad ⟨(Nat.le_of_ble_eq_true rfl), (Nat.le_of_ble_eq_true rfl)⟩ rfl rfl (Nat.le_of_ble_eq_true rfl) dX12_expect_9 (mX12_bad ew7 (pR.mk ?_))
  exact rE_x (pc := 12) oM5 dX12_expect_12 h hX
theorem mX12_expect {q : Gq} {l : Launch} {N : Option Value → Wd → Prop} {X : String → Wd → Prop} {a1 : Int32} {w : Wd} {o : Option Int32} {u : Wd} (h : fX12_expect a1 w = some (o, u)) (hN : ∀ r : Int32, o = some r → N (some (.int r)) u) (hX : o = none → X RAE u) : Ct (GM q) l 2 yX12_expect cX12_expect 2 ((some .int)) [.ref 0, .int a1] w N X := Ct.of (by decide) (Nat.le_of_ble_eq_true rfl) (pX12_expect hN hX h)
/-! AlgolMillModel.skip (I)Z: E, 2 -/
theorem dX12_skip_0 : decode cX12_skip 0 = .ok (.aload_n 0, 1) := by decide +kernel
theorem dX12_skip_1 : decode cX12_skip 1 = .ok (.invokevirtual 452, 3) := by decide +kernel
theorem dX12_skip_4 : decode cX12_skip 4 = .ok (.iload_n 1, 1) := by decide +kernel
theorem dX12_skip_5 : decode cX12_skip 5 = .ok (.if_icmp .eq 5, 3) := by decide +kernel
theorem dX12_skip_8 : decode cX12_skip 8 = .ok (.iconst 0, 1) := by decide +kernel
theorem dX12_skip_9 : decode cX12_skip 9 = .ok (.ireturn, 1) := by decide +kernel
theorem dX12_skip_10 : decode cX12_skip 10 = .ok (.aload_n 0, 1) := by decide +kernel
theorem dX12_skip_11 : decode cX12_skip 11 = .ok (.invokevirtual 459, 3) := by decide +kernel
theorem dX12_skip_14 : decode cX12_skip 14 = .ok (.istore_n 2, 1) := by decide +kernel
theorem dX12_skip_15 : decode cX12_skip 15 = .ok (.iconst 1, 1) := by decide +kernel
theorem dX12_skip_16 : decode cX12_skip 16 = .ok (.ireturn, 1) := by decide +kernel
def fX12_skip (a1 : Int32) (w : Wd) : Option (Option Bool × Wd) :=
  bn2 (fX12_kind w) fun x1 w2 => if x1 = a1 then (be (fX12_taken w2) fun x4 w5 => some (some true, w5)) else (some (some false, w2))
theorem pX12_skip {q : Gq} {l : Launch} {N : Option Value → Wd → Prop} {X : String → Wd → Prop} {w : Wd} {R : Option Bool × Wd} (hN : ∀ r : Bool, R.1 = some r → N (some (.int (b2i r))) R.2) (hX : R.1 = none → X RAE R.2) {a1 : Int32} (h : fX12_skip a1 w = some R) : RT (GM q) l 2 yX12_skip cX12_skip 3 ((some .boolean)) N X 0 [] [(0, .ref 0), (1, .int a1)] w := by
  unfold fX12_skip at h
  refine r_aload_n (pc := 0) dX12_skip_0 rfl 0 rfl ?_
  replace h := bn2_e h; obtain ⟨x1, w2, ew2, h⟩ := h
  refine r_cVi (pc := 1) wyX12_kind oM0 rfl mlRX12_452 iyX12_kind syX12_kind ⟨(Nat.le_of_ble_eq_true rfl), (Nat.le_of_ble_eq_true rfl)⟩ rfl rfl (Nat.le_of_ble_eq_true rfl) dX12_skip_1 (mX12_kind ew2 (pI.mk ?_))
  refine r_iload_n (pc := 4) dX12_skip_4 rfl 1 rfl ?_
  refine r_icmp_eq (pc := 5) dX12_skip_5 rfl (fun hc3 => ?_) (fun hc3 => ?_)
  · replace h := if_t hc3 h
    refine r_aload_n (pc := 10) dX12_skip_10 rfl 0 rfl ?_
    replace h := be_e h; obtain ⟨o6, w5, ew5, h1, h2⟩ := h
    refine r_cVi (pc := 11) wyX12_taken oM0 rfl mlRX12_459 iyX12_taken syX12_taken ⟨(Nat.le_of_ble_eq_true rfl), (Nat.le_of_ble_eq_true rfl)⟩ rfl rfl (Nat.le_of_ble_eq_true rfl) dX12_skip_11 (mX12_taken ew5 (fun x4 ex4 => pI.mk ?_) (fun ez => be_x h2 ez hX))
    replace h := h1 _ ex4
    refine r_istore_n (pc := 14) (loc' := [(2, .int x4), (0, .ref 0), (1, .int a1)]) dX12_skip_14 rfl (Nat.le_of_ble_eq_true rfl) rfl ?_
    refine r_iconst (pc := 15) dX12_skip_15 ki_1 ?_
    exact rE_z (pc := 16) (x := true) rfl dX12_skip_16 h hN
  replace h := if_f hc3 h
  refine r_iconst (pc := 8) dX12_skip_8 ki_0 ?_
  exact rE_z (pc := 9) (x := false) rfl dX12_skip_9 h hN
theorem mX12_skip {q : Gq} {l : Launch} {N : Option Value → Wd → Prop} {X : String → Wd → Prop} {a1 : Int32} {w : Wd} {o : Option Bool} {u : Wd} (h : fX12_skip a1 w = some (o, u)) (hN : ∀ r : Bool, o = some r → N (some (.int (b2i r))) u) (hX : o = none → X RAE u) : Ct (GM q) l 2 yX12_skip cX12_skip 3 ((some .boolean)) [.ref 0, .int a1] w N X := Ct.of (by decide) (Nat.le_of_ble_eq_true rfl) (pX12_skip hN hX h)
/-! AlgolMillModel.found (II)V: O, 0 -/
theorem dX12_found_0 : decode cX12_found 0 = .ok (.aload_n 0, 1) := by decide +kernel
theorem dX12_found_1 : decode cX12_found 1 = .ok (.getfield 17, 3) := by decide +kernel
theorem dX12_found_4 : decode cX12_found 4 = .ok (.iload_n 2, 1) := by decide +kernel
theorem dX12_found_5 : decode cX12_found 5 = .ok (.iaload, 1) := by decide +kernel
theorem dX12_found_6 : decode cX12_found 6 = .ok (.istore_n 3, 1) := by decide +kernel
theorem dX12_found_7 : decode cX12_found 7 = .ok (.aload_n 0, 1) := by decide +kernel
theorem dX12_found_8 : decode cX12_found 8 = .ok (.getfield 462, 3) := by decide +kernel
theorem dX12_found_11 : decode cX12_found 11 = .ok (.ifCond .eq 28, 3) := by decide +kernel
theorem dX12_found_14 : decode cX12_found 14 = .ok (.aload_n 0, 1) := by decide +kernel
theorem dX12_found_15 : decode cX12_found 15 = .ok (.getfield 465, 3) := by decide +kernel
theorem dX12_found_18 : decode cX12_found 18 = .ok (.iload_n 3, 1) := by decide +kernel
theorem dX12_found_19 : decode cX12_found 19 = .ok (.if_icmp .lt 19, 3) := by decide +kernel
theorem dX12_found_22 : decode cX12_found 22 = .ok (.aload_n 0, 1) := by decide +kernel
theorem dX12_found_23 : decode cX12_found 23 = .ok (.getfield 465, 3) := by decide +kernel
theorem dX12_found_26 : decode cX12_found 26 = .ok (.iload_n 3, 1) := by decide +kernel
theorem dX12_found_27 : decode cX12_found 27 = .ok (.if_icmp .ne 12, 3) := by decide +kernel
theorem dX12_found_30 : decode cX12_found 30 = .ok (.aload_n 0, 1) := by decide +kernel
theorem dX12_found_31 : decode cX12_found 31 = .ok (.getfield 462, 3) := by decide +kernel
theorem dX12_found_34 : decode cX12_found 34 = .ok (.iload_n 1, 1) := by decide +kernel
theorem dX12_found_35 : decode cX12_found 35 = .ok (.if_icmp .gt 4, 3) := by decide +kernel
theorem dX12_found_38 : decode cX12_found 38 = .ok (.return_, 1) := by decide +kernel
theorem dX12_found_39 : decode cX12_found 39 = .ok (.aload_n 0, 1) := by decide +kernel
theorem dX12_found_40 : decode cX12_found 40 = .ok (.iload_n 1, 1) := by decide +kernel
theorem dX12_found_41 : decode cX12_found 41 = .ok (.putfield 462, 3) := by decide +kernel
theorem dX12_found_44 : decode cX12_found 44 = .ok (.aload_n 0, 1) := by decide +kernel
theorem dX12_found_45 : decode cX12_found 45 = .ok (.iload_n 3, 1) := by decide +kernel
theorem dX12_found_46 : decode cX12_found 46 = .ok (.putfield 465, 3) := by decide +kernel
theorem dX12_found_49 : decode cX12_found 49 = .ok (.return_, 1) := by decide +kernel
def fX12_found (a1 : Int32) (a2 : Int32) (w : Wd) : Option Wd :=
  if inb a2 8194 = true then lt ((gi w 3 (Int32.toNatClampNeg a2))) fun x2 => if (gi w 0 10) = 0 then (lt (si w 0 10 a1) fun w4 => lt (si w4 0 11 x2) fun w5 => some w5) else (if (gi w 0 11) < x2 then (some w) else (if (gi w 0 11) = x2 then (if a1 < (gi w 0 10) then (lt (si w 0 10 a1) fun w9 => lt (si w9 0 11 x2) fun w10 => some w10) else (some w)) else (lt (si w 0 10 a1) fun w11 => lt (si w11 0 11 x2) fun w12 => some w12))) else none
theorem pX12_found {q : Gq} {l : Launch} {N : Option Value → Wd → Prop} {X : String → Wd → Prop} {w : Wd} {R : Wd} (hN : N none R) {a1 : Int32} {a2 : Int32} (h : fX12_found a1 a2 w = some R) : RT (GM q) l 0 yX12_found cX12_found 4 (none) N X 0 [] [(0, .ref 0), (1, .int a1), (2, .int a2)] w := by
  unfold fX12_found at h
  refine r_aload_n (pc := 0) dX12_found_0 rfl 0 rfl ?_
  refine r_get (pc := 1) (j := 4) (v := .ref 3) oM0 cf12 flRX12_17 rfl dX12_found_1 rfl ?_
  refine r_iload_n (pc := 4) dX12_found_4 rfl 2 rfl ?_
  replace h := if_n h; obtain ⟨hb1, h⟩ := h
  refine r_iald (pc := 5) aM3 (inb_in hb1) dX12_found_5 ?_
  replace h := lt_e h; obtain ⟨x2, ex2, h⟩ := h
  refine r_topi ex2 ?_
  refine r_istore_n (pc := 6) (loc' := [(3, .int x2), (0, .ref 0), (1, .int a1), (2, .int a2)]) dX12_found_6 rfl (Nat.le_of_ble_eq_true rfl) rfl ?_
  refine r_aload_n (pc := 7) dX12_found_7 rfl 1 rfl ?_
  refine r_get (pc := 8) (j := 10) (v := .int (gi w 0 10)) oM0 cf12 flRX12_462 rfl dX12_found_8 rfl ?_
  refine r_if_eq (pc := 11) dX12_found_11 rfl (fun hc3 => ?_) (fun hc3 => ?_)
  · replace h := if_t hc3 h
    refine r_aload_n (pc := 39) dX12_found_39 rfl 1 rfl ?_
    refine r_iload_n (pc := 40) dX12_found_40 rfl 2 rfl ?_
    replace h := lt_e h; obtain ⟨w4, ew4, h⟩ := h
    refine r_putI (pc := 41) (j := 10) oM0 cf12 flRX12_462 rfl rfl rfl rfl dX12_found_41 ?_
    refine r_w ew4 ?_
    refine r_aload_n (pc := 44) dX12_found_44 rfl 1 rfl ?_
    refine r_iload_n (pc := 45) dX12_found_45 rfl 0 rfl ?_
    replace h := lt_e h; obtain ⟨w5, ew5, h⟩ := h
    refine r_putI (pc := 46) (j := 11) oM0 cf12 flRX12_465 rfl rfl rfl rfl dX12_found_46 ?_
    refine r_w ew5 ?_
    exact rO_v (pc := 49) rfl dX12_found_49 h hN
  replace h := if_f hc3 h
  refine r_aload_n (pc := 14) dX12_found_14 rfl 1 rfl ?_
  refine r_get (pc := 15) (j := 11) (v := .int (gi w 0 11)) oM0 cf12 flRX12_465 rfl dX12_found_15 rfl ?_
  refine r_iload_n (pc := 18) dX12_found_18 rfl 0 rfl ?_
  refine r_icmp_lt (pc := 19) dX12_found_19 rfl (fun hc6 => ?_) (fun hc6 => ?_)
  · replace h := if_t hc6 h
    exact rO_v (pc := 38) rfl dX12_found_38 h hN
  replace h := if_f hc6 h
  refine r_aload_n (pc := 22) dX12_found_22 rfl 1 rfl ?_
  refine r_get (pc := 23) (j := 11) (v := .int (gi w 0 11)) oM0 cf12 flRX12_465 rfl dX12_found_23 rfl ?_
  refine r_iload_n (pc := 26) dX12_found_26 rfl 0 rfl ?_
  refine r_icmp_ne (pc := 27) dX12_found_27 rfl (fun hc7 => ?_) (fun hc7 => ?_)
  · replace h := if_f hc7 h
    refine r_aload_n (pc := 39) dX12_found_39 rfl 1 rfl ?_
    refine r_iload_n (pc := 40) dX12_found_40 rfl 2 rfl ?_
    replace h := lt_e h; obtain ⟨w11, ew11, h⟩ := h
    refine r_putI (pc := 41) (j := 10) oM0 cf12 flRX12_462 rfl rfl rfl rfl dX12_found_41 ?_
    refine r_w ew11 ?_
    refine r_aload_n (pc := 44) dX12_found_44 rfl 1 rfl ?_
    refine r_iload_n (pc := 45) dX12_found_45 rfl 0 rfl ?_
    replace h := lt_e h; obtain ⟨w12, ew12, h⟩ := h
    refine r_putI (pc := 46) (j := 11) oM0 cf12 flRX12_465 rfl rfl rfl rfl dX12_found_46 ?_
    refine r_w ew12 ?_
    exact rO_v (pc := 49) rfl dX12_found_49 h hN
  replace h := if_t hc7 h
  refine r_aload_n (pc := 30) dX12_found_30 rfl 1 rfl ?_
  refine r_get (pc := 31) (j := 10) (v := .int (gi w 0 10)) oM0 cf12 flRX12_462 rfl dX12_found_31 rfl ?_
  refine r_iload_n (pc := 34) dX12_found_34 rfl 2 rfl ?_
  refine r_icmp_gt (pc := 35) dX12_found_35 rfl (fun hc8 => ?_) (fun hc8 => ?_)
  · replace h := if_t hc8 h
    refine r_aload_n (pc := 39) dX12_found_39 rfl 1 rfl ?_
    refine r_iload_n (pc := 40) dX12_found_40 rfl 2 rfl ?_
    replace h := lt_e h; obtain ⟨w9, ew9, h⟩ := h
    refine r_putI (pc := 41) (j := 10) oM0 cf12 flRX12_462 rfl rfl rfl rfl dX12_found_41 ?_
    refine r_w ew9 ?_
    refine r_aload_n (pc := 44) dX12_found_44 rfl 1 rfl ?_
    refine r_iload_n (pc := 45) dX12_found_45 rfl 0 rfl ?_
    replace h := lt_e h; obtain ⟨w10, ew10, h⟩ := h
    refine r_putI (pc := 46) (j := 11) oM0 cf12 flRX12_465 rfl rfl rfl rfl dX12_found_46 ?_
    refine r_w ew10 ?_
    exact rO_v (pc := 49) rfl dX12_found_49 h hN
  replace h := if_f hc8 h
  exact rO_v (pc := 38) rfl dX12_found_38 h hN
theorem mX12_found {q : Gq} {l : Launch} {N : Option Value → Wd → Prop} {X : String → Wd → Prop} {a1 : Int32} {a2 : Int32} {w : Wd} {u : Wd} (h : fX12_found a1 a2 w = some u) (hN : N none u) : Ct (GM q) l 0 yX12_found cX12_found 4 (none) [.ref 0, .int a1, .int a2] w N X := Ct.of (by decide) (Nat.le_of_ble_eq_true rfl) (pX12_found hN h)
/-! AlgolMillModel.node (IIIII)I: O, 0 -/
theorem dX12_node_0 : decode cX12_node 0 = .ok (.aload_n 0, 1) := by decide +kernel
theorem dX12_node_1 : decode cX12_node 1 = .ok (.getfield 99, 3) := by decide +kernel
theorem dX12_node_4 : decode cX12_node 4 = .ok (.aload_n 0, 1) := by decide +kernel
theorem dX12_node_5 : decode cX12_node 5 = .ok (.getfield 468, 3) := by decide +kernel
theorem dX12_node_8 : decode cX12_node 8 = .ok (.iload_n 1, 1) := by decide +kernel
theorem dX12_node_9 : decode cX12_node 9 = .ok (.iastore, 1) := by decide +kernel
theorem dX12_node_10 : decode cX12_node 10 = .ok (.aload_n 0, 1) := by decide +kernel
theorem dX12_node_11 : decode cX12_node 11 = .ok (.getfield 102, 3) := by decide +kernel
theorem dX12_node_14 : decode cX12_node 14 = .ok (.aload_n 0, 1) := by decide +kernel
theorem dX12_node_15 : decode cX12_node 15 = .ok (.getfield 468, 3) := by decide +kernel
theorem dX12_node_18 : decode cX12_node 18 = .ok (.iload_n 2, 1) := by decide +kernel
theorem dX12_node_19 : decode cX12_node 19 = .ok (.iastore, 1) := by decide +kernel
theorem dX12_node_20 : decode cX12_node 20 = .ok (.aload_n 0, 1) := by decide +kernel
theorem dX12_node_21 : decode cX12_node 21 = .ok (.getfield 105, 3) := by decide +kernel
theorem dX12_node_24 : decode cX12_node 24 = .ok (.aload_n 0, 1) := by decide +kernel
theorem dX12_node_25 : decode cX12_node 25 = .ok (.getfield 468, 3) := by decide +kernel
theorem dX12_node_28 : decode cX12_node 28 = .ok (.iload_n 3, 1) := by decide +kernel
theorem dX12_node_29 : decode cX12_node 29 = .ok (.iastore, 1) := by decide +kernel
theorem dX12_node_30 : decode cX12_node 30 = .ok (.aload_n 0, 1) := by decide +kernel
theorem dX12_node_31 : decode cX12_node 31 = .ok (.getfield 108, 3) := by decide +kernel
theorem dX12_node_34 : decode cX12_node 34 = .ok (.aload_n 0, 1) := by decide +kernel
theorem dX12_node_35 : decode cX12_node 35 = .ok (.getfield 468, 3) := by decide +kernel
theorem dX12_node_38 : decode cX12_node 38 = .ok (.iload 4, 2) := by decide +kernel
theorem dX12_node_40 : decode cX12_node 40 = .ok (.iastore, 1) := by decide +kernel
theorem dX12_node_41 : decode cX12_node 41 = .ok (.aload_n 0, 1) := by decide +kernel
theorem dX12_node_42 : decode cX12_node 42 = .ok (.getfield 111, 3) := by decide +kernel
theorem dX12_node_45 : decode cX12_node 45 = .ok (.aload_n 0, 1) := by decide +kernel
theorem dX12_node_46 : decode cX12_node 46 = .ok (.getfield 468, 3) := by decide +kernel
theorem dX12_node_49 : decode cX12_node 49 = .ok (.iconst (-1), 1) := by decide +kernel
theorem dX12_node_50 : decode cX12_node 50 = .ok (.iastore, 1) := by decide +kernel
theorem dX12_node_51 : decode cX12_node 51 = .ok (.aload_n 0, 1) := by decide +kernel
theorem dX12_node_52 : decode cX12_node 52 = .ok (.getfield 114, 3) := by decide +kernel
theorem dX12_node_55 : decode cX12_node 55 = .ok (.aload_n 0, 1) := by decide +kernel
theorem dX12_node_56 : decode cX12_node 56 = .ok (.getfield 468, 3) := by decide +kernel
theorem dX12_node_59 : decode cX12_node 59 = .ok (.iload 5, 2) := by decide +kernel
theorem dX12_node_61 : decode cX12_node 61 = .ok (.iastore, 1) := by decide +kernel
theorem dX12_node_62 : decode cX12_node 62 = .ok (.aload_n 0, 1) := by decide +kernel
theorem dX12_node_63 : decode cX12_node 63 = .ok (.getfield 117, 3) := by decide +kernel
theorem dX12_node_66 : decode cX12_node 66 = .ok (.aload_n 0, 1) := by decide +kernel
theorem dX12_node_67 : decode cX12_node 67 = .ok (.getfield 468, 3) := by decide +kernel
theorem dX12_node_70 : decode cX12_node 70 = .ok (.aload_n 0, 1) := by decide +kernel
theorem dX12_node_71 : decode cX12_node 71 = .ok (.getfield 471, 3) := by decide +kernel
theorem dX12_node_74 : decode cX12_node 74 = .ok (.iastore, 1) := by decide +kernel
theorem dX12_node_75 : decode cX12_node 75 = .ok (.aload_n 0, 1) := by decide +kernel
theorem dX12_node_76 : decode cX12_node 76 = .ok (.dup, 1) := by decide +kernel
theorem dX12_node_77 : decode cX12_node 77 = .ok (.getfield 468, 3) := by decide +kernel
theorem dX12_node_80 : decode cX12_node 80 = .ok (.iconst 1, 1) := by decide +kernel
theorem dX12_node_81 : decode cX12_node 81 = .ok (.iadd, 1) := by decide +kernel
theorem dX12_node_82 : decode cX12_node 82 = .ok (.putfield 468, 3) := by decide +kernel
theorem dX12_node_85 : decode cX12_node 85 = .ok (.aload_n 0, 1) := by decide +kernel
theorem dX12_node_86 : decode cX12_node 86 = .ok (.getfield 468, 3) := by decide +kernel
theorem dX12_node_89 : decode cX12_node 89 = .ok (.iconst 1, 1) := by decide +kernel
theorem dX12_node_90 : decode cX12_node 90 = .ok (.isub, 1) := by decide +kernel
theorem dX12_node_91 : decode cX12_node 91 = .ok (.ireturn, 1) := by decide +kernel
def fX12_node (a1 : Int32) (a2 : Int32) (a3 : Int32) (a4 : Int32) (a5 : Int32) (w : Wd) : Option (Int32 × Wd) :=
  if inb (gi w 0 23) 24000 = true then lt (si w 7 (Int32.toNatClampNeg (gi w 0 23)) a1) fun w2 => if inb (gi w2 0 23) 24000 = true then lt (si w2 8 (Int32.toNatClampNeg (gi w2 0 23)) a2) fun w4 => if inb (gi w4 0 23) 24000 = true then lt (si w4 9 (Int32.toNatClampNeg (gi w4 0 23)) a3) fun w6 => if inb (gi w6 0 23) 24000 = true then lt (si w6 10 (Int32.toNatClampNeg (gi w6 0 23)) a4) fun w8 => if inb (gi w8 0 23) 24000 = true then lt (si w8 11 (Int32.toNatClampNeg (gi w8 0 23)) (-1)) fun w10 => if inb (gi w10 0 23) 24000 = true then lt (si w10 12 (Int32.toNatClampNeg (gi w10 0 23)) a5) fun w12 => if inb (gi w12 0 23) 24000 = true then lt (si w12 13 (Int32.toNatClampNeg (gi w12 0 23)) (gi w12 0 29)) fun w14 => lt (si w14 0 23 ((gi w14 0 23) + 1)) fun w15 => some (((gi w15 0 23) - 1), w15) else none else none else none else none else none else none else none
theorem pX12_node {q : Gq} {l : Launch} {N : Option Value → Wd → Prop} {X : String → Wd → Prop} {w : Wd} {R : Int32 × Wd} (hN : N (some (.int R.1)) R.2) {a1 : Int32} {a2 : Int32} {a3 : Int32} {a4 : Int32} {a5 : Int32} (h : fX12_node a1 a2 a3 a4 a5 w = some R) : RT (GM q) l 0 yX12_node cX12_node 6 ((some .int)) N X 0 [] [(0, .ref 0), (1, .int a1), (2, .int a2), (3, .int a3), (4, .int a4), (5, .int a5)] w := by
  unfold fX12_node at h
  refine r_aload_n (pc := 0) dX12_node_0 rfl 0 rfl ?_
  refine r_get (pc := 1) (j := 16) (v := .ref 7) oM0 cf12 flRX12_99 rfl dX12_node_1 rfl ?_
  refine r_aload_n (pc := 4) dX12_node_4 rfl 0 rfl ?_
  refine r_get (pc := 5) (j := 23) (v := .int (gi w 0 23)) oM0 cf12 flRX12_468 rfl dX12_node_5 rfl ?_
  refine r_iload_n (pc := 8) dX12_node_8 rfl 1 rfl ?_
  replace h := if_n h; obtain ⟨hb1, h⟩ := h
  replace h := lt_e h; obtain ⟨w2, ew2, h⟩ := h
  refine r_iast (pc := 9) aM7 (inb_in hb1) dX12_node_9 ?_
  refine r_w ew2 ?_
  refine r_aload_n (pc := 10) dX12_node_10 rfl 0 rfl ?_
  refine r_get (pc := 11) (j := 17) (v := .ref 8) oM0 cf12 flRX12_102 rfl dX12_node_11 rfl ?_
  refine r_aload_n (pc := 14) dX12_node_14 rfl 0 rfl ?_
  refine r_get (pc := 15) (j := 23) (v := .int (gi w2 0 23)) oM0 cf12 flRX12_468 rfl dX12_node_15 rfl ?_
  refine r_iload_n (pc := 18) dX12_node_18 rfl 2 rfl ?_
  replace h := if_n h; obtain ⟨hb3, h⟩ := h
  replace h := lt_e h; obtain ⟨w4, ew4, h⟩ := h
  refine r_iast (pc := 19) aM8 (inb_in hb3) dX12_node_19 ?_
  refine r_w ew4 ?_
  refine r_aload_n (pc := 20) dX12_node_20 rfl 0 rfl ?_
  refine r_get (pc := 21) (j := 18) (v := .ref 9) oM0 cf12 flRX12_105 rfl dX12_node_21 rfl ?_
  refine r_aload_n (pc := 24) dX12_node_24 rfl 0 rfl ?_
  refine r_get (pc := 25) (j := 23) (v := .int (gi w4 0 23)) oM0 cf12 flRX12_468 rfl dX12_node_25 rfl ?_
  refine r_iload_n (pc := 28) dX12_node_28 rfl 3 rfl ?_
  replace h := if_n h; obtain ⟨hb5, h⟩ := h
  replace h := lt_e h; obtain ⟨w6, ew6, h⟩ := h
  refine r_iast (pc := 29) aM9 (inb_in hb5) dX12_node_29 ?_
  refine r_w ew6 ?_
  refine r_aload_n (pc := 30) dX12_node_30 rfl 0 rfl ?_
  refine r_get (pc := 31) (j := 19) (v := .ref 10) oM0 cf12 flRX12_108 rfl dX12_node_31 rfl ?_
  refine r_aload_n (pc := 34) dX12_node_34 rfl 0 rfl ?_
  refine r_get (pc := 35) (j := 23) (v := .int (gi w6 0 23)) oM0 cf12 flRX12_468 rfl dX12_node_35 rfl ?_
  refine r_iload (pc := 38) dX12_node_38 4 rfl ?_
  replace h := if_n h; obtain ⟨hb7, h⟩ := h
  replace h := lt_e h; obtain ⟨w8, ew8, h⟩ := h
  refine r_iast (pc := 40) aM10 (inb_in hb7) dX12_node_40 ?_
  refine r_w ew8 ?_
  refine r_aload_n (pc := 41) dX12_node_41 rfl 0 rfl ?_
  refine r_get (pc := 42) (j := 20) (v := .ref 11) oM0 cf12 flRX12_111 rfl dX12_node_42 rfl ?_
  refine r_aload_n (pc := 45) dX12_node_45 rfl 0 rfl ?_
  refine r_get (pc := 46) (j := 23) (v := .int (gi w8 0 23)) oM0 cf12 flRX12_468 rfl dX12_node_46 rfl ?_
  refine r_iconst (pc := 49) dX12_node_49 ki_m1 ?_
  replace h := if_n h; obtain ⟨hb9, h⟩ := h
  replace h := lt_e h; obtain ⟨w10, ew10, h⟩ := h
  refine r_iast (pc := 50) aM11 (inb_in hb9) dX12_node_50 ?_
  refine r_w ew10 ?_
  refine r_aload_n (pc := 51) dX12_node_51 rfl 0 rfl ?_
  refine r_get (pc := 52) (j := 21) (v := .ref 12) oM0 cf12 flRX12_114 rfl dX12_node_52 rfl ?_
  refine r_aload_n (pc := 55) dX12_node_55 rfl 0 rfl ?_
  refine r_get (pc := 56) (j := 23) (v := .int (gi w10 0 23)) oM0 cf12 flRX12_468 rfl dX12_node_56 rfl ?_
  refine r_iload (pc := 59) dX12_node_59 5 rfl ?_
  replace h := if_n h; obtain ⟨hb11, h⟩ := h
  replace h := lt_e h; obtain ⟨w12, ew12, h⟩ := h
  refine r_iast (pc := 61) aM12 (inb_in hb11) dX12_node_61 ?_
  refine r_w ew12 ?_
  refine r_aload_n (pc := 62) dX12_node_62 rfl 0 rfl ?_
  refine r_get (pc := 63) (j := 22) (v := .ref 13) oM0 cf12 flRX12_117 rfl dX12_node_63 rfl ?_
  refine r_aload_n (pc := 66) dX12_node_66 rfl 0 rfl ?_
  refine r_get (pc := 67) (j := 23) (v := .int (gi w12 0 23)) oM0 cf12 flRX12_468 rfl dX12_node_67 rfl ?_
  refine r_aload_n (pc := 70) dX12_node_70 rfl 0 rfl ?_
  refine r_get (pc := 71) (j := 29) (v := .int (gi w12 0 29)) oM0 cf12 flRX12_471 rfl dX12_node_71 rfl ?_
  replace h := if_n h; obtain ⟨hb13, h⟩ := h
  replace h := lt_e h; obtain ⟨w14, ew14, h⟩ := h
  refine r_iast (pc := 74) aM13 (inb_in hb13) dX12_node_74 ?_
  refine r_w ew14 ?_
  refine r_aload_n (pc := 75) dX12_node_75 rfl 0 rfl ?_
  refine r_dup (pc := 76) dX12_node_76 rfl ?_
  refine r_get (pc := 77) (j := 23) (v := .int (gi w14 0 23)) oM0 cf12 flRX12_468 rfl dX12_node_77 rfl ?_
  refine r_iconst (pc := 80) dX12_node_80 ki_1 ?_
  refine r_iadd (pc := 81) dX12_node_81 ?_
  replace h := lt_e h; obtain ⟨w15, ew15, h⟩ := h
  refine r_putI (pc := 82) (j := 23) oM0 cf12 flRX12_468 rfl rfl rfl rfl dX12_node_82 ?_
  refine r_w ew15 ?_
  refine r_aload_n (pc := 85) dX12_node_85 rfl 0 rfl ?_
  refine r_get (pc := 86) (j := 23) (v := .int (gi w15 0 23)) oM0 cf12 flRX12_468 rfl dX12_node_86 rfl ?_
  refine r_iconst (pc := 89) dX12_node_89 ki_1 ?_
  refine r_isub (pc := 90) dX12_node_90 ?_
  exact rO_i (pc := 91) rfl dX12_node_91 h hN
theorem mX12_node {q : Gq} {l : Launch} {N : Option Value → Wd → Prop} {X : String → Wd → Prop} {a1 : Int32} {a2 : Int32} {a3 : Int32} {a4 : Int32} {a5 : Int32} {w : Wd} {x : Int32} {u : Wd} (h : fX12_node a1 a2 a3 a4 a5 w = some (x, u)) (hN : N (some (.int x)) u) : Ct (GM q) l 0 yX12_node cX12_node 6 ((some .int)) [.ref 0, .int a1, .int a2, .int a3, .int a4, .int a5] w N X := Ct.of (by decide) (Nat.le_of_ble_eq_true rfl) (pX12_node hN h)
/-! AlgolMillModel.newScope (II)I: O, 0 -/
theorem dX12_newScope_0 : decode cX12_newScope 0 = .ok (.aload_n 0, 1) := by decide +kernel
theorem dX12_newScope_1 : decode cX12_newScope 1 = .ok (.getfield 120, 3) := by decide +kernel
theorem dX12_newScope_4 : decode cX12_newScope 4 = .ok (.aload_n 0, 1) := by decide +kernel
theorem dX12_newScope_5 : decode cX12_newScope 5 = .ok (.getfield 474, 3) := by decide +kernel
theorem dX12_newScope_8 : decode cX12_newScope 8 = .ok (.iload_n 1, 1) := by decide +kernel
theorem dX12_newScope_9 : decode cX12_newScope 9 = .ok (.iastore, 1) := by decide +kernel
theorem dX12_newScope_10 : decode cX12_newScope 10 = .ok (.aload_n 0, 1) := by decide +kernel
theorem dX12_newScope_11 : decode cX12_newScope 11 = .ok (.getfield 123, 3) := by decide +kernel
theorem dX12_newScope_14 : decode cX12_newScope 14 = .ok (.aload_n 0, 1) := by decide +kernel
theorem dX12_newScope_15 : decode cX12_newScope 15 = .ok (.getfield 474, 3) := by decide +kernel
theorem dX12_newScope_18 : decode cX12_newScope 18 = .ok (.aload_n 0, 1) := by decide +kernel
theorem dX12_newScope_19 : decode cX12_newScope 19 = .ok (.getfield 477, 3) := by decide +kernel
theorem dX12_newScope_22 : decode cX12_newScope 22 = .ok (.iastore, 1) := by decide +kernel
theorem dX12_newScope_23 : decode cX12_newScope 23 = .ok (.aload_n 0, 1) := by decide +kernel
theorem dX12_newScope_24 : decode cX12_newScope 24 = .ok (.getfield 126, 3) := by decide +kernel
theorem dX12_newScope_27 : decode cX12_newScope 27 = .ok (.aload_n 0, 1) := by decide +kernel
theorem dX12_newScope_28 : decode cX12_newScope 28 = .ok (.getfield 474, 3) := by decide +kernel
theorem dX12_newScope_31 : decode cX12_newScope 31 = .ok (.iconst (-1), 1) := by decide +kernel
theorem dX12_newScope_32 : decode cX12_newScope 32 = .ok (.iastore, 1) := by decide +kernel
theorem dX12_newScope_33 : decode cX12_newScope 33 = .ok (.aload_n 0, 1) := by decide +kernel
theorem dX12_newScope_34 : decode cX12_newScope 34 = .ok (.getfield 129, 3) := by decide +kernel
theorem dX12_newScope_37 : decode cX12_newScope 37 = .ok (.aload_n 0, 1) := by decide +kernel
theorem dX12_newScope_38 : decode cX12_newScope 38 = .ok (.getfield 474, 3) := by decide +kernel
theorem dX12_newScope_41 : decode cX12_newScope 41 = .ok (.iload_n 2, 1) := by decide +kernel
theorem dX12_newScope_42 : decode cX12_newScope 42 = .ok (.iastore, 1) := by decide +kernel
theorem dX12_newScope_43 : decode cX12_newScope 43 = .ok (.aload_n 0, 1) := by decide +kernel
theorem dX12_newScope_44 : decode cX12_newScope 44 = .ok (.dup, 1) := by decide +kernel
theorem dX12_newScope_45 : decode cX12_newScope 45 = .ok (.getfield 474, 3) := by decide +kernel
theorem dX12_newScope_48 : decode cX12_newScope 48 = .ok (.iconst 1, 1) := by decide +kernel
theorem dX12_newScope_49 : decode cX12_newScope 49 = .ok (.iadd, 1) := by decide +kernel
theorem dX12_newScope_50 : decode cX12_newScope 50 = .ok (.putfield 474, 3) := by decide +kernel
theorem dX12_newScope_53 : decode cX12_newScope 53 = .ok (.aload_n 0, 1) := by decide +kernel
theorem dX12_newScope_54 : decode cX12_newScope 54 = .ok (.getfield 474, 3) := by decide +kernel
theorem dX12_newScope_57 : decode cX12_newScope 57 = .ok (.iconst 1, 1) := by decide +kernel
theorem dX12_newScope_58 : decode cX12_newScope 58 = .ok (.isub, 1) := by decide +kernel
theorem dX12_newScope_59 : decode cX12_newScope 59 = .ok (.ireturn, 1) := by decide +kernel
def fX12_newScope (a1 : Int32) (a2 : Int32) (w : Wd) : Option (Int32 × Wd) :=
  if inb (gi w 0 28) 9000 = true then lt (si w 14 (Int32.toNatClampNeg (gi w 0 28)) a1) fun w2 => if inb (gi w2 0 28) 9000 = true then lt (si w2 15 (Int32.toNatClampNeg (gi w2 0 28)) (gi w2 0 30)) fun w4 => if inb (gi w4 0 28) 9000 = true then lt (si w4 16 (Int32.toNatClampNeg (gi w4 0 28)) (-1)) fun w6 => if inb (gi w6 0 28) 9000 = true then lt (si w6 17 (Int32.toNatClampNeg (gi w6 0 28)) a2) fun w8 => lt (si w8 0 28 ((gi w8 0 28) + 1)) fun w9 => some (((gi w9 0 28) - 1), w9) else none else none else none else none
theorem pX12_newScope {q : Gq} {l : Launch} {N : Option Value → Wd → Prop} {X : String → Wd → Prop} {w : Wd} {R : Int32 × Wd} (hN : N (some (.int R.1)) R.2) {a1 : Int32} {a2 : Int32} (h : fX12_newScope a1 a2 w = some R) : RT (GM q) l 0 yX12_newScope cX12_newScope 3 ((some .int)) N X 0 [] [(0, .ref 0), (1, .int a1), (2, .int a2)] w := by
  unfold fX12_newScope at h
  refine r_aload_n (pc := 0) dX12_newScope_0 rfl 0 rfl ?_
  refine r_get (pc := 1) (j := 24) (v := .ref 14) oM0 cf12 flRX12_120 rfl dX12_newScope_1 rfl ?_
  refine r_aload_n (pc := 4) dX12_newScope_4 rfl 0 rfl ?_
  refine r_get (pc := 5) (j := 28) (v := .int (gi w 0 28)) oM0 cf12 flRX12_474 rfl dX12_newScope_5 rfl ?_
  refine r_iload_n (pc := 8) dX12_newScope_8 rfl 1 rfl ?_
  replace h := if_n h; obtain ⟨hb1, h⟩ := h
  replace h := lt_e h; obtain ⟨w2, ew2, h⟩ := h
  refine r_iast (pc := 9) aM14 (inb_in hb1) dX12_newScope_9 ?_
  refine r_w ew2 ?_
  refine r_aload_n (pc := 10) dX12_newScope_10 rfl 0 rfl ?_
  refine r_get (pc := 11) (j := 25) (v := .ref 15) oM0 cf12 flRX12_123 rfl dX12_newScope_11 rfl ?_
  refine r_aload_n (pc := 14) dX12_newScope_14 rfl 0 rfl ?_
  refine r_get (pc := 15) (j := 28) (v := .int (gi w2 0 28)) oM0 cf12 flRX12_474 rfl dX12_newScope_15 rfl ?_
  refine r_aload_n (pc := 18) dX12_newScope_18 rfl 0 rfl ?_
  refine r_get (pc := 19) (j := 30) (v := .int (gi w2 0 30)) oM0 cf12 flRX12_477 rfl dX12_newScope_19 rfl ?_
  replace h := if_n h; obtain ⟨hb3, h⟩ := h
  replace h := lt_e h; obtain ⟨w4, ew4, h⟩ := h
  refine r_iast (pc := 22) aM15 (inb_in hb3) dX12_newScope_22 ?_
  refine r_w ew4 ?_
  refine r_aload_n (pc := 23) dX12_newScope_23 rfl 0 rfl ?_
  refine r_get (pc := 24) (j := 26) (v := .ref 16) oM0 cf12 flRX12_126 rfl dX12_newScope_24 rfl ?_
  refine r_aload_n (pc := 27) dX12_newScope_27 rfl 0 rfl ?_
  refine r_get (pc := 28) (j := 28) (v := .int (gi w4 0 28)) oM0 cf12 flRX12_474 rfl dX12_newScope_28 rfl ?_
  refine r_iconst (pc := 31) dX12_newScope_31 ki_m1 ?_
  replace h := if_n h; obtain ⟨hb5, h⟩ := h
  replace h := lt_e h; obtain ⟨w6, ew6, h⟩ := h
  refine r_iast (pc := 32) aM16 (inb_in hb5) dX12_newScope_32 ?_
  refine r_w ew6 ?_
  refine r_aload_n (pc := 33) dX12_newScope_33 rfl 0 rfl ?_
  refine r_get (pc := 34) (j := 27) (v := .ref 17) oM0 cf12 flRX12_129 rfl dX12_newScope_34 rfl ?_
  refine r_aload_n (pc := 37) dX12_newScope_37 rfl 0 rfl ?_
  refine r_get (pc := 38) (j := 28) (v := .int (gi w6 0 28)) oM0 cf12 flRX12_474 rfl dX12_newScope_38 rfl ?_
  refine r_iload_n (pc := 41) dX12_newScope_41 rfl 2 rfl ?_
  replace h := if_n h; obtain ⟨hb7, h⟩ := h
  replace h := lt_e h; obtain ⟨w8, ew8, h⟩ := h
  refine r_iast (pc := 42) aM17 (inb_in hb7) dX12_newScope_42 ?_
  refine r_w ew8 ?_
  refine r_aload_n (pc := 43) dX12_newScope_43 rfl 0 rfl ?_
  refine r_dup (pc := 44) dX12_newScope_44 rfl ?_
  refine r_get (pc := 45) (j := 28) (v := .int (gi w8 0 28)) oM0 cf12 flRX12_474 rfl dX12_newScope_45 rfl ?_
  refine r_iconst (pc := 48) dX12_newScope_48 ki_1 ?_
  refine r_iadd (pc := 49) dX12_newScope_49 ?_
  replace h := lt_e h; obtain ⟨w9, ew9, h⟩ := h
  refine r_putI (pc := 50) (j := 28) oM0 cf12 flRX12_474 rfl rfl rfl rfl dX12_newScope_50 ?_
  refine r_w ew9 ?_
  refine r_aload_n (pc := 53) dX12_newScope_53 rfl 0 rfl ?_
  refine r_get (pc := 54) (j := 28) (v := .int (gi w9 0 28)) oM0 cf12 flRX12_474 rfl dX12_newScope_54 rfl ?_
  refine r_iconst (pc := 57) dX12_newScope_57 ki_1 ?_
  refine r_isub (pc := 58) dX12_newScope_58 ?_
  exact rO_i (pc := 59) rfl dX12_newScope_59 h hN
theorem mX12_newScope {q : Gq} {l : Launch} {N : Option Value → Wd → Prop} {X : String → Wd → Prop} {a1 : Int32} {a2 : Int32} {w : Wd} {x : Int32} {u : Wd} (h : fX12_newScope a1 a2 w = some (x, u)) (hN : N (some (.int x)) u) : Ct (GM q) l 0 yX12_newScope cX12_newScope 3 ((some .int)) [.ref 0, .int a1, .int a2] w N X := Ct.of (by decide) (Nat.le_of_ble_eq_true rfl) (pX12_newScope hN h)
/-! AlgolMillModel.inScope (IJ)I: O, 0 -/
theorem dX12_inScope_0 : decode cX12_inScope 0 = .ok (.aload_n 0, 1) := by decide +kernel
theorem dX12_inScope_1 : decode cX12_inScope 1 = .ok (.getfield 126, 3) := by decide +kernel
theorem dX12_inScope_4 : decode cX12_inScope 4 = .ok (.iload_n 1, 1) := by decide +kernel
theorem dX12_inScope_5 : decode cX12_inScope 5 = .ok (.iaload, 1) := by decide +kernel
theorem dX12_inScope_6 : decode cX12_inScope 6 = .ok (.istore 4, 2) := by decide +kernel
theorem dX12_inScope_8 : decode cX12_inScope 8 = .ok (.iload 4, 2) := by decide +kernel
theorem dX12_inScope_10 : decode cX12_inScope 10 = .ok (.ifCond .lt 30, 3) := by decide +kernel
theorem dX12_inScope_13 : decode cX12_inScope 13 = .ok (.aload_n 0, 1) := by decide +kernel
theorem dX12_inScope_14 : decode cX12_inScope 14 = .ok (.getfield 132, 3) := by decide +kernel
theorem dX12_inScope_17 : decode cX12_inScope 17 = .ok (.iload 4, 2) := by decide +kernel
theorem dX12_inScope_19 : decode cX12_inScope 19 = .ok (.laload, 1) := by decide +kernel
theorem dX12_inScope_20 : decode cX12_inScope 20 = .ok (.lload_n 2, 1) := by decide +kernel
theorem dX12_inScope_21 : decode cX12_inScope 21 = .ok (.lcmp, 1) := by decide +kernel
theorem dX12_inScope_22 : decode cX12_inScope 22 = .ok (.ifCond .ne 6, 3) := by decide +kernel
theorem dX12_inScope_25 : decode cX12_inScope 25 = .ok (.iload 4, 2) := by decide +kernel
theorem dX12_inScope_27 : decode cX12_inScope 27 = .ok (.ireturn, 1) := by decide +kernel
theorem dX12_inScope_28 : decode cX12_inScope 28 = .ok (.aload_n 0, 1) := by decide +kernel
theorem dX12_inScope_29 : decode cX12_inScope 29 = .ok (.getfield 141, 3) := by decide +kernel
theorem dX12_inScope_32 : decode cX12_inScope 32 = .ok (.iload 4, 2) := by decide +kernel
theorem dX12_inScope_34 : decode cX12_inScope 34 = .ok (.iaload, 1) := by decide +kernel
theorem dX12_inScope_35 : decode cX12_inScope 35 = .ok (.istore 4, 2) := by decide +kernel
theorem dX12_inScope_37 : decode cX12_inScope 37 = .ok (.goto (-29), 3) := by decide +kernel
theorem dX12_inScope_40 : decode cX12_inScope 40 = .ok (.iconst (-1), 1) := by decide +kernel
theorem dX12_inScope_41 : decode cX12_inScope 41 = .ok (.ireturn, 1) := by decide +kernel
def fX12_inScope_8 (k_8 : Int64 → Int32 → Wd → Option (Int32 × Wd)) (a2 : Int64) (a4 : Int32) (w : Wd) : Option (Int32 × Wd) :=
  if a4 < 0 then (some ((-1), w)) else (if inb a4 5000 = true then if (gl w 18 (Int32.toNatClampNeg a4)) = a2 then (some (a4, w)) else (if inb a4 5000 = true then lt ((gi w 21 (Int32.toNatClampNeg a4))) fun x5 => k_8 a2 x5 w else none) else none)
theorem pX12_inScope_8 {q : Gq} {l : Launch} {N : Option Value → Wd → Prop} {X : String → Wd → Prop} {w : Wd} {R : Int32 × Wd} (hN : N (some (.int R.1)) R.2) {k_8 : Int64 → Int32 → Wd → Option (Int32 × Wd)} (hk_8 : ∀ (a2 : Int64) (a4 : Int32) (w : Wd), k_8 a2 a4 w = some R → RT (GM q) l 0 yX12_inScope cX12_inScope 5 ((some .int)) N X 8 [] [(0, .ref 0), (2, .long a2), (4, .int a4)] w) {a2 : Int64} {a4 : Int32} (h : fX12_inScope_8 k_8 a2 a4 w = some R) : RT (GM q) l 0 yX12_inScope cX12_inScope 5 ((some .int)) N X 8 [] [(0, .ref 0), (2, .long a2), (4, .int a4)] w := by
  unfold fX12_inScope_8 at h
  refine r_iload (pc := 8) dX12_inScope_8 2 rfl ?_
  refine r_if_lt (pc := 10) dX12_inScope_10 rfl (fun hc1 => ?_) (fun hc1 => ?_)
  · replace h := if_t hc1 h
    refine r_iconst (pc := 40) dX12_inScope_40 ki_m1 ?_
    exact rO_i (pc := 41) rfl dX12_inScope_41 h hN
  replace h := if_f hc1 h
  refine r_aload_n (pc := 13) dX12_inScope_13 rfl 0 rfl ?_
  refine r_get (pc := 14) (j := 31) (v := .ref 18) oM0 cf12 flRX12_132 rfl dX12_inScope_14 rfl ?_
  refine r_iload (pc := 17) dX12_inScope_17 2 rfl ?_
  replace h := if_n h; obtain ⟨hb2, h⟩ := h
  refine r_lald (pc := 19) aM18 (inb_in hb2) dX12_inScope_19 ?_
  refine r_lload_n (pc := 20) dX12_inScope_20 rfl 1 rfl ?_
  refine r_l_ne (pc := 21) dX12_inScope_21 dX12_inScope_22 rfl (fun hc3 => ?_) (fun hc3 => ?_)
  · replace h := if_f hc3 h
    refine r_aload_n (pc := 28) dX12_inScope_28 rfl 0 rfl ?_
    refine r_get (pc := 29) (j := 34) (v := .ref 21) oM0 cf12 flRX12_141 rfl dX12_inScope_29 rfl ?_
    refine r_iload (pc := 32) dX12_inScope_32 2 rfl ?_
    replace h := if_n h; obtain ⟨hb4, h⟩ := h
    refine r_iald (pc := 34) aM21 (inb_in hb4) dX12_inScope_34 ?_
    replace h := lt_e h; obtain ⟨x5, ex5, h⟩ := h
    refine r_topi ex5 ?_
    refine r_istore (pc := 35) (loc' := [(4, .int x5), (0, .ref 0), (2, .long a2)]) dX12_inScope_35 (Nat.le_of_ble_eq_true rfl) rfl ?_
    refine r_goto (pc := 37) dX12_inScope_37 rfl ?_
    refine r_drop (loc' := [(0, .ref 0), (2, .long a2), (4, .int x5)]) [1, 2, 0] rfl ?_
    exact hk_8 a2 x5 w h
  replace h := if_t hc3 h
  refine r_iload (pc := 25) dX12_inScope_25 2 rfl ?_
  exact rO_i (pc := 27) rfl dX12_inScope_27 h hN
def oX12_inScope_8 : Nat → Int64 → Int32 → Wd → Option (Int32 × Wd)
  | 0 => fun _ _ _ => none
  | n + 1 => fX12_inScope_8 (oX12_inScope_8 n)
theorem qX12_inScope_8 {q : Gq} {l : Launch} {N : Option Value → Wd → Prop} {X : String → Wd → Prop} {R : Int32 × Wd} (hN : N (some (.int R.1)) R.2) : ∀ (n : Nat) (a2 : Int64) (a4 : Int32) (w : Wd), oX12_inScope_8 n a2 a4 w = some R → RT (GM q) l 0 yX12_inScope cX12_inScope 5 ((some .int)) N X 8 [] [(0, .ref 0), (2, .long a2), (4, .int a4)] w := by
  intro n
  induction n with
  | zero =>
    intro a2 a4 w h
    exact absurd h (fun q => nomatch q)
  | succ n ih =>
    intro a2 a4 w h
    exact pX12_inScope_8 hN ih h
def fX12_inScope (a1 : Int32) (a2 : Int64) (w : Wd) : Option (Int32 × Wd) :=
  if inb a1 9000 = true then lt ((gi w 16 (Int32.toNatClampNeg a1))) fun x2 => oX12_inScope_8 FU a2 x2 w else none
theorem pX12_inScope {q : Gq} {l : Launch} {N : Option Value → Wd → Prop} {X : String → Wd → Prop} {w : Wd} {R : Int32 × Wd} (hN : N (some (.int R.1)) R.2) {a1 : Int32} {a2 : Int64} (h : fX12_inScope a1 a2 w = some R) : RT (GM q) l 0 yX12_inScope cX12_inScope 5 ((some .int)) N X 0 [] [(0, .ref 0), (1, .int a1), (2, .long a2)] w := by
  unfold fX12_inScope at h
  refine r_aload_n (pc := 0) dX12_inScope_0 rfl 0 rfl ?_
  refine r_get (pc := 1) (j := 26) (v := .ref 16) oM0 cf12 flRX12_126 rfl dX12_inScope_1 rfl ?_
  refine r_iload_n (pc := 4) dX12_inScope_4 rfl 1 rfl ?_
  replace h := if_n h; obtain ⟨hb1, h⟩ := h
  refine r_iald (pc := 5) aM16 (inb_in hb1) dX12_inScope_5 ?_
  replace h := lt_e h; obtain ⟨x2, ex2, h⟩ := h
  refine r_topi ex2 ?_
  refine r_istore (pc := 6) (loc' := [(4, .int x2), (0, .ref 0), (1, .int a1), (2, .long a2)]) dX12_inScope_6 (Nat.le_of_ble_eq_true rfl) rfl ?_
  refine r_drop (loc' := [(0, .ref 0), (2, .long a2), (4, .int x2)]) [1, 3, 0] rfl ?_
  exact qX12_inScope_8 hN FU a2 x2 w h
theorem mX12_inScope {q : Gq} {l : Launch} {N : Option Value → Wd → Prop} {X : String → Wd → Prop} {a1 : Int32} {a2 : Int64} {w : Wd} {x : Int32} {u : Wd} (h : fX12_inScope a1 a2 w = some (x, u)) (hN : N (some (.int x)) u) : Ct (GM q) l 0 yX12_inScope cX12_inScope 5 ((some .int)) [.ref 0, .int a1, .long a2] w N X := Ct.of (by decide) (Nat.le_of_ble_eq_true rfl) (pX12_inScope hN h)
/-! AlgolMillModel.lookUp (IJ)I: O, 1 -/
theorem dX12_lookUp_0 : decode cX12_lookUp 0 = .ok (.iload_n 1, 1) := by decide +kernel
theorem dX12_lookUp_1 : decode cX12_lookUp 1 = .ok (.istore 4, 2) := by decide +kernel
theorem dX12_lookUp_3 : decode cX12_lookUp 3 = .ok (.iload 4, 2) := by decide +kernel
theorem dX12_lookUp_5 : decode cX12_lookUp 5 = .ok (.ifCond .lt 32, 3) := by decide +kernel
theorem dX12_lookUp_8 : decode cX12_lookUp 8 = .ok (.aload_n 0, 1) := by decide +kernel
theorem dX12_lookUp_9 : decode cX12_lookUp 9 = .ok (.iload 4, 2) := by decide +kernel
theorem dX12_lookUp_11 : decode cX12_lookUp 11 = .ok (.lload_n 2, 1) := by decide +kernel
theorem dX12_lookUp_12 : decode cX12_lookUp 12 = .ok (.invokevirtual 480, 3) := by decide +kernel
theorem dX12_lookUp_15 : decode cX12_lookUp 15 = .ok (.istore 5, 2) := by decide +kernel
theorem dX12_lookUp_17 : decode cX12_lookUp 17 = .ok (.iload 5, 2) := by decide +kernel
theorem dX12_lookUp_19 : decode cX12_lookUp 19 = .ok (.ifCond .lt 6, 3) := by decide +kernel
theorem dX12_lookUp_22 : decode cX12_lookUp 22 = .ok (.iload 5, 2) := by decide +kernel
theorem dX12_lookUp_24 : decode cX12_lookUp 24 = .ok (.ireturn, 1) := by decide +kernel
theorem dX12_lookUp_25 : decode cX12_lookUp 25 = .ok (.aload_n 0, 1) := by decide +kernel
theorem dX12_lookUp_26 : decode cX12_lookUp 26 = .ok (.getfield 120, 3) := by decide +kernel
theorem dX12_lookUp_29 : decode cX12_lookUp 29 = .ok (.iload 4, 2) := by decide +kernel
theorem dX12_lookUp_31 : decode cX12_lookUp 31 = .ok (.iaload, 1) := by decide +kernel
theorem dX12_lookUp_32 : decode cX12_lookUp 32 = .ok (.istore 4, 2) := by decide +kernel
theorem dX12_lookUp_34 : decode cX12_lookUp 34 = .ok (.goto (-31), 3) := by decide +kernel
theorem dX12_lookUp_37 : decode cX12_lookUp 37 = .ok (.iconst (-1), 1) := by decide +kernel
theorem dX12_lookUp_38 : decode cX12_lookUp 38 = .ok (.ireturn, 1) := by decide +kernel
def fX12_lookUp_3 (k_3 : Int64 → Int32 → Wd → Option (Int32 × Wd)) (a2 : Int64) (a4 : Int32) (w : Wd) : Option (Int32 × Wd) :=
  if a4 < 0 then (some ((-1), w)) else (bn2 (fX12_inScope a4 a2 w) fun x2 w3 => if x2 < 0 then (if inb a4 9000 = true then lt ((gi w3 14 (Int32.toNatClampNeg a4))) fun x6 => k_3 a2 x6 w3 else none) else (some (x2, w3)))
theorem pX12_lookUp_3 {q : Gq} {l : Launch} {N : Option Value → Wd → Prop} {X : String → Wd → Prop} {w : Wd} {R : Int32 × Wd} (hN : N (some (.int R.1)) R.2) {k_3 : Int64 → Int32 → Wd → Option (Int32 × Wd)} (hk_3 : ∀ (a2 : Int64) (a4 : Int32) (w : Wd), k_3 a2 a4 w = some R → RT (GM q) l 1 yX12_lookUp cX12_lookUp 6 ((some .int)) N X 3 [] [(0, .ref 0), (2, .long a2), (4, .int a4)] w) {a2 : Int64} {a4 : Int32} (h : fX12_lookUp_3 k_3 a2 a4 w = some R) : RT (GM q) l 1 yX12_lookUp cX12_lookUp 6 ((some .int)) N X 3 [] [(0, .ref 0), (2, .long a2), (4, .int a4)] w := by
  unfold fX12_lookUp_3 at h
  refine r_iload (pc := 3) dX12_lookUp_3 2 rfl ?_
  refine r_if_lt (pc := 5) dX12_lookUp_5 rfl (fun hc1 => ?_) (fun hc1 => ?_)
  · replace h := if_t hc1 h
    refine r_iconst (pc := 37) dX12_lookUp_37 ki_m1 ?_
    exact rO_i (pc := 38) rfl dX12_lookUp_38 h hN
  replace h := if_f hc1 h
  refine r_aload_n (pc := 8) dX12_lookUp_8 rfl 0 rfl ?_
  refine r_iload (pc := 9) dX12_lookUp_9 2 rfl ?_
  refine r_lload_n (pc := 11) dX12_lookUp_11 rfl 1 rfl ?_
  replace h := bn2_e h; obtain ⟨x2, w3, ew3, h⟩ := h
  refine r_cVi (pc := 12) wyX12_inScope oM0 rfl mlRX12_480 iyX12_inScope syX12_inScope ⟨(Nat.le_of_ble_eq_true rfl), (Nat.le_of_ble_eq_true rfl)⟩ rfl rfl (Nat.le_of_ble_eq_true rfl) dX12_lookUp_12 (mX12_inScope ew3 (pI.mk ?_))
  refine r_istore (pc := 15) (loc' := [(5, .int x2), (0, .ref 0), (2, .long a2), (4, .int a4)]) dX12_lookUp_15 (Nat.le_of_ble_eq_true rfl) rfl ?_
  refine r_iload (pc := 17) dX12_lookUp_17 0 rfl ?_
  refine r_if_lt (pc := 19) dX12_lookUp_19 rfl (fun hc4 => ?_) (fun hc4 => ?_)
  · replace h := if_t hc4 h
    refine r_aload_n (pc := 25) dX12_lookUp_25 rfl 1 rfl ?_
    refine r_get (pc := 26) (j := 24) (v := .ref 14) oM0 cf12 flRX12_120 rfl dX12_lookUp_26 rfl ?_
    refine r_iload (pc := 29) dX12_lookUp_29 3 rfl ?_
    replace h := if_n h; obtain ⟨hb5, h⟩ := h
    refine r_iald (pc := 31) aM14 (inb_in hb5) dX12_lookUp_31 ?_
    replace h := lt_e h; obtain ⟨x6, ex6, h⟩ := h
    refine r_topi ex6 ?_
    refine r_istore (pc := 32) (loc' := [(4, .int x6), (5, .int x2), (0, .ref 0), (2, .long a2)]) dX12_lookUp_32 (Nat.le_of_ble_eq_true rfl) rfl ?_
    refine r_goto (pc := 34) dX12_lookUp_34 rfl ?_
    refine r_drop (loc' := [(0, .ref 0), (2, .long a2), (4, .int x6)]) [2, 3, 0] rfl ?_
    exact hk_3 a2 x6 w3 h
  replace h := if_f hc4 h
  refine r_iload (pc := 22) dX12_lookUp_22 0 rfl ?_
  exact rO_i (pc := 24) rfl dX12_lookUp_24 h hN
def oX12_lookUp_3 : Nat → Int64 → Int32 → Wd → Option (Int32 × Wd)
  | 0 => fun _ _ _ => none
  | n + 1 => fX12_lookUp_3 (oX12_lookUp_3 n)
theorem qX12_lookUp_3 {q : Gq} {l : Launch} {N : Option Value → Wd → Prop} {X : String → Wd → Prop} {R : Int32 × Wd} (hN : N (some (.int R.1)) R.2) : ∀ (n : Nat) (a2 : Int64) (a4 : Int32) (w : Wd), oX12_lookUp_3 n a2 a4 w = some R → RT (GM q) l 1 yX12_lookUp cX12_lookUp 6 ((some .int)) N X 3 [] [(0, .ref 0), (2, .long a2), (4, .int a4)] w := by
  intro n
  induction n with
  | zero =>
    intro a2 a4 w h
    exact absurd h (fun q => nomatch q)
  | succ n ih =>
    intro a2 a4 w h
    exact pX12_lookUp_3 hN ih h
def fX12_lookUp (a1 : Int32) (a2 : Int64) (w : Wd) : Option (Int32 × Wd) :=
  oX12_lookUp_3 FU a2 a1 w
theorem pX12_lookUp {q : Gq} {l : Launch} {N : Option Value → Wd → Prop} {X : String → Wd → Prop} {w : Wd} {R : Int32 × Wd} (hN : N (some (.int R.1)) R.2) {a1 : Int32} {a2 : Int64} (h : fX12_lookUp a1 a2 w = some R) : RT (GM q) l 1 yX12_lookUp cX12_lookUp 6 ((some .int)) N X 0 [] [(0, .ref 0), (1, .int a1), (2, .long a2)] w := by
  unfold fX12_lookUp at h
  refine r_iload_n (pc := 0) dX12_lookUp_0 rfl 1 rfl ?_
  refine r_istore (pc := 1) (loc' := [(4, .int a1), (0, .ref 0), (1, .int a1), (2, .long a2)]) dX12_lookUp_1 (Nat.le_of_ble_eq_true rfl) rfl ?_
  refine r_drop (loc' := [(0, .ref 0), (2, .long a2), (4, .int a1)]) [1, 3, 0] rfl ?_
  exact qX12_lookUp_3 hN FU a2 a1 w h
theorem mX12_lookUp {q : Gq} {l : Launch} {N : Option Value → Wd → Prop} {X : String → Wd → Prop} {a1 : Int32} {a2 : Int64} {w : Wd} {x : Int32} {u : Wd} (h : fX12_lookUp a1 a2 w = some (x, u)) (hN : N (some (.int x)) u) : Ct (GM q) l 1 yX12_lookUp cX12_lookUp 6 ((some .int)) [.ref 0, .int a1, .long a2] w N X := Ct.of (by decide) (Nat.le_of_ble_eq_true rfl) (pX12_lookUp hN h)
/-! AlgolMillModel.declare (IIII)I: O, 1 -/
theorem dX12_declare_0 : decode cX12_declare 0 = .ok (.aload_n 0, 1) := by decide +kernel
theorem dX12_declare_1 : decode cX12_declare 1 = .ok (.iload_n 1, 1) := by decide +kernel
theorem dX12_declare_2 : decode cX12_declare 2 = .ok (.aload_n 0, 1) := by decide +kernel
theorem dX12_declare_3 : decode cX12_declare 3 = .ok (.getfield 20, 3) := by decide +kernel
theorem dX12_declare_6 : decode cX12_declare 6 = .ok (.iload_n 2, 1) := by decide +kernel
theorem dX12_declare_7 : decode cX12_declare 7 = .ok (.laload, 1) := by decide +kernel
theorem dX12_declare_8 : decode cX12_declare 8 = .ok (.invokevirtual 480, 3) := by decide +kernel
theorem dX12_declare_11 : decode cX12_declare 11 = .ok (.ifCond .lt 22, 3) := by decide +kernel
theorem dX12_declare_14 : decode cX12_declare 14 = .ok (.aload_n 0, 1) := by decide +kernel
theorem dX12_declare_15 : decode cX12_declare 15 = .ok (.iconst 3, 1) := by decide +kernel
theorem dX12_declare_16 : decode cX12_declare 16 = .ok (.iload_n 2, 1) := by decide +kernel
theorem dX12_declare_17 : decode cX12_declare 17 = .ok (.invokevirtual 484, 3) := by decide +kernel
theorem dX12_declare_20 : decode cX12_declare 20 = .ok (.aload_n 0, 1) := by decide +kernel
theorem dX12_declare_21 : decode cX12_declare 21 = .ok (.getfield 141, 3) := by decide +kernel
theorem dX12_declare_24 : decode cX12_declare 24 = .ok (.aload_n 0, 1) := by decide +kernel
theorem dX12_declare_25 : decode cX12_declare 25 = .ok (.getfield 488, 3) := by decide +kernel
theorem dX12_declare_28 : decode cX12_declare 28 = .ok (.iconst (-1), 1) := by decide +kernel
theorem dX12_declare_29 : decode cX12_declare 29 = .ok (.iastore, 1) := by decide +kernel
theorem dX12_declare_30 : decode cX12_declare 30 = .ok (.goto 28, 3) := by decide +kernel
theorem dX12_declare_33 : decode cX12_declare 33 = .ok (.aload_n 0, 1) := by decide +kernel
theorem dX12_declare_34 : decode cX12_declare 34 = .ok (.getfield 141, 3) := by decide +kernel
theorem dX12_declare_37 : decode cX12_declare 37 = .ok (.aload_n 0, 1) := by decide +kernel
theorem dX12_declare_38 : decode cX12_declare 38 = .ok (.getfield 488, 3) := by decide +kernel
theorem dX12_declare_41 : decode cX12_declare 41 = .ok (.aload_n 0, 1) := by decide +kernel
theorem dX12_declare_42 : decode cX12_declare 42 = .ok (.getfield 126, 3) := by decide +kernel
theorem dX12_declare_45 : decode cX12_declare 45 = .ok (.iload_n 1, 1) := by decide +kernel
theorem dX12_declare_46 : decode cX12_declare 46 = .ok (.iaload, 1) := by decide +kernel
theorem dX12_declare_47 : decode cX12_declare 47 = .ok (.iastore, 1) := by decide +kernel
theorem dX12_declare_48 : decode cX12_declare 48 = .ok (.aload_n 0, 1) := by decide +kernel
theorem dX12_declare_49 : decode cX12_declare 49 = .ok (.getfield 126, 3) := by decide +kernel
theorem dX12_declare_52 : decode cX12_declare 52 = .ok (.iload_n 1, 1) := by decide +kernel
theorem dX12_declare_53 : decode cX12_declare 53 = .ok (.aload_n 0, 1) := by decide +kernel
theorem dX12_declare_54 : decode cX12_declare 54 = .ok (.getfield 488, 3) := by decide +kernel
theorem dX12_declare_57 : decode cX12_declare 57 = .ok (.iastore, 1) := by decide +kernel
theorem dX12_declare_58 : decode cX12_declare 58 = .ok (.aload_n 0, 1) := by decide +kernel
theorem dX12_declare_59 : decode cX12_declare 59 = .ok (.getfield 488, 3) := by decide +kernel
theorem dX12_declare_62 : decode cX12_declare 62 = .ok (.istore 5, 2) := by decide +kernel
theorem dX12_declare_64 : decode cX12_declare 64 = .ok (.aload_n 0, 1) := by decide +kernel
theorem dX12_declare_65 : decode cX12_declare 65 = .ok (.dup, 1) := by decide +kernel
theorem dX12_declare_66 : decode cX12_declare 66 = .ok (.getfield 488, 3) := by decide +kernel
theorem dX12_declare_69 : decode cX12_declare 69 = .ok (.iconst 1, 1) := by decide +kernel
theorem dX12_declare_70 : decode cX12_declare 70 = .ok (.iadd, 1) := by decide +kernel
theorem dX12_declare_71 : decode cX12_declare 71 = .ok (.putfield 488, 3) := by decide +kernel
theorem dX12_declare_74 : decode cX12_declare 74 = .ok (.aload_n 0, 1) := by decide +kernel
theorem dX12_declare_75 : decode cX12_declare 75 = .ok (.getfield 132, 3) := by decide +kernel
theorem dX12_declare_78 : decode cX12_declare 78 = .ok (.iload 5, 2) := by decide +kernel
theorem dX12_declare_80 : decode cX12_declare 80 = .ok (.aload_n 0, 1) := by decide +kernel
theorem dX12_declare_81 : decode cX12_declare 81 = .ok (.getfield 20, 3) := by decide +kernel
theorem dX12_declare_84 : decode cX12_declare 84 = .ok (.iload_n 2, 1) := by decide +kernel
theorem dX12_declare_85 : decode cX12_declare 85 = .ok (.laload, 1) := by decide +kernel
theorem dX12_declare_86 : decode cX12_declare 86 = .ok (.lastore, 1) := by decide +kernel
theorem dX12_declare_87 : decode cX12_declare 87 = .ok (.aload_n 0, 1) := by decide +kernel
theorem dX12_declare_88 : decode cX12_declare 88 = .ok (.getfield 135, 3) := by decide +kernel
theorem dX12_declare_91 : decode cX12_declare 91 = .ok (.iload 5, 2) := by decide +kernel
theorem dX12_declare_93 : decode cX12_declare 93 = .ok (.iload_n 3, 1) := by decide +kernel
theorem dX12_declare_94 : decode cX12_declare 94 = .ok (.iastore, 1) := by decide +kernel
theorem dX12_declare_95 : decode cX12_declare 95 = .ok (.aload_n 0, 1) := by decide +kernel
theorem dX12_declare_96 : decode cX12_declare 96 = .ok (.getfield 138, 3) := by decide +kernel
theorem dX12_declare_99 : decode cX12_declare 99 = .ok (.iload 5, 2) := by decide +kernel
theorem dX12_declare_101 : decode cX12_declare 101 = .ok (.iload 4, 2) := by decide +kernel
theorem dX12_declare_103 : decode cX12_declare 103 = .ok (.iastore, 1) := by decide +kernel
theorem dX12_declare_104 : decode cX12_declare 104 = .ok (.aload_n 0, 1) := by decide +kernel
theorem dX12_declare_105 : decode cX12_declare 105 = .ok (.getfield 144, 3) := by decide +kernel
theorem dX12_declare_108 : decode cX12_declare 108 = .ok (.iload 5, 2) := by decide +kernel
theorem dX12_declare_110 : decode cX12_declare 110 = .ok (.iload_n 2, 1) := by decide +kernel
theorem dX12_declare_111 : decode cX12_declare 111 = .ok (.iastore, 1) := by decide +kernel
theorem dX12_declare_112 : decode cX12_declare 112 = .ok (.aload_n 0, 1) := by decide +kernel
theorem dX12_declare_113 : decode cX12_declare 113 = .ok (.getfield 147, 3) := by decide +kernel
theorem dX12_declare_116 : decode cX12_declare 116 = .ok (.iload 5, 2) := by decide +kernel
theorem dX12_declare_118 : decode cX12_declare 118 = .ok (.aload_n 0, 1) := by decide +kernel
theorem dX12_declare_119 : decode cX12_declare 119 = .ok (.getfield 477, 3) := by decide +kernel
theorem dX12_declare_122 : decode cX12_declare 122 = .ok (.iastore, 1) := by decide +kernel
theorem dX12_declare_123 : decode cX12_declare 123 = .ok (.aload_n 0, 1) := by decide +kernel
theorem dX12_declare_124 : decode cX12_declare 124 = .ok (.getfield 150, 3) := by decide +kernel
theorem dX12_declare_127 : decode cX12_declare 127 = .ok (.iload 5, 2) := by decide +kernel
theorem dX12_declare_129 : decode cX12_declare 129 = .ok (.iconst 0, 1) := by decide +kernel
theorem dX12_declare_130 : decode cX12_declare 130 = .ok (.iastore, 1) := by decide +kernel
theorem dX12_declare_131 : decode cX12_declare 131 = .ok (.aload_n 0, 1) := by decide +kernel
theorem dX12_declare_132 : decode cX12_declare 132 = .ok (.getfield 153, 3) := by decide +kernel
theorem dX12_declare_135 : decode cX12_declare 135 = .ok (.iload 5, 2) := by decide +kernel
theorem dX12_declare_137 : decode cX12_declare 137 = .ok (.iconst (-1), 1) := by decide +kernel
theorem dX12_declare_138 : decode cX12_declare 138 = .ok (.iastore, 1) := by decide +kernel
theorem dX12_declare_139 : decode cX12_declare 139 = .ok (.aload_n 0, 1) := by decide +kernel
theorem dX12_declare_140 : decode cX12_declare 140 = .ok (.getfield 159, 3) := by decide +kernel
theorem dX12_declare_143 : decode cX12_declare 143 = .ok (.iload 5, 2) := by decide +kernel
theorem dX12_declare_145 : decode cX12_declare 145 = .ok (.iconst 0, 1) := by decide +kernel
theorem dX12_declare_146 : decode cX12_declare 146 = .ok (.bastore, 1) := by decide +kernel
theorem dX12_declare_147 : decode cX12_declare 147 = .ok (.aload_n 0, 1) := by decide +kernel
theorem dX12_declare_148 : decode cX12_declare 148 = .ok (.getfield 163, 3) := by decide +kernel
theorem dX12_declare_151 : decode cX12_declare 151 = .ok (.iload 5, 2) := by decide +kernel
theorem dX12_declare_153 : decode cX12_declare 153 = .ok (.iconst 0, 1) := by decide +kernel
theorem dX12_declare_154 : decode cX12_declare 154 = .ok (.bastore, 1) := by decide +kernel
theorem dX12_declare_155 : decode cX12_declare 155 = .ok (.iload_n 3, 1) := by decide +kernel
theorem dX12_declare_156 : decode cX12_declare 156 = .ok (.iconst 4, 1) := by decide +kernel
theorem dX12_declare_157 : decode cX12_declare 157 = .ok (.if_icmp .eq 37, 3) := by decide +kernel
theorem dX12_declare_160 : decode cX12_declare 160 = .ok (.aload_n 0, 1) := by decide +kernel
theorem dX12_declare_161 : decode cX12_declare 161 = .ok (.getfield 181, 3) := by decide +kernel
theorem dX12_declare_164 : decode cX12_declare 164 = .ok (.aload_n 0, 1) := by decide +kernel
theorem dX12_declare_165 : decode cX12_declare 165 = .ok (.getfield 477, 3) := by decide +kernel
theorem dX12_declare_168 : decode cX12_declare 168 = .ok (.dup2, 1) := by decide +kernel
theorem dX12_declare_169 : decode cX12_declare 169 = .ok (.iaload, 1) := by decide +kernel
theorem dX12_declare_170 : decode cX12_declare 170 = .ok (.iconst 1, 1) := by decide +kernel
theorem dX12_declare_171 : decode cX12_declare 171 = .ok (.iadd, 1) := by decide +kernel
theorem dX12_declare_172 : decode cX12_declare 172 = .ok (.iastore, 1) := by decide +kernel
theorem dX12_declare_173 : decode cX12_declare 173 = .ok (.aload_n 0, 1) := by decide +kernel
theorem dX12_declare_174 : decode cX12_declare 174 = .ok (.getfield 181, 3) := by decide +kernel
theorem dX12_declare_177 : decode cX12_declare 177 = .ok (.aload_n 0, 1) := by decide +kernel
theorem dX12_declare_178 : decode cX12_declare 178 = .ok (.getfield 477, 3) := by decide +kernel
theorem dX12_declare_181 : decode cX12_declare 181 = .ok (.iaload, 1) := by decide +kernel
theorem dX12_declare_182 : decode cX12_declare 182 = .ok (.sipush 200, 3) := by decide +kernel
theorem dX12_declare_185 : decode cX12_declare 185 = .ok (.if_icmp .le 9, 3) := by decide +kernel
theorem dX12_declare_188 : decode cX12_declare 188 = .ok (.aload_n 0, 1) := by decide +kernel
theorem dX12_declare_189 : decode cX12_declare 189 = .ok (.iconst 5, 1) := by decide +kernel
theorem dX12_declare_190 : decode cX12_declare 190 = .ok (.iload_n 2, 1) := by decide +kernel
theorem dX12_declare_191 : decode cX12_declare 191 = .ok (.invokevirtual 484, 3) := by decide +kernel
theorem dX12_declare_194 : decode cX12_declare 194 = .ok (.iload 5, 2) := by decide +kernel
theorem dX12_declare_196 : decode cX12_declare 196 = .ok (.ireturn, 1) := by decide +kernel
def fX12_declare_58 (a2 : Int32) (a3 : Int32) (a4 : Int32) (w : Wd) : Option (Int32 × Wd) :=
  lt ((gi w 0 42)) fun x1 => lt (si w 0 42 ((gi w 0 42) + 1)) fun w2 => if inb a2 8194 = true then if inb x1 5000 = true then lt (sl w2 18 (Int32.toNatClampNeg x1) (gl w2 4 (Int32.toNatClampNeg a2))) fun w5 => if inb x1 5000 = true then lt (si w5 19 (Int32.toNatClampNeg x1) a3) fun w7 => if inb x1 5000 = true then lt (si w7 20 (Int32.toNatClampNeg x1) a4) fun w9 => if inb x1 5000 = true then lt (si w9 22 (Int32.toNatClampNeg x1) a2) fun w11 => if inb x1 5000 = true then lt (si w11 23 (Int32.toNatClampNeg x1) (gi w11 0 30)) fun w13 => if inb x1 5000 = true then lt (si w13 24 (Int32.toNatClampNeg x1) 0) fun w15 => if inb x1 5000 = true then lt (si w15 25 (Int32.toNatClampNeg x1) (-1)) fun w17 => if inb x1 5000 = true then lt (si w17 27 (Int32.toNatClampNeg x1) (vp_nar .boolean 0)) fun w19 => if inb x1 5000 = true then lt (si w19 28 (Int32.toNatClampNeg x1) (vp_nar .boolean 0)) fun w21 => if a3 = 4 then (some (x1, w21)) else (if inb (gi w21 0 30) 1200 = true then if inb (gi w21 0 30) 1200 = true then lt (si w21 34 (Int32.toNatClampNeg (gi w21 0 30)) ((gi w21 34 (Int32.toNatClampNeg (gi w21 0 30))) + 1)) fun w25 => if inb (gi w25 0 30) 1200 = true then if (gi w25 34 (Int32.toNatClampNeg (gi w25 0 30))) ≤ 200 then (some (x1, w25)) else (bn (fX12_found 5 a2 w25) fun w28 => some (x1, w28)) else none else none else none) else none else none else none else none else none else none else none else none else none else none
set_option maxHeartbeats 16000000 in
theorem pX12_declare_58 {q : Gq} {l : Launch} {N : Option Value → Wd → Prop} {X : String → Wd → Prop} {w : Wd} {R : Int32 × Wd} (hN : N (some (.int R.1)) R.2) {a2 : Int32} {a3 : Int32} {a4 : Int32} (h : fX12_declare_58 a2 a3 a4 w = some R) : RT (GM q) l 1 yX12_declare cX12_declare 6 ((some .int)) N X 58 [] [(0, .ref 0), (2, .int a2), (3, .int a3), (4, .int a4)] w := by
  unfold fX12_declare_58 at h
  refine r_aload_n (pc := 58) dX12_declare_58 rfl 0 rfl ?_
  refine r_get (pc := 59) (j := 42) (v := .int (gi w 0 42)) oM0 cf12 flRX12_488 rfl dX12_declare_59 rfl ?_
  replace h := lt_e h; obtain ⟨x1, ex1, h⟩ := h
  refine r_topi ex1 ?_
  refine r_istore (pc := 62) (loc' := [(5, .int x1), (0, .ref 0), (2, .int a2), (3, .int a3), (4, .int a4)]) dX12_declare_62 (Nat.le_of_ble_eq_true rfl) rfl ?_
  refine r_aload_n (pc := 64) dX12_declare_64 rfl 1 rfl ?_
  refine r_dup (pc := 65) dX12_declare_65 rfl ?_
  refine r_get (pc := 66) (j := 42) (v := .int (gi w 0 42)) oM0 cf12 flRX12_488 rfl dX12_declare_66 rfl ?_
  refine r_iconst (pc := 69) dX12_declare_69 ki_1 ?_
  refine r_iadd (pc := 70) dX12_declare_70 ?_
  replace h := lt_e h; obtain ⟨w2, ew2, h⟩ := h
  refine r_putI (pc := 71) (j := 42) oM0 cf12 flRX12_488 rfl rfl rfl rfl dX12_declare_71 ?_
  refine r_w ew2 ?_
  refine r_aload_n (pc := 74) dX12_declare_74 rfl 1 rfl ?_
  refine r_get (pc := 75) (j := 31) (v := .ref 18) oM0 cf12 flRX12_132 rfl dX12_declare_75 rfl ?_
  refine r_iload (pc := 78) dX12_declare_78 0 rfl ?_
  refine r_aload_n (pc := 80) dX12_declare_80 rfl 1 rfl ?_
  refine r_get (pc := 81) (j := 5) (v := .ref 4) oM0 cf12 flRX12_20 rfl dX12_declare_81 rfl ?_
  refine r_iload_n (pc := 84) dX12_declare_84 rfl 2 rfl ?_
  replace h := if_n h; obtain ⟨hb3, h⟩ := h
  refine r_lald (pc := 85) aM4 (inb_in hb3) dX12_declare_85 ?_
  replace h := if_n h; obtain ⟨hb4, h⟩ := h
  replace h := lt_e h; obtain ⟨w5, ew5, h⟩ := h
  refine r_last (pc := 86) aM18 (inb_in hb4) dX12_declare_86 ?_
  refine r_w ew5 ?_
  refine r_aload_n (pc := 87) dX12_declare_87 rfl 1 rfl ?_
  refine r_get (pc := 88) (j := 32) (v := .ref 19) oM0 cf12 flRX12_135 rfl dX12_declare_88 rfl ?_
  refine r_iload (pc := 91) dX12_declare_91 0 rfl ?_
  refine r_iload_n (pc := 93) dX12_declare_93 rfl 3 rfl ?_
  replace h := if_n h; obtain ⟨hb6, h⟩ := h
  replace h := lt_e h; obtain ⟨w7, ew7, h⟩ := h
  refine r_iast (pc := 94) aM19 (inb_in hb6) dX12_declare_94 ?_
  refine r_w ew7 ?_
  refine r_aload_n (pc := 95) dX12_declare_95 rfl 1 rfl ?_
  refine r_get (pc := 96) (j := 33) (v := .ref 20) oM0 cf12 flRX12_138 rfl dX12_declare_96 rfl ?_
  refine r_iload (pc := 99) dX12_declare_99 0 rfl ?_
  refine r_iload (pc := 101) dX12_declare_101 4 rfl ?_
  replace h := if_n h; obtain ⟨hb8, h⟩ := h
  replace h := lt_e h; obtain ⟨w9, ew9, h⟩ := h
  refine r_iast (pc := 103) aM20 (inb_in hb8) dX12_declare_103 ?_
  refine r_w ew9 ?_
  refine r_aload_n (pc := 104) dX12_declare_104 rfl 1 rfl ?_
  refine r_get (pc := 105) (j := 35) (v := .ref 22) oM0 cf12 flRX12_144 rfl dX12_declare_105 rfl ?_
  refine r_iload (pc := 108) dX12_declare_108 0 rfl ?_
  refine r_iload_n (pc := 110) dX12_declare_110 rfl 2 rfl ?_
  replace h := if_n h; obtain ⟨hb10, h⟩ := h
  replace h := lt_e h; obtain ⟨w11, ew11, h⟩ := h
  refine r_iast (pc := 111) aM22 (inb_in hb10) dX12_declare_111 ?_
  refine r_w ew11 ?_
  refine r_aload_n (pc := 112) dX12_declare_112 rfl 1 rfl ?_
  refine r_get (pc := 113) (j := 36) (v := .ref 23) oM0 cf12 flRX12_147 rfl dX12_declare_113 rfl ?_
  refine r_iload (pc := 116) dX12_declare_116 0 rfl ?_
  refine r_aload_n (pc := 118) dX12_declare_118 rfl 1 rfl ?_
  refine r_get (pc := 119) (j := 30) (v := .int (gi w11 0 30)) oM0 cf12 flRX12_477 rfl dX12_declare_119 rfl ?_
  replace h := if_n h; obtain ⟨hb12, h⟩ := h
  replace h := lt_e h; obtain ⟨w13, ew13, h⟩ := h
  refine r_iast (pc := 122) aM23 (inb_in hb12) dX12_declare_122 ?_
  refine r_w ew13 ?_
  refine r_aload_n (pc := 123) dX12_declare_123 rfl 1 rfl ?_
  refine r_get (pc := 124) (j := 37) (v := .ref 24) oM0 cf12 flRX12_150 rfl dX12_declare_124 rfl ?_
  refine r_iload (pc := 127) dX12_declare_127 0 rfl ?_
  refine r_iconst (pc := 129) dX12_declare_129 ki_0 ?_
  replace h := if_n h; obtain ⟨hb14, h⟩ := h
  replace h := lt_e h; obtain ⟨w15, ew15, h⟩ := h
  refine r_iast (pc := 130) aM24 (inb_in hb14) dX12_declare_130 ?_
  refine r_w ew15 ?_
  refine r_aload_n (pc := 131) dX12_declare_131 rfl 1 rfl ?_
  refine r_get (pc := 132) (j := 38) (v := .ref 25) oM0 cf12 flRX12_153 rfl dX12_declare_132 rfl ?_
  refine r_iload (pc := 135) dX12_declare_135 0 rfl ?_
  refine r_iconst (pc := 137) dX12_declare_137 ki_m1 ?_
  replace h := if_n h; obtain ⟨hb16, h⟩ := h
  replace h := lt_e h; obtain ⟨w17, ew17, h⟩ := h
  refine r_iast (pc := 138) aM25 (inb_in hb16) dX12_declare_138 ?_
  refine r_w ew17 ?_
  refine r_aload_n (pc := 139) dX12_declare_139 rfl 1 rfl ?_
  refine r_get (pc := 140) (j := 40) (v := .ref 27) oM0 cf12 flRX12_159 rfl dX12_declare_140 rfl ?_
  refine r_iload (pc := 143) dX12_declare_143 0 rfl ?_
  refine r_iconst (pc := 145) dX12_declare_145 ki_0 ?_
  replace h := if_n h; obtain ⟨hb18, h⟩ := h
  replace h := lt_e h; obtain ⟨w19, ew19, h⟩ := h
  refine r_zast (pc := 146) aM27 (inb_in hb18) dX12_declare_146 ?_
  refine r_w ew19 ?_
  refine r_aload_n (pc := 147) dX12_declare_147 rfl 1 rfl ?_
  refine r_get (pc := 148) (j := 41) (v := .ref 28) oM0 cf12 flRX12_163 rfl dX12_declare_148 rfl ?_
  refine r_iload (pc := 151) dX12_declare_151 0 rfl ?_
  refine r_iconst (pc := 153) dX12_declare_153 ki_0 ?_
  replace h := if_n h; obtain ⟨hb20, h⟩ := h
  replace h := lt_e h; obtain ⟨w21, ew21, h⟩ := h
  refine r_zast (pc := 154) aM28 (inb_in hb20) dX12_declare_154 ?_
  refine r_w ew21 ?_
  refine r_iload_n (pc := 155) dX12_declare_155 rfl 3 rfl ?_
  refine r_iconst (pc := 156) dX12_declare_156 ki_4 ?_
  refine r_icmp_eq (pc := 157) dX12_declare_157 rfl (fun hc22 => ?_) (fun hc22 => ?_)
  · replace h := if_t hc22 h
    refine r_iload (pc := 194) dX12_declare_194 0 rfl ?_
    exact rO_i (pc := 196) rfl dX12_declare_196 h hN
  replace h := if_f hc22 h
  refine r_aload_n (pc := 160) dX12_declare_160 rfl 1 rfl ?_
  refine r_get (pc := 161) (j := 48) (v := .ref 34) oM0 cf12 flRX12_181 rfl dX12_declare_161 rfl ?_
  refine r_aload_n (pc := 164) dX12_declare_164 rfl 1 rfl ?_
  refine r_get (pc := 165) (j := 30) (v := .int (gi w21 0 30)) oM0 cf12 flRX12_477 rfl dX12_declare_165 rfl ?_
  refine r_dup2 (pc := 168) dX12_declare_168 rfl rfl ?_
  replace h := if_n h; obtain ⟨hb23, h⟩ := h
  refine r_iald (pc := 169) aM34 (inb_in hb23) dX12_declare_169 ?_
  refine r_iconst (pc := 170) dX12_declare_170 ki_1 ?_
  refine r_iadd (pc := 171) dX12_declare_171 ?_
  replace h := if_n h; obtain ⟨hb24, h⟩ := h
  replace h := lt_e h; obtain ⟨w25, ew25, h⟩ := h
  refine r_iast (pc := 172) aM34 (inb_in hb24) dX12_declare_172 ?_
  refine r_w ew25 ?_
  refine r_aload_n (pc := 173) dX12_declare_173 rfl 1 rfl ?_
  refine r_get (pc := 174) (j := 48) (v := .ref 34) oM0 cf12 flRX12_181 rfl dX12_declare_174 rfl ?_
  refine r_aload_n (pc := 177) dX12_declare_177 rfl 1 rfl ?_
  refine r_get (pc := 178) (j := 30) (v := .int (gi w25 0 30)) oM0 cf12 flRX12_477 rfl dX12_declare_178 rfl ?_
  replace h := if_n h; obtain ⟨hb26, h⟩ := h
  refine r_iald (pc := 181) aM34 (inb_in hb26) dX12_declare_181 ?_
  refine r_sipush (pc := 182) dX12_declare_182 ks_200 ?_
  refine r_icmp_le (pc := 185) dX12_declare_185 rfl (fun hc27 => ?_) (fun hc27 => ?_)
  · replace h := if_t hc27 h
    refine r_iload (pc := 194) dX12_declare_194 0 rfl ?_
    exact rO_i (pc := 196) rfl dX12_declare_196 h hN
  replace h := if_f hc27 h
  refine r_aload_n (pc := 188) dX12_declare_188 rfl 1 rfl ?_
  refine r_iconst (pc := 189) dX12_declare_189 ki_5 ?_
  refine r_iload_n (pc := 190) dX12_declare_190 rfl 2 rfl ?_
  replace h := bn_e h; obtain ⟨w28, ew28, h⟩ := h
  refine r_cVv (pc := 191) wyX12_found oM0 rfl mlRX12_484 iyX12_found syX12_found ⟨(Nat.le_of_ble_eq_true rfl), (Nat.le_of_ble_eq_true rfl)⟩ rfl rfl (Nat.le_of_ble_eq_true rfl) dX12_declare_191 (mX12_found ew28 (pV.mk ?_))
  refine r_iload (pc := 194) dX12_declare_194 0 rfl ?_
  exact rO_i (pc := 196) rfl dX12_declare_196 h hN
def fX12_declare (a1 : Int32) (a2 : Int32) (a3 : Int32) (a4 : Int32) (w : Wd) : Option (Int32 × Wd) :=
  if inb a2 8194 = true then bn2 (fX12_inScope a1 (gl w 4 (Int32.toNatClampNeg a2)) w) fun x2 w3 => if x2 < 0 then (if inb a1 9000 = true then if inb (gi w3 0 42) 5000 = true then lt (si w3 21 (Int32.toNatClampNeg (gi w3 0 42)) (gi w3 16 (Int32.toNatClampNeg a1))) fun w7 => if inb a1 9000 = true then lt (si w7 16 (Int32.toNatClampNeg a1) (gi w7 0 42)) fun w9 => fX12_declare_58 a2 a3 a4 w9 else none else none else none) else (bn (fX12_found 3 a2 w3) fun w10 => if inb (gi w10 0 42) 5000 = true then lt (si w10 21 (Int32.toNatClampNeg (gi w10 0 42)) (-1)) fun w12 => fX12_declare_58 a2 a3 a4 w12 else none) else none
theorem pX12_declare {q : Gq} {l : Launch} {N : Option Value → Wd → Prop} {X : String → Wd → Prop} {w : Wd} {R : Int32 × Wd} (hN : N (some (.int R.1)) R.2) {a1 : Int32} {a2 : Int32} {a3 : Int32} {a4 : Int32} (h : fX12_declare a1 a2 a3 a4 w = some R) : RT (GM q) l 1 yX12_declare cX12_declare 6 ((some .int)) N X 0 [] [(0, .ref 0), (1, .int a1), (2, .int a2), (3, .int a3), (4, .int a4)] w := by
  unfold fX12_declare at h
  refine r_aload_n (pc := 0) dX12_declare_0 rfl 0 rfl ?_
  refine r_iload_n (pc := 1) dX12_declare_1 rfl 1 rfl ?_
  refine r_aload_n (pc := 2) dX12_declare_2 rfl 0 rfl ?_
  refine r_get (pc := 3) (j := 5) (v := .ref 4) oM0 cf12 flRX12_20 rfl dX12_declare_3 rfl ?_
  refine r_iload_n (pc := 6) dX12_declare_6 rfl 2 rfl ?_
  replace h := if_n h; obtain ⟨hb1, h⟩ := h
  refine r_lald (pc := 7) aM4 (inb_in hb1) dX12_declare_7 ?_
  replace h := bn2_e h; obtain ⟨x2, w3, ew3, h⟩ := h
  refine r_cVi (pc := 8) wyX12_inScope oM0 rfl mlRX12_480 iyX12_inScope syX12_inScope ⟨(Nat.le_of_ble_eq_true rfl), (Nat.le_of_ble_eq_true rfl)⟩ rfl rfl (Nat.le_of_ble_eq_true rfl) dX12_declare_8 (mX12_inScope ew3 (pI.mk ?_))
  refine r_if_lt (pc := 11) dX12_declare_11 rfl (fun hc4 => ?_) (fun hc4 => ?_)
  · replace h := if_t hc4 h
    refine r_aload_n (pc := 33) dX12_declare_33 rfl 0 rfl ?_
    refine r_get (pc := 34) (j := 34) (v := .ref 21) oM0 cf12 flRX12_141 rfl dX12_declare_34 rfl ?_
    refine r_aload_n (pc := 37) dX12_declare_37 rfl 0 rfl ?_
    refine r_get (pc := 38) (j := 42) (v := .int (gi w3 0 42)) oM0 cf12 flRX12_488 rfl dX12_declare_38 rfl ?_
    refine r_aload_n (pc := 41) dX12_declare_41 rfl 0 rfl ?_
    refine r_get (pc := 42) (j := 26) (v := .ref 16) oM0 cf12 flRX12_126 rfl dX12_declare_42 rfl ?_
    refine r_iload_n (pc := 45) dX12_declare_45 rfl 1 rfl ?_
    replace h := if_n h; obtain ⟨hb5, h⟩ := h
    refine r_iald (pc := 46) aM16 (inb_in hb5) dX12_declare_46 ?_
    replace h := if_n h; obtain ⟨hb6, h⟩ := h
    replace h := lt_e h; obtain ⟨w7, ew7, h⟩ := h
    refine r_iast (pc := 47) aM21 (inb_in hb6) dX12_declare_47 ?_
    refine r_w ew7 ?_
    refine r_aload_n (pc := 48) dX12_declare_48 rfl 0 rfl ?_
    refine r_get (pc := 49) (j := 26) (v := .ref 16) oM0 cf12 flRX12_126 rfl dX12_declare_49 rfl ?_
    refine r_iload_n (pc := 52) dX12_declare_52 rfl 1 rfl ?_
    refine r_aload_n (pc := 53) dX12_declare_53 rfl 0 rfl ?_
    refine r_get (pc := 54) (j := 42) (v := .int (gi w7 0 42)) oM0 cf12 flRX12_488 rfl dX12_declare_54 rfl ?_
    replace h := if_n h; obtain ⟨hb8, h⟩ := h
    replace h := lt_e h; obtain ⟨w9, ew9, h⟩ := h
    refine r_iast (pc := 57) aM16 (inb_in hb8) dX12_declare_57 ?_
    refine r_w ew9 ?_
    refine r_drop (loc' := [(0, .ref 0), (2, .int a2), (3, .int a3), (4, .int a4)]) [0, 2, 3, 4] rfl ?_
    exact pX12_declare_58 hN h
  replace h := if_f hc4 h
  refine r_aload_n (pc := 14) dX12_declare_14 rfl 0 rfl ?_
  refine r_iconst (pc := 15) dX12_declare_15 ki_3 ?_
  refine r_iload_n (pc := 16) dX12_declare_16 rfl 2 rfl ?_
  replace h := bn_e h; obtain ⟨w10, ew10, h⟩ := h
  refine r_cVv (pc := 17) wyX12_found oM0 rfl mlRX12_484 iyX12_found syX12_found ⟨(Nat.le_of_ble_eq_true rfl), (Nat.le_of_ble_eq_true rfl)⟩ rfl rfl (Nat.le_of_ble_eq_true rfl) dX12_declare_17 (mX12_found ew10 (pV.mk ?_))
  refine r_aload_n (pc := 20) dX12_declare_20 rfl 0 rfl ?_
  refine r_get (pc := 21) (j := 34) (v := .ref 21) oM0 cf12 flRX12_141 rfl dX12_declare_21 rfl ?_
  refine r_aload_n (pc := 24) dX12_declare_24 rfl 0 rfl ?_
  refine r_get (pc := 25) (j := 42) (v := .int (gi w10 0 42)) oM0 cf12 flRX12_488 rfl dX12_declare_25 rfl ?_
  refine r_iconst (pc := 28) dX12_declare_28 ki_m1 ?_
  replace h := if_n h; obtain ⟨hb11, h⟩ := h
  replace h := lt_e h; obtain ⟨w12, ew12, h⟩ := h
  refine r_iast (pc := 29) aM21 (inb_in hb11) dX12_declare_29 ?_
  refine r_w ew12 ?_
  refine r_goto (pc := 30) dX12_declare_30 rfl ?_
  refine r_drop (loc' := [(0, .ref 0), (2, .int a2), (3, .int a3), (4, .int a4)]) [0, 2, 3, 4] rfl ?_
  exact pX12_declare_58 hN h
theorem mX12_declare {q : Gq} {l : Launch} {N : Option Value → Wd → Prop} {X : String → Wd → Prop} {a1 : Int32} {a2 : Int32} {a3 : Int32} {a4 : Int32} {w : Wd} {x : Int32} {u : Wd} (h : fX12_declare a1 a2 a3 a4 w = some (x, u)) (hN : N (some (.int x)) u) : Ct (GM q) l 1 yX12_declare cX12_declare 6 ((some .int)) [.ref 0, .int a1, .int a2, .int a3, .int a4] w N X := Ct.of (by decide) (Nat.le_of_ble_eq_true rfl) (pX12_declare hN h)
/-! AlgolMillModel.slots (I)I: O, 0 -/
theorem dX12_slots_0 : decode cX12_slots 0 = .ok (.aload_n 0, 1) := by decide +kernel
theorem dX12_slots_1 : decode cX12_slots 1 = .ok (.getfield 184, 3) := by decide +kernel
theorem dX12_slots_4 : decode cX12_slots 4 = .ok (.aload_n 0, 1) := by decide +kernel
theorem dX12_slots_5 : decode cX12_slots 5 = .ok (.getfield 477, 3) := by decide +kernel
theorem dX12_slots_8 : decode cX12_slots 8 = .ok (.iaload, 1) := by decide +kernel
theorem dX12_slots_9 : decode cX12_slots 9 = .ok (.istore_n 2, 1) := by decide +kernel
theorem dX12_slots_10 : decode cX12_slots 10 = .ok (.aload_n 0, 1) := by decide +kernel
theorem dX12_slots_11 : decode cX12_slots 11 = .ok (.getfield 184, 3) := by decide +kernel
theorem dX12_slots_14 : decode cX12_slots 14 = .ok (.aload_n 0, 1) := by decide +kernel
theorem dX12_slots_15 : decode cX12_slots 15 = .ok (.getfield 477, 3) := by decide +kernel
theorem dX12_slots_18 : decode cX12_slots 18 = .ok (.dup2, 1) := by decide +kernel
theorem dX12_slots_19 : decode cX12_slots 19 = .ok (.iaload, 1) := by decide +kernel
theorem dX12_slots_20 : decode cX12_slots 20 = .ok (.iload_n 1, 1) := by decide +kernel
theorem dX12_slots_21 : decode cX12_slots 21 = .ok (.iadd, 1) := by decide +kernel
theorem dX12_slots_22 : decode cX12_slots 22 = .ok (.iastore, 1) := by decide +kernel
theorem dX12_slots_23 : decode cX12_slots 23 = .ok (.iload_n 2, 1) := by decide +kernel
theorem dX12_slots_24 : decode cX12_slots 24 = .ok (.ireturn, 1) := by decide +kernel
def fX12_slots (a1 : Int32) (w : Wd) : Option (Int32 × Wd) :=
  if inb (gi w 0 30) 1200 = true then lt ((gi w 35 (Int32.toNatClampNeg (gi w 0 30)))) fun x2 => if inb (gi w 0 30) 1200 = true then if inb (gi w 0 30) 1200 = true then lt (si w 35 (Int32.toNatClampNeg (gi w 0 30)) ((gi w 35 (Int32.toNatClampNeg (gi w 0 30))) + a1)) fun w5 => some (x2, w5) else none else none else none
theorem pX12_slots {q : Gq} {l : Launch} {N : Option Value → Wd → Prop} {X : String → Wd → Prop} {w : Wd} {R : Int32 × Wd} (hN : N (some (.int R.1)) R.2) {a1 : Int32} (h : fX12_slots a1 w = some R) : RT (GM q) l 0 yX12_slots cX12_slots 3 ((some .int)) N X 0 [] [(0, .ref 0), (1, .int a1)] w := by
  unfold fX12_slots at h
  refine r_aload_n (pc := 0) dX12_slots_0 rfl 0 rfl ?_
  refine r_get (pc := 1) (j := 49) (v := .ref 35) oM0 cf12 flRX12_184 rfl dX12_slots_1 rfl ?_
  refine r_aload_n (pc := 4) dX12_slots_4 rfl 0 rfl ?_
  refine r_get (pc := 5) (j := 30) (v := .int (gi w 0 30)) oM0 cf12 flRX12_477 rfl dX12_slots_5 rfl ?_
  replace h := if_n h; obtain ⟨hb1, h⟩ := h
  refine r_iald (pc := 8) aM35 (inb_in hb1) dX12_slots_8 ?_
  replace h := lt_e h; obtain ⟨x2, ex2, h⟩ := h
  refine r_topi ex2 ?_
  refine r_istore_n (pc := 9) (loc' := [(2, .int x2), (0, .ref 0), (1, .int a1)]) dX12_slots_9 rfl (Nat.le_of_ble_eq_true rfl) rfl ?_
  refine r_aload_n (pc := 10) dX12_slots_10 rfl 1 rfl ?_
  refine r_get (pc := 11) (j := 49) (v := .ref 35) oM0 cf12 flRX12_184 rfl dX12_slots_11 rfl ?_
  refine r_aload_n (pc := 14) dX12_slots_14 rfl 1 rfl ?_
  refine r_get (pc := 15) (j := 30) (v := .int (gi w 0 30)) oM0 cf12 flRX12_477 rfl dX12_slots_15 rfl ?_
  refine r_dup2 (pc := 18) dX12_slots_18 rfl rfl ?_
  replace h := if_n h; obtain ⟨hb3, h⟩ := h
  refine r_iald (pc := 19) aM35 (inb_in hb3) dX12_slots_19 ?_
  refine r_iload_n (pc := 20) dX12_slots_20 rfl 2 rfl ?_
  refine r_iadd (pc := 21) dX12_slots_21 ?_
  replace h := if_n h; obtain ⟨hb4, h⟩ := h
  replace h := lt_e h; obtain ⟨w5, ew5, h⟩ := h
  refine r_iast (pc := 22) aM35 (inb_in hb4) dX12_slots_22 ?_
  refine r_w ew5 ?_
  refine r_iload_n (pc := 23) dX12_slots_23 rfl 0 rfl ?_
  exact rO_i (pc := 24) rfl dX12_slots_24 h hN
theorem mX12_slots {q : Gq} {l : Launch} {N : Option Value → Wd → Prop} {X : String → Wd → Prop} {a1 : Int32} {w : Wd} {x : Int32} {u : Wd} (h : fX12_slots a1 w = some (x, u)) (hN : N (some (.int x)) u) : Ct (GM q) l 0 yX12_slots cX12_slots 3 ((some .int)) [.ref 0, .int a1] w N X := Ct.of (by decide) (Nat.le_of_ble_eq_true rfl) (pX12_slots hN h)
/-! AlgolMillModel.typeOf (I)I: P, 0 -/
theorem dX12_typeOf_0 : decode cX12_typeOf 0 = .ok (.iload_n 0, 1) := by decide +kernel
theorem dX12_typeOf_1 : decode cX12_typeOf 1 = .ok (.sipush 259, 3) := by decide +kernel
theorem dX12_typeOf_4 : decode cX12_typeOf 4 = .ok (.if_icmp .ne 7, 3) := by decide +kernel
theorem dX12_typeOf_7 : decode cX12_typeOf 7 = .ok (.iconst 1, 1) := by decide +kernel
theorem dX12_typeOf_8 : decode cX12_typeOf 8 = .ok (.goto 4, 3) := by decide +kernel
theorem dX12_typeOf_11 : decode cX12_typeOf 11 = .ok (.iconst 2, 1) := by decide +kernel
theorem dX12_typeOf_12 : decode cX12_typeOf 12 = .ok (.ireturn, 1) := by decide +kernel
def fX12_typeOf (a0 : Int32) (w : Wd) : Int32 :=
  if a0 = 259 then (1) else (2)
theorem pX12_typeOf {q : Gq} {l : Launch} {N : Option Value → Wd → Prop} {X : String → Wd → Prop} {w : Wd} {R : Int32} (hN : N (some (.int R)) w) {a0 : Int32} (h : fX12_typeOf a0 w = R) : RT (GM q) l 0 yX12_typeOf cX12_typeOf 1 ((some .int)) N X 0 [] [(0, .int a0)] w := by
  unfold fX12_typeOf at h
  refine r_iload_n (pc := 0) dX12_typeOf_0 rfl 0 rfl ?_
  refine r_sipush (pc := 1) dX12_typeOf_1 ks_259 ?_
  refine r_icmp_ne (pc := 4) dX12_typeOf_4 rfl (fun hc1 => ?_) (fun hc1 => ?_)
  · replace h := if_f hc1 h
    refine r_iconst (pc := 11) dX12_typeOf_11 ki_2 ?_
    exact rP_i (pc := 12) rfl dX12_typeOf_12 h hN
  replace h := if_t hc1 h
  refine r_iconst (pc := 7) dX12_typeOf_7 ki_1 ?_
  refine r_goto (pc := 8) dX12_typeOf_8 rfl ?_
  exact rP_i (pc := 12) rfl dX12_typeOf_12 h hN
theorem mX12_typeOf {q : Gq} {l : Launch} {N : Option Value → Wd → Prop} {X : String → Wd → Prop} {a0 : Int32} {w : Wd} {x : Int32} (h : fX12_typeOf a0 w = x) (hN : N (some (.int x)) w) : Ct (GM q) l 0 yX12_typeOf cX12_typeOf 1 ((some .int)) [.int a0] w N X := Ct.of (by decide) (Nat.le_of_ble_eq_true rfl) (pX12_typeOf hN h)
/-! AlgolMillModel.isType ()Z: O, 1 -/
theorem dX12_isType_0 : decode cX12_isType 0 = .ok (.aload_n 0, 1) := by decide +kernel
theorem dX12_isType_1 : decode cX12_isType 1 = .ok (.invokevirtual 452, 3) := by decide +kernel
theorem dX12_isType_4 : decode cX12_isType 4 = .ok (.sipush 259, 3) := by decide +kernel
theorem dX12_isType_7 : decode cX12_isType 7 = .ok (.if_icmp .eq 13, 3) := by decide +kernel
theorem dX12_isType_10 : decode cX12_isType 10 = .ok (.aload_n 0, 1) := by decide +kernel
theorem dX12_isType_11 : decode cX12_isType 11 = .ok (.invokevirtual 452, 3) := by decide +kernel
theorem dX12_isType_14 : decode cX12_isType 14 = .ok (.sipush 260, 3) := by decide +kernel
theorem dX12_isType_17 : decode cX12_isType 17 = .ok (.if_icmp .ne 7, 3) := by decide +kernel
theorem dX12_isType_20 : decode cX12_isType 20 = .ok (.iconst 1, 1) := by decide +kernel
theorem dX12_isType_21 : decode cX12_isType 21 = .ok (.goto 4, 3) := by decide +kernel
theorem dX12_isType_24 : decode cX12_isType 24 = .ok (.iconst 0, 1) := by decide +kernel
theorem dX12_isType_25 : decode cX12_isType 25 = .ok (.ireturn, 1) := by decide +kernel
def fX12_isType (w : Wd) : Option (Bool × Wd) :=
  bn2 (fX12_kind w) fun x1 w2 => if x1 = 259 then (some (true, w2)) else (bn2 (fX12_kind w2) fun x4 w5 => if x4 = 260 then (some (true, w5)) else (some (false, w5)))
theorem pX12_isType {q : Gq} {l : Launch} {N : Option Value → Wd → Prop} {X : String → Wd → Prop} {w : Wd} {R : Bool × Wd} (hN : N (some (.int (b2i R.1))) R.2) (h : fX12_isType w = some R) : RT (GM q) l 1 yX12_isType cX12_isType 1 ((some .boolean)) N X 0 [] [(0, .ref 0)] w := by
  unfold fX12_isType at h
  refine r_aload_n (pc := 0) dX12_isType_0 rfl 0 rfl ?_
  replace h := bn2_e h; obtain ⟨x1, w2, ew2, h⟩ := h
  refine r_cVi (pc := 1) wyX12_kind oM0 rfl mlRX12_452 iyX12_kind syX12_kind ⟨(Nat.le_of_ble_eq_true rfl), (Nat.le_of_ble_eq_true rfl)⟩ rfl rfl (Nat.le_of_ble_eq_true rfl) dX12_isType_1 (mX12_kind ew2 (pI.mk ?_))
  refine r_sipush (pc := 4) dX12_isType_4 ks_259 ?_
  refine r_icmp_eq (pc := 7) dX12_isType_7 rfl (fun hc3 => ?_) (fun hc3 => ?_)
  · replace h := if_t hc3 h
    refine r_iconst (pc := 20) dX12_isType_20 ki_1 ?_
    refine r_goto (pc := 21) dX12_isType_21 rfl ?_
    exact rO_z (pc := 25) (x := true) rfl dX12_isType_25 h hN
  replace h := if_f hc3 h
  refine r_aload_n (pc := 10) dX12_isType_10 rfl 0 rfl ?_
  replace h := bn2_e h; obtain ⟨x4, w5, ew5, h⟩ := h
  refine r_cVi (pc := 11) wyX12_kind oM0 rfl mlRX12_452 iyX12_kind syX12_kind ⟨(Nat.le_of_ble_eq_true rfl), (Nat.le_of_ble_eq_true rfl)⟩ rfl rfl (Nat.le_of_ble_eq_true rfl) dX12_isType_11 (mX12_kind ew5 (pI.mk ?_))
  refine r_sipush (pc := 14) dX12_isType_14 ks_260 ?_
  refine r_icmp_ne (pc := 17) dX12_isType_17 rfl (fun hc6 => ?_) (fun hc6 => ?_)
  · replace h := if_f hc6 h
    refine r_iconst (pc := 24) dX12_isType_24 ki_0 ?_
    exact rO_z (pc := 25) (x := false) rfl dX12_isType_25 h hN
  replace h := if_t hc6 h
  refine r_iconst (pc := 20) dX12_isType_20 ki_1 ?_
  refine r_goto (pc := 21) dX12_isType_21 rfl ?_
  exact rO_z (pc := 25) (x := true) rfl dX12_isType_25 h hN
theorem mX12_isType {q : Gq} {l : Launch} {N : Option Value → Wd → Prop} {X : String → Wd → Prop} {w : Wd} {x : Bool} {u : Wd} (h : fX12_isType w = some (x, u)) (hN : N (some (.int (b2i x))) u) : Ct (GM q) l 1 yX12_isType cX12_isType 1 ((some .boolean)) [.ref 0] w N X := Ct.of (by decide) (Nat.le_of_ble_eq_true rfl) (pX12_isType hN h)
/-! AlgolMillModel.may (II)I: O, 0 -/
theorem dX12_may_0 : decode cX12_may 0 = .ok (.aload_n 0, 1) := by decide +kernel
theorem dX12_may_1 : decode cX12_may 1 = .ok (.getfield 214, 3) := by decide +kernel
theorem dX12_may_4 : decode cX12_may 4 = .ok (.iload_n 1, 1) := by decide +kernel
theorem dX12_may_5 : decode cX12_may 5 = .ok (.iload_n 2, 1) := by decide +kernel
theorem dX12_may_6 : decode cX12_may 6 = .ok (.iastore, 1) := by decide +kernel
theorem dX12_may_7 : decode cX12_may 7 = .ok (.iload_n 1, 1) := by decide +kernel
theorem dX12_may_8 : decode cX12_may 8 = .ok (.ireturn, 1) := by decide +kernel
def fX12_may (a1 : Int32) (a2 : Int32) (w : Wd) : Option (Int32 × Wd) :=
  if inb a1 24000 = true then lt (si w 45 (Int32.toNatClampNeg a1) a2) fun w2 => some (a1, w2) else none
theorem pX12_may {q : Gq} {l : Launch} {N : Option Value → Wd → Prop} {X : String → Wd → Prop} {w : Wd} {R : Int32 × Wd} (hN : N (some (.int R.1)) R.2) {a1 : Int32} {a2 : Int32} (h : fX12_may a1 a2 w = some R) : RT (GM q) l 0 yX12_may cX12_may 3 ((some .int)) N X 0 [] [(0, .ref 0), (1, .int a1), (2, .int a2)] w := by
  unfold fX12_may at h
  refine r_aload_n (pc := 0) dX12_may_0 rfl 0 rfl ?_
  refine r_get (pc := 1) (j := 62) (v := .ref 45) oM0 cf12 flRX12_214 rfl dX12_may_1 rfl ?_
  refine r_iload_n (pc := 4) dX12_may_4 rfl 1 rfl ?_
  refine r_iload_n (pc := 5) dX12_may_5 rfl 2 rfl ?_
  replace h := if_n h; obtain ⟨hb1, h⟩ := h
  replace h := lt_e h; obtain ⟨w2, ew2, h⟩ := h
  refine r_iast (pc := 6) aM45 (inb_in hb1) dX12_may_6 ?_
  refine r_w ew2 ?_
  refine r_iload_n (pc := 7) dX12_may_7 rfl 1 rfl ?_
  exact rO_i (pc := 8) rfl dX12_may_8 h hN
theorem mX12_may {q : Gq} {l : Launch} {N : Option Value → Wd → Prop} {X : String → Wd → Prop} {a1 : Int32} {a2 : Int32} {w : Wd} {x : Int32} {u : Wd} (h : fX12_may a1 a2 w = some (x, u)) (hN : N (some (.int x)) u) : Ct (GM q) l 0 yX12_may cX12_may 3 ((some .int)) [.ref 0, .int a1, .int a2] w N X := Ct.of (by decide) (Nat.le_of_ble_eq_true rfl) (pX12_may hN h)
/-! AlgolMillModel.levelOf (I)I: P, 0 -/
theorem dX12_levelOf_0 : decode cX12_levelOf 0 = .ok (.iload_n 0, 1) := by decide +kernel
theorem dX12_levelOf_1 : decode cX12_levelOf 1 = .ok (.lookupswitch 159 #[(42, 153), (43, 150), (45, 150), (60, 147), (61, 147), (62, 147), (94, 156), (277, 145), (278, 143), (279, 141), (280, 139), (282, 153), (283, 153), (287, 147), (288, 147), (289, 147)], 139) := by decide +kernel
theorem dX12_levelOf_140 : decode cX12_levelOf 140 = .ok (.iconst 1, 1) := by decide +kernel
theorem dX12_levelOf_141 : decode cX12_levelOf 141 = .ok (.ireturn, 1) := by decide +kernel
theorem dX12_levelOf_142 : decode cX12_levelOf 142 = .ok (.iconst 2, 1) := by decide +kernel
theorem dX12_levelOf_143 : decode cX12_levelOf 143 = .ok (.ireturn, 1) := by decide +kernel
theorem dX12_levelOf_144 : decode cX12_levelOf 144 = .ok (.iconst 3, 1) := by decide +kernel
theorem dX12_levelOf_145 : decode cX12_levelOf 145 = .ok (.ireturn, 1) := by decide +kernel
theorem dX12_levelOf_146 : decode cX12_levelOf 146 = .ok (.iconst 4, 1) := by decide +kernel
theorem dX12_levelOf_147 : decode cX12_levelOf 147 = .ok (.ireturn, 1) := by decide +kernel
theorem dX12_levelOf_148 : decode cX12_levelOf 148 = .ok (.bipush 6, 2) := by decide +kernel
theorem dX12_levelOf_150 : decode cX12_levelOf 150 = .ok (.ireturn, 1) := by decide +kernel
theorem dX12_levelOf_151 : decode cX12_levelOf 151 = .ok (.bipush 7, 2) := by decide +kernel
theorem dX12_levelOf_153 : decode cX12_levelOf 153 = .ok (.ireturn, 1) := by decide +kernel
theorem dX12_levelOf_154 : decode cX12_levelOf 154 = .ok (.bipush 8, 2) := by decide +kernel
theorem dX12_levelOf_156 : decode cX12_levelOf 156 = .ok (.ireturn, 1) := by decide +kernel
theorem dX12_levelOf_157 : decode cX12_levelOf 157 = .ok (.bipush 9, 2) := by decide +kernel
theorem dX12_levelOf_159 : decode cX12_levelOf 159 = .ok (.ireturn, 1) := by decide +kernel
theorem dX12_levelOf_160 : decode cX12_levelOf 160 = .ok (.iconst 0, 1) := by decide +kernel
theorem dX12_levelOf_161 : decode cX12_levelOf 161 = .ok (.ireturn, 1) := by decide +kernel
def fX12_levelOf (a0 : Int32) (w : Wd) : Int32 :=
  if a0 = 42 ∨ a0 = 282 ∨ a0 = 283 then (8) else if a0 = 43 ∨ a0 = 45 then (7) else if a0 = 60 ∨ a0 = 61 ∨ a0 = 62 ∨ a0 = 287 ∨ a0 = 288 ∨ a0 = 289 then (6) else if a0 = 94 then (9) else if a0 = 277 then (4) else if a0 = 278 then (3) else if a0 = 279 then (2) else if a0 = 280 then (1) else (0)
theorem pX12_levelOf {q : Gq} {l : Launch} {N : Option Value → Wd → Prop} {X : String → Wd → Prop} {w : Wd} {R : Int32} (hN : N (some (.int R)) w) {a0 : Int32} (h : fX12_levelOf a0 w = R) : RT (GM q) l 0 yX12_levelOf cX12_levelOf 1 ((some .int)) N X 0 [] [(0, .int a0)] w := by
  unfold fX12_levelOf at h
  refine r_iload_n (pc := 0) dX12_levelOf_0 rfl 0 rfl ?_
  by_cases hc1 : a0 = 42 ∨ a0 = 282 ∨ a0 = 283
  · refine r_lkC (pc := 1) (off := 153) (tgt := 154) (L := [42, 282, 283]) dX12_levelOf_1 (by decide) hc1 (by decide) rfl ?_
    replace h := if_t hc1 h
    refine r_bipush (pc := 154) dX12_levelOf_154 kb_8 ?_
    exact rP_i (pc := 156) rfl dX12_levelOf_156 h hN
  replace h := if_f hc1 h
  by_cases hc2 : a0 = 43 ∨ a0 = 45
  · refine r_lkC (pc := 1) (off := 150) (tgt := 151) (L := [43, 45]) dX12_levelOf_1 (by decide) hc2 (by decide) rfl ?_
    replace h := if_t hc2 h
    refine r_bipush (pc := 151) dX12_levelOf_151 kb_7 ?_
    exact rP_i (pc := 153) rfl dX12_levelOf_153 h hN
  replace h := if_f hc2 h
  by_cases hc3 : a0 = 60 ∨ a0 = 61 ∨ a0 = 62 ∨ a0 = 287 ∨ a0 = 288 ∨ a0 = 289
  · refine r_lkC (pc := 1) (off := 147) (tgt := 148) (L := [60, 61, 62, 287, 288, 289]) dX12_levelOf_1 (by decide) hc3 (by decide) rfl ?_
    replace h := if_t hc3 h
    refine r_bipush (pc := 148) dX12_levelOf_148 kb_6 ?_
    exact rP_i (pc := 150) rfl dX12_levelOf_150 h hN
  replace h := if_f hc3 h
  by_cases hc4 : a0 = 94
  · refine r_lkC (pc := 1) (off := 156) (tgt := 157) (L := [94]) dX12_levelOf_1 (by decide) hc4 (by decide) rfl ?_
    replace h := if_t hc4 h
    refine r_bipush (pc := 157) dX12_levelOf_157 kb_9 ?_
    exact rP_i (pc := 159) rfl dX12_levelOf_159 h hN
  replace h := if_f hc4 h
  by_cases hc5 : a0 = 277
  · refine r_lkC (pc := 1) (off := 145) (tgt := 146) (L := [277]) dX12_levelOf_1 (by decide) hc5 (by decide) rfl ?_
    replace h := if_t hc5 h
    refine r_iconst (pc := 146) dX12_levelOf_146 ki_4 ?_
    exact rP_i (pc := 147) rfl dX12_levelOf_147 h hN
  replace h := if_f hc5 h
  by_cases hc6 : a0 = 278
  · refine r_lkC (pc := 1) (off := 143) (tgt := 144) (L := [278]) dX12_levelOf_1 (by decide) hc6 (by decide) rfl ?_
    replace h := if_t hc6 h
    refine r_iconst (pc := 144) dX12_levelOf_144 ki_3 ?_
    exact rP_i (pc := 145) rfl dX12_levelOf_145 h hN
  replace h := if_f hc6 h
  by_cases hc7 : a0 = 279
  · refine r_lkC (pc := 1) (off := 141) (tgt := 142) (L := [279]) dX12_levelOf_1 (by decide) hc7 (by decide) rfl ?_
    replace h := if_t hc7 h
    refine r_iconst (pc := 142) dX12_levelOf_142 ki_2 ?_
    exact rP_i (pc := 143) rfl dX12_levelOf_143 h hN
  replace h := if_f hc7 h
  by_cases hc8 : a0 = 280
  · refine r_lkC (pc := 1) (off := 139) (tgt := 140) (L := [280]) dX12_levelOf_1 (by decide) hc8 (by decide) rfl ?_
    replace h := if_t hc8 h
    refine r_iconst (pc := 140) dX12_levelOf_140 ki_1 ?_
    exact rP_i (pc := 141) rfl dX12_levelOf_141 h hN
  replace h := if_f hc8 h
  refine r_lkD (pc := 1) (tgt := 160) (K := [[42, 282, 283], [43, 45], [60, 61, 62, 287, 288, 289], [94], [277], [278], [279], [280]]) dX12_levelOf_1 (by decide) ⟨hc1, hc2, hc3, hc4, hc5, hc6, hc7, hc8, trivial⟩ (by decide) rfl ?_
  refine r_iconst (pc := 160) dX12_levelOf_160 ki_0 ?_
  exact rP_i (pc := 161) rfl dX12_levelOf_161 h hN
theorem mX12_levelOf {q : Gq} {l : Launch} {N : Option Value → Wd → Prop} {X : String → Wd → Prop} {a0 : Int32} {w : Wd} {x : Int32} (h : fX12_levelOf a0 w = x) (hN : N (some (.int x)) w) : Ct (GM q) l 0 yX12_levelOf cX12_levelOf 1 ((some .int)) [.int a0] w N X := Ct.of (by decide) (Nat.le_of_ble_eq_true rfl) (pX12_levelOf hN h)
