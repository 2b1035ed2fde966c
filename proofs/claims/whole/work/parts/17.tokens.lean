/-! Tokens -/
theorem kb_10 : (Int8.ofInt 10).toInt32 = 10 := by decide
theorem kb_122 : (Int8.ofInt 122).toInt32 = 122 := by decide
theorem kb_26 : (Int8.ofInt 26).toInt32 = 26 := by decide
theorem kb_32 : (Int8.ofInt 32).toInt32 = 32 := by decide
theorem kb_33 : (Int8.ofInt 33).toInt32 = 33 := by decide
theorem kb_37 : (Int8.ofInt 37).toInt32 = 37 := by decide
theorem kb_40 : (Int8.ofInt 40).toInt32 = 40 := by decide
theorem kb_47 : (Int8.ofInt 47).toInt32 = 47 := by decide
theorem kb_48 : (Int8.ofInt 48).toInt32 = 48 := by decide
theorem kb_49 : (Int8.ofInt 49).toInt32 = 49 := by decide
theorem kb_50 : (Int8.ofInt 50).toInt32 = 50 := by decide
theorem kb_57 : (Int8.ofInt 57).toInt32 = 57 := by decide
theorem kb_61 : (Int8.ofInt 61).toInt32 = 61 := by decide
theorem kb_62 : (Int8.ofInt 62).toInt32 = 62 := by decide
theorem kb_97 : (Int8.ofInt 97).toInt32 = 97 := by decide
theorem ks_8192 : (Int16.ofInt 8192).toInt32 = 8192 := by decide
theorem kcRX9_119 : Cond.constantLong RX9 119 10 ∈ TB := tb1 sg3 185 rfl rfl
theorem kcRX9_121 : Cond.constantLong RX9 121 48 ∈ TB := tb1 sg3 186 rfl rfl
theorem kcRX9_123 : Cond.constantLong RX9 123 34359738368 ∈ TB := tb1 sg3 187 rfl rfl
theorem kcRX9_129 : Cond.constantLong RX9 129 34359738367 ∈ TB := tb1 sg3 191 rfl rfl
theorem kcRX9_141 : Cond.constantLong RX9 141 8192 ∈ TB := tb1 sg3 209 rfl rfl
theorem kcRX9_55 : Cond.constantLong RX9 55 37 ∈ TB := tb1 sg1 113 rfl rfl
/-- the signs of one byte, by their places -/
def sgn (x : Int32) : Int32 := if x = 43 then 0 else if x = 45 then 1 else if x = 42 then 2 else if x = 94 then 3 else if x = 60 then 4 else if x = 61 then 5 else if x = 62 then 6 else if x = 44 then 7 else if x = 59 then 8 else if x = 58 then 9 else if x = 40 then 10 else if x = 41 then 11 else if x = 91 then 12 else if x = 93 then 13 else -1
/-- what the class asks of its string of signs: its constant, the place of a sign in it -/
def SGN (q : Gq) (l : Launch) : Prop := (∀ (d : Nat) (N : Option Value → Wd → Prop) (X : String → Wd → Prop), 10 ≤ d → ∀ (rest : List Value) (loc : List (Nat × Value)) (w : Wd), RT (GA q) l d yX9_token cX9_token 8 ((some .int)) N X 41 (.ref 700 :: rest) loc w → RT (GA q) l d yX9_token cX9_token 8 ((some .int)) N X 39 rest loc w) ∧ (∀ (d : Nat) (N : Option Value → Wd → Prop) (X : String → Wd → Prop), 10 ≤ d → ∀ (x : Int32) (rest : List Value) (loc : List (Nat × Value)) (w : Wd), (rest.map fun v => v.category).sum ≤ 8 → RT (GA q) l d yX9_token cX9_token 8 ((some .int)) N X 47 (.int (sgn x) :: rest) loc w → RT (GA q) l d yX9_token cX9_token 8 ((some .int)) N X 44 (.int x :: .ref 700 :: rest) loc w)
/-! AlgolMill$Tokens.isDigit (I)Z: P, 0 -/
theorem dX9_isDigit_0 : decode cX9_isDigit 0 = .ok (.iload_n 0, 1) := by decide +kernel
theorem dX9_isDigit_1 : decode cX9_isDigit 1 = .ok (.bipush 48, 2) := by decide +kernel
theorem dX9_isDigit_3 : decode cX9_isDigit 3 = .ok (.if_icmp .lt 13, 3) := by decide +kernel
theorem dX9_isDigit_6 : decode cX9_isDigit 6 = .ok (.iload_n 0, 1) := by decide +kernel
theorem dX9_isDigit_7 : decode cX9_isDigit 7 = .ok (.bipush 57, 2) := by decide +kernel
theorem dX9_isDigit_9 : decode cX9_isDigit 9 = .ok (.if_icmp .gt 7, 3) := by decide +kernel
theorem dX9_isDigit_12 : decode cX9_isDigit 12 = .ok (.iconst 1, 1) := by decide +kernel
theorem dX9_isDigit_13 : decode cX9_isDigit 13 = .ok (.goto 4, 3) := by decide +kernel
theorem dX9_isDigit_16 : decode cX9_isDigit 16 = .ok (.iconst 0, 1) := by decide +kernel
theorem dX9_isDigit_17 : decode cX9_isDigit 17 = .ok (.ireturn, 1) := by decide +kernel
def fX9_isDigit (a0 : Int32) (w : Wd) : Bool :=
  if a0 < 48 then (false) else (if 57 < a0 then (false) else (true))
theorem pX9_isDigit {q : Gq} {l : Launch} {N : Option Value → Wd → Prop} {X : String → Wd → Prop} {w : Wd} {R : Bool} (hN : N (some (.int (b2i R))) w) {a0 : Int32} (h : fX9_isDigit a0 w = R) : RT (GA q) l 0 yX9_isDigit cX9_isDigit 1 ((some .boolean)) N X 0 [] [(0, .int a0)] w := by
  unfold fX9_isDigit at h
  refine r_iload_n (pc := 0) dX9_isDigit_0 rfl 0 rfl ?_
  refine r_bipush (pc := 1) dX9_isDigit_1 kb_48 ?_
  refine r_icmp_lt (pc := 3) dX9_isDigit_3 rfl (fun hc1 => ?_) (fun hc1 => ?_)
  · replace h := if_t hc1 h
    refine r_iconst (pc := 16) dX9_isDigit_16 ki_0 ?_
    exact rP_z (pc := 17) (x := false) rfl dX9_isDigit_17 h hN
  replace h := if_f hc1 h
  refine r_iload_n (pc := 6) dX9_isDigit_6 rfl 0 rfl ?_
  refine r_bipush (pc := 7) dX9_isDigit_7 kb_57 ?_
  refine r_icmp_gt (pc := 9) dX9_isDigit_9 rfl (fun hc2 => ?_) (fun hc2 => ?_)
  · replace h := if_t hc2 h
    refine r_iconst (pc := 16) dX9_isDigit_16 ki_0 ?_
    exact rP_z (pc := 17) (x := false) rfl dX9_isDigit_17 h hN
  replace h := if_f hc2 h
  refine r_iconst (pc := 12) dX9_isDigit_12 ki_1 ?_
  refine r_goto (pc := 13) dX9_isDigit_13 rfl ?_
  exact rP_z (pc := 17) (x := true) rfl dX9_isDigit_17 h hN
theorem mX9_isDigit {q : Gq} {l : Launch} {N : Option Value → Wd → Prop} {X : String → Wd → Prop} {a0 : Int32} {w : Wd} {x : Bool} (h : fX9_isDigit a0 w = x) (hN : N (some (.int (b2i x))) w) : Ct (GA q) l 0 yX9_isDigit cX9_isDigit 1 ((some .boolean)) [.int a0] w N X := Ct.of (by decide) (Nat.le_of_ble_eq_true rfl) (pX9_isDigit hN h)
/-! AlgolMill$Tokens.code (I)I: P, 1 -/
theorem dX9_code_0 : decode cX9_code 0 = .ok (.iload_n 0, 1) := by decide +kernel
theorem dX9_code_1 : decode cX9_code 1 = .ok (.bipush 97, 2) := by decide +kernel
theorem dX9_code_3 : decode cX9_code 3 = .ok (.if_icmp .lt 16, 3) := by decide +kernel
theorem dX9_code_6 : decode cX9_code 6 = .ok (.iload_n 0, 1) := by decide +kernel
theorem dX9_code_7 : decode cX9_code 7 = .ok (.bipush 122, 2) := by decide +kernel
theorem dX9_code_9 : decode cX9_code 9 = .ok (.if_icmp .gt 10, 3) := by decide +kernel
theorem dX9_code_12 : decode cX9_code 12 = .ok (.iload_n 0, 1) := by decide +kernel
theorem dX9_code_13 : decode cX9_code 13 = .ok (.bipush 97, 2) := by decide +kernel
theorem dX9_code_15 : decode cX9_code 15 = .ok (.isub, 1) := by decide +kernel
theorem dX9_code_16 : decode cX9_code 16 = .ok (.iconst 1, 1) := by decide +kernel
theorem dX9_code_17 : decode cX9_code 17 = .ok (.iadd, 1) := by decide +kernel
theorem dX9_code_18 : decode cX9_code 18 = .ok (.ireturn, 1) := by decide +kernel
theorem dX9_code_19 : decode cX9_code 19 = .ok (.iload_n 0, 1) := by decide +kernel
theorem dX9_code_20 : decode cX9_code 20 = .ok (.invokestatic 61, 3) := by decide +kernel
theorem dX9_code_23 : decode cX9_code 23 = .ok (.ifCond .eq 15, 3) := by decide +kernel
theorem dX9_code_26 : decode cX9_code 26 = .ok (.iload_n 0, 1) := by decide +kernel
theorem dX9_code_27 : decode cX9_code 27 = .ok (.bipush 48, 2) := by decide +kernel
theorem dX9_code_29 : decode cX9_code 29 = .ok (.isub, 1) := by decide +kernel
theorem dX9_code_30 : decode cX9_code 30 = .ok (.bipush 26, 2) := by decide +kernel
theorem dX9_code_32 : decode cX9_code 32 = .ok (.iadd, 1) := by decide +kernel
theorem dX9_code_33 : decode cX9_code 33 = .ok (.iconst 1, 1) := by decide +kernel
theorem dX9_code_34 : decode cX9_code 34 = .ok (.iadd, 1) := by decide +kernel
theorem dX9_code_35 : decode cX9_code 35 = .ok (.goto 4, 3) := by decide +kernel
theorem dX9_code_38 : decode cX9_code 38 = .ok (.iconst 0, 1) := by decide +kernel
theorem dX9_code_39 : decode cX9_code 39 = .ok (.ireturn, 1) := by decide +kernel
def fX9_code_19 (a0 : Int32) (w : Wd) : Int32 :=
  lt (fX9_isDigit a0 w) fun x1 => if x1 = true then ((((a0 - 48) + 26) + 1)) else (0)
theorem pX9_code_19 {q : Gq} {l : Launch} {N : Option Value → Wd → Prop} {X : String → Wd → Prop} {w : Wd} {R : Int32} (hN : N (some (.int R)) w) {a0 : Int32} (h : fX9_code_19 a0 w = R) : RT (GA q) l 1 yX9_code cX9_code 1 ((some .int)) N X 19 [] [(0, .int a0)] w := by
  unfold fX9_code_19 at h
  refine r_iload_n (pc := 19) dX9_code_19 rfl 0 rfl ?_
  replace h := lt_e h; obtain ⟨x1, ex1, h⟩ := h
  refine r_cSi (pc := 20) wyX9_isDigit mlRX9_61 tyX9_isDigit ⟨(Nat.le_of_ble_eq_true rfl), (Nat.le_of_ble_eq_true rfl)⟩ rfl rfl (Nat.le_of_ble_eq_true rfl) dX9_code_20 (mX9_isDigit ex1 (pI.mk ?_))
  refine r_z_eq (pc := 23) dX9_code_23 rfl (fun hc2 => ?_) (fun hc2 => ?_)
  · replace h := if_f hc2 h
    refine r_iconst (pc := 38) dX9_code_38 ki_0 ?_
    exact rP_i (pc := 39) rfl dX9_code_39 h hN
  replace h := if_t hc2 h
  refine r_iload_n (pc := 26) dX9_code_26 rfl 0 rfl ?_
  refine r_bipush (pc := 27) dX9_code_27 kb_48 ?_
  refine r_isub (pc := 29) dX9_code_29 ?_
  refine r_bipush (pc := 30) dX9_code_30 kb_26 ?_
  refine r_iadd (pc := 32) dX9_code_32 ?_
  refine r_iconst (pc := 33) dX9_code_33 ki_1 ?_
  refine r_iadd (pc := 34) dX9_code_34 ?_
  refine r_goto (pc := 35) dX9_code_35 rfl ?_
  exact rP_i (pc := 39) rfl dX9_code_39 h hN
def fX9_code (a0 : Int32) (w : Wd) : Int32 :=
  if a0 < 97 then (fX9_code_19 a0 w) else (if 122 < a0 then (fX9_code_19 a0 w) else (((a0 - 97) + 1)))
theorem pX9_code {q : Gq} {l : Launch} {N : Option Value → Wd → Prop} {X : String → Wd → Prop} {w : Wd} {R : Int32} (hN : N (some (.int R)) w) {a0 : Int32} (h : fX9_code a0 w = R) : RT (GA q) l 1 yX9_code cX9_code 1 ((some .int)) N X 0 [] [(0, .int a0)] w := by
  unfold fX9_code at h
  refine r_iload_n (pc := 0) dX9_code_0 rfl 0 rfl ?_
  refine r_bipush (pc := 1) dX9_code_1 kb_97 ?_
  refine r_icmp_lt (pc := 3) dX9_code_3 rfl (fun hc1 => ?_) (fun hc1 => ?_)
  · replace h := if_t hc1 h
    exact pX9_code_19 hN h
  replace h := if_f hc1 h
  refine r_iload_n (pc := 6) dX9_code_6 rfl 0 rfl ?_
  refine r_bipush (pc := 7) dX9_code_7 kb_122 ?_
  refine r_icmp_gt (pc := 9) dX9_code_9 rfl (fun hc2 => ?_) (fun hc2 => ?_)
  · replace h := if_t hc2 h
    exact pX9_code_19 hN h
  replace h := if_f hc2 h
  refine r_iload_n (pc := 12) dX9_code_12 rfl 0 rfl ?_
  refine r_bipush (pc := 13) dX9_code_13 kb_97 ?_
  refine r_isub (pc := 15) dX9_code_15 ?_
  refine r_iconst (pc := 16) dX9_code_16 ki_1 ?_
  refine r_iadd (pc := 17) dX9_code_17 ?_
  exact rP_i (pc := 18) rfl dX9_code_18 h hN
theorem mX9_code {q : Gq} {l : Launch} {N : Option Value → Wd → Prop} {X : String → Wd → Prop} {a0 : Int32} {w : Wd} {x : Int32} (h : fX9_code a0 w = x) (hN : N (some (.int x)) w) : Ct (GA q) l 1 yX9_code cX9_code 1 ((some .int)) [.int a0] w N X := Ct.of (by decide) (Nat.le_of_ble_eq_true rfl) (pX9_code hN h)
/-! AlgolMill$Tokens.add (IIJ)V: S, 1 -/
theorem dX9_add_0 : decode cX9_add 0 = .ok (.aload_n 0, 1) := by decide +kernel
theorem dX9_add_1 : decode cX9_add 1 = .ok (.getfield 11, 3) := by decide +kernel
theorem dX9_add_4 : decode cX9_add 4 = .ok (.aload_n 0, 1) := by decide +kernel
theorem dX9_add_5 : decode cX9_add 5 = .ok (.getfield 89, 3) := by decide +kernel
theorem dX9_add_8 : decode cX9_add 8 = .ok (.iload_n 1, 1) := by decide +kernel
theorem dX9_add_9 : decode cX9_add 9 = .ok (.invokestatic 102, 3) := by decide +kernel
theorem dX9_add_12 : decode cX9_add 12 = .ok (.aload_n 0, 1) := by decide +kernel
theorem dX9_add_13 : decode cX9_add 13 = .ok (.getfield 15, 3) := by decide +kernel
theorem dX9_add_16 : decode cX9_add 16 = .ok (.aload_n 0, 1) := by decide +kernel
theorem dX9_add_17 : decode cX9_add 17 = .ok (.getfield 89, 3) := by decide +kernel
theorem dX9_add_20 : decode cX9_add 20 = .ok (.iload_n 2, 1) := by decide +kernel
theorem dX9_add_21 : decode cX9_add 21 = .ok (.invokestatic 102, 3) := by decide +kernel
theorem dX9_add_24 : decode cX9_add 24 = .ok (.aload_n 0, 1) := by decide +kernel
theorem dX9_add_25 : decode cX9_add 25 = .ok (.getfield 18, 3) := by decide +kernel
theorem dX9_add_28 : decode cX9_add 28 = .ok (.aload_n 0, 1) := by decide +kernel
theorem dX9_add_29 : decode cX9_add 29 = .ok (.getfield 89, 3) := by decide +kernel
theorem dX9_add_32 : decode cX9_add 32 = .ok (.lload_n 3, 1) := by decide +kernel
theorem dX9_add_33 : decode cX9_add 33 = .ok (.invokestatic 49, 3) := by decide +kernel
theorem dX9_add_36 : decode cX9_add 36 = .ok (.aload_n 0, 1) := by decide +kernel
theorem dX9_add_37 : decode cX9_add 37 = .ok (.getfield 22, 3) := by decide +kernel
theorem dX9_add_40 : decode cX9_add 40 = .ok (.aload_n 0, 1) := by decide +kernel
theorem dX9_add_41 : decode cX9_add 41 = .ok (.getfield 89, 3) := by decide +kernel
theorem dX9_add_44 : decode cX9_add 44 = .ok (.iconst 0, 1) := by decide +kernel
theorem dX9_add_45 : decode cX9_add 45 = .ok (.invokestatic 102, 3) := by decide +kernel
theorem dX9_add_48 : decode cX9_add 48 = .ok (.aload_n 0, 1) := by decide +kernel
theorem dX9_add_49 : decode cX9_add 49 = .ok (.getfield 25, 3) := by decide +kernel
theorem dX9_add_52 : decode cX9_add 52 = .ok (.aload_n 0, 1) := by decide +kernel
theorem dX9_add_53 : decode cX9_add 53 = .ok (.getfield 89, 3) := by decide +kernel
theorem dX9_add_56 : decode cX9_add 56 = .ok (.iconst 0, 1) := by decide +kernel
theorem dX9_add_57 : decode cX9_add 57 = .ok (.invokestatic 102, 3) := by decide +kernel
theorem dX9_add_60 : decode cX9_add 60 = .ok (.aload_n 0, 1) := by decide +kernel
theorem dX9_add_61 : decode cX9_add 61 = .ok (.getfield 28, 3) := by decide +kernel
theorem dX9_add_64 : decode cX9_add 64 = .ok (.aload_n 0, 1) := by decide +kernel
theorem dX9_add_65 : decode cX9_add 65 = .ok (.getfield 89, 3) := by decide +kernel
theorem dX9_add_68 : decode cX9_add 68 = .ok (.aload_n 0, 1) := by decide +kernel
theorem dX9_add_69 : decode cX9_add 69 = .ok (.getfield 89, 3) := by decide +kernel
theorem dX9_add_72 : decode cX9_add 72 = .ok (.invokestatic 102, 3) := by decide +kernel
theorem dX9_add_75 : decode cX9_add 75 = .ok (.aload_n 0, 1) := by decide +kernel
theorem dX9_add_76 : decode cX9_add 76 = .ok (.dup, 1) := by decide +kernel
theorem dX9_add_77 : decode cX9_add 77 = .ok (.getfield 89, 3) := by decide +kernel
theorem dX9_add_80 : decode cX9_add 80 = .ok (.iconst 1, 1) := by decide +kernel
theorem dX9_add_81 : decode cX9_add 81 = .ok (.iadd, 1) := by decide +kernel
theorem dX9_add_82 : decode cX9_add 82 = .ok (.putfield 89, 3) := by decide +kernel
theorem dX9_add_85 : decode cX9_add 85 = .ok (.return_, 1) := by decide +kernel
def fX9_add (a1 : Int32) (a2 : Int32) (a3 : Int64) (w : Wd) : Wd :=
  lt (rsi w 5 8193 (gi w 4 8) a1) fun w1 => lt (rsi w1 6 8193 (gi w1 4 8) a2) fun w2 => lt (rsl w2 7 8193 (gi w2 4 8) a3) fun w3 => lt (rsi w3 8 8193 (gi w3 4 8) 0) fun w4 => lt (rsi w4 9 8193 (gi w4 4 8) 0) fun w5 => lt (rsi w5 10 8193 (gi w5 4 8) (gi w5 4 8)) fun w6 => lt (si w6 4 8 ((gi w6 4 8) + 1)) fun w7 => w7
theorem pX9_add {q : Gq} {l : Launch} {N : Option Value → Wd → Prop} {X : String → Wd → Prop} {w : Wd} {R : Wd} (hN : N none R) {a1 : Int32} {a2 : Int32} {a3 : Int64} (h : fX9_add a1 a2 a3 w = R) : RT (GA q) l 1 yX9_add cX9_add 5 (none) N X 0 [] [(0, .ref 4), (1, .int a1), (2, .int a2), (3, .long a3)] w := by
  unfold fX9_add at h
  refine r_aload_n (pc := 0) dX9_add_0 rfl 0 rfl ?_
  refine r_get (pc := 1) (j := 0) (v := .ref 5) oA4 cf9 flRX9_11 rfl dX9_add_1 rfl ?_
  refine r_aload_n (pc := 4) dX9_add_4 rfl 0 rfl ?_
  refine r_get (pc := 5) (j := 8) (v := .int (gi w 4 8)) oA4 cf9 flRX9_89 rfl dX9_add_5 rfl ?_
  refine r_iload_n (pc := 8) dX9_add_8 rfl 1 rfl ?_
  replace h := lt_e h; obtain ⟨w1, ew1, h⟩ := h
  refine r_cSv (pc := 9) wyX6_set mlRX9_102 tyX6_set ⟨(Nat.le_of_ble_eq_true rfl), (Nat.le_of_ble_eq_true rfl)⟩ rfl rfl (Nat.le_of_ble_eq_true rfl) dX9_add_9 (mX6_set aA5 (Nat.le_of_ble_eq_true rfl) ew1 (pV.mk ?_))
  refine r_aload_n (pc := 12) dX9_add_12 rfl 0 rfl ?_
  refine r_get (pc := 13) (j := 1) (v := .ref 6) oA4 cf9 flRX9_15 rfl dX9_add_13 rfl ?_
  refine r_aload_n (pc := 16) dX9_add_16 rfl 0 rfl ?_
  refine r_get (pc := 17) (j := 8) (v := .int (gi w1 4 8)) oA4 cf9 flRX9_89 rfl dX9_add_17 rfl ?_
  refine r_iload_n (pc := 20) dX9_add_20 rfl 2 rfl ?_
  replace h := lt_e h; obtain ⟨w2, ew2, h⟩ := h
  refine r_cSv (pc := 21) wyX6_set mlRX9_102 tyX6_set ⟨(Nat.le_of_ble_eq_true rfl), (Nat.le_of_ble_eq_true rfl)⟩ rfl rfl (Nat.le_of_ble_eq_true rfl) dX9_add_21 (mX6_set aA6 (Nat.le_of_ble_eq_true rfl) ew2 (pV.mk ?_))
  refine r_aload_n (pc := 24) dX9_add_24 rfl 0 rfl ?_
  refine r_get (pc := 25) (j := 2) (v := .ref 7) oA4 cf9 flRX9_18 rfl dX9_add_25 rfl ?_
  refine r_aload_n (pc := 28) dX9_add_28 rfl 0 rfl ?_
  refine r_get (pc := 29) (j := 8) (v := .int (gi w2 4 8)) oA4 cf9 flRX9_89 rfl dX9_add_29 rfl ?_
  refine r_lload_n (pc := 32) dX9_add_32 rfl 3 rfl ?_
  replace h := lt_e h; obtain ⟨w3, ew3, h⟩ := h
  refine r_cSv (pc := 33) wyX6_set_ mlRX9_49 tyX6_set_ ⟨(Nat.le_of_ble_eq_true rfl), (Nat.le_of_ble_eq_true rfl)⟩ rfl rfl (Nat.le_of_ble_eq_true rfl) dX9_add_33 (mX6_set_ aA7 (Nat.le_of_ble_eq_true rfl) ew3 (pV.mk ?_))
  refine r_aload_n (pc := 36) dX9_add_36 rfl 0 rfl ?_
  refine r_get (pc := 37) (j := 3) (v := .ref 8) oA4 cf9 flRX9_22 rfl dX9_add_37 rfl ?_
  refine r_aload_n (pc := 40) dX9_add_40 rfl 0 rfl ?_
  refine r_get (pc := 41) (j := 8) (v := .int (gi w3 4 8)) oA4 cf9 flRX9_89 rfl dX9_add_41 rfl ?_
  refine r_iconst (pc := 44) dX9_add_44 ki_0 ?_
  replace h := lt_e h; obtain ⟨w4, ew4, h⟩ := h
  refine r_cSv (pc := 45) wyX6_set mlRX9_102 tyX6_set ⟨(Nat.le_of_ble_eq_true rfl), (Nat.le_of_ble_eq_true rfl)⟩ rfl rfl (Nat.le_of_ble_eq_true rfl) dX9_add_45 (mX6_set aA8 (Nat.le_of_ble_eq_true rfl) ew4 (pV.mk ?_))
  refine r_aload_n (pc := 48) dX9_add_48 rfl 0 rfl ?_
  refine r_get (pc := 49) (j := 4) (v := .ref 9) oA4 cf9 flRX9_25 rfl dX9_add_49 rfl ?_
  refine r_aload_n (pc := 52) dX9_add_52 rfl 0 rfl ?_
  refine r_get (pc := 53) (j := 8) (v := .int (gi w4 4 8)) oA4 cf9 flRX9_89 rfl dX9_add_53 rfl ?_
  refine r_iconst (pc := 56) dX9_add_56 ki_0 ?_
  replace h := lt_e h; obtain ⟨w5, ew5, h⟩ := h
  refine r_cSv (pc := 57) wyX6_set mlRX9_102 tyX6_set ⟨(Nat.le_of_ble_eq_true rfl), (Nat.le_of_ble_eq_true rfl)⟩ rfl rfl (Nat.le_of_ble_eq_true rfl) dX9_add_57 (mX6_set aA9 (Nat.le_of_ble_eq_true rfl) ew5 (pV.mk ?_))
  refine r_aload_n (pc := 60) dX9_add_60 rfl 0 rfl ?_
  refine r_get (pc := 61) (j := 5) (v := .ref 10) oA4 cf9 flRX9_28 rfl dX9_add_61 rfl ?_
  refine r_aload_n (pc := 64) dX9_add_64 rfl 0 rfl ?_
  refine r_get (pc := 65) (j := 8) (v := .int (gi w5 4 8)) oA4 cf9 flRX9_89 rfl dX9_add_65 rfl ?_
  refine r_aload_n (pc := 68) dX9_add_68 rfl 0 rfl ?_
  refine r_get (pc := 69) (j := 8) (v := .int (gi w5 4 8)) oA4 cf9 flRX9_89 rfl dX9_add_69 rfl ?_
  replace h := lt_e h; obtain ⟨w6, ew6, h⟩ := h
  refine r_cSv (pc := 72) wyX6_set mlRX9_102 tyX6_set ⟨(Nat.le_of_ble_eq_true rfl), (Nat.le_of_ble_eq_true rfl)⟩ rfl rfl (Nat.le_of_ble_eq_true rfl) dX9_add_72 (mX6_set aA10 (Nat.le_of_ble_eq_true rfl) ew6 (pV.mk ?_))
  refine r_aload_n (pc := 75) dX9_add_75 rfl 0 rfl ?_
  refine r_dup (pc := 76) dX9_add_76 rfl ?_
  refine r_get (pc := 77) (j := 8) (v := .int (gi w6 4 8)) oA4 cf9 flRX9_89 rfl dX9_add_77 rfl ?_
  refine r_iconst (pc := 80) dX9_add_80 ki_1 ?_
  refine r_iadd (pc := 81) dX9_add_81 ?_
  replace h := lt_e h; obtain ⟨w7, ew7, h⟩ := h
  refine r_putI (pc := 82) (j := 8) oA4 cf9 flRX9_89 rfl rfl rfl rfl dX9_add_82 ?_
  refine r_w ew7 ?_
  exact rS_v (pc := 85) rfl dX9_add_85 h hN
theorem mX9_add {q : Gq} {l : Launch} {N : Option Value → Wd → Prop} {X : String → Wd → Prop} {a1 : Int32} {a2 : Int32} {a3 : Int64} {w : Wd} {u : Wd} (h : fX9_add a1 a2 a3 w = u) (hN : N none u) : Ct (GA q) l 1 yX9_add cX9_add 5 (none) [.ref 4, .int a1, .int a2, .long a3] w N X := Ct.of (by decide) (Nat.le_of_ble_eq_true rfl) (pX9_add hN h)
/-! AlgolMill$Tokens.kindOf (I)I: P, 1 -/
theorem dX9_kindOf_0 : decode cX9_kindOf 0 = .ok (.iload_n 1, 1) := by decide +kernel
theorem dX9_kindOf_1 : decode cX9_kindOf 1 = .ok (.aload_n 0, 1) := by decide +kernel
theorem dX9_kindOf_2 : decode cX9_kindOf 2 = .ok (.getfield 89, 3) := by decide +kernel
theorem dX9_kindOf_5 : decode cX9_kindOf 5 = .ok (.if_icmp .ge 14, 3) := by decide +kernel
theorem dX9_kindOf_8 : decode cX9_kindOf 8 = .ok (.aload_n 0, 1) := by decide +kernel
theorem dX9_kindOf_9 : decode cX9_kindOf 9 = .ok (.getfield 11, 3) := by decide +kernel
theorem dX9_kindOf_12 : decode cX9_kindOf 12 = .ok (.iload_n 1, 1) := by decide +kernel
theorem dX9_kindOf_13 : decode cX9_kindOf 13 = .ok (.invokestatic 68, 3) := by decide +kernel
theorem dX9_kindOf_16 : decode cX9_kindOf 16 = .ok (.goto 4, 3) := by decide +kernel
theorem dX9_kindOf_19 : decode cX9_kindOf 19 = .ok (.iconst 0, 1) := by decide +kernel
theorem dX9_kindOf_20 : decode cX9_kindOf 20 = .ok (.ireturn, 1) := by decide +kernel
def fX9_kindOf (a1 : Int32) (w : Wd) : Int32 :=
  if (gi w 4 8) ≤ a1 then (0) else (lt (rgi w 5 8193 a1) fun x2 => x2)
theorem pX9_kindOf {q : Gq} {l : Launch} {N : Option Value → Wd → Prop} {X : String → Wd → Prop} {w : Wd} {R : Int32} (hN : N (some (.int R)) w) {a1 : Int32} (h : fX9_kindOf a1 w = R) : RT (GA q) l 1 yX9_kindOf cX9_kindOf 2 ((some .int)) N X 0 [] [(0, .ref 4), (1, .int a1)] w := by
  unfold fX9_kindOf at h
  refine r_iload_n (pc := 0) dX9_kindOf_0 rfl 1 rfl ?_
  refine r_aload_n (pc := 1) dX9_kindOf_1 rfl 0 rfl ?_
  refine r_get (pc := 2) (j := 8) (v := .int (gi w 4 8)) oA4 cf9 flRX9_89 rfl dX9_kindOf_2 rfl ?_
  refine r_icmp_ge (pc := 5) dX9_kindOf_5 rfl (fun hc1 => ?_) (fun hc1 => ?_)
  · replace h := if_t hc1 h
    refine r_iconst (pc := 19) dX9_kindOf_19 ki_0 ?_
    exact rP_i (pc := 20) rfl dX9_kindOf_20 h hN
  replace h := if_f hc1 h
  refine r_aload_n (pc := 8) dX9_kindOf_8 rfl 0 rfl ?_
  refine r_get (pc := 9) (j := 0) (v := .ref 5) oA4 cf9 flRX9_11 rfl dX9_kindOf_9 rfl ?_
  refine r_iload_n (pc := 12) dX9_kindOf_12 rfl 1 rfl ?_
  replace h := lt_e h; obtain ⟨x2, ex2, h⟩ := h
  refine r_cSi (pc := 13) wyX6_get mlRX9_68 tyX6_get ⟨(Nat.le_of_ble_eq_true rfl), (Nat.le_of_ble_eq_true rfl)⟩ rfl rfl (Nat.le_of_ble_eq_true rfl) dX9_kindOf_13 (mX6_get aA5 (Nat.le_of_ble_eq_true rfl) ex2 (pI.mk ?_))
  refine r_goto (pc := 16) dX9_kindOf_16 rfl ?_
  exact rP_i (pc := 20) rfl dX9_kindOf_20 h hN
theorem mX9_kindOf {q : Gq} {l : Launch} {N : Option Value → Wd → Prop} {X : String → Wd → Prop} {a1 : Int32} {w : Wd} {x : Int32} (h : fX9_kindOf a1 w = x) (hN : N (some (.int x)) w) : Ct (GA q) l 1 yX9_kindOf cX9_kindOf 2 ((some .int)) [.ref 4, .int a1] w N X := Ct.of (by decide) (Nat.le_of_ble_eq_true rfl) (pX9_kindOf hN h)
/-! AlgolMill$Tokens.nameOf (I)I: P, 1 -/
theorem dX9_nameOf_0 : decode cX9_nameOf 0 = .ok (.aload_n 0, 1) := by decide +kernel
theorem dX9_nameOf_1 : decode cX9_nameOf 1 = .ok (.getfield 18, 3) := by decide +kernel
theorem dX9_nameOf_4 : decode cX9_nameOf 4 = .ok (.iload_n 1, 1) := by decide +kernel
theorem dX9_nameOf_5 : decode cX9_nameOf 5 = .ok (.invokestatic 138, 3) := by decide +kernel
theorem dX9_nameOf_8 : decode cX9_nameOf 8 = .ok (.l2i, 1) := by decide +kernel
theorem dX9_nameOf_9 : decode cX9_nameOf 9 = .ok (.ireturn, 1) := by decide +kernel
def fX9_nameOf (a1 : Int32) (w : Wd) : Int32 :=
  lt (rgl w 7 8193 a1) fun x1 => (Int64.toInt32 x1)
theorem pX9_nameOf {q : Gq} {l : Launch} {N : Option Value → Wd → Prop} {X : String → Wd → Prop} {w : Wd} {R : Int32} (hN : N (some (.int R)) w) {a1 : Int32} (h : fX9_nameOf a1 w = R) : RT (GA q) l 1 yX9_nameOf cX9_nameOf 2 ((some .int)) N X 0 [] [(0, .ref 4), (1, .int a1)] w := by
  unfold fX9_nameOf at h
  refine r_aload_n (pc := 0) dX9_nameOf_0 rfl 0 rfl ?_
  refine r_get (pc := 1) (j := 2) (v := .ref 7) oA4 cf9 flRX9_18 rfl dX9_nameOf_1 rfl ?_
  refine r_iload_n (pc := 4) dX9_nameOf_4 rfl 1 rfl ?_
  replace h := lt_e h; obtain ⟨x1, ex1, h⟩ := h
  refine r_cSl (pc := 5) wyX6_get_ mlRX9_138 tyX6_get_ ⟨(Nat.le_of_ble_eq_true rfl), (Nat.le_of_ble_eq_true rfl)⟩ rfl rfl (Nat.le_of_ble_eq_true rfl) dX9_nameOf_5 (mX6_get_ aA7 (Nat.le_of_ble_eq_true rfl) ex1 (pL.mk ?_))
  refine r_l2i (pc := 8) dX9_nameOf_8 ?_
  exact rP_i (pc := 9) rfl dX9_nameOf_9 h hN
theorem mX9_nameOf {q : Gq} {l : Launch} {N : Option Value → Wd → Prop} {X : String → Wd → Prop} {a1 : Int32} {w : Wd} {x : Int32} (h : fX9_nameOf a1 w = x) (hN : N (some (.int x)) w) : Ct (GA q) l 1 yX9_nameOf cX9_nameOf 2 ((some .int)) [.ref 4, .int a1] w N X := Ct.of (by decide) (Nat.le_of_ble_eq_true rfl) (pX9_nameOf hN h)
/-! AlgolMill$Tokens.forget ()V: O, 2 -/
theorem dX9_forget_0 : decode cX9_forget 0 = .ok (.iconst 0, 1) := by decide +kernel
theorem dX9_forget_1 : decode cX9_forget 1 = .ok (.istore_n 1, 1) := by decide +kernel
theorem dX9_forget_2 : decode cX9_forget 2 = .ok (.iload_n 1, 1) := by decide +kernel
theorem dX9_forget_3 : decode cX9_forget 3 = .ok (.aload_n 0, 1) := by decide +kernel
theorem dX9_forget_4 : decode cX9_forget 4 = .ok (.getfield 89, 3) := by decide +kernel
theorem dX9_forget_7 : decode cX9_forget 7 = .ok (.if_icmp .ge 31, 3) := by decide +kernel
theorem dX9_forget_10 : decode cX9_forget 10 = .ok (.aload_n 0, 1) := by decide +kernel
theorem dX9_forget_11 : decode cX9_forget 11 = .ok (.iload_n 1, 1) := by decide +kernel
theorem dX9_forget_12 : decode cX9_forget 12 = .ok (.invokevirtual 93, 3) := by decide +kernel
theorem dX9_forget_15 : decode cX9_forget 15 = .ok (.iconst 2, 1) := by decide +kernel
theorem dX9_forget_16 : decode cX9_forget 16 = .ok (.if_icmp .ne 16, 3) := by decide +kernel
theorem dX9_forget_19 : decode cX9_forget 19 = .ok (.aload_n 0, 1) := by decide +kernel
theorem dX9_forget_20 : decode cX9_forget 20 = .ok (.getfield 34, 3) := by decide +kernel
theorem dX9_forget_23 : decode cX9_forget 23 = .ok (.aload_n 0, 1) := by decide +kernel
theorem dX9_forget_24 : decode cX9_forget 24 = .ok (.iload_n 1, 1) := by decide +kernel
theorem dX9_forget_25 : decode cX9_forget 25 = .ok (.invokevirtual 96, 3) := by decide +kernel
theorem dX9_forget_28 : decode cX9_forget 28 = .ok (.lconst 0, 1) := by decide +kernel
theorem dX9_forget_29 : decode cX9_forget 29 = .ok (.invokestatic 49, 3) := by decide +kernel
theorem dX9_forget_32 : decode cX9_forget 32 = .ok (.iinc 1 1, 3) := by decide +kernel
theorem dX9_forget_35 : decode cX9_forget 35 = .ok (.goto (-33), 3) := by decide +kernel
theorem dX9_forget_38 : decode cX9_forget 38 = .ok (.aload_n 0, 1) := by decide +kernel
theorem dX9_forget_39 : decode cX9_forget 39 = .ok (.iconst 0, 1) := by decide +kernel
theorem dX9_forget_40 : decode cX9_forget 40 = .ok (.putfield 89, 3) := by decide +kernel
theorem dX9_forget_43 : decode cX9_forget 43 = .ok (.aload_n 0, 1) := by decide +kernel
theorem dX9_forget_44 : decode cX9_forget 44 = .ok (.iconst (-1), 1) := by decide +kernel
theorem dX9_forget_45 : decode cX9_forget 45 = .ok (.putfield 99, 3) := by decide +kernel
theorem dX9_forget_48 : decode cX9_forget 48 = .ok (.return_, 1) := by decide +kernel
def fX9_forget_2 (k_2 : Int32 → Wd → Option Wd) (a1 : Int32) (w : Wd) : Option Wd :=
  if (gi w 4 8) ≤ a1 then (lt (si w 4 8 0) fun w2 => lt (si w2 4 10 (-1)) fun w3 => some w3) else (lt (fX9_kindOf a1 w) fun x4 => if x4 = 2 then (lt (fX9_nameOf a1 w) fun x6 => lt (rsl w 12 8192 x6 0) fun w7 => lt (a1 + 1) fun x8 => k_2 x8 w7) else (lt (a1 + 1) fun x9 => k_2 x9 w))
theorem pX9_forget_2 {q : Gq} {l : Launch} {N : Option Value → Wd → Prop} {X : String → Wd → Prop} {w : Wd} {R : Wd} (hN : N none R) {k_2 : Int32 → Wd → Option Wd} (hk_2 : ∀ (a1 : Int32) (w : Wd), k_2 a1 w = some R → RT (GA q) l 2 yX9_forget cX9_forget 2 (none) N X 2 [] [(0, .ref 4), (1, .int a1)] w) {a1 : Int32} (h : fX9_forget_2 k_2 a1 w = some R) : RT (GA q) l 2 yX9_forget cX9_forget 2 (none) N X 2 [] [(0, .ref 4), (1, .int a1)] w := by
  unfold fX9_forget_2 at h
  refine r_iload_n (pc := 2) dX9_forget_2 rfl 1 rfl ?_
  refine r_aload_n (pc := 3) dX9_forget_3 rfl 0 rfl ?_
  refine r_get (pc := 4) (j := 8) (v := .int (gi w 4 8)) oA4 cf9 flRX9_89 rfl dX9_forget_4 rfl ?_
  refine r_icmp_ge (pc := 7) dX9_forget_7 rfl (fun hc1 => ?_) (fun hc1 => ?_)
  · replace h := if_t hc1 h
    refine r_aload_n (pc := 38) dX9_forget_38 rfl 0 rfl ?_
    refine r_iconst (pc := 39) dX9_forget_39 ki_0 ?_
    replace h := lt_e h; obtain ⟨w2, ew2, h⟩ := h
    refine r_putI (pc := 40) (j := 8) oA4 cf9 flRX9_89 rfl rfl rfl rfl dX9_forget_40 ?_
    refine r_w ew2 ?_
    refine r_aload_n (pc := 43) dX9_forget_43 rfl 0 rfl ?_
    refine r_iconst (pc := 44) dX9_forget_44 ki_m1 ?_
    replace h := lt_e h; obtain ⟨w3, ew3, h⟩ := h
    refine r_putI (pc := 45) (j := 10) oA4 cf9 flRX9_99 rfl rfl rfl rfl dX9_forget_45 ?_
    refine r_w ew3 ?_
    exact rO_v (pc := 48) rfl dX9_forget_48 h hN
  replace h := if_f hc1 h
  refine r_aload_n (pc := 10) dX9_forget_10 rfl 0 rfl ?_
  refine r_iload_n (pc := 11) dX9_forget_11 rfl 1 rfl ?_
  replace h := lt_e h; obtain ⟨x4, ex4, h⟩ := h
  refine r_cVi (pc := 12) wyX9_kindOf oA4 rfl mlRX9_93 iyX9_kindOf syX9_kindOf ⟨(Nat.le_of_ble_eq_true rfl), (Nat.le_of_ble_eq_true rfl)⟩ rfl rfl (Nat.le_of_ble_eq_true rfl) dX9_forget_12 (mX9_kindOf ex4 (pI.mk ?_))
  refine r_iconst (pc := 15) dX9_forget_15 ki_2 ?_
  refine r_icmp_ne (pc := 16) dX9_forget_16 rfl (fun hc5 => ?_) (fun hc5 => ?_)
  · replace h := if_f hc5 h
    replace h := lt_e h; obtain ⟨x9, ex9, h⟩ := h
    refine r_inc (pc := 32) (loc' := [(1, .int x9), (0, .ref 4)]) dX9_forget_32 ki_1 ex9 1 rfl (Nat.le_of_ble_eq_true rfl) rfl ?_
    refine r_goto (pc := 35) dX9_forget_35 rfl ?_
    refine r_drop (loc' := [(0, .ref 4), (1, .int x9)]) [1, 0] rfl ?_
    exact hk_2 x9 w h
  replace h := if_t hc5 h
  refine r_aload_n (pc := 19) dX9_forget_19 rfl 0 rfl ?_
  refine r_get (pc := 20) (j := 7) (v := .ref 12) oA4 cf9 flRX9_34 rfl dX9_forget_20 rfl ?_
  refine r_aload_n (pc := 23) dX9_forget_23 rfl 0 rfl ?_
  refine r_iload_n (pc := 24) dX9_forget_24 rfl 1 rfl ?_
  replace h := lt_e h; obtain ⟨x6, ex6, h⟩ := h
  refine r_cVi (pc := 25) wyX9_nameOf oA4 rfl mlRX9_96 iyX9_nameOf syX9_nameOf ⟨(Nat.le_of_ble_eq_true rfl), (Nat.le_of_ble_eq_true rfl)⟩ rfl rfl (Nat.le_of_ble_eq_true rfl) dX9_forget_25 (mX9_nameOf ex6 (pI.mk ?_))
  refine r_lconst (pc := 28) dX9_forget_28 kl_0 ?_
  replace h := lt_e h; obtain ⟨w7, ew7, h⟩ := h
  refine r_cSv (pc := 29) wyX6_set_ mlRX9_49 tyX6_set_ ⟨(Nat.le_of_ble_eq_true rfl), (Nat.le_of_ble_eq_true rfl)⟩ rfl rfl (Nat.le_of_ble_eq_true rfl) dX9_forget_29 (mX6_set_ aA12 (Nat.le_of_ble_eq_true rfl) ew7 (pV.mk ?_))
  replace h := lt_e h; obtain ⟨x8, ex8, h⟩ := h
  refine r_inc (pc := 32) (loc' := [(1, .int x8), (0, .ref 4)]) dX9_forget_32 ki_1 ex8 1 rfl (Nat.le_of_ble_eq_true rfl) rfl ?_
  refine r_goto (pc := 35) dX9_forget_35 rfl ?_
  refine r_drop (loc' := [(0, .ref 4), (1, .int x8)]) [1, 0] rfl ?_
  exact hk_2 x8 w7 h
def oX9_forget_2 : Nat → Int32 → Wd → Option Wd
  | 0 => fun _ _ => none
  | n + 1 => fX9_forget_2 (oX9_forget_2 n)
theorem qX9_forget_2 {q : Gq} {l : Launch} {N : Option Value → Wd → Prop} {X : String → Wd → Prop} {R : Wd} (hN : N none R) : ∀ (n : Nat) (a1 : Int32) (w : Wd), oX9_forget_2 n a1 w = some R → RT (GA q) l 2 yX9_forget cX9_forget 2 (none) N X 2 [] [(0, .ref 4), (1, .int a1)] w := by
  intro n
  induction n with
  | zero =>
    intro a1 w h
    exact absurd h (fun q => nomatch q)
  | succ n ih =>
    intro a1 w h
    exact pX9_forget_2 hN ih h
def fX9_forget (w : Wd) : Option Wd :=
  oX9_forget_2 FU 0 w
theorem pX9_forget {q : Gq} {l : Launch} {N : Option Value → Wd → Prop} {X : String → Wd → Prop} {w : Wd} {R : Wd} (hN : N none R) (h : fX9_forget w = some R) : RT (GA q) l 2 yX9_forget cX9_forget 2 (none) N X 0 [] [(0, .ref 4)] w := by
  unfold fX9_forget at h
  refine r_iconst (pc := 0) dX9_forget_0 ki_0 ?_
  refine r_istore_n (pc := 1) (loc' := [(1, .int 0), (0, .ref 4)]) dX9_forget_1 rfl (Nat.le_of_ble_eq_true rfl) rfl ?_
  refine r_drop (loc' := [(0, .ref 4), (1, .int 0)]) [1, 0] rfl ?_
  exact qX9_forget_2 hN FU 0 w h
theorem mX9_forget {q : Gq} {l : Launch} {N : Option Value → Wd → Prop} {X : String → Wd → Prop} {w : Wd} {u : Wd} (h : fX9_forget w = some u) (hN : N none u) : Ct (GA q) l 2 yX9_forget cX9_forget 2 (none) [.ref 4] w N X := Ct.of (by decide) (Nat.le_of_ble_eq_true rfl) (pX9_forget hN h)
/-! AlgolMill$Tokens.rewind ()V: S, 0 -/
theorem dX9_rewind_0 : decode cX9_rewind 0 = .ok (.aload_n 0, 1) := by decide +kernel
theorem dX9_rewind_1 : decode cX9_rewind 1 = .ok (.iconst 0, 1) := by decide +kernel
theorem dX9_rewind_2 : decode cX9_rewind 2 = .ok (.putfield 146, 3) := by decide +kernel
theorem dX9_rewind_5 : decode cX9_rewind 5 = .ok (.return_, 1) := by decide +kernel
def fX9_rewind (w : Wd) : Wd :=
  lt (si w 4 9 0) fun w1 => w1
theorem pX9_rewind {q : Gq} {l : Launch} {N : Option Value → Wd → Prop} {X : String → Wd → Prop} {w : Wd} {R : Wd} (hN : N none R) (h : fX9_rewind w = R) : RT (GA q) l 0 yX9_rewind cX9_rewind 1 (none) N X 0 [] [(0, .ref 4)] w := by
  unfold fX9_rewind at h
  refine r_aload_n (pc := 0) dX9_rewind_0 rfl 0 rfl ?_
  refine r_iconst (pc := 1) dX9_rewind_1 ki_0 ?_
  replace h := lt_e h; obtain ⟨w1, ew1, h⟩ := h
  refine r_putI (pc := 2) (j := 9) oA4 cf9 flRX9_146 rfl rfl rfl rfl dX9_rewind_2 ?_
  refine r_w ew1 ?_
  exact rS_v (pc := 5) rfl dX9_rewind_5 h hN
theorem mX9_rewind {q : Gq} {l : Launch} {N : Option Value → Wd → Prop} {X : String → Wd → Prop} {w : Wd} {u : Wd} (h : fX9_rewind w = u) (hN : N none u) : Ct (GA q) l 0 yX9_rewind cX9_rewind 1 (none) [.ref 4] w N X := Ct.of (by decide) (Nat.le_of_ble_eq_true rfl) (pX9_rewind hN h)
/-! AlgolMill$Tokens.longer (II)I: P, 0 -/
theorem dX9_longer_0 : decode cX9_longer 0 = .ok (.iload_n 1, 1) := by decide +kernel
theorem dX9_longer_1 : decode cX9_longer 1 = .ok (.bipush 61, 2) := by decide +kernel
theorem dX9_longer_3 : decode cX9_longer 3 = .ok (.if_icmp .ne 48, 3) := by decide +kernel
theorem dX9_longer_6 : decode cX9_longer 6 = .ok (.iload_n 0, 1) := by decide +kernel
theorem dX9_longer_7 : decode cX9_longer 7 = .ok (.lookupswitch 42 #[(37, 33), (39, 36), (42, 39)], 33) := by decide +kernel
theorem dX9_longer_40 : decode cX9_longer 40 = .ok (.bipush 47, 2) := by decide +kernel
theorem dX9_longer_42 : decode cX9_longer 42 = .ok (.ireturn, 1) := by decide +kernel
theorem dX9_longer_43 : decode cX9_longer 43 = .ok (.bipush 48, 2) := by decide +kernel
theorem dX9_longer_45 : decode cX9_longer 45 = .ok (.ireturn, 1) := by decide +kernel
theorem dX9_longer_46 : decode cX9_longer 46 = .ok (.bipush 50, 2) := by decide +kernel
theorem dX9_longer_48 : decode cX9_longer 48 = .ok (.ireturn, 1) := by decide +kernel
theorem dX9_longer_49 : decode cX9_longer 49 = .ok (.iload_n 0, 1) := by decide +kernel
theorem dX9_longer_50 : decode cX9_longer 50 = .ok (.ireturn, 1) := by decide +kernel
theorem dX9_longer_51 : decode cX9_longer 51 = .ok (.iload_n 0, 1) := by decide +kernel
theorem dX9_longer_52 : decode cX9_longer 52 = .ok (.bipush 37, 2) := by decide +kernel
theorem dX9_longer_54 : decode cX9_longer 54 = .ok (.if_icmp .ne 14, 3) := by decide +kernel
theorem dX9_longer_57 : decode cX9_longer 57 = .ok (.iload_n 1, 1) := by decide +kernel
theorem dX9_longer_58 : decode cX9_longer 58 = .ok (.bipush 62, 2) := by decide +kernel
theorem dX9_longer_60 : decode cX9_longer 60 = .ok (.if_icmp .ne 8, 3) := by decide +kernel
theorem dX9_longer_63 : decode cX9_longer 63 = .ok (.bipush 49, 2) := by decide +kernel
theorem dX9_longer_65 : decode cX9_longer 65 = .ok (.goto 4, 3) := by decide +kernel
theorem dX9_longer_68 : decode cX9_longer 68 = .ok (.iload_n 0, 1) := by decide +kernel
theorem dX9_longer_69 : decode cX9_longer 69 = .ok (.ireturn, 1) := by decide +kernel
def fX9_longer (a0 : Int32) (a1 : Int32) (w : Wd) : Int32 :=
  if a1 = 61 then (if a0 = 37 then (47) else if a0 = 39 then (48) else if a0 = 42 then (50) else (a0)) else (if a0 = 37 then (if a1 = 62 then (49) else (a0)) else (a0))
theorem pX9_longer {q : Gq} {l : Launch} {N : Option Value → Wd → Prop} {X : String → Wd → Prop} {w : Wd} {R : Int32} (hN : N (some (.int R)) w) {a0 : Int32} {a1 : Int32} (h : fX9_longer a0 a1 w = R) : RT (GA q) l 0 yX9_longer cX9_longer 2 ((some .int)) N X 0 [] [(0, .int a0), (1, .int a1)] w := by
  unfold fX9_longer at h
  refine r_iload_n (pc := 0) dX9_longer_0 rfl 1 rfl ?_
  refine r_bipush (pc := 1) dX9_longer_1 kb_61 ?_
  refine r_icmp_ne (pc := 3) dX9_longer_3 rfl (fun hc1 => ?_) (fun hc1 => ?_)
  · replace h := if_f hc1 h
    refine r_iload_n (pc := 51) dX9_longer_51 rfl 0 rfl ?_
    refine r_bipush (pc := 52) dX9_longer_52 kb_37 ?_
    refine r_icmp_ne (pc := 54) dX9_longer_54 rfl (fun hc5 => ?_) (fun hc5 => ?_)
    · replace h := if_f hc5 h
      refine r_iload_n (pc := 68) dX9_longer_68 rfl 0 rfl ?_
      exact rP_i (pc := 69) rfl dX9_longer_69 h hN
    replace h := if_t hc5 h
    refine r_iload_n (pc := 57) dX9_longer_57 rfl 1 rfl ?_
    refine r_bipush (pc := 58) dX9_longer_58 kb_62 ?_
    refine r_icmp_ne (pc := 60) dX9_longer_60 rfl (fun hc6 => ?_) (fun hc6 => ?_)
    · replace h := if_f hc6 h
      refine r_iload_n (pc := 68) dX9_longer_68 rfl 0 rfl ?_
      exact rP_i (pc := 69) rfl dX9_longer_69 h hN
    replace h := if_t hc6 h
    refine r_bipush (pc := 63) dX9_longer_63 kb_49 ?_
    refine r_goto (pc := 65) dX9_longer_65 rfl ?_
    exact rP_i (pc := 69) rfl dX9_longer_69 h hN
  replace h := if_t hc1 h
  refine r_iload_n (pc := 6) dX9_longer_6 rfl 0 rfl ?_
  by_cases hc2 : a0 = 37
  · refine r_lkC (pc := 7) (off := 33) (tgt := 40) (L := [37]) dX9_longer_7 (by decide) hc2 (by decide) rfl ?_
    replace h := if_t hc2 h
    refine r_bipush (pc := 40) dX9_longer_40 kb_47 ?_
    exact rP_i (pc := 42) rfl dX9_longer_42 h hN
  replace h := if_f hc2 h
  by_cases hc3 : a0 = 39
  · refine r_lkC (pc := 7) (off := 36) (tgt := 43) (L := [39]) dX9_longer_7 (by decide) hc3 (by decide) rfl ?_
    replace h := if_t hc3 h
    refine r_bipush (pc := 43) dX9_longer_43 kb_48 ?_
    exact rP_i (pc := 45) rfl dX9_longer_45 h hN
  replace h := if_f hc3 h
  by_cases hc4 : a0 = 42
  · refine r_lkC (pc := 7) (off := 39) (tgt := 46) (L := [42]) dX9_longer_7 (by decide) hc4 (by decide) rfl ?_
    replace h := if_t hc4 h
    refine r_bipush (pc := 46) dX9_longer_46 kb_50 ?_
    exact rP_i (pc := 48) rfl dX9_longer_48 h hN
  replace h := if_f hc4 h
  refine r_lkD (pc := 7) (tgt := 49) (K := [[37], [39], [42]]) dX9_longer_7 (by decide) ⟨hc2, hc3, hc4, trivial⟩ (by decide) rfl ?_
  refine r_iload_n (pc := 49) dX9_longer_49 rfl 0 rfl ?_
  exact rP_i (pc := 50) rfl dX9_longer_50 h hN
theorem mX9_longer {q : Gq} {l : Launch} {N : Option Value → Wd → Prop} {X : String → Wd → Prop} {a0 : Int32} {a1 : Int32} {w : Wd} {x : Int32} (h : fX9_longer a0 a1 w = x) (hN : N (some (.int x)) w) : Ct (GA q) l 0 yX9_longer cX9_longer 2 ((some .int)) [.int a0, .int a1] w N X := Ct.of (by decide) (Nat.le_of_ble_eq_true rfl) (pX9_longer hN h)
/-! AlgolMill$Tokens.numberOf (J)I: O, 1 -/
theorem dX9_numberOf_0 : decode cX9_numberOf 0 = .ok (.lload_n 1, 1) := by decide +kernel
theorem dX9_numberOf_1 : decode cX9_numberOf 1 = .ok (.ldc2_w 141, 3) := by decide +kernel
theorem dX9_numberOf_4 : decode cX9_numberOf 4 = .ok (.invokestatic 143, 3) := by decide +kernel
theorem dX9_numberOf_7 : decode cX9_numberOf 7 = .ok (.l2i, 1) := by decide +kernel
theorem dX9_numberOf_8 : decode cX9_numberOf 8 = .ok (.istore_n 3, 1) := by decide +kernel
theorem dX9_numberOf_9 : decode cX9_numberOf 9 = .ok (.iconst 0, 1) := by decide +kernel
theorem dX9_numberOf_10 : decode cX9_numberOf 10 = .ok (.istore 4, 2) := by decide +kernel
theorem dX9_numberOf_12 : decode cX9_numberOf 12 = .ok (.iload 4, 2) := by decide +kernel
theorem dX9_numberOf_14 : decode cX9_numberOf 14 = .ok (.sipush 8192, 3) := by decide +kernel
theorem dX9_numberOf_17 : decode cX9_numberOf 17 = .ok (.if_icmp .ge 59, 3) := by decide +kernel
theorem dX9_numberOf_20 : decode cX9_numberOf 20 = .ok (.aload_n 0, 1) := by decide +kernel
theorem dX9_numberOf_21 : decode cX9_numberOf 21 = .ok (.getfield 34, 3) := by decide +kernel
theorem dX9_numberOf_24 : decode cX9_numberOf 24 = .ok (.iload_n 3, 1) := by decide +kernel
theorem dX9_numberOf_25 : decode cX9_numberOf 25 = .ok (.invokestatic 138, 3) := by decide +kernel
theorem dX9_numberOf_28 : decode cX9_numberOf 28 = .ok (.lstore 5, 2) := by decide +kernel
theorem dX9_numberOf_30 : decode cX9_numberOf 30 = .ok (.lload 5, 2) := by decide +kernel
theorem dX9_numberOf_32 : decode cX9_numberOf 32 = .ok (.lconst 0, 1) := by decide +kernel
theorem dX9_numberOf_33 : decode cX9_numberOf 33 = .ok (.lcmp, 1) := by decide +kernel
theorem dX9_numberOf_34 : decode cX9_numberOf 34 = .ok (.ifCond .ne 12, 3) := by decide +kernel
theorem dX9_numberOf_37 : decode cX9_numberOf 37 = .ok (.aload_n 0, 1) := by decide +kernel
theorem dX9_numberOf_38 : decode cX9_numberOf 38 = .ok (.getfield 34, 3) := by decide +kernel
theorem dX9_numberOf_41 : decode cX9_numberOf 41 = .ok (.iload_n 3, 1) := by decide +kernel
theorem dX9_numberOf_42 : decode cX9_numberOf 42 = .ok (.lload_n 1, 1) := by decide +kernel
theorem dX9_numberOf_43 : decode cX9_numberOf 43 = .ok (.invokestatic 49, 3) := by decide +kernel
theorem dX9_numberOf_46 : decode cX9_numberOf 46 = .ok (.lload 5, 2) := by decide +kernel
theorem dX9_numberOf_48 : decode cX9_numberOf 48 = .ok (.lconst 0, 1) := by decide +kernel
theorem dX9_numberOf_49 : decode cX9_numberOf 49 = .ok (.lcmp, 1) := by decide +kernel
theorem dX9_numberOf_50 : decode cX9_numberOf 50 = .ok (.ifCond .eq 10, 3) := by decide +kernel
theorem dX9_numberOf_53 : decode cX9_numberOf 53 = .ok (.lload 5, 2) := by decide +kernel
theorem dX9_numberOf_55 : decode cX9_numberOf 55 = .ok (.lload_n 1, 1) := by decide +kernel
theorem dX9_numberOf_56 : decode cX9_numberOf 56 = .ok (.lcmp, 1) := by decide +kernel
theorem dX9_numberOf_57 : decode cX9_numberOf 57 = .ok (.ifCond .ne 5, 3) := by decide +kernel
theorem dX9_numberOf_60 : decode cX9_numberOf 60 = .ok (.iload_n 3, 1) := by decide +kernel
theorem dX9_numberOf_61 : decode cX9_numberOf 61 = .ok (.ireturn, 1) := by decide +kernel
theorem dX9_numberOf_62 : decode cX9_numberOf 62 = .ok (.iload_n 3, 1) := by decide +kernel
theorem dX9_numberOf_63 : decode cX9_numberOf 63 = .ok (.iconst 1, 1) := by decide +kernel
theorem dX9_numberOf_64 : decode cX9_numberOf 64 = .ok (.iadd, 1) := by decide +kernel
theorem dX9_numberOf_65 : decode cX9_numberOf 65 = .ok (.sipush 8192, 3) := by decide +kernel
theorem dX9_numberOf_68 : decode cX9_numberOf 68 = .ok (.irem, 1) := by decide +kernel
theorem dX9_numberOf_69 : decode cX9_numberOf 69 = .ok (.istore_n 3, 1) := by decide +kernel
theorem dX9_numberOf_70 : decode cX9_numberOf 70 = .ok (.iinc 4 1, 3) := by decide +kernel
theorem dX9_numberOf_73 : decode cX9_numberOf 73 = .ok (.goto (-61), 3) := by decide +kernel
theorem dX9_numberOf_76 : decode cX9_numberOf 76 = .ok (.iconst 0, 1) := by decide +kernel
theorem dX9_numberOf_77 : decode cX9_numberOf 77 = .ok (.ireturn, 1) := by decide +kernel
def fX9_numberOf_46 (k_12 : Int64 → Int32 → Int32 → Wd → Option (Int32 × Wd)) (a1 : Int64) (a3 : Int32) (a4 : Int32) (a5 : Int64) (w : Wd) : Option (Int32 × Wd) :=
  if a5 = 0 then (some (a3, w)) else (if a5 = a1 then (some (a3, w)) else (lt (((a3 + 1) - (a3 + 1) / 8192 * 8192)) fun x3 => lt (a4 + 1) fun x4 => k_12 a1 x3 x4 w))
theorem pX9_numberOf_46 {q : Gq} {l : Launch} {N : Option Value → Wd → Prop} {X : String → Wd → Prop} {w : Wd} {R : Int32 × Wd} (hN : N (some (.int R.1)) R.2) {k_12 : Int64 → Int32 → Int32 → Wd → Option (Int32 × Wd)} (hk_12 : ∀ (a1 : Int64) (a3 : Int32) (a4 : Int32) (w : Wd), k_12 a1 a3 a4 w = some R → RT (GA q) l 1 yX9_numberOf cX9_numberOf 7 ((some .int)) N X 12 [] [(0, .ref 4), (1, .long a1), (3, .int a3), (4, .int a4)] w) {a1 : Int64} {a3 : Int32} {a4 : Int32} {a5 : Int64} (h : fX9_numberOf_46 k_12 a1 a3 a4 a5 w = some R) : RT (GA q) l 1 yX9_numberOf cX9_numberOf 7 ((some .int)) N X 46 [] [(0, .ref 4), (1, .long a1), (3, .int a3), (4, .int a4), (5, .long a5)] w := by
  unfold fX9_numberOf_46 at h
  refine r_lload (pc := 46) dX9_numberOf_46 4 rfl ?_
  refine r_lconst (pc := 48) dX9_numberOf_48 kl_0 ?_
  refine r_l_eq (pc := 49) dX9_numberOf_49 dX9_numberOf_50 rfl (fun hc1 => ?_) (fun hc1 => ?_)
  · replace h := if_t hc1 h
    refine r_iload_n (pc := 60) dX9_numberOf_60 rfl 2 rfl ?_
    exact rO_i (pc := 61) rfl dX9_numberOf_61 h hN
  replace h := if_f hc1 h
  refine r_lload (pc := 53) dX9_numberOf_53 4 rfl ?_
  refine r_lload_n (pc := 55) dX9_numberOf_55 rfl 1 rfl ?_
  refine r_l_ne (pc := 56) dX9_numberOf_56 dX9_numberOf_57 rfl (fun hc2 => ?_) (fun hc2 => ?_)
  · replace h := if_f hc2 h
    refine r_iload_n (pc := 62) dX9_numberOf_62 rfl 2 rfl ?_
    refine r_iconst (pc := 63) dX9_numberOf_63 ki_1 ?_
    refine r_iadd (pc := 64) dX9_numberOf_64 ?_
    refine r_sipush (pc := 65) dX9_numberOf_65 ks_8192 ?_
    refine r_irem (pc := 68) dX9_numberOf_68 (by decide) ?_
    replace h := lt_e h; obtain ⟨x3, ex3, h⟩ := h
    refine r_topi ex3 ?_
    refine r_istore_n (pc := 69) (loc' := [(3, .int x3), (0, .ref 4), (1, .long a1), (4, .int a4), (5, .long a5)]) dX9_numberOf_69 rfl (Nat.le_of_ble_eq_true rfl) rfl ?_
    replace h := lt_e h; obtain ⟨x4, ex4, h⟩ := h
    refine r_inc (pc := 70) (loc' := [(4, .int x4), (3, .int x3), (0, .ref 4), (1, .long a1), (5, .long a5)]) dX9_numberOf_70 ki_1 ex4 3 rfl (Nat.le_of_ble_eq_true rfl) rfl ?_
    refine r_goto (pc := 73) dX9_numberOf_73 rfl ?_
    refine r_drop (loc' := [(0, .ref 4), (1, .long a1), (3, .int x3), (4, .int x4)]) [2, 3, 1, 0] rfl ?_
    exact hk_12 a1 x3 x4 w h
  replace h := if_t hc2 h
  refine r_iload_n (pc := 60) dX9_numberOf_60 rfl 2 rfl ?_
  exact rO_i (pc := 61) rfl dX9_numberOf_61 h hN
def fX9_numberOf_12 (k_12 : Int64 → Int32 → Int32 → Wd → Option (Int32 × Wd)) (a1 : Int64) (a3 : Int32) (a4 : Int32) (w : Wd) : Option (Int32 × Wd) :=
  if 8192 ≤ a4 then (some (0, w)) else (lt (rgl w 12 8192 a3) fun x2 => if x2 = 0 then (lt (rsl w 12 8192 a3 a1) fun w4 => fX9_numberOf_46 k_12 a1 a3 a4 x2 w4) else (fX9_numberOf_46 k_12 a1 a3 a4 x2 w))
theorem pX9_numberOf_12 {q : Gq} {l : Launch} {N : Option Value → Wd → Prop} {X : String → Wd → Prop} {w : Wd} {R : Int32 × Wd} (hN : N (some (.int R.1)) R.2) {k_12 : Int64 → Int32 → Int32 → Wd → Option (Int32 × Wd)} (hk_12 : ∀ (a1 : Int64) (a3 : Int32) (a4 : Int32) (w : Wd), k_12 a1 a3 a4 w = some R → RT (GA q) l 1 yX9_numberOf cX9_numberOf 7 ((some .int)) N X 12 [] [(0, .ref 4), (1, .long a1), (3, .int a3), (4, .int a4)] w) {a1 : Int64} {a3 : Int32} {a4 : Int32} (h : fX9_numberOf_12 k_12 a1 a3 a4 w = some R) : RT (GA q) l 1 yX9_numberOf cX9_numberOf 7 ((some .int)) N X 12 [] [(0, .ref 4), (1, .long a1), (3, .int a3), (4, .int a4)] w := by
  unfold fX9_numberOf_12 at h
  refine r_iload (pc := 12) dX9_numberOf_12 3 rfl ?_
  refine r_sipush (pc := 14) dX9_numberOf_14 ks_8192 ?_
  refine r_icmp_ge (pc := 17) dX9_numberOf_17 rfl (fun hc1 => ?_) (fun hc1 => ?_)
  · replace h := if_t hc1 h
    refine r_iconst (pc := 76) dX9_numberOf_76 ki_0 ?_
    exact rO_i (pc := 77) rfl dX9_numberOf_77 h hN
  replace h := if_f hc1 h
  refine r_aload_n (pc := 20) dX9_numberOf_20 rfl 0 rfl ?_
  refine r_get (pc := 21) (j := 7) (v := .ref 12) oA4 cf9 flRX9_34 rfl dX9_numberOf_21 rfl ?_
  refine r_iload_n (pc := 24) dX9_numberOf_24 rfl 2 rfl ?_
  replace h := lt_e h; obtain ⟨x2, ex2, h⟩ := h
  refine r_cSl (pc := 25) wyX6_get_ mlRX9_138 tyX6_get_ ⟨(Nat.le_of_ble_eq_true rfl), (Nat.le_of_ble_eq_true rfl)⟩ rfl rfl (Nat.le_of_ble_eq_true rfl) dX9_numberOf_25 (mX6_get_ aA12 (Nat.le_of_ble_eq_true rfl) ex2 (pL.mk ?_))
  refine r_lstore (pc := 28) (loc' := [(5, .long x2), (0, .ref 4), (1, .long a1), (3, .int a3), (4, .int a4)]) dX9_numberOf_28 (Nat.le_of_ble_eq_true rfl) rfl ?_
  refine r_lload (pc := 30) dX9_numberOf_30 0 rfl ?_
  refine r_lconst (pc := 32) dX9_numberOf_32 kl_0 ?_
  refine r_l_ne (pc := 33) dX9_numberOf_33 dX9_numberOf_34 rfl (fun hc3 => ?_) (fun hc3 => ?_)
  · replace h := if_f hc3 h
    refine r_drop (loc' := [(0, .ref 4), (1, .long a1), (3, .int a3), (4, .int a4), (5, .long x2)]) [1, 2, 3, 4, 0] rfl ?_
    exact pX9_numberOf_46 hN hk_12 h
  replace h := if_t hc3 h
  refine r_aload_n (pc := 37) dX9_numberOf_37 rfl 1 rfl ?_
  refine r_get (pc := 38) (j := 7) (v := .ref 12) oA4 cf9 flRX9_34 rfl dX9_numberOf_38 rfl ?_
  refine r_iload_n (pc := 41) dX9_numberOf_41 rfl 3 rfl ?_
  refine r_lload_n (pc := 42) dX9_numberOf_42 rfl 2 rfl ?_
  replace h := lt_e h; obtain ⟨w4, ew4, h⟩ := h
  refine r_cSv (pc := 43) wyX6_set_ mlRX9_49 tyX6_set_ ⟨(Nat.le_of_ble_eq_true rfl), (Nat.le_of_ble_eq_true rfl)⟩ rfl rfl (Nat.le_of_ble_eq_true rfl) dX9_numberOf_43 (mX6_set_ aA12 (Nat.le_of_ble_eq_true rfl) ew4 (pV.mk ?_))
  refine r_drop (loc' := [(0, .ref 4), (1, .long a1), (3, .int a3), (4, .int a4), (5, .long x2)]) [1, 2, 3, 4, 0] rfl ?_
  exact pX9_numberOf_46 hN hk_12 h
def oX9_numberOf_12 : Nat → Int64 → Int32 → Int32 → Wd → Option (Int32 × Wd)
  | 0 => fun _ _ _ _ => none
  | n + 1 => fX9_numberOf_12 (oX9_numberOf_12 n)
theorem qX9_numberOf_12 {q : Gq} {l : Launch} {N : Option Value → Wd → Prop} {X : String → Wd → Prop} {R : Int32 × Wd} (hN : N (some (.int R.1)) R.2) : ∀ (n : Nat) (a1 : Int64) (a3 : Int32) (a4 : Int32) (w : Wd), oX9_numberOf_12 n a1 a3 a4 w = some R → RT (GA q) l 1 yX9_numberOf cX9_numberOf 7 ((some .int)) N X 12 [] [(0, .ref 4), (1, .long a1), (3, .int a3), (4, .int a4)] w := by
  intro n
  induction n with
  | zero =>
    intro a1 a3 a4 w h
    exact absurd h (fun q => nomatch q)
  | succ n ih =>
    intro a1 a3 a4 w h
    exact pX9_numberOf_12 hN ih h
def fX9_numberOf (a1 : Int64) (w : Wd) : Option (Int32 × Wd) :=
  lt (fJ9_floorMod_f86c9 a1 8192) fun x1 => lt ((Int64.toInt32 x1)) fun x2 => oX9_numberOf_12 FU a1 x2 0 w
theorem pX9_numberOf {q : Gq} {l : Launch} {N : Option Value → Wd → Prop} {X : String → Wd → Prop} {w : Wd} {R : Int32 × Wd} (hN : N (some (.int R.1)) R.2) {a1 : Int64} (h : fX9_numberOf a1 w = some R) : RT (GA q) l 1 yX9_numberOf cX9_numberOf 7 ((some .int)) N X 0 [] [(0, .ref 4), (1, .long a1)] w := by
  unfold fX9_numberOf at h
  refine r_lload_n (pc := 0) dX9_numberOf_0 rfl 1 rfl ?_
  refine r_ldc2 (pc := 1) dX9_numberOf_1 kcRX9_141 ?_
  replace h := lt_e h; obtain ⟨x1, ex1, h⟩ := h
  refine r_cSl (pc := 4) wyJ9_floorMod_f86c9 mlRX9_143 tyJ9_floorMod_f86c9 ⟨(Nat.le_of_ble_eq_true rfl), (Nat.le_of_ble_eq_true rfl)⟩ rfl rfl (Nat.le_of_ble_eq_true rfl) dX9_numberOf_4 (mJ9_floorMod_f86c9 (by decide) ex1 (pL.mk ?_))
  refine r_l2i (pc := 7) dX9_numberOf_7 ?_
  replace h := lt_e h; obtain ⟨x2, ex2, h⟩ := h
  refine r_topi ex2 ?_
  refine r_istore_n (pc := 8) (loc' := [(3, .int x2), (0, .ref 4), (1, .long a1)]) dX9_numberOf_8 rfl (Nat.le_of_ble_eq_true rfl) rfl ?_
  refine r_iconst (pc := 9) dX9_numberOf_9 ki_0 ?_
  refine r_istore (pc := 10) (loc' := [(4, .int 0), (3, .int x2), (0, .ref 4), (1, .long a1)]) dX9_numberOf_10 (Nat.le_of_ble_eq_true rfl) rfl ?_
  refine r_drop (loc' := [(0, .ref 4), (1, .long a1), (3, .int x2), (4, .int 0)]) [2, 3, 1, 0] rfl ?_
  exact qX9_numberOf_12 hN FU a1 x2 0 w h
theorem mX9_numberOf {q : Gq} {l : Launch} {N : Option Value → Wd → Prop} {X : String → Wd → Prop} {a1 : Int64} {w : Wd} {x : Int32} {u : Wd} (h : fX9_numberOf a1 w = some (x, u)) (hN : N (some (.int x)) u) : Ct (GA q) l 1 yX9_numberOf cX9_numberOf 7 ((some .int)) [.ref 4, .long a1] w N X := Ct.of (by decide) (Nat.le_of_ble_eq_true rfl) (pX9_numberOf hN h)
/-! AlgolMill$Tokens.word (J)I: O, 1 -/
theorem dX9_word_0 : decode cX9_word 0 = .ok (.iconst 4, 1) := by decide +kernel
theorem dX9_word_1 : decode cX9_word 1 = .ok (.istore_n 3, 1) := by decide +kernel
theorem dX9_word_2 : decode cX9_word 2 = .ok (.iload_n 3, 1) := by decide +kernel
theorem dX9_word_3 : decode cX9_word 3 = .ok (.bipush 32, 2) := by decide +kernel
theorem dX9_word_5 : decode cX9_word 5 = .ok (.if_icmp .gt 24, 3) := by decide +kernel
theorem dX9_word_8 : decode cX9_word 8 = .ok (.aload_n 0, 1) := by decide +kernel
theorem dX9_word_9 : decode cX9_word 9 = .ok (.getfield 31, 3) := by decide +kernel
theorem dX9_word_12 : decode cX9_word 12 = .ok (.iload_n 3, 1) := by decide +kernel
theorem dX9_word_13 : decode cX9_word 13 = .ok (.invokestatic 138, 3) := by decide +kernel
theorem dX9_word_16 : decode cX9_word 16 = .ok (.lload_n 1, 1) := by decide +kernel
theorem dX9_word_17 : decode cX9_word 17 = .ok (.lcmp, 1) := by decide +kernel
theorem dX9_word_18 : decode cX9_word 18 = .ok (.ifCond .ne 5, 3) := by decide +kernel
theorem dX9_word_21 : decode cX9_word 21 = .ok (.iload_n 3, 1) := by decide +kernel
theorem dX9_word_22 : decode cX9_word 22 = .ok (.ireturn, 1) := by decide +kernel
theorem dX9_word_23 : decode cX9_word 23 = .ok (.iinc 3 1, 3) := by decide +kernel
theorem dX9_word_26 : decode cX9_word 26 = .ok (.goto (-24), 3) := by decide +kernel
theorem dX9_word_29 : decode cX9_word 29 = .ok (.iconst 0, 1) := by decide +kernel
theorem dX9_word_30 : decode cX9_word 30 = .ok (.ireturn, 1) := by decide +kernel
def fX9_word_2 (k_2 : Int64 → Int32 → Wd → Option (Int32 × Wd)) (a1 : Int64) (a3 : Int32) (w : Wd) : Option (Int32 × Wd) :=
  if 32 < a3 then (some (0, w)) else (lt (rgl w 11 33 a3) fun x2 => if x2 = a1 then (some (a3, w)) else (lt (a3 + 1) fun x4 => k_2 a1 x4 w))
theorem pX9_word_2 {q : Gq} {l : Launch} {N : Option Value → Wd → Prop} {X : String → Wd → Prop} {w : Wd} {R : Int32 × Wd} (hN : N (some (.int R.1)) R.2) {k_2 : Int64 → Int32 → Wd → Option (Int32 × Wd)} (hk_2 : ∀ (a1 : Int64) (a3 : Int32) (w : Wd), k_2 a1 a3 w = some R → RT (GA q) l 1 yX9_word cX9_word 4 ((some .int)) N X 2 [] [(0, .ref 4), (1, .long a1), (3, .int a3)] w) {a1 : Int64} {a3 : Int32} (h : fX9_word_2 k_2 a1 a3 w = some R) : RT (GA q) l 1 yX9_word cX9_word 4 ((some .int)) N X 2 [] [(0, .ref 4), (1, .long a1), (3, .int a3)] w := by
  unfold fX9_word_2 at h
  refine r_iload_n (pc := 2) dX9_word_2 rfl 2 rfl ?_
  refine r_bipush (pc := 3) dX9_word_3 kb_32 ?_
  refine r_icmp_gt (pc := 5) dX9_word_5 rfl (fun hc1 => ?_) (fun hc1 => ?_)
  · replace h := if_t hc1 h
    refine r_iconst (pc := 29) dX9_word_29 ki_0 ?_
    exact rO_i (pc := 30) rfl dX9_word_30 h hN
  replace h := if_f hc1 h
  refine r_aload_n (pc := 8) dX9_word_8 rfl 0 rfl ?_
  refine r_get (pc := 9) (j := 6) (v := .ref 11) oA4 cf9 flRX9_31 rfl dX9_word_9 rfl ?_
  refine r_iload_n (pc := 12) dX9_word_12 rfl 2 rfl ?_
  replace h := lt_e h; obtain ⟨x2, ex2, h⟩ := h
  refine r_cSl (pc := 13) wyX6_get_ mlRX9_138 tyX6_get_ ⟨(Nat.le_of_ble_eq_true rfl), (Nat.le_of_ble_eq_true rfl)⟩ rfl rfl (Nat.le_of_ble_eq_true rfl) dX9_word_13 (mX6_get_ aA11 (Nat.le_of_ble_eq_true rfl) ex2 (pL.mk ?_))
  refine r_lload_n (pc := 16) dX9_word_16 rfl 1 rfl ?_
  refine r_l_ne (pc := 17) dX9_word_17 dX9_word_18 rfl (fun hc3 => ?_) (fun hc3 => ?_)
  · replace h := if_f hc3 h
    replace h := lt_e h; obtain ⟨x4, ex4, h⟩ := h
    refine r_inc (pc := 23) (loc' := [(3, .int x4), (0, .ref 4), (1, .long a1)]) dX9_word_23 ki_1 ex4 2 rfl (Nat.le_of_ble_eq_true rfl) rfl ?_
    refine r_goto (pc := 26) dX9_word_26 rfl ?_
    refine r_drop (loc' := [(0, .ref 4), (1, .long a1), (3, .int x4)]) [1, 2, 0] rfl ?_
    exact hk_2 a1 x4 w h
  replace h := if_t hc3 h
  refine r_iload_n (pc := 21) dX9_word_21 rfl 2 rfl ?_
  exact rO_i (pc := 22) rfl dX9_word_22 h hN
def oX9_word_2 : Nat → Int64 → Int32 → Wd → Option (Int32 × Wd)
  | 0 => fun _ _ _ => none
  | n + 1 => fX9_word_2 (oX9_word_2 n)
theorem qX9_word_2 {q : Gq} {l : Launch} {N : Option Value → Wd → Prop} {X : String → Wd → Prop} {R : Int32 × Wd} (hN : N (some (.int R.1)) R.2) : ∀ (n : Nat) (a1 : Int64) (a3 : Int32) (w : Wd), oX9_word_2 n a1 a3 w = some R → RT (GA q) l 1 yX9_word cX9_word 4 ((some .int)) N X 2 [] [(0, .ref 4), (1, .long a1), (3, .int a3)] w := by
  intro n
  induction n with
  | zero =>
    intro a1 a3 w h
    exact absurd h (fun q => nomatch q)
  | succ n ih =>
    intro a1 a3 w h
    exact pX9_word_2 hN ih h
def fX9_word (a1 : Int64) (w : Wd) : Option (Int32 × Wd) :=
  oX9_word_2 FU a1 4 w
theorem pX9_word {q : Gq} {l : Launch} {N : Option Value → Wd → Prop} {X : String → Wd → Prop} {w : Wd} {R : Int32 × Wd} (hN : N (some (.int R.1)) R.2) {a1 : Int64} (h : fX9_word a1 w = some R) : RT (GA q) l 1 yX9_word cX9_word 4 ((some .int)) N X 0 [] [(0, .ref 4), (1, .long a1)] w := by
  unfold fX9_word at h
  refine r_iconst (pc := 0) dX9_word_0 ki_4 ?_
  refine r_istore_n (pc := 1) (loc' := [(3, .int 4), (0, .ref 4), (1, .long a1)]) dX9_word_1 rfl (Nat.le_of_ble_eq_true rfl) rfl ?_
  refine r_drop (loc' := [(0, .ref 4), (1, .long a1), (3, .int 4)]) [1, 2, 0] rfl ?_
  exact qX9_word_2 hN FU a1 4 w h
theorem mX9_word {q : Gq} {l : Launch} {N : Option Value → Wd → Prop} {X : String → Wd → Prop} {a1 : Int64} {w : Wd} {x : Int32} {u : Wd} (h : fX9_word a1 w = some (x, u)) (hN : N (some (.int x)) u) : Ct (GA q) l 1 yX9_word cX9_word 4 ((some .int)) [.ref 4, .long a1] w N X := Ct.of (by decide) (Nat.le_of_ble_eq_true rfl) (pX9_word hN h)
/-! AlgolMill$Tokens.name ([III)I: O, 2 -/
theorem dX9_name_0 : decode cX9_name 0 = .ok (.lconst 0, 1) := by decide +kernel
theorem dX9_name_1 : decode cX9_name 1 = .ok (.lstore 4, 2) := by decide +kernel
theorem dX9_name_3 : decode cX9_name 3 = .ok (.iload_n 3, 1) := by decide +kernel
theorem dX9_name_4 : decode cX9_name 4 = .ok (.istore 6, 2) := by decide +kernel
theorem dX9_name_6 : decode cX9_name 6 = .ok (.iload 6, 2) := by decide +kernel
theorem dX9_name_8 : decode cX9_name 8 = .ok (.iload_n 2, 1) := by decide +kernel
theorem dX9_name_9 : decode cX9_name 9 = .ok (.if_icmp .ge 49, 3) := by decide +kernel
theorem dX9_name_12 : decode cX9_name 12 = .ok (.aload_n 1, 1) := by decide +kernel
theorem dX9_name_13 : decode cX9_name 13 = .ok (.iload 6, 2) := by decide +kernel
theorem dX9_name_15 : decode cX9_name 15 = .ok (.invokestatic 68, 3) := by decide +kernel
theorem dX9_name_18 : decode cX9_name 18 = .ok (.invokestatic 57, 3) := by decide +kernel
theorem dX9_name_21 : decode cX9_name 21 = .ok (.ifCond .eq 37, 3) := by decide +kernel
theorem dX9_name_24 : decode cX9_name 24 = .ok (.iload 6, 2) := by decide +kernel
theorem dX9_name_26 : decode cX9_name 26 = .ok (.iload_n 3, 1) := by decide +kernel
theorem dX9_name_27 : decode cX9_name 27 = .ok (.isub, 1) := by decide +kernel
theorem dX9_name_28 : decode cX9_name 28 = .ok (.bipush 10, 2) := by decide +kernel
theorem dX9_name_30 : decode cX9_name 30 = .ok (.if_icmp .ge 22, 3) := by decide +kernel
theorem dX9_name_33 : decode cX9_name 33 = .ok (.lload 4, 2) := by decide +kernel
theorem dX9_name_35 : decode cX9_name 35 = .ok (.ldc2_w 55, 3) := by decide +kernel
theorem dX9_name_38 : decode cX9_name 38 = .ok (.lmul, 1) := by decide +kernel
theorem dX9_name_39 : decode cX9_name 39 = .ok (.aload_n 1, 1) := by decide +kernel
theorem dX9_name_40 : decode cX9_name 40 = .ok (.iload 6, 2) := by decide +kernel
theorem dX9_name_42 : decode cX9_name 42 = .ok (.invokestatic 68, 3) := by decide +kernel
theorem dX9_name_45 : decode cX9_name 45 = .ok (.invokestatic 57, 3) := by decide +kernel
theorem dX9_name_48 : decode cX9_name 48 = .ok (.i2l, 1) := by decide +kernel
theorem dX9_name_49 : decode cX9_name 49 = .ok (.ladd, 1) := by decide +kernel
theorem dX9_name_50 : decode cX9_name 50 = .ok (.lstore 4, 2) := by decide +kernel
theorem dX9_name_52 : decode cX9_name 52 = .ok (.iinc 6 1, 3) := by decide +kernel
theorem dX9_name_55 : decode cX9_name 55 = .ok (.goto (-49), 3) := by decide +kernel
theorem dX9_name_58 : decode cX9_name 58 = .ok (.aload_n 0, 1) := by decide +kernel
theorem dX9_name_59 : decode cX9_name 59 = .ok (.lload 4, 2) := by decide +kernel
theorem dX9_name_61 : decode cX9_name 61 = .ok (.invokevirtual 131, 3) := by decide +kernel
theorem dX9_name_64 : decode cX9_name 64 = .ok (.istore 7, 2) := by decide +kernel
theorem dX9_name_66 : decode cX9_name 66 = .ok (.iload 6, 2) := by decide +kernel
theorem dX9_name_68 : decode cX9_name 68 = .ok (.iload_n 3, 1) := by decide +kernel
theorem dX9_name_69 : decode cX9_name 69 = .ok (.isub, 1) := by decide +kernel
theorem dX9_name_70 : decode cX9_name 70 = .ok (.bipush 10, 2) := by decide +kernel
theorem dX9_name_72 : decode cX9_name 72 = .ok (.if_icmp .le 13, 3) := by decide +kernel
theorem dX9_name_75 : decode cX9_name 75 = .ok (.aload_n 0, 1) := by decide +kernel
theorem dX9_name_76 : decode cX9_name 76 = .ok (.iconst 1, 1) := by decide +kernel
theorem dX9_name_77 : decode cX9_name 77 = .ok (.iload_n 3, 1) := by decide +kernel
theorem dX9_name_78 : decode cX9_name 78 = .ok (.lconst 0, 1) := by decide +kernel
theorem dX9_name_79 : decode cX9_name 79 = .ok (.invokevirtual 82, 3) := by decide +kernel
theorem dX9_name_82 : decode cX9_name 82 = .ok (.goto 32, 3) := by decide +kernel
theorem dX9_name_85 : decode cX9_name 85 = .ok (.iload 7, 2) := by decide +kernel
theorem dX9_name_87 : decode cX9_name 87 = .ok (.ifCond .eq 14, 3) := by decide +kernel
theorem dX9_name_90 : decode cX9_name 90 = .ok (.aload_n 0, 1) := by decide +kernel
theorem dX9_name_91 : decode cX9_name 91 = .ok (.iload 7, 2) := by decide +kernel
theorem dX9_name_93 : decode cX9_name 93 = .ok (.iload_n 3, 1) := by decide +kernel
theorem dX9_name_94 : decode cX9_name 94 = .ok (.lconst 0, 1) := by decide +kernel
theorem dX9_name_95 : decode cX9_name 95 = .ok (.invokevirtual 82, 3) := by decide +kernel
theorem dX9_name_98 : decode cX9_name 98 = .ok (.goto 16, 3) := by decide +kernel
theorem dX9_name_101 : decode cX9_name 101 = .ok (.aload_n 0, 1) := by decide +kernel
theorem dX9_name_102 : decode cX9_name 102 = .ok (.iconst 2, 1) := by decide +kernel
theorem dX9_name_103 : decode cX9_name 103 = .ok (.iload_n 3, 1) := by decide +kernel
theorem dX9_name_104 : decode cX9_name 104 = .ok (.aload_n 0, 1) := by decide +kernel
theorem dX9_name_105 : decode cX9_name 105 = .ok (.lload 4, 2) := by decide +kernel
theorem dX9_name_107 : decode cX9_name 107 = .ok (.invokevirtual 135, 3) := by decide +kernel
theorem dX9_name_110 : decode cX9_name 110 = .ok (.i2l, 1) := by decide +kernel
theorem dX9_name_111 : decode cX9_name 111 = .ok (.invokevirtual 82, 3) := by decide +kernel
theorem dX9_name_114 : decode cX9_name 114 = .ok (.iload 6, 2) := by decide +kernel
theorem dX9_name_116 : decode cX9_name 116 = .ok (.iconst 1, 1) := by decide +kernel
theorem dX9_name_117 : decode cX9_name 117 = .ok (.isub, 1) := by decide +kernel
theorem dX9_name_118 : decode cX9_name 118 = .ok (.ireturn, 1) := by decide +kernel
def fX9_name_58 (a3 : Int32) (a4 : Int64) (a6 : Int32) (w : Wd) : Option (Int32 × Wd) :=
  bn2 (fX9_word a4 w) fun x1 w2 => if (a6 - a3) ≤ 10 then (if x1 = 0 then (bn2 (fX9_numberOf a4 w2) fun x5 w6 => lt (fX9_add 2 a3 (Int32.toInt64 x5) w6) fun w7 => some ((a6 - 1), w7)) else (lt (fX9_add x1 a3 0 w2) fun w8 => some ((a6 - 1), w8))) else (lt (fX9_add 1 a3 0 w2) fun w9 => some ((a6 - 1), w9))
theorem pX9_name_58 {q : Gq} {l : Launch} {N : Option Value → Wd → Prop} {X : String → Wd → Prop} {w : Wd} {R : Int32 × Wd} (hN : N (some (.int R.1)) R.2) {a3 : Int32} {a4 : Int64} {a6 : Int32} (h : fX9_name_58 a3 a4 a6 w = some R) : RT (GA q) l 2 yX9_name cX9_name 8 ((some .int)) N X 58 [] [(0, .ref 4), (3, .int a3), (4, .long a4), (6, .int a6)] w := by
  unfold fX9_name_58 at h
  refine r_aload_n (pc := 58) dX9_name_58 rfl 0 rfl ?_
  refine r_lload (pc := 59) dX9_name_59 2 rfl ?_
  replace h := bn2_e h; obtain ⟨x1, w2, ew2, h⟩ := h
  refine r_cVi (pc := 61) wyX9_word oA4 rfl mlRX9_131 iyX9_word syX9_word ⟨(Nat.le_of_ble_eq_true rfl), (Nat.le_of_ble_eq_true rfl)⟩ rfl rfl (Nat.le_of_ble_eq_true rfl) dX9_name_61 (mX9_word ew2 (pI.mk ?_))
  refine r_istore (pc := 64) (loc' := [(7, .int x1), (0, .ref 4), (3, .int a3), (4, .long a4), (6, .int a6)]) dX9_name_64 (Nat.le_of_ble_eq_true rfl) rfl ?_
  refine r_iload (pc := 66) dX9_name_66 4 rfl ?_
  refine r_iload_n (pc := 68) dX9_name_68 rfl 2 rfl ?_
  refine r_isub (pc := 69) dX9_name_69 ?_
  refine r_bipush (pc := 70) dX9_name_70 kb_10 ?_
  refine r_icmp_le (pc := 72) dX9_name_72 rfl (fun hc3 => ?_) (fun hc3 => ?_)
  · replace h := if_t hc3 h
    refine r_iload (pc := 85) dX9_name_85 0 rfl ?_
    refine r_if_eq (pc := 87) dX9_name_87 rfl (fun hc4 => ?_) (fun hc4 => ?_)
    · replace h := if_t hc4 h
      refine r_aload_n (pc := 101) dX9_name_101 rfl 1 rfl ?_
      refine r_iconst (pc := 102) dX9_name_102 ki_2 ?_
      refine r_iload_n (pc := 103) dX9_name_103 rfl 2 rfl ?_
      refine r_aload_n (pc := 104) dX9_name_104 rfl 1 rfl ?_
      refine r_lload (pc := 105) dX9_name_105 3 rfl ?_
      replace h := bn2_e h; obtain ⟨x5, w6, ew6, h⟩ := h
      refine r_cVi (pc := 107) wyX9_numberOf oA4 rfl mlRX9_135 iyX9_numberOf syX9_numberOf ⟨(Nat.le_of_ble_eq_true rfl), (Nat.le_of_ble_eq_true rfl)⟩ rfl rfl (Nat.le_of_ble_eq_true rfl) dX9_name_107 (mX9_numberOf ew6 (pI.mk ?_))
      refine r_i2l (pc := 110) dX9_name_110 ?_
      replace h := lt_e h; obtain ⟨w7, ew7, h⟩ := h
      refine r_cVv (pc := 111) wyX9_add oA4 rfl mlRX9_82 iyX9_add syX9_add ⟨(Nat.le_of_ble_eq_true rfl), (Nat.le_of_ble_eq_true rfl)⟩ rfl rfl (Nat.le_of_ble_eq_true rfl) dX9_name_111 (mX9_add ew7 (pV.mk ?_))
      refine r_iload (pc := 114) dX9_name_114 4 rfl ?_
      refine r_iconst (pc := 116) dX9_name_116 ki_1 ?_
      refine r_isub (pc := 117) dX9_name_117 ?_
      exact rO_i (pc := 118) rfl dX9_name_118 h hN
    replace h := if_f hc4 h
    refine r_aload_n (pc := 90) dX9_name_90 rfl 1 rfl ?_
    refine r_iload (pc := 91) dX9_name_91 0 rfl ?_
    refine r_iload_n (pc := 93) dX9_name_93 rfl 2 rfl ?_
    refine r_lconst (pc := 94) dX9_name_94 kl_0 ?_
    replace h := lt_e h; obtain ⟨w8, ew8, h⟩ := h
    refine r_cVv (pc := 95) wyX9_add oA4 rfl mlRX9_82 iyX9_add syX9_add ⟨(Nat.le_of_ble_eq_true rfl), (Nat.le_of_ble_eq_true rfl)⟩ rfl rfl (Nat.le_of_ble_eq_true rfl) dX9_name_95 (mX9_add ew8 (pV.mk ?_))
    refine r_goto (pc := 98) dX9_name_98 rfl ?_
    refine r_iload (pc := 114) dX9_name_114 4 rfl ?_
    refine r_iconst (pc := 116) dX9_name_116 ki_1 ?_
    refine r_isub (pc := 117) dX9_name_117 ?_
    exact rO_i (pc := 118) rfl dX9_name_118 h hN
  replace h := if_f hc3 h
  refine r_aload_n (pc := 75) dX9_name_75 rfl 1 rfl ?_
  refine r_iconst (pc := 76) dX9_name_76 ki_1 ?_
  refine r_iload_n (pc := 77) dX9_name_77 rfl 2 rfl ?_
  refine r_lconst (pc := 78) dX9_name_78 kl_0 ?_
  replace h := lt_e h; obtain ⟨w9, ew9, h⟩ := h
  refine r_cVv (pc := 79) wyX9_add oA4 rfl mlRX9_82 iyX9_add syX9_add ⟨(Nat.le_of_ble_eq_true rfl), (Nat.le_of_ble_eq_true rfl)⟩ rfl rfl (Nat.le_of_ble_eq_true rfl) dX9_name_79 (mX9_add ew9 (pV.mk ?_))
  refine r_goto (pc := 82) dX9_name_82 rfl ?_
  refine r_iload (pc := 114) dX9_name_114 4 rfl ?_
  refine r_iconst (pc := 116) dX9_name_116 ki_1 ?_
  refine r_isub (pc := 117) dX9_name_117 ?_
  exact rO_i (pc := 118) rfl dX9_name_118 h hN
def fX9_name_6 (k_6 : Int32 → Int32 → Int64 → Int32 → Wd → Option (Int32 × Wd)) (a2 : Int32) (a3 : Int32) (a4 : Int64) (a6 : Int32) (w : Wd) : Option (Int32 × Wd) :=
  if a2 ≤ a6 then (fX9_name_58 a3 a4 a6 w) else (lt (rgi w 1 8192 a6) fun x2 => lt (fX9_code x2 w) fun x3 => if x3 = 0 then (fX9_name_58 a3 a4 a6 w) else (if 10 ≤ (a6 - a3) then (lt (a6 + 1) fun x6 => k_6 a2 a3 a4 x6 w) else (lt (rgi w 1 8192 a6) fun x7 => lt (fX9_code x7 w) fun x8 => lt (((a4 * 37) + (Int32.toInt64 x8))) fun x9 => lt (a6 + 1) fun x10 => k_6 a2 a3 x9 x10 w)))
theorem pX9_name_6 {q : Gq} {l : Launch} {N : Option Value → Wd → Prop} {X : String → Wd → Prop} {w : Wd} {R : Int32 × Wd} (hN : N (some (.int R.1)) R.2) {k_6 : Int32 → Int32 → Int64 → Int32 → Wd → Option (Int32 × Wd)} (hk_6 : ∀ (a2 : Int32) (a3 : Int32) (a4 : Int64) (a6 : Int32) (w : Wd), k_6 a2 a3 a4 a6 w = some R → RT (GA q) l 2 yX9_name cX9_name 8 ((some .int)) N X 6 [] [(0, .ref 4), (1, .ref 1), (2, .int a2), (3, .int a3), (4, .long a4), (6, .int a6)] w) {a2 : Int32} {a3 : Int32} {a4 : Int64} {a6 : Int32} (h : fX9_name_6 k_6 a2 a3 a4 a6 w = some R) : RT (GA q) l 2 yX9_name cX9_name 8 ((some .int)) N X 6 [] [(0, .ref 4), (1, .ref 1), (2, .int a2), (3, .int a3), (4, .long a4), (6, .int a6)] w := by
  unfold fX9_name_6 at h
  refine r_iload (pc := 6) dX9_name_6 5 rfl ?_
  refine r_iload_n (pc := 8) dX9_name_8 rfl 2 rfl ?_
  refine r_icmp_ge (pc := 9) dX9_name_9 rfl (fun hc1 => ?_) (fun hc1 => ?_)
  · replace h := if_t hc1 h
    refine r_drop (loc' := [(0, .ref 4), (3, .int a3), (4, .long a4), (6, .int a6)]) [0, 3, 4, 5] rfl ?_
    exact pX9_name_58 hN h
  replace h := if_f hc1 h
  refine r_aload_n (pc := 12) dX9_name_12 rfl 1 rfl ?_
  refine r_iload (pc := 13) dX9_name_13 5 rfl ?_
  replace h := lt_e h; obtain ⟨x2, ex2, h⟩ := h
  refine r_cSi (pc := 15) wyX6_get mlRX9_68 tyX6_get ⟨(Nat.le_of_ble_eq_true rfl), (Nat.le_of_ble_eq_true rfl)⟩ rfl rfl (Nat.le_of_ble_eq_true rfl) dX9_name_15 (mX6_get aA1 (Nat.le_of_ble_eq_true rfl) ex2 (pI.mk ?_))
  replace h := lt_e h; obtain ⟨x3, ex3, h⟩ := h
  refine r_cSi (pc := 18) wyX9_code mlRX9_57 tyX9_code ⟨(Nat.le_of_ble_eq_true rfl), (Nat.le_of_ble_eq_true rfl)⟩ rfl rfl (Nat.le_of_ble_eq_true rfl) dX9_name_18 (mX9_code ex3 (pI.mk ?_))
  refine r_if_eq (pc := 21) dX9_name_21 rfl (fun hc4 => ?_) (fun hc4 => ?_)
  · replace h := if_t hc4 h
    refine r_drop (loc' := [(0, .ref 4), (3, .int a3), (4, .long a4), (6, .int a6)]) [0, 3, 4, 5] rfl ?_
    exact pX9_name_58 hN h
  replace h := if_f hc4 h
  refine r_iload (pc := 24) dX9_name_24 5 rfl ?_
  refine r_iload_n (pc := 26) dX9_name_26 rfl 3 rfl ?_
  refine r_isub (pc := 27) dX9_name_27 ?_
  refine r_bipush (pc := 28) dX9_name_28 kb_10 ?_
  refine r_icmp_ge (pc := 30) dX9_name_30 rfl (fun hc5 => ?_) (fun hc5 => ?_)
  · replace h := if_t hc5 h
    replace h := lt_e h; obtain ⟨x6, ex6, h⟩ := h
    refine r_inc (pc := 52) (loc' := [(6, .int x6), (0, .ref 4), (1, .ref 1), (2, .int a2), (3, .int a3), (4, .long a4)]) dX9_name_52 ki_1 ex6 5 rfl (Nat.le_of_ble_eq_true rfl) rfl ?_
    refine r_goto (pc := 55) dX9_name_55 rfl ?_
    refine r_drop (loc' := [(0, .ref 4), (1, .ref 1), (2, .int a2), (3, .int a3), (4, .long a4), (6, .int x6)]) [1, 2, 3, 4, 5, 0] rfl ?_
    exact hk_6 a2 a3 a4 x6 w h
  replace h := if_f hc5 h
  refine r_lload (pc := 33) dX9_name_33 4 rfl ?_
  refine r_ldc2 (pc := 35) dX9_name_35 kcRX9_55 ?_
  refine r_lmul (pc := 38) dX9_name_38 ?_
  refine r_aload_n (pc := 39) dX9_name_39 rfl 1 rfl ?_
  refine r_iload (pc := 40) dX9_name_40 5 rfl ?_
  replace h := lt_e h; obtain ⟨x7, ex7, h⟩ := h
  refine r_cSi (pc := 42) wyX6_get mlRX9_68 tyX6_get ⟨(Nat.le_of_ble_eq_true rfl), (Nat.le_of_ble_eq_true rfl)⟩ rfl rfl (Nat.le_of_ble_eq_true rfl) dX9_name_42 (mX6_get aA1 (Nat.le_of_ble_eq_true rfl) ex7 (pI.mk ?_))
  replace h := lt_e h; obtain ⟨x8, ex8, h⟩ := h
  refine r_cSi (pc := 45) wyX9_code mlRX9_57 tyX9_code ⟨(Nat.le_of_ble_eq_true rfl), (Nat.le_of_ble_eq_true rfl)⟩ rfl rfl (Nat.le_of_ble_eq_true rfl) dX9_name_45 (mX9_code ex8 (pI.mk ?_))
  refine r_i2l (pc := 48) dX9_name_48 ?_
  refine r_ladd (pc := 49) dX9_name_49 ?_
  replace h := lt_e h; obtain ⟨x9, ex9, h⟩ := h
  refine r_topl ex9 ?_
  refine r_lstore (pc := 50) (loc' := [(4, .long x9), (0, .ref 4), (1, .ref 1), (2, .int a2), (3, .int a3), (6, .int a6)]) dX9_name_50 (Nat.le_of_ble_eq_true rfl) rfl ?_
  replace h := lt_e h; obtain ⟨x10, ex10, h⟩ := h
  refine r_inc (pc := 52) (loc' := [(6, .int x10), (4, .long x9), (0, .ref 4), (1, .ref 1), (2, .int a2), (3, .int a3)]) dX9_name_52 ki_1 ex10 5 rfl (Nat.le_of_ble_eq_true rfl) rfl ?_
  refine r_goto (pc := 55) dX9_name_55 rfl ?_
  refine r_drop (loc' := [(0, .ref 4), (1, .ref 1), (2, .int a2), (3, .int a3), (4, .long x9), (6, .int x10)]) [2, 3, 4, 5, 1, 0] rfl ?_
  exact hk_6 a2 a3 x9 x10 w h
def oX9_name_6 : Nat → Int32 → Int32 → Int64 → Int32 → Wd → Option (Int32 × Wd)
  | 0 => fun _ _ _ _ _ => none
  | n + 1 => fX9_name_6 (oX9_name_6 n)
theorem qX9_name_6 {q : Gq} {l : Launch} {N : Option Value → Wd → Prop} {X : String → Wd → Prop} {R : Int32 × Wd} (hN : N (some (.int R.1)) R.2) : ∀ (n : Nat) (a2 : Int32) (a3 : Int32) (a4 : Int64) (a6 : Int32) (w : Wd), oX9_name_6 n a2 a3 a4 a6 w = some R → RT (GA q) l 2 yX9_name cX9_name 8 ((some .int)) N X 6 [] [(0, .ref 4), (1, .ref 1), (2, .int a2), (3, .int a3), (4, .long a4), (6, .int a6)] w := by
  intro n
  induction n with
  | zero =>
    intro a2 a3 a4 a6 w h
    exact absurd h (fun q => nomatch q)
  | succ n ih =>
    intro a2 a3 a4 a6 w h
    exact pX9_name_6 hN ih h
def fX9_name (a2 : Int32) (a3 : Int32) (w : Wd) : Option (Int32 × Wd) :=
  oX9_name_6 FU a2 a3 0 a3 w
theorem pX9_name {q : Gq} {l : Launch} {N : Option Value → Wd → Prop} {X : String → Wd → Prop} {w : Wd} {R : Int32 × Wd} (hN : N (some (.int R.1)) R.2) {a2 : Int32} {a3 : Int32} (h : fX9_name a2 a3 w = some R) : RT (GA q) l 2 yX9_name cX9_name 8 ((some .int)) N X 0 [] [(0, .ref 4), (1, .ref 1), (2, .int a2), (3, .int a3)] w := by
  unfold fX9_name at h
  refine r_lconst (pc := 0) dX9_name_0 kl_0 ?_
  refine r_lstore (pc := 1) (loc' := [(4, .long 0), (0, .ref 4), (1, .ref 1), (2, .int a2), (3, .int a3)]) dX9_name_1 (Nat.le_of_ble_eq_true rfl) rfl ?_
  refine r_iload_n (pc := 3) dX9_name_3 rfl 4 rfl ?_
  refine r_istore (pc := 4) (loc' := [(6, .int a3), (4, .long 0), (0, .ref 4), (1, .ref 1), (2, .int a2), (3, .int a3)]) dX9_name_4 (Nat.le_of_ble_eq_true rfl) rfl ?_
  refine r_drop (loc' := [(0, .ref 4), (1, .ref 1), (2, .int a2), (3, .int a3), (4, .long 0), (6, .int a3)]) [2, 3, 4, 5, 1, 0] rfl ?_
  exact qX9_name_6 hN FU a2 a3 0 a3 w h
theorem mX9_name {q : Gq} {l : Launch} {N : Option Value → Wd → Prop} {X : String → Wd → Prop} {a2 : Int32} {a3 : Int32} {w : Wd} {x : Int32} {u : Wd} (h : fX9_name a2 a3 w = some (x, u)) (hN : N (some (.int x)) u) : Ct (GA q) l 2 yX9_name cX9_name 8 ((some .int)) [.ref 4, .ref 1, .int a2, .int a3] w N X := Ct.of (by decide) (Nat.le_of_ble_eq_true rfl) (pX9_name hN h)
/-! AlgolMill$Tokens.number ([III)I: O, 2 -/
theorem dX9_number_0 : decode cX9_number 0 = .ok (.lconst 0, 1) := by decide +kernel
theorem dX9_number_1 : decode cX9_number 1 = .ok (.lstore 4, 2) := by decide +kernel
theorem dX9_number_3 : decode cX9_number 3 = .ok (.iload_n 3, 1) := by decide +kernel
theorem dX9_number_4 : decode cX9_number 4 = .ok (.istore 6, 2) := by decide +kernel
theorem dX9_number_6 : decode cX9_number 6 = .ok (.iload 6, 2) := by decide +kernel
theorem dX9_number_8 : decode cX9_number 8 = .ok (.iload_n 2, 1) := by decide +kernel
theorem dX9_number_9 : decode cX9_number 9 = .ok (.if_icmp .ge 47, 3) := by decide +kernel
theorem dX9_number_12 : decode cX9_number 12 = .ok (.aload_n 1, 1) := by decide +kernel
theorem dX9_number_13 : decode cX9_number 13 = .ok (.iload 6, 2) := by decide +kernel
theorem dX9_number_15 : decode cX9_number 15 = .ok (.invokestatic 68, 3) := by decide +kernel
theorem dX9_number_18 : decode cX9_number 18 = .ok (.invokestatic 61, 3) := by decide +kernel
theorem dX9_number_21 : decode cX9_number 21 = .ok (.ifCond .eq 35, 3) := by decide +kernel
theorem dX9_number_24 : decode cX9_number 24 = .ok (.lload 4, 2) := by decide +kernel
theorem dX9_number_26 : decode cX9_number 26 = .ok (.ldc2_w 119, 3) := by decide +kernel
theorem dX9_number_29 : decode cX9_number 29 = .ok (.lmul, 1) := by decide +kernel
theorem dX9_number_30 : decode cX9_number 30 = .ok (.aload_n 1, 1) := by decide +kernel
theorem dX9_number_31 : decode cX9_number 31 = .ok (.iload 6, 2) := by decide +kernel
theorem dX9_number_33 : decode cX9_number 33 = .ok (.invokestatic 68, 3) := by decide +kernel
theorem dX9_number_36 : decode cX9_number 36 = .ok (.i2l, 1) := by decide +kernel
theorem dX9_number_37 : decode cX9_number 37 = .ok (.ladd, 1) := by decide +kernel
theorem dX9_number_38 : decode cX9_number 38 = .ok (.ldc2_w 121, 3) := by decide +kernel
theorem dX9_number_41 : decode cX9_number 41 = .ok (.lsub, 1) := by decide +kernel
theorem dX9_number_42 : decode cX9_number 42 = .ok (.ldc2_w 123, 3) := by decide +kernel
theorem dX9_number_45 : decode cX9_number 45 = .ok (.invokestatic 125, 3) := by decide +kernel
theorem dX9_number_48 : decode cX9_number 48 = .ok (.lstore 4, 2) := by decide +kernel
theorem dX9_number_50 : decode cX9_number 50 = .ok (.iinc 6 1, 3) := by decide +kernel
theorem dX9_number_53 : decode cX9_number 53 = .ok (.goto (-47), 3) := by decide +kernel
theorem dX9_number_56 : decode cX9_number 56 = .ok (.aload_n 0, 1) := by decide +kernel
theorem dX9_number_57 : decode cX9_number 57 = .ok (.lload 4, 2) := by decide +kernel
theorem dX9_number_59 : decode cX9_number 59 = .ok (.ldc2_w 129, 3) := by decide +kernel
theorem dX9_number_62 : decode cX9_number 62 = .ok (.lcmp, 1) := by decide +kernel
theorem dX9_number_63 : decode cX9_number 63 = .ok (.ifCond .le 7, 3) := by decide +kernel
theorem dX9_number_66 : decode cX9_number 66 = .ok (.iconst 1, 1) := by decide +kernel
theorem dX9_number_67 : decode cX9_number 67 = .ok (.goto 4, 3) := by decide +kernel
theorem dX9_number_70 : decode cX9_number 70 = .ok (.iconst 3, 1) := by decide +kernel
theorem dX9_number_71 : decode cX9_number 71 = .ok (.iload_n 3, 1) := by decide +kernel
theorem dX9_number_72 : decode cX9_number 72 = .ok (.lload 4, 2) := by decide +kernel
theorem dX9_number_74 : decode cX9_number 74 = .ok (.invokevirtual 82, 3) := by decide +kernel
theorem dX9_number_77 : decode cX9_number 77 = .ok (.iload 6, 2) := by decide +kernel
theorem dX9_number_79 : decode cX9_number 79 = .ok (.iconst 1, 1) := by decide +kernel
theorem dX9_number_80 : decode cX9_number 80 = .ok (.isub, 1) := by decide +kernel
theorem dX9_number_81 : decode cX9_number 81 = .ok (.ireturn, 1) := by decide +kernel
def fX9_number_56 (a3 : Int32) (a4 : Int64) (a6 : Int32) (w : Wd) : Option (Int32 × Wd) :=
  if a4 ≤ 34359738367 then (lt (fX9_add 3 a3 a4 w) fun w2 => some ((a6 - 1), w2)) else (lt (fX9_add 1 a3 a4 w) fun w3 => some ((a6 - 1), w3))
theorem pX9_number_56 {q : Gq} {l : Launch} {N : Option Value → Wd → Prop} {X : String → Wd → Prop} {w : Wd} {R : Int32 × Wd} (hN : N (some (.int R.1)) R.2) {a3 : Int32} {a4 : Int64} {a6 : Int32} (h : fX9_number_56 a3 a4 a6 w = some R) : RT (GA q) l 2 yX9_number cX9_number 7 ((some .int)) N X 56 [] [(0, .ref 4), (3, .int a3), (4, .long a4), (6, .int a6)] w := by
  unfold fX9_number_56 at h
  refine r_aload_n (pc := 56) dX9_number_56 rfl 0 rfl ?_
  refine r_lload (pc := 57) dX9_number_57 2 rfl ?_
  refine r_ldc2 (pc := 59) dX9_number_59 kcRX9_129 ?_
  refine r_l_le (pc := 62) dX9_number_62 dX9_number_63 rfl (fun hc1 => ?_) (fun hc1 => ?_)
  · replace h := if_t hc1 h
    refine r_iconst (pc := 70) dX9_number_70 ki_3 ?_
    refine r_iload_n (pc := 71) dX9_number_71 rfl 1 rfl ?_
    refine r_lload (pc := 72) dX9_number_72 2 rfl ?_
    replace h := lt_e h; obtain ⟨w2, ew2, h⟩ := h
    refine r_cVv (pc := 74) wyX9_add oA4 rfl mlRX9_82 iyX9_add syX9_add ⟨(Nat.le_of_ble_eq_true rfl), (Nat.le_of_ble_eq_true rfl)⟩ rfl rfl (Nat.le_of_ble_eq_true rfl) dX9_number_74 (mX9_add ew2 (pV.mk ?_))
    refine r_iload (pc := 77) dX9_number_77 3 rfl ?_
    refine r_iconst (pc := 79) dX9_number_79 ki_1 ?_
    refine r_isub (pc := 80) dX9_number_80 ?_
    exact rO_i (pc := 81) rfl dX9_number_81 h hN
  replace h := if_f hc1 h
  refine r_iconst (pc := 66) dX9_number_66 ki_1 ?_
  refine r_goto (pc := 67) dX9_number_67 rfl ?_
  refine r_iload_n (pc := 71) dX9_number_71 rfl 1 rfl ?_
  refine r_lload (pc := 72) dX9_number_72 2 rfl ?_
  replace h := lt_e h; obtain ⟨w3, ew3, h⟩ := h
  refine r_cVv (pc := 74) wyX9_add oA4 rfl mlRX9_82 iyX9_add syX9_add ⟨(Nat.le_of_ble_eq_true rfl), (Nat.le_of_ble_eq_true rfl)⟩ rfl rfl (Nat.le_of_ble_eq_true rfl) dX9_number_74 (mX9_add ew3 (pV.mk ?_))
  refine r_iload (pc := 77) dX9_number_77 3 rfl ?_
  refine r_iconst (pc := 79) dX9_number_79 ki_1 ?_
  refine r_isub (pc := 80) dX9_number_80 ?_
  exact rO_i (pc := 81) rfl dX9_number_81 h hN
def fX9_number_6 (k_6 : Int32 → Int32 → Int64 → Int32 → Wd → Option (Int32 × Wd)) (a2 : Int32) (a3 : Int32) (a4 : Int64) (a6 : Int32) (w : Wd) : Option (Int32 × Wd) :=
  if a2 ≤ a6 then (fX9_number_56 a3 a4 a6 w) else (lt (rgi w 1 8192 a6) fun x2 => lt (fX9_isDigit x2 w) fun x3 => if x3 = true then (lt (rgi w 1 8192 a6) fun x5 => lt (fJ9_min_f86c9 (((a4 * 10) + (Int32.toInt64 x5)) - 48) 34359738368) fun x6 => lt (a6 + 1) fun x7 => k_6 a2 a3 x6 x7 w) else (fX9_number_56 a3 a4 a6 w))
theorem pX9_number_6 {q : Gq} {l : Launch} {N : Option Value → Wd → Prop} {X : String → Wd → Prop} {w : Wd} {R : Int32 × Wd} (hN : N (some (.int R.1)) R.2) {k_6 : Int32 → Int32 → Int64 → Int32 → Wd → Option (Int32 × Wd)} (hk_6 : ∀ (a2 : Int32) (a3 : Int32) (a4 : Int64) (a6 : Int32) (w : Wd), k_6 a2 a3 a4 a6 w = some R → RT (GA q) l 2 yX9_number cX9_number 7 ((some .int)) N X 6 [] [(0, .ref 4), (1, .ref 1), (2, .int a2), (3, .int a3), (4, .long a4), (6, .int a6)] w) {a2 : Int32} {a3 : Int32} {a4 : Int64} {a6 : Int32} (h : fX9_number_6 k_6 a2 a3 a4 a6 w = some R) : RT (GA q) l 2 yX9_number cX9_number 7 ((some .int)) N X 6 [] [(0, .ref 4), (1, .ref 1), (2, .int a2), (3, .int a3), (4, .long a4), (6, .int a6)] w := by
  unfold fX9_number_6 at h
  refine r_iload (pc := 6) dX9_number_6 5 rfl ?_
  refine r_iload_n (pc := 8) dX9_number_8 rfl 2 rfl ?_
  refine r_icmp_ge (pc := 9) dX9_number_9 rfl (fun hc1 => ?_) (fun hc1 => ?_)
  · replace h := if_t hc1 h
    refine r_drop (loc' := [(0, .ref 4), (3, .int a3), (4, .long a4), (6, .int a6)]) [0, 3, 4, 5] rfl ?_
    exact pX9_number_56 hN h
  replace h := if_f hc1 h
  refine r_aload_n (pc := 12) dX9_number_12 rfl 1 rfl ?_
  refine r_iload (pc := 13) dX9_number_13 5 rfl ?_
  replace h := lt_e h; obtain ⟨x2, ex2, h⟩ := h
  refine r_cSi (pc := 15) wyX6_get mlRX9_68 tyX6_get ⟨(Nat.le_of_ble_eq_true rfl), (Nat.le_of_ble_eq_true rfl)⟩ rfl rfl (Nat.le_of_ble_eq_true rfl) dX9_number_15 (mX6_get aA1 (Nat.le_of_ble_eq_true rfl) ex2 (pI.mk ?_))
  replace h := lt_e h; obtain ⟨x3, ex3, h⟩ := h
  refine r_cSi (pc := 18) wyX9_isDigit mlRX9_61 tyX9_isDigit ⟨(Nat.le_of_ble_eq_true rfl), (Nat.le_of_ble_eq_true rfl)⟩ rfl rfl (Nat.le_of_ble_eq_true rfl) dX9_number_18 (mX9_isDigit ex3 (pI.mk ?_))
  refine r_z_eq (pc := 21) dX9_number_21 rfl (fun hc4 => ?_) (fun hc4 => ?_)
  · replace h := if_f hc4 h
    refine r_drop (loc' := [(0, .ref 4), (3, .int a3), (4, .long a4), (6, .int a6)]) [0, 3, 4, 5] rfl ?_
    exact pX9_number_56 hN h
  replace h := if_t hc4 h
  refine r_lload (pc := 24) dX9_number_24 4 rfl ?_
  refine r_ldc2 (pc := 26) dX9_number_26 kcRX9_119 ?_
  refine r_lmul (pc := 29) dX9_number_29 ?_
  refine r_aload_n (pc := 30) dX9_number_30 rfl 1 rfl ?_
  refine r_iload (pc := 31) dX9_number_31 5 rfl ?_
  replace h := lt_e h; obtain ⟨x5, ex5, h⟩ := h
  refine r_cSi (pc := 33) wyX6_get mlRX9_68 tyX6_get ⟨(Nat.le_of_ble_eq_true rfl), (Nat.le_of_ble_eq_true rfl)⟩ rfl rfl (Nat.le_of_ble_eq_true rfl) dX9_number_33 (mX6_get aA1 (Nat.le_of_ble_eq_true rfl) ex5 (pI.mk ?_))
  refine r_i2l (pc := 36) dX9_number_36 ?_
  refine r_ladd (pc := 37) dX9_number_37 ?_
  refine r_ldc2 (pc := 38) dX9_number_38 kcRX9_121 ?_
  refine r_lsub (pc := 41) dX9_number_41 ?_
  refine r_ldc2 (pc := 42) dX9_number_42 kcRX9_123 ?_
  replace h := lt_e h; obtain ⟨x6, ex6, h⟩ := h
  refine r_cSl (pc := 45) wyJ9_min_f86c9 mlRX9_125 tyJ9_min_f86c9 ⟨(Nat.le_of_ble_eq_true rfl), (Nat.le_of_ble_eq_true rfl)⟩ rfl rfl (Nat.le_of_ble_eq_true rfl) dX9_number_45 (mJ9_min_f86c9 ex6 (pL.mk ?_))
  refine r_lstore (pc := 48) (loc' := [(4, .long x6), (0, .ref 4), (1, .ref 1), (2, .int a2), (3, .int a3), (6, .int a6)]) dX9_number_48 (Nat.le_of_ble_eq_true rfl) rfl ?_
  replace h := lt_e h; obtain ⟨x7, ex7, h⟩ := h
  refine r_inc (pc := 50) (loc' := [(6, .int x7), (4, .long x6), (0, .ref 4), (1, .ref 1), (2, .int a2), (3, .int a3)]) dX9_number_50 ki_1 ex7 5 rfl (Nat.le_of_ble_eq_true rfl) rfl ?_
  refine r_goto (pc := 53) dX9_number_53 rfl ?_
  refine r_drop (loc' := [(0, .ref 4), (1, .ref 1), (2, .int a2), (3, .int a3), (4, .long x6), (6, .int x7)]) [2, 3, 4, 5, 1, 0] rfl ?_
  exact hk_6 a2 a3 x6 x7 w h
def oX9_number_6 : Nat → Int32 → Int32 → Int64 → Int32 → Wd → Option (Int32 × Wd)
  | 0 => fun _ _ _ _ _ => none
  | n + 1 => fX9_number_6 (oX9_number_6 n)
theorem qX9_number_6 {q : Gq} {l : Launch} {N : Option Value → Wd → Prop} {X : String → Wd → Prop} {R : Int32 × Wd} (hN : N (some (.int R.1)) R.2) : ∀ (n : Nat) (a2 : Int32) (a3 : Int32) (a4 : Int64) (a6 : Int32) (w : Wd), oX9_number_6 n a2 a3 a4 a6 w = some R → RT (GA q) l 2 yX9_number cX9_number 7 ((some .int)) N X 6 [] [(0, .ref 4), (1, .ref 1), (2, .int a2), (3, .int a3), (4, .long a4), (6, .int a6)] w := by
  intro n
  induction n with
  | zero =>
    intro a2 a3 a4 a6 w h
    exact absurd h (fun q => nomatch q)
  | succ n ih =>
    intro a2 a3 a4 a6 w h
    exact pX9_number_6 hN ih h
def fX9_number (a2 : Int32) (a3 : Int32) (w : Wd) : Option (Int32 × Wd) :=
  oX9_number_6 FU a2 a3 0 a3 w
theorem pX9_number {q : Gq} {l : Launch} {N : Option Value → Wd → Prop} {X : String → Wd → Prop} {w : Wd} {R : Int32 × Wd} (hN : N (some (.int R.1)) R.2) {a2 : Int32} {a3 : Int32} (h : fX9_number a2 a3 w = some R) : RT (GA q) l 2 yX9_number cX9_number 7 ((some .int)) N X 0 [] [(0, .ref 4), (1, .ref 1), (2, .int a2), (3, .int a3)] w := by
  unfold fX9_number at h
  refine r_lconst (pc := 0) dX9_number_0 kl_0 ?_
  refine r_lstore (pc := 1) (loc' := [(4, .long 0), (0, .ref 4), (1, .ref 1), (2, .int a2), (3, .int a3)]) dX9_number_1 (Nat.le_of_ble_eq_true rfl) rfl ?_
  refine r_iload_n (pc := 3) dX9_number_3 rfl 4 rfl ?_
  refine r_istore (pc := 4) (loc' := [(6, .int a3), (4, .long 0), (0, .ref 4), (1, .ref 1), (2, .int a2), (3, .int a3)]) dX9_number_4 (Nat.le_of_ble_eq_true rfl) rfl ?_
  refine r_drop (loc' := [(0, .ref 4), (1, .ref 1), (2, .int a2), (3, .int a3), (4, .long 0), (6, .int a3)]) [2, 3, 4, 5, 1, 0] rfl ?_
  exact qX9_number_6 hN FU a2 a3 0 a3 w h
theorem mX9_number {q : Gq} {l : Launch} {N : Option Value → Wd → Prop} {X : String → Wd → Prop} {a2 : Int32} {a3 : Int32} {w : Wd} {x : Int32} {u : Wd} (h : fX9_number a2 a3 w = some (x, u)) (hN : N (some (.int x)) u) : Ct (GA q) l 2 yX9_number cX9_number 7 ((some .int)) [.ref 4, .ref 1, .int a2, .int a3] w N X := Ct.of (by decide) (Nat.le_of_ble_eq_true rfl) (pX9_number hN h)
/-! AlgolMill$Tokens.token ([III)I: O, 10 -/
theorem dX9_token_0 : decode cX9_token 0 = .ok (.aload_n 1, 1) := by decide +kernel
theorem dX9_token_1 : decode cX9_token 1 = .ok (.iload_n 3, 1) := by decide +kernel
theorem dX9_token_2 : decode cX9_token 2 = .ok (.invokestatic 68, 3) := by decide +kernel
theorem dX9_token_5 : decode cX9_token 5 = .ok (.istore 4, 2) := by decide +kernel
theorem dX9_token_7 : decode cX9_token 7 = .ok (.iload 4, 2) := by decide +kernel
theorem dX9_token_9 : decode cX9_token 9 = .ok (.invokestatic 61, 3) := by decide +kernel
theorem dX9_token_12 : decode cX9_token 12 = .ok (.ifCond .eq 11, 3) := by decide +kernel
theorem dX9_token_15 : decode cX9_token 15 = .ok (.aload_n 0, 1) := by decide +kernel
theorem dX9_token_16 : decode cX9_token 16 = .ok (.aload_n 1, 1) := by decide +kernel
theorem dX9_token_17 : decode cX9_token 17 = .ok (.iload_n 2, 1) := by decide +kernel
theorem dX9_token_18 : decode cX9_token 18 = .ok (.iload_n 3, 1) := by decide +kernel
theorem dX9_token_19 : decode cX9_token 19 = .ok (.invokevirtual 105, 3) := by decide +kernel
theorem dX9_token_22 : decode cX9_token 22 = .ok (.ireturn, 1) := by decide +kernel
theorem dX9_token_23 : decode cX9_token 23 = .ok (.iload 4, 2) := by decide +kernel
theorem dX9_token_25 : decode cX9_token 25 = .ok (.invokestatic 57, 3) := by decide +kernel
theorem dX9_token_28 : decode cX9_token 28 = .ok (.ifCond .eq 11, 3) := by decide +kernel
theorem dX9_token_31 : decode cX9_token 31 = .ok (.aload_n 0, 1) := by decide +kernel
theorem dX9_token_32 : decode cX9_token 32 = .ok (.aload_n 1, 1) := by decide +kernel
theorem dX9_token_33 : decode cX9_token 33 = .ok (.iload_n 2, 1) := by decide +kernel
theorem dX9_token_34 : decode cX9_token 34 = .ok (.iload_n 3, 1) := by decide +kernel
theorem dX9_token_35 : decode cX9_token 35 = .ok (.invokevirtual 108, 3) := by decide +kernel
theorem dX9_token_38 : decode cX9_token 38 = .ok (.ireturn, 1) := by decide +kernel
theorem dX9_token_39 : decode cX9_token 39 = .ok (.ldc 111, 2) := by decide +kernel
theorem dX9_token_41 : decode cX9_token 41 = .ok (.iload 4, 2) := by decide +kernel
theorem dX9_token_43 : decode cX9_token 43 = .ok (.i2c, 1) := by decide +kernel
theorem dX9_token_44 : decode cX9_token 44 = .ok (.invokevirtual 113, 3) := by decide +kernel
theorem dX9_token_47 : decode cX9_token 47 = .ok (.istore 5, 2) := by decide +kernel
theorem dX9_token_49 : decode cX9_token 49 = .ok (.iload 5, 2) := by decide +kernel
theorem dX9_token_51 : decode cX9_token 51 = .ok (.ifCond .ge 7, 3) := by decide +kernel
theorem dX9_token_54 : decode cX9_token 54 = .ok (.iconst 1, 1) := by decide +kernel
theorem dX9_token_55 : decode cX9_token 55 = .ok (.goto 8, 3) := by decide +kernel
theorem dX9_token_58 : decode cX9_token 58 = .ok (.bipush 33, 2) := by decide +kernel
theorem dX9_token_60 : decode cX9_token 60 = .ok (.iload 5, 2) := by decide +kernel
theorem dX9_token_62 : decode cX9_token 62 = .ok (.iadd, 1) := by decide +kernel
theorem dX9_token_63 : decode cX9_token 63 = .ok (.istore 6, 2) := by decide +kernel
theorem dX9_token_65 : decode cX9_token 65 = .ok (.iload_n 3, 1) := by decide +kernel
theorem dX9_token_66 : decode cX9_token 66 = .ok (.iconst 1, 1) := by decide +kernel
theorem dX9_token_67 : decode cX9_token 67 = .ok (.iadd, 1) := by decide +kernel
theorem dX9_token_68 : decode cX9_token 68 = .ok (.iload_n 2, 1) := by decide +kernel
theorem dX9_token_69 : decode cX9_token 69 = .ok (.if_icmp .ge 18, 3) := by decide +kernel
theorem dX9_token_72 : decode cX9_token 72 = .ok (.iload 6, 2) := by decide +kernel
theorem dX9_token_74 : decode cX9_token 74 = .ok (.aload_n 1, 1) := by decide +kernel
theorem dX9_token_75 : decode cX9_token 75 = .ok (.iload_n 3, 1) := by decide +kernel
theorem dX9_token_76 : decode cX9_token 76 = .ok (.iconst 1, 1) := by decide +kernel
theorem dX9_token_77 : decode cX9_token 77 = .ok (.iadd, 1) := by decide +kernel
theorem dX9_token_78 : decode cX9_token 78 = .ok (.invokestatic 68, 3) := by decide +kernel
theorem dX9_token_81 : decode cX9_token 81 = .ok (.invokestatic 116, 3) := by decide +kernel
theorem dX9_token_84 : decode cX9_token 84 = .ok (.goto 5, 3) := by decide +kernel
theorem dX9_token_87 : decode cX9_token 87 = .ok (.iload 6, 2) := by decide +kernel
theorem dX9_token_89 : decode cX9_token 89 = .ok (.istore 7, 2) := by decide +kernel
theorem dX9_token_91 : decode cX9_token 91 = .ok (.aload_n 0, 1) := by decide +kernel
theorem dX9_token_92 : decode cX9_token 92 = .ok (.iload 7, 2) := by decide +kernel
theorem dX9_token_94 : decode cX9_token 94 = .ok (.iload_n 3, 1) := by decide +kernel
theorem dX9_token_95 : decode cX9_token 95 = .ok (.lconst 0, 1) := by decide +kernel
theorem dX9_token_96 : decode cX9_token 96 = .ok (.invokevirtual 82, 3) := by decide +kernel
theorem dX9_token_99 : decode cX9_token 99 = .ok (.iload 7, 2) := by decide +kernel
theorem dX9_token_101 : decode cX9_token 101 = .ok (.iload 6, 2) := by decide +kernel
theorem dX9_token_103 : decode cX9_token 103 = .ok (.if_icmp .ne 7, 3) := by decide +kernel
theorem dX9_token_106 : decode cX9_token 106 = .ok (.iload_n 3, 1) := by decide +kernel
theorem dX9_token_107 : decode cX9_token 107 = .ok (.goto 6, 3) := by decide +kernel
theorem dX9_token_110 : decode cX9_token 110 = .ok (.iload_n 3, 1) := by decide +kernel
theorem dX9_token_111 : decode cX9_token 111 = .ok (.iconst 1, 1) := by decide +kernel
theorem dX9_token_112 : decode cX9_token 112 = .ok (.iadd, 1) := by decide +kernel
theorem dX9_token_113 : decode cX9_token 113 = .ok (.ireturn, 1) := by decide +kernel
def fX9_token_89 (s0 : Int32) (a3 : Int32) (a6 : Int32) (w : Wd) : Option (Int32 × Wd) :=
  lt (fX9_add s0 a3 0 w) fun w1 => if s0 = a6 then (some (a3, w1)) else (some ((a3 + 1), w1))
theorem pX9_token_89 {q : Gq} {l : Launch} {N : Option Value → Wd → Prop} {X : String → Wd → Prop} (hz : SGN q l) {w : Wd} {R : Int32 × Wd} (hN : N (some (.int R.1)) R.2) {s0 : Int32} {a3 : Int32} {a6 : Int32} (h : fX9_token_89 s0 a3 a6 w = some R) : RT (GA q) l 10 yX9_token cX9_token 8 ((some .int)) N X 89 [.int s0] [(0, .ref 4), (3, .int a3), (6, .int a6)] w := by
  unfold fX9_token_89 at h
  refine r_istore (pc := 89) (loc' := [(7, .int s0), (0, .ref 4), (3, .int a3), (6, .int a6)]) dX9_token_89 (Nat.le_of_ble_eq_true rfl) rfl ?_
  refine r_aload_n (pc := 91) dX9_token_91 rfl 1 rfl ?_
  refine r_iload (pc := 92) dX9_token_92 0 rfl ?_
  refine r_iload_n (pc := 94) dX9_token_94 rfl 2 rfl ?_
  refine r_lconst (pc := 95) dX9_token_95 kl_0 ?_
  replace h := lt_e h; obtain ⟨w1, ew1, h⟩ := h
  refine r_cVv (pc := 96) wyX9_add oA4 rfl mlRX9_82 iyX9_add syX9_add ⟨(Nat.le_of_ble_eq_true rfl), (Nat.le_of_ble_eq_true rfl)⟩ rfl rfl (Nat.le_of_ble_eq_true rfl) dX9_token_96 (mX9_add ew1 (pV.mk ?_))
  refine r_iload (pc := 99) dX9_token_99 0 rfl ?_
  refine r_iload (pc := 101) dX9_token_101 3 rfl ?_
  refine r_icmp_ne (pc := 103) dX9_token_103 rfl (fun hc2 => ?_) (fun hc2 => ?_)
  · replace h := if_f hc2 h
    refine r_iload_n (pc := 110) dX9_token_110 rfl 2 rfl ?_
    refine r_iconst (pc := 111) dX9_token_111 ki_1 ?_
    refine r_iadd (pc := 112) dX9_token_112 ?_
    exact rO_i (pc := 113) rfl dX9_token_113 h hN
  replace h := if_t hc2 h
  refine r_iload_n (pc := 106) dX9_token_106 rfl 2 rfl ?_
  refine r_goto (pc := 107) dX9_token_107 rfl ?_
  exact rO_i (pc := 113) rfl dX9_token_113 h hN
def fX9_token_63 (s0 : Int32) (a2 : Int32) (a3 : Int32) (w : Wd) : Option (Int32 × Wd) :=
  if a2 ≤ (a3 + 1) then (fX9_token_89 s0 a3 s0 w) else (lt (rgi w 1 8192 (a3 + 1)) fun x2 => lt (fX9_longer s0 x2 w) fun x3 => fX9_token_89 x3 a3 s0 w)
theorem pX9_token_63 {q : Gq} {l : Launch} {N : Option Value → Wd → Prop} {X : String → Wd → Prop} (hz : SGN q l) {w : Wd} {R : Int32 × Wd} (hN : N (some (.int R.1)) R.2) {s0 : Int32} {a2 : Int32} {a3 : Int32} (h : fX9_token_63 s0 a2 a3 w = some R) : RT (GA q) l 10 yX9_token cX9_token 8 ((some .int)) N X 63 [.int s0] [(0, .ref 4), (1, .ref 1), (2, .int a2), (3, .int a3)] w := by
  unfold fX9_token_63 at h
  refine r_istore (pc := 63) (loc' := [(6, .int s0), (0, .ref 4), (1, .ref 1), (2, .int a2), (3, .int a3)]) dX9_token_63 (Nat.le_of_ble_eq_true rfl) rfl ?_
  refine r_iload_n (pc := 65) dX9_token_65 rfl 4 rfl ?_
  refine r_iconst (pc := 66) dX9_token_66 ki_1 ?_
  refine r_iadd (pc := 67) dX9_token_67 ?_
  refine r_iload_n (pc := 68) dX9_token_68 rfl 3 rfl ?_
  refine r_icmp_ge (pc := 69) dX9_token_69 rfl (fun hc1 => ?_) (fun hc1 => ?_)
  · replace h := if_t hc1 h
    refine r_iload (pc := 87) dX9_token_87 0 rfl ?_
    refine r_drop (loc' := [(0, .ref 4), (3, .int a3), (6, .int s0)]) [1, 4, 0] rfl ?_
    exact pX9_token_89 hz hN h
  replace h := if_f hc1 h
  refine r_iload (pc := 72) dX9_token_72 0 rfl ?_
  refine r_aload_n (pc := 74) dX9_token_74 rfl 2 rfl ?_
  refine r_iload_n (pc := 75) dX9_token_75 rfl 4 rfl ?_
  refine r_iconst (pc := 76) dX9_token_76 ki_1 ?_
  refine r_iadd (pc := 77) dX9_token_77 ?_
  replace h := lt_e h; obtain ⟨x2, ex2, h⟩ := h
  refine r_cSi (pc := 78) wyX6_get mlRX9_68 tyX6_get ⟨(Nat.le_of_ble_eq_true rfl), (Nat.le_of_ble_eq_true rfl)⟩ rfl rfl (Nat.le_of_ble_eq_true rfl) dX9_token_78 (mX6_get aA1 (Nat.le_of_ble_eq_true rfl) ex2 (pI.mk ?_))
  replace h := lt_e h; obtain ⟨x3, ex3, h⟩ := h
  refine r_cSi (pc := 81) wyX9_longer mlRX9_116 tyX9_longer ⟨(Nat.le_of_ble_eq_true rfl), (Nat.le_of_ble_eq_true rfl)⟩ rfl rfl (Nat.le_of_ble_eq_true rfl) dX9_token_81 (mX9_longer ex3 (pI.mk ?_))
  refine r_goto (pc := 84) dX9_token_84 rfl ?_
  refine r_drop (loc' := [(0, .ref 4), (3, .int a3), (6, .int s0)]) [1, 4, 0] rfl ?_
  exact pX9_token_89 hz hN h
def fX9_token (a2 : Int32) (a3 : Int32) (w : Wd) : Option (Int32 × Wd) :=
  lt (rgi w 1 8192 a3) fun x1 => lt (fX9_isDigit x1 w) fun x2 => if x2 = true then (bn2 (fX9_number a2 a3 w) fun x4 w5 => some (x4, w5)) else (lt (fX9_code x1 w) fun x6 => if x6 = 0 then (lt ((sgn (((Int32.toUInt32 x1) % 65536).toInt32))) fun x8 => if 0 ≤ x8 then (fX9_token_63 (33 + x8) a2 a3 w) else (fX9_token_63 1 a2 a3 w)) else (bn2 (fX9_name a2 a3 w) fun x10 w11 => some (x10, w11)))
theorem pX9_token {q : Gq} {l : Launch} {N : Option Value → Wd → Prop} {X : String → Wd → Prop} (hz : SGN q l) {w : Wd} {R : Int32 × Wd} (hN : N (some (.int R.1)) R.2) {a2 : Int32} {a3 : Int32} (h : fX9_token a2 a3 w = some R) : RT (GA q) l 10 yX9_token cX9_token 8 ((some .int)) N X 0 [] [(0, .ref 4), (1, .ref 1), (2, .int a2), (3, .int a3)] w := by
  unfold fX9_token at h
  refine r_aload_n (pc := 0) dX9_token_0 rfl 1 rfl ?_
  refine r_iload_n (pc := 1) dX9_token_1 rfl 3 rfl ?_
  replace h := lt_e h; obtain ⟨x1, ex1, h⟩ := h
  refine r_cSi (pc := 2) wyX6_get mlRX9_68 tyX6_get ⟨(Nat.le_of_ble_eq_true rfl), (Nat.le_of_ble_eq_true rfl)⟩ rfl rfl (Nat.le_of_ble_eq_true rfl) dX9_token_2 (mX6_get aA1 (Nat.le_of_ble_eq_true rfl) ex1 (pI.mk ?_))
  refine r_istore (pc := 5) (loc' := [(4, .int x1), (0, .ref 4), (1, .ref 1), (2, .int a2), (3, .int a3)]) dX9_token_5 (Nat.le_of_ble_eq_true rfl) rfl ?_
  refine r_iload (pc := 7) dX9_token_7 0 rfl ?_
  replace h := lt_e h; obtain ⟨x2, ex2, h⟩ := h
  refine r_cSi (pc := 9) wyX9_isDigit mlRX9_61 tyX9_isDigit ⟨(Nat.le_of_ble_eq_true rfl), (Nat.le_of_ble_eq_true rfl)⟩ rfl rfl (Nat.le_of_ble_eq_true rfl) dX9_token_9 (mX9_isDigit ex2 (pI.mk ?_))
  refine r_z_eq (pc := 12) dX9_token_12 rfl (fun hc3 => ?_) (fun hc3 => ?_)
  · replace h := if_f hc3 h
    refine r_iload (pc := 23) dX9_token_23 0 rfl ?_
    replace h := lt_e h; obtain ⟨x6, ex6, h⟩ := h
    refine r_cSi (pc := 25) wyX9_code mlRX9_57 tyX9_code ⟨(Nat.le_of_ble_eq_true rfl), (Nat.le_of_ble_eq_true rfl)⟩ rfl rfl (Nat.le_of_ble_eq_true rfl) dX9_token_25 (mX9_code ex6 (pI.mk ?_))
    refine r_if_eq (pc := 28) dX9_token_28 rfl (fun hc7 => ?_) (fun hc7 => ?_)
    · replace h := if_t hc7 h
      refine hz.1 _ _ _ (Nat.le_of_ble_eq_true rfl) _ _ _ ?_
      refine r_iload (pc := 41) dX9_token_41 0 rfl ?_
      refine r_i2c (pc := 43) dX9_token_43 ?_
      refine hz.2 _ _ _ (Nat.le_of_ble_eq_true rfl) _ _ _ _ (Nat.le_of_ble_eq_true rfl) ?_
      replace h := lt_e h; obtain ⟨x8, ex8, h⟩ := h
      refine r_topi ex8 ?_
      refine r_istore (pc := 47) (loc' := [(5, .int x8), (4, .int x1), (0, .ref 4), (1, .ref 1), (2, .int a2), (3, .int a3)]) dX9_token_47 (Nat.le_of_ble_eq_true rfl) rfl ?_
      refine r_iload (pc := 49) dX9_token_49 0 rfl ?_
      refine r_if_ge (pc := 51) dX9_token_51 rfl (fun hc9 => ?_) (fun hc9 => ?_)
      · replace h := if_t hc9 h
        refine r_bipush (pc := 58) dX9_token_58 kb_33 ?_
        refine r_iload (pc := 60) dX9_token_60 0 rfl ?_
        refine r_iadd (pc := 62) dX9_token_62 ?_
        refine r_drop (loc' := [(0, .ref 4), (1, .ref 1), (2, .int a2), (3, .int a3)]) [2, 3, 4, 5] rfl ?_
        exact pX9_token_63 hz hN h
      replace h := if_f hc9 h
      refine r_iconst (pc := 54) dX9_token_54 ki_1 ?_
      refine r_goto (pc := 55) dX9_token_55 rfl ?_
      refine r_drop (loc' := [(0, .ref 4), (1, .ref 1), (2, .int a2), (3, .int a3)]) [2, 3, 4, 5] rfl ?_
      exact pX9_token_63 hz hN h
    replace h := if_f hc7 h
    refine r_aload_n (pc := 31) dX9_token_31 rfl 1 rfl ?_
    refine r_aload_n (pc := 32) dX9_token_32 rfl 2 rfl ?_
    refine r_iload_n (pc := 33) dX9_token_33 rfl 3 rfl ?_
    refine r_iload_n (pc := 34) dX9_token_34 rfl 4 rfl ?_
    replace h := bn2_e h; obtain ⟨x10, w11, ew11, h⟩ := h
    refine r_cVi (pc := 35) wyX9_name oA4 rfl mlRX9_108 iyX9_name syX9_name ⟨(Nat.le_of_ble_eq_true rfl), (Nat.le_of_ble_eq_true rfl)⟩ rfl rfl (Nat.le_of_ble_eq_true rfl) dX9_token_35 (mX9_name ew11 (pI.mk ?_))
    exact rO_i (pc := 38) rfl dX9_token_38 h hN
  replace h := if_t hc3 h
  refine r_aload_n (pc := 15) dX9_token_15 rfl 1 rfl ?_
  refine r_aload_n (pc := 16) dX9_token_16 rfl 2 rfl ?_
  refine r_iload_n (pc := 17) dX9_token_17 rfl 3 rfl ?_
  refine r_iload_n (pc := 18) dX9_token_18 rfl 4 rfl ?_
  replace h := bn2_e h; obtain ⟨x4, w5, ew5, h⟩ := h
  refine r_cVi (pc := 19) wyX9_number oA4 rfl mlRX9_105 iyX9_number syX9_number ⟨(Nat.le_of_ble_eq_true rfl), (Nat.le_of_ble_eq_true rfl)⟩ rfl rfl (Nat.le_of_ble_eq_true rfl) dX9_token_19 (mX9_number ew5 (pI.mk ?_))
  exact rO_i (pc := 22) rfl dX9_token_22 h hN
theorem mX9_token {q : Gq} {l : Launch} {N : Option Value → Wd → Prop} {X : String → Wd → Prop} {a2 : Int32} {a3 : Int32} {w : Wd} (hz : SGN q l) {x : Int32} {u : Wd} (h : fX9_token a2 a3 w = some (x, u)) (hN : N (some (.int x)) u) : Ct (GA q) l 10 yX9_token cX9_token 8 ((some .int)) [.ref 4, .ref 1, .int a2, .int a3] w N X := Ct.of (by decide) (Nat.le_of_ble_eq_true rfl) (pX9_token hz hN h)
/-! AlgolMill$Tokens.read ([II)V: O, 11 -/
theorem dX9_read_0 : decode cX9_read 0 = .ok (.aload_n 0, 1) := by decide +kernel
theorem dX9_read_1 : decode cX9_read 1 = .ok (.invokevirtual 65, 3) := by decide +kernel
theorem dX9_read_4 : decode cX9_read 4 = .ok (.iconst 0, 1) := by decide +kernel
theorem dX9_read_5 : decode cX9_read 5 = .ok (.istore_n 3, 1) := by decide +kernel
theorem dX9_read_6 : decode cX9_read 6 = .ok (.iload_n 3, 1) := by decide +kernel
theorem dX9_read_7 : decode cX9_read 7 = .ok (.iload_n 2, 1) := by decide +kernel
theorem dX9_read_8 : decode cX9_read 8 = .ok (.if_icmp .ge 42, 3) := by decide +kernel
theorem dX9_read_11 : decode cX9_read 11 = .ok (.aload_n 1, 1) := by decide +kernel
theorem dX9_read_12 : decode cX9_read 12 = .ok (.iload_n 3, 1) := by decide +kernel
theorem dX9_read_13 : decode cX9_read 13 = .ok (.invokestatic 68, 3) := by decide +kernel
theorem dX9_read_16 : decode cX9_read 16 = .ok (.istore 4, 2) := by decide +kernel
theorem dX9_read_18 : decode cX9_read 18 = .ok (.iload 4, 2) := by decide +kernel
theorem dX9_read_20 : decode cX9_read 20 = .ok (.bipush 32, 2) := by decide +kernel
theorem dX9_read_22 : decode cX9_read 22 = .ok (.if_icmp .eq 22, 3) := by decide +kernel
theorem dX9_read_25 : decode cX9_read 25 = .ok (.iload 4, 2) := by decide +kernel
theorem dX9_read_27 : decode cX9_read 27 = .ok (.bipush 10, 2) := by decide +kernel
theorem dX9_read_29 : decode cX9_read 29 = .ok (.if_icmp .eq 15, 3) := by decide +kernel
theorem dX9_read_32 : decode cX9_read 32 = .ok (.iload_n 3, 1) := by decide +kernel
theorem dX9_read_33 : decode cX9_read 33 = .ok (.aload_n 0, 1) := by decide +kernel
theorem dX9_read_34 : decode cX9_read 34 = .ok (.aload_n 1, 1) := by decide +kernel
theorem dX9_read_35 : decode cX9_read 35 = .ok (.iload_n 2, 1) := by decide +kernel
theorem dX9_read_36 : decode cX9_read 36 = .ok (.iload_n 3, 1) := by decide +kernel
theorem dX9_read_37 : decode cX9_read 37 = .ok (.invokevirtual 72, 3) := by decide +kernel
theorem dX9_read_40 : decode cX9_read 40 = .ok (.invokestatic 76, 3) := by decide +kernel
theorem dX9_read_43 : decode cX9_read 43 = .ok (.istore_n 3, 1) := by decide +kernel
theorem dX9_read_44 : decode cX9_read 44 = .ok (.iinc 3 1, 3) := by decide +kernel
theorem dX9_read_47 : decode cX9_read 47 = .ok (.goto (-41), 3) := by decide +kernel
theorem dX9_read_50 : decode cX9_read 50 = .ok (.aload_n 0, 1) := by decide +kernel
theorem dX9_read_51 : decode cX9_read 51 = .ok (.iconst 0, 1) := by decide +kernel
theorem dX9_read_52 : decode cX9_read 52 = .ok (.iload_n 2, 1) := by decide +kernel
theorem dX9_read_53 : decode cX9_read 53 = .ok (.lconst 0, 1) := by decide +kernel
theorem dX9_read_54 : decode cX9_read 54 = .ok (.invokevirtual 82, 3) := by decide +kernel
theorem dX9_read_57 : decode cX9_read 57 = .ok (.aload_n 0, 1) := by decide +kernel
theorem dX9_read_58 : decode cX9_read 58 = .ok (.invokevirtual 86, 3) := by decide +kernel
theorem dX9_read_61 : decode cX9_read 61 = .ok (.return_, 1) := by decide +kernel
def fX9_read_6 (k_6 : Int32 → Int32 → Wd → Option Wd) (a2 : Int32) (a3 : Int32) (w : Wd) : Option Wd :=
  if a2 ≤ a3 then (lt (fX9_add 0 a2 0 w) fun w2 => lt (fX9_rewind w2) fun w3 => some w3) else (lt (rgi w 1 8192 a3) fun x4 => if x4 = 32 then (lt (a3 + 1) fun x6 => k_6 a2 x6 w) else (if x4 = 10 then (lt (a3 + 1) fun x8 => k_6 a2 x8 w) else (bn2 (fX9_token a2 a3 w) fun x9 w10 => lt (fJ9_max_7cf53 a3 x9) fun x11 => lt (x11 + 1) fun x12 => k_6 a2 x12 w10)))
theorem pX9_read_6 {q : Gq} {l : Launch} {N : Option Value → Wd → Prop} {X : String → Wd → Prop} (hz : SGN q l) {w : Wd} {R : Wd} (hN : N none R) {k_6 : Int32 → Int32 → Wd → Option Wd} (hk_6 : ∀ (a2 : Int32) (a3 : Int32) (w : Wd), k_6 a2 a3 w = some R → RT (GA q) l 11 yX9_read cX9_read 5 (none) N X 6 [] [(0, .ref 4), (1, .ref 1), (2, .int a2), (3, .int a3)] w) {a2 : Int32} {a3 : Int32} (h : fX9_read_6 k_6 a2 a3 w = some R) : RT (GA q) l 11 yX9_read cX9_read 5 (none) N X 6 [] [(0, .ref 4), (1, .ref 1), (2, .int a2), (3, .int a3)] w := by
  unfold fX9_read_6 at h
  refine r_iload_n (pc := 6) dX9_read_6 rfl 3 rfl ?_
  refine r_iload_n (pc := 7) dX9_read_7 rfl 2 rfl ?_
  refine r_icmp_ge (pc := 8) dX9_read_8 rfl (fun hc1 => ?_) (fun hc1 => ?_)
  · replace h := if_t hc1 h
    refine r_aload_n (pc := 50) dX9_read_50 rfl 0 rfl ?_
    refine r_iconst (pc := 51) dX9_read_51 ki_0 ?_
    refine r_iload_n (pc := 52) dX9_read_52 rfl 2 rfl ?_
    refine r_lconst (pc := 53) dX9_read_53 kl_0 ?_
    replace h := lt_e h; obtain ⟨w2, ew2, h⟩ := h
    refine r_cVv (pc := 54) wyX9_add oA4 rfl mlRX9_82 iyX9_add syX9_add ⟨(Nat.le_of_ble_eq_true rfl), (Nat.le_of_ble_eq_true rfl)⟩ rfl rfl (Nat.le_of_ble_eq_true rfl) dX9_read_54 (mX9_add ew2 (pV.mk ?_))
    refine r_aload_n (pc := 57) dX9_read_57 rfl 0 rfl ?_
    replace h := lt_e h; obtain ⟨w3, ew3, h⟩ := h
    refine r_cVv (pc := 58) wyX9_rewind oA4 rfl mlRX9_86 iyX9_rewind syX9_rewind ⟨(Nat.le_of_ble_eq_true rfl), (Nat.le_of_ble_eq_true rfl)⟩ rfl rfl (Nat.le_of_ble_eq_true rfl) dX9_read_58 (mX9_rewind ew3 (pV.mk ?_))
    exact rO_v (pc := 61) rfl dX9_read_61 h hN
  replace h := if_f hc1 h
  refine r_aload_n (pc := 11) dX9_read_11 rfl 1 rfl ?_
  refine r_iload_n (pc := 12) dX9_read_12 rfl 3 rfl ?_
  replace h := lt_e h; obtain ⟨x4, ex4, h⟩ := h
  refine r_cSi (pc := 13) wyX6_get mlRX9_68 tyX6_get ⟨(Nat.le_of_ble_eq_true rfl), (Nat.le_of_ble_eq_true rfl)⟩ rfl rfl (Nat.le_of_ble_eq_true rfl) dX9_read_13 (mX6_get aA1 (Nat.le_of_ble_eq_true rfl) ex4 (pI.mk ?_))
  refine r_istore (pc := 16) (loc' := [(4, .int x4), (0, .ref 4), (1, .ref 1), (2, .int a2), (3, .int a3)]) dX9_read_16 (Nat.le_of_ble_eq_true rfl) rfl ?_
  refine r_iload (pc := 18) dX9_read_18 0 rfl ?_
  refine r_bipush (pc := 20) dX9_read_20 kb_32 ?_
  refine r_icmp_eq (pc := 22) dX9_read_22 rfl (fun hc5 => ?_) (fun hc5 => ?_)
  · replace h := if_t hc5 h
    replace h := lt_e h; obtain ⟨x6, ex6, h⟩ := h
    refine r_inc (pc := 44) (loc' := [(3, .int x6), (4, .int x4), (0, .ref 4), (1, .ref 1), (2, .int a2)]) dX9_read_44 ki_1 ex6 4 rfl (Nat.le_of_ble_eq_true rfl) rfl ?_
    refine r_goto (pc := 47) dX9_read_47 rfl ?_
    refine r_drop (loc' := [(0, .ref 4), (1, .ref 1), (2, .int a2), (3, .int x6)]) [2, 3, 4, 0] rfl ?_
    exact hk_6 a2 x6 w h
  replace h := if_f hc5 h
  refine r_iload (pc := 25) dX9_read_25 0 rfl ?_
  refine r_bipush (pc := 27) dX9_read_27 kb_10 ?_
  refine r_icmp_eq (pc := 29) dX9_read_29 rfl (fun hc7 => ?_) (fun hc7 => ?_)
  · replace h := if_t hc7 h
    replace h := lt_e h; obtain ⟨x8, ex8, h⟩ := h
    refine r_inc (pc := 44) (loc' := [(3, .int x8), (4, .int x4), (0, .ref 4), (1, .ref 1), (2, .int a2)]) dX9_read_44 ki_1 ex8 4 rfl (Nat.le_of_ble_eq_true rfl) rfl ?_
    refine r_goto (pc := 47) dX9_read_47 rfl ?_
    refine r_drop (loc' := [(0, .ref 4), (1, .ref 1), (2, .int a2), (3, .int x8)]) [2, 3, 4, 0] rfl ?_
    exact hk_6 a2 x8 w h
  replace h := if_f hc7 h
  refine r_iload_n (pc := 32) dX9_read_32 rfl 4 rfl ?_
  refine r_aload_n (pc := 33) dX9_read_33 rfl 1 rfl ?_
  refine r_aload_n (pc := 34) dX9_read_34 rfl 2 rfl ?_
  refine r_iload_n (pc := 35) dX9_read_35 rfl 3 rfl ?_
  refine r_iload_n (pc := 36) dX9_read_36 rfl 4 rfl ?_
  replace h := bn2_e h; obtain ⟨x9, w10, ew10, h⟩ := h
  refine r_cVi (pc := 37) wyX9_token oA4 rfl mlRX9_72 iyX9_token syX9_token ⟨(Nat.le_of_ble_eq_true rfl), (Nat.le_of_ble_eq_true rfl)⟩ rfl rfl (Nat.le_of_ble_eq_true rfl) dX9_read_37 (mX9_token hz ew10 (pI.mk ?_))
  replace h := lt_e h; obtain ⟨x11, ex11, h⟩ := h
  refine r_cSi (pc := 40) wyJ9_max_7cf53 mlRX9_76 tyJ9_max_7cf53 ⟨(Nat.le_of_ble_eq_true rfl), (Nat.le_of_ble_eq_true rfl)⟩ rfl rfl (Nat.le_of_ble_eq_true rfl) dX9_read_40 (mJ9_max_7cf53 ex11 (pI.mk ?_))
  refine r_istore_n (pc := 43) (loc' := [(3, .int x11), (4, .int x4), (0, .ref 4), (1, .ref 1), (2, .int a2)]) dX9_read_43 rfl (Nat.le_of_ble_eq_true rfl) rfl ?_
  replace h := lt_e h; obtain ⟨x12, ex12, h⟩ := h
  refine r_inc (pc := 44) (loc' := [(3, .int x12), (4, .int x4), (0, .ref 4), (1, .ref 1), (2, .int a2)]) dX9_read_44 ki_1 ex12 0 rfl (Nat.le_of_ble_eq_true rfl) rfl ?_
  refine r_goto (pc := 47) dX9_read_47 rfl ?_
  refine r_drop (loc' := [(0, .ref 4), (1, .ref 1), (2, .int a2), (3, .int x12)]) [2, 3, 4, 0] rfl ?_
  exact hk_6 a2 x12 w10 h
def oX9_read_6 : Nat → Int32 → Int32 → Wd → Option Wd
  | 0 => fun _ _ _ => none
  | n + 1 => fX9_read_6 (oX9_read_6 n)
theorem qX9_read_6 {q : Gq} {l : Launch} {N : Option Value → Wd → Prop} {X : String → Wd → Prop} (hz : SGN q l) {R : Wd} (hN : N none R) : ∀ (n : Nat) (a2 : Int32) (a3 : Int32) (w : Wd), oX9_read_6 n a2 a3 w = some R → RT (GA q) l 11 yX9_read cX9_read 5 (none) N X 6 [] [(0, .ref 4), (1, .ref 1), (2, .int a2), (3, .int a3)] w := by
  intro n
  induction n with
  | zero =>
    intro a2 a3 w h
    exact absurd h (fun q => nomatch q)
  | succ n ih =>
    intro a2 a3 w h
    exact pX9_read_6 hz hN ih h
def fX9_read (a2 : Int32) (w : Wd) : Option Wd :=
  bn (fX9_forget w) fun w1 => oX9_read_6 FU a2 0 w1
theorem pX9_read {q : Gq} {l : Launch} {N : Option Value → Wd → Prop} {X : String → Wd → Prop} (hz : SGN q l) {w : Wd} {R : Wd} (hN : N none R) {a2 : Int32} (h : fX9_read a2 w = some R) : RT (GA q) l 11 yX9_read cX9_read 5 (none) N X 0 [] [(0, .ref 4), (1, .ref 1), (2, .int a2)] w := by
  unfold fX9_read at h
  refine r_aload_n (pc := 0) dX9_read_0 rfl 0 rfl ?_
  replace h := bn_e h; obtain ⟨w1, ew1, h⟩ := h
  refine r_cVv (pc := 1) wyX9_forget oA4 rfl mlRX9_65 iyX9_forget syX9_forget ⟨(Nat.le_of_ble_eq_true rfl), (Nat.le_of_ble_eq_true rfl)⟩ rfl rfl (Nat.le_of_ble_eq_true rfl) dX9_read_1 (mX9_forget ew1 (pV.mk ?_))
  refine r_iconst (pc := 4) dX9_read_4 ki_0 ?_
  refine r_istore_n (pc := 5) (loc' := [(3, .int 0), (0, .ref 4), (1, .ref 1), (2, .int a2)]) dX9_read_5 rfl (Nat.le_of_ble_eq_true rfl) rfl ?_
  refine r_drop (loc' := [(0, .ref 4), (1, .ref 1), (2, .int a2), (3, .int 0)]) [1, 2, 3, 0] rfl ?_
  exact qX9_read_6 hz hN FU a2 0 w1 h
theorem mX9_read {q : Gq} {l : Launch} {N : Option Value → Wd → Prop} {X : String → Wd → Prop} {a2 : Int32} {w : Wd} (hz : SGN q l) {u : Wd} (h : fX9_read a2 w = some u) (hN : N none u) : Ct (GA q) l 11 yX9_read cX9_read 5 (none) [.ref 4, .ref 1, .int a2] w N X := Ct.of (by decide) (Nat.le_of_ble_eq_true rfl) (pX9_read hz hN h)
/-! AlgolMill$Tokens.size ()I: P, 0 -/
theorem dX9_size_0 : decode cX9_size 0 = .ok (.aload_n 0, 1) := by decide +kernel
theorem dX9_size_1 : decode cX9_size 1 = .ok (.getfield 89, 3) := by decide +kernel
theorem dX9_size_4 : decode cX9_size 4 = .ok (.ireturn, 1) := by decide +kernel
def fX9_size (w : Wd) : Int32 :=
  (gi w 4 8)
theorem pX9_size {q : Gq} {l : Launch} {N : Option Value → Wd → Prop} {X : String → Wd → Prop} {w : Wd} {R : Int32} (hN : N (some (.int R)) w) (h : fX9_size w = R) : RT (GA q) l 0 yX9_size cX9_size 1 ((some .int)) N X 0 [] [(0, .ref 4)] w := by
  unfold fX9_size at h
  refine r_aload_n (pc := 0) dX9_size_0 rfl 0 rfl ?_
  refine r_get (pc := 1) (j := 8) (v := .int (gi w 4 8)) oA4 cf9 flRX9_89 rfl dX9_size_1 rfl ?_
  exact rP_i (pc := 4) rfl dX9_size_4 h hN
theorem mX9_size {q : Gq} {l : Launch} {N : Option Value → Wd → Prop} {X : String → Wd → Prop} {w : Wd} {x : Int32} (h : fX9_size w = x) (hN : N (some (.int x)) w) : Ct (GA q) l 0 yX9_size cX9_size 1 ((some .int)) [.ref 4] w N X := Ct.of (by decide) (Nat.le_of_ble_eq_true rfl) (pX9_size hN h)
/-! AlgolMill$Tokens.at ()I: P, 0 -/
theorem dX9_at_0 : decode cX9_at 0 = .ok (.aload_n 0, 1) := by decide +kernel
theorem dX9_at_1 : decode cX9_at 1 = .ok (.getfield 146, 3) := by decide +kernel
theorem dX9_at_4 : decode cX9_at 4 = .ok (.ireturn, 1) := by decide +kernel
def fX9_at (w : Wd) : Int32 :=
  (gi w 4 9)
theorem pX9_at {q : Gq} {l : Launch} {N : Option Value → Wd → Prop} {X : String → Wd → Prop} {w : Wd} {R : Int32} (hN : N (some (.int R)) w) (h : fX9_at w = R) : RT (GA q) l 0 yX9_at cX9_at 1 ((some .int)) N X 0 [] [(0, .ref 4)] w := by
  unfold fX9_at at h
  refine r_aload_n (pc := 0) dX9_at_0 rfl 0 rfl ?_
  refine r_get (pc := 1) (j := 9) (v := .int (gi w 4 9)) oA4 cf9 flRX9_146 rfl dX9_at_1 rfl ?_
  exact rP_i (pc := 4) rfl dX9_at_4 h hN
theorem mX9_at {q : Gq} {l : Launch} {N : Option Value → Wd → Prop} {X : String → Wd → Prop} {w : Wd} {x : Int32} (h : fX9_at w = x) (hN : N (some (.int x)) w) : Ct (GA q) l 0 yX9_at cX9_at 1 ((some .int)) [.ref 4] w N X := Ct.of (by decide) (Nat.le_of_ble_eq_true rfl) (pX9_at hN h)
/-! AlgolMill$Tokens.goTo (I)V: S, 0 -/
theorem dX9_goTo_0 : decode cX9_goTo 0 = .ok (.aload_n 0, 1) := by decide +kernel
theorem dX9_goTo_1 : decode cX9_goTo 1 = .ok (.iload_n 1, 1) := by decide +kernel
theorem dX9_goTo_2 : decode cX9_goTo 2 = .ok (.putfield 146, 3) := by decide +kernel
theorem dX9_goTo_5 : decode cX9_goTo 5 = .ok (.return_, 1) := by decide +kernel
def fX9_goTo (a1 : Int32) (w : Wd) : Wd :=
  lt (si w 4 9 a1) fun w1 => w1
theorem pX9_goTo {q : Gq} {l : Launch} {N : Option Value → Wd → Prop} {X : String → Wd → Prop} {w : Wd} {R : Wd} (hN : N none R) {a1 : Int32} (h : fX9_goTo a1 w = R) : RT (GA q) l 0 yX9_goTo cX9_goTo 2 (none) N X 0 [] [(0, .ref 4), (1, .int a1)] w := by
  unfold fX9_goTo at h
  refine r_aload_n (pc := 0) dX9_goTo_0 rfl 0 rfl ?_
  refine r_iload_n (pc := 1) dX9_goTo_1 rfl 1 rfl ?_
  replace h := lt_e h; obtain ⟨w1, ew1, h⟩ := h
  refine r_putI (pc := 2) (j := 9) oA4 cf9 flRX9_146 rfl rfl rfl rfl dX9_goTo_2 ?_
  refine r_w ew1 ?_
  exact rS_v (pc := 5) rfl dX9_goTo_5 h hN
theorem mX9_goTo {q : Gq} {l : Launch} {N : Option Value → Wd → Prop} {X : String → Wd → Prop} {a1 : Int32} {w : Wd} {u : Wd} (h : fX9_goTo a1 w = u) (hN : N none u) : Ct (GA q) l 0 yX9_goTo cX9_goTo 2 (none) [.ref 4, .int a1] w N X := Ct.of (by decide) (Nat.le_of_ble_eq_true rfl) (pX9_goTo hN h)
/-! AlgolMill$Tokens.kind ()I: P, 2 -/
theorem dX9_kind_0 : decode cX9_kind 0 = .ok (.aload_n 0, 1) := by decide +kernel
theorem dX9_kind_1 : decode cX9_kind 1 = .ok (.aload_n 0, 1) := by decide +kernel
theorem dX9_kind_2 : decode cX9_kind 2 = .ok (.getfield 146, 3) := by decide +kernel
theorem dX9_kind_5 : decode cX9_kind 5 = .ok (.invokevirtual 93, 3) := by decide +kernel
theorem dX9_kind_8 : decode cX9_kind 8 = .ok (.ireturn, 1) := by decide +kernel
def fX9_kind (w : Wd) : Int32 :=
  lt (fX9_kindOf (gi w 4 9) w) fun x1 => x1
theorem pX9_kind {q : Gq} {l : Launch} {N : Option Value → Wd → Prop} {X : String → Wd → Prop} {w : Wd} {R : Int32} (hN : N (some (.int R)) w) (h : fX9_kind w = R) : RT (GA q) l 2 yX9_kind cX9_kind 1 ((some .int)) N X 0 [] [(0, .ref 4)] w := by
  unfold fX9_kind at h
  refine r_aload_n (pc := 0) dX9_kind_0 rfl 0 rfl ?_
  refine r_aload_n (pc := 1) dX9_kind_1 rfl 0 rfl ?_
  refine r_get (pc := 2) (j := 9) (v := .int (gi w 4 9)) oA4 cf9 flRX9_146 rfl dX9_kind_2 rfl ?_
  replace h := lt_e h; obtain ⟨x1, ex1, h⟩ := h
  refine r_cVi (pc := 5) wyX9_kindOf oA4 rfl mlRX9_93 iyX9_kindOf syX9_kindOf ⟨(Nat.le_of_ble_eq_true rfl), (Nat.le_of_ble_eq_true rfl)⟩ rfl rfl (Nat.le_of_ble_eq_true rfl) dX9_kind_5 (mX9_kindOf ex1 (pI.mk ?_))
  exact rP_i (pc := 8) rfl dX9_kind_8 h hN
theorem mX9_kind {q : Gq} {l : Launch} {N : Option Value → Wd → Prop} {X : String → Wd → Prop} {w : Wd} {x : Int32} (h : fX9_kind w = x) (hN : N (some (.int x)) w) : Ct (GA q) l 2 yX9_kind cX9_kind 1 ((some .int)) [.ref 4] w N X := Ct.of (by decide) (Nat.le_of_ble_eq_true rfl) (pX9_kind hN h)
/-! AlgolMill$Tokens.where (I)I: P, 1 -/
theorem dX9_where_0 : decode cX9_where 0 = .ok (.aload_n 0, 1) := by decide +kernel
theorem dX9_where_1 : decode cX9_where 1 = .ok (.getfield 15, 3) := by decide +kernel
theorem dX9_where_4 : decode cX9_where 4 = .ok (.iload_n 1, 1) := by decide +kernel
theorem dX9_where_5 : decode cX9_where 5 = .ok (.invokestatic 68, 3) := by decide +kernel
theorem dX9_where_8 : decode cX9_where 8 = .ok (.ireturn, 1) := by decide +kernel
def fX9_where (a1 : Int32) (w : Wd) : Int32 :=
  lt (rgi w 6 8193 a1) fun x1 => x1
theorem pX9_where {q : Gq} {l : Launch} {N : Option Value → Wd → Prop} {X : String → Wd → Prop} {w : Wd} {R : Int32} (hN : N (some (.int R)) w) {a1 : Int32} (h : fX9_where a1 w = R) : RT (GA q) l 1 yX9_where cX9_where 2 ((some .int)) N X 0 [] [(0, .ref 4), (1, .int a1)] w := by
  unfold fX9_where at h
  refine r_aload_n (pc := 0) dX9_where_0 rfl 0 rfl ?_
  refine r_get (pc := 1) (j := 1) (v := .ref 6) oA4 cf9 flRX9_15 rfl dX9_where_1 rfl ?_
  refine r_iload_n (pc := 4) dX9_where_4 rfl 1 rfl ?_
  replace h := lt_e h; obtain ⟨x1, ex1, h⟩ := h
  refine r_cSi (pc := 5) wyX6_get mlRX9_68 tyX6_get ⟨(Nat.le_of_ble_eq_true rfl), (Nat.le_of_ble_eq_true rfl)⟩ rfl rfl (Nat.le_of_ble_eq_true rfl) dX9_where_5 (mX6_get aA6 (Nat.le_of_ble_eq_true rfl) ex1 (pI.mk ?_))
  exact rP_i (pc := 8) rfl dX9_where_8 h hN
theorem mX9_where {q : Gq} {l : Launch} {N : Option Value → Wd → Prop} {X : String → Wd → Prop} {a1 : Int32} {w : Wd} {x : Int32} (h : fX9_where a1 w = x) (hN : N (some (.int x)) w) : Ct (GA q) l 1 yX9_where cX9_where 2 ((some .int)) [.ref 4, .int a1] w N X := Ct.of (by decide) (Nat.le_of_ble_eq_true rfl) (pX9_where hN h)
/-! AlgolMill$Tokens.numberAt (I)J: P, 1 -/
theorem dX9_numberAt_0 : decode cX9_numberAt 0 = .ok (.aload_n 0, 1) := by decide +kernel
theorem dX9_numberAt_1 : decode cX9_numberAt 1 = .ok (.getfield 18, 3) := by decide +kernel
theorem dX9_numberAt_4 : decode cX9_numberAt 4 = .ok (.iload_n 1, 1) := by decide +kernel
theorem dX9_numberAt_5 : decode cX9_numberAt 5 = .ok (.invokestatic 138, 3) := by decide +kernel
theorem dX9_numberAt_8 : decode cX9_numberAt 8 = .ok (.lreturn, 1) := by decide +kernel
def fX9_numberAt (a1 : Int32) (w : Wd) : Int64 :=
  lt (rgl w 7 8193 a1) fun x1 => x1
theorem pX9_numberAt {q : Gq} {l : Launch} {N : Option Value → Wd → Prop} {X : String → Wd → Prop} {w : Wd} {R : Int64} (hN : N (some (.long R)) w) {a1 : Int32} (h : fX9_numberAt a1 w = R) : RT (GA q) l 1 yX9_numberAt cX9_numberAt 2 ((some .long)) N X 0 [] [(0, .ref 4), (1, .int a1)] w := by
  unfold fX9_numberAt at h
  refine r_aload_n (pc := 0) dX9_numberAt_0 rfl 0 rfl ?_
  refine r_get (pc := 1) (j := 2) (v := .ref 7) oA4 cf9 flRX9_18 rfl dX9_numberAt_1 rfl ?_
  refine r_iload_n (pc := 4) dX9_numberAt_4 rfl 1 rfl ?_
  replace h := lt_e h; obtain ⟨x1, ex1, h⟩ := h
  refine r_cSl (pc := 5) wyX6_get_ mlRX9_138 tyX6_get_ ⟨(Nat.le_of_ble_eq_true rfl), (Nat.le_of_ble_eq_true rfl)⟩ rfl rfl (Nat.le_of_ble_eq_true rfl) dX9_numberAt_5 (mX6_get_ aA7 (Nat.le_of_ble_eq_true rfl) ex1 (pL.mk ?_))
  exact rP_l (pc := 8) rfl dX9_numberAt_8 h hN
theorem mX9_numberAt {q : Gq} {l : Launch} {N : Option Value → Wd → Prop} {X : String → Wd → Prop} {a1 : Int32} {w : Wd} {x : Int64} (h : fX9_numberAt a1 w = x) (hN : N (some (.long x)) w) : Ct (GA q) l 1 yX9_numberAt cX9_numberAt 2 ((some .long)) [.ref 4, .int a1] w N X := Ct.of (by decide) (Nat.le_of_ble_eq_true rfl) (pX9_numberAt hN h)
/-! AlgolMill$Tokens.take (I)Z: S, 3 -/
theorem dX9_take_0 : decode cX9_take 0 = .ok (.aload_n 0, 1) := by decide +kernel
theorem dX9_take_1 : decode cX9_take 1 = .ok (.invokevirtual 149, 3) := by decide +kernel
theorem dX9_take_4 : decode cX9_take 4 = .ok (.iload_n 1, 1) := by decide +kernel
theorem dX9_take_5 : decode cX9_take 5 = .ok (.if_icmp .eq 5, 3) := by decide +kernel
theorem dX9_take_8 : decode cX9_take 8 = .ok (.iconst 0, 1) := by decide +kernel
theorem dX9_take_9 : decode cX9_take 9 = .ok (.ireturn, 1) := by decide +kernel
theorem dX9_take_10 : decode cX9_take 10 = .ok (.aload_n 0, 1) := by decide +kernel
theorem dX9_take_11 : decode cX9_take 11 = .ok (.dup, 1) := by decide +kernel
theorem dX9_take_12 : decode cX9_take 12 = .ok (.getfield 146, 3) := by decide +kernel
theorem dX9_take_15 : decode cX9_take 15 = .ok (.iconst 1, 1) := by decide +kernel
theorem dX9_take_16 : decode cX9_take 16 = .ok (.iadd, 1) := by decide +kernel
theorem dX9_take_17 : decode cX9_take 17 = .ok (.putfield 146, 3) := by decide +kernel
theorem dX9_take_20 : decode cX9_take 20 = .ok (.iconst 1, 1) := by decide +kernel
theorem dX9_take_21 : decode cX9_take 21 = .ok (.ireturn, 1) := by decide +kernel
def fX9_take (a1 : Int32) (w : Wd) : Bool × Wd :=
  lt (fX9_kind w) fun x1 => if x1 = a1 then (lt (si w 4 9 ((gi w 4 9) + 1)) fun w3 => (true, w3)) else ((false, w))
theorem pX9_take {q : Gq} {l : Launch} {N : Option Value → Wd → Prop} {X : String → Wd → Prop} {w : Wd} {R : Bool × Wd} (hN : N (some (.int (b2i R.1))) R.2) {a1 : Int32} (h : fX9_take a1 w = R) : RT (GA q) l 3 yX9_take cX9_take 2 ((some .boolean)) N X 0 [] [(0, .ref 4), (1, .int a1)] w := by
  unfold fX9_take at h
  refine r_aload_n (pc := 0) dX9_take_0 rfl 0 rfl ?_
  replace h := lt_e h; obtain ⟨x1, ex1, h⟩ := h
  refine r_cVi (pc := 1) wyX9_kind oA4 rfl mlRX9_149 iyX9_kind syX9_kind ⟨(Nat.le_of_ble_eq_true rfl), (Nat.le_of_ble_eq_true rfl)⟩ rfl rfl (Nat.le_of_ble_eq_true rfl) dX9_take_1 (mX9_kind ex1 (pI.mk ?_))
  refine r_iload_n (pc := 4) dX9_take_4 rfl 1 rfl ?_
  refine r_icmp_eq (pc := 5) dX9_take_5 rfl (fun hc2 => ?_) (fun hc2 => ?_)
  · replace h := if_t hc2 h
    refine r_aload_n (pc := 10) dX9_take_10 rfl 0 rfl ?_
    refine r_dup (pc := 11) dX9_take_11 rfl ?_
    refine r_get (pc := 12) (j := 9) (v := .int (gi w 4 9)) oA4 cf9 flRX9_146 rfl dX9_take_12 rfl ?_
    refine r_iconst (pc := 15) dX9_take_15 ki_1 ?_
    refine r_iadd (pc := 16) dX9_take_16 ?_
    replace h := lt_e h; obtain ⟨w3, ew3, h⟩ := h
    refine r_putI (pc := 17) (j := 9) oA4 cf9 flRX9_146 rfl rfl rfl rfl dX9_take_17 ?_
    refine r_w ew3 ?_
    refine r_iconst (pc := 20) dX9_take_20 ki_1 ?_
    exact rS_z (pc := 21) (x := true) rfl dX9_take_21 h hN
  replace h := if_f hc2 h
  refine r_iconst (pc := 8) dX9_take_8 ki_0 ?_
  exact rS_z (pc := 9) (x := false) rfl dX9_take_9 h hN
theorem mX9_take {q : Gq} {l : Launch} {N : Option Value → Wd → Prop} {X : String → Wd → Prop} {a1 : Int32} {w : Wd} {x : Bool} {u : Wd} (h : fX9_take a1 w = (x, u)) (hN : N (some (.int (b2i x))) u) : Ct (GA q) l 3 yX9_take cX9_take 2 ((some .boolean)) [.ref 4, .int a1] w N X := Ct.of (by decide) (Nat.le_of_ble_eq_true rfl) (pX9_take hN h)
/-! AlgolMill$Tokens.fail ()V: S, 2 -/
theorem dX9_fail_0 : decode cX9_fail 0 = .ok (.aload_n 0, 1) := by decide +kernel
theorem dX9_fail_1 : decode cX9_fail 1 = .ok (.getfield 99, 3) := by decide +kernel
theorem dX9_fail_4 : decode cX9_fail 4 = .ok (.ifCond .ge 15, 3) := by decide +kernel
theorem dX9_fail_7 : decode cX9_fail 7 = .ok (.aload_n 0, 1) := by decide +kernel
theorem dX9_fail_8 : decode cX9_fail 8 = .ok (.aload_n 0, 1) := by decide +kernel
theorem dX9_fail_9 : decode cX9_fail 9 = .ok (.aload_n 0, 1) := by decide +kernel
theorem dX9_fail_10 : decode cX9_fail 10 = .ok (.getfield 146, 3) := by decide +kernel
theorem dX9_fail_13 : decode cX9_fail 13 = .ok (.invokevirtual 158, 3) := by decide +kernel
theorem dX9_fail_16 : decode cX9_fail 16 = .ok (.putfield 99, 3) := by decide +kernel
theorem dX9_fail_19 : decode cX9_fail 19 = .ok (.aload_n 0, 1) := by decide +kernel
theorem dX9_fail_20 : decode cX9_fail 20 = .ok (.aload_n 0, 1) := by decide +kernel
theorem dX9_fail_21 : decode cX9_fail 21 = .ok (.getfield 89, 3) := by decide +kernel
theorem dX9_fail_24 : decode cX9_fail 24 = .ok (.iconst 1, 1) := by decide +kernel
theorem dX9_fail_25 : decode cX9_fail 25 = .ok (.isub, 1) := by decide +kernel
theorem dX9_fail_26 : decode cX9_fail 26 = .ok (.putfield 146, 3) := by decide +kernel
theorem dX9_fail_29 : decode cX9_fail 29 = .ok (.return_, 1) := by decide +kernel
def fX9_fail (w : Wd) : Wd :=
  if 0 ≤ (gi w 4 10) then (lt (si w 4 9 ((gi w 4 8) - 1)) fun w2 => w2) else (lt (fX9_where (gi w 4 9) w) fun x3 => lt (si w 4 10 x3) fun w4 => lt (si w4 4 9 ((gi w4 4 8) - 1)) fun w5 => w5)
theorem pX9_fail {q : Gq} {l : Launch} {N : Option Value → Wd → Prop} {X : String → Wd → Prop} {w : Wd} {R : Wd} (hN : N none R) (h : fX9_fail w = R) : RT (GA q) l 2 yX9_fail cX9_fail 1 (none) N X 0 [] [(0, .ref 4)] w := by
  unfold fX9_fail at h
  refine r_aload_n (pc := 0) dX9_fail_0 rfl 0 rfl ?_
  refine r_get (pc := 1) (j := 10) (v := .int (gi w 4 10)) oA4 cf9 flRX9_99 rfl dX9_fail_1 rfl ?_
  refine r_if_ge (pc := 4) dX9_fail_4 rfl (fun hc1 => ?_) (fun hc1 => ?_)
  · replace h := if_t hc1 h
    refine r_aload_n (pc := 19) dX9_fail_19 rfl 0 rfl ?_
    refine r_aload_n (pc := 20) dX9_fail_20 rfl 0 rfl ?_
    refine r_get (pc := 21) (j := 8) (v := .int (gi w 4 8)) oA4 cf9 flRX9_89 rfl dX9_fail_21 rfl ?_
    refine r_iconst (pc := 24) dX9_fail_24 ki_1 ?_
    refine r_isub (pc := 25) dX9_fail_25 ?_
    replace h := lt_e h; obtain ⟨w2, ew2, h⟩ := h
    refine r_putI (pc := 26) (j := 9) oA4 cf9 flRX9_146 rfl rfl rfl rfl dX9_fail_26 ?_
    refine r_w ew2 ?_
    exact rS_v (pc := 29) rfl dX9_fail_29 h hN
  replace h := if_f hc1 h
  refine r_aload_n (pc := 7) dX9_fail_7 rfl 0 rfl ?_
  refine r_aload_n (pc := 8) dX9_fail_8 rfl 0 rfl ?_
  refine r_aload_n (pc := 9) dX9_fail_9 rfl 0 rfl ?_
  refine r_get (pc := 10) (j := 9) (v := .int (gi w 4 9)) oA4 cf9 flRX9_146 rfl dX9_fail_10 rfl ?_
  replace h := lt_e h; obtain ⟨x3, ex3, h⟩ := h
  refine r_cVi (pc := 13) wyX9_where oA4 rfl mlRX9_158 iyX9_where syX9_where ⟨(Nat.le_of_ble_eq_true rfl), (Nat.le_of_ble_eq_true rfl)⟩ rfl rfl (Nat.le_of_ble_eq_true rfl) dX9_fail_13 (mX9_where ex3 (pI.mk ?_))
  replace h := lt_e h; obtain ⟨w4, ew4, h⟩ := h
  refine r_putI (pc := 16) (j := 10) oA4 cf9 flRX9_99 rfl rfl rfl rfl dX9_fail_16 ?_
  refine r_w ew4 ?_
  refine r_aload_n (pc := 19) dX9_fail_19 rfl 0 rfl ?_
  refine r_aload_n (pc := 20) dX9_fail_20 rfl 0 rfl ?_
  refine r_get (pc := 21) (j := 8) (v := .int (gi w4 4 8)) oA4 cf9 flRX9_89 rfl dX9_fail_21 rfl ?_
  refine r_iconst (pc := 24) dX9_fail_24 ki_1 ?_
  refine r_isub (pc := 25) dX9_fail_25 ?_
  replace h := lt_e h; obtain ⟨w5, ew5, h⟩ := h
  refine r_putI (pc := 26) (j := 9) oA4 cf9 flRX9_146 rfl rfl rfl rfl dX9_fail_26 ?_
  refine r_w ew5 ?_
  exact rS_v (pc := 29) rfl dX9_fail_29 h hN
theorem mX9_fail {q : Gq} {l : Launch} {N : Option Value → Wd → Prop} {X : String → Wd → Prop} {w : Wd} {u : Wd} (h : fX9_fail w = u) (hN : N none u) : Ct (GA q) l 2 yX9_fail cX9_fail 1 (none) [.ref 4] w N X := Ct.of (by decide) (Nat.le_of_ble_eq_true rfl) (pX9_fail hN h)
/-! AlgolMill$Tokens.need (I)V: S, 4 -/
theorem dX9_need_0 : decode cX9_need 0 = .ok (.aload_n 0, 1) := by decide +kernel
theorem dX9_need_1 : decode cX9_need 1 = .ok (.iload_n 1, 1) := by decide +kernel
theorem dX9_need_2 : decode cX9_need 2 = .ok (.invokevirtual 152, 3) := by decide +kernel
theorem dX9_need_5 : decode cX9_need 5 = .ok (.ifCond .ne 7, 3) := by decide +kernel
theorem dX9_need_8 : decode cX9_need 8 = .ok (.aload_n 0, 1) := by decide +kernel
theorem dX9_need_9 : decode cX9_need 9 = .ok (.invokevirtual 155, 3) := by decide +kernel
theorem dX9_need_12 : decode cX9_need 12 = .ok (.return_, 1) := by decide +kernel
def fX9_need (a1 : Int32) (w : Wd) : Wd :=
  lt2 (fX9_take a1 w) fun x1 w2 => if x1 = true then (w2) else (lt (fX9_fail w2) fun w4 => w4)
theorem pX9_need {q : Gq} {l : Launch} {N : Option Value → Wd → Prop} {X : String → Wd → Prop} {w : Wd} {R : Wd} (hN : N none R) {a1 : Int32} (h : fX9_need a1 w = R) : RT (GA q) l 4 yX9_need cX9_need 2 (none) N X 0 [] [(0, .ref 4), (1, .int a1)] w := by
  unfold fX9_need at h
  refine r_aload_n (pc := 0) dX9_need_0 rfl 0 rfl ?_
  refine r_iload_n (pc := 1) dX9_need_1 rfl 1 rfl ?_
  replace h := lt2_e h; obtain ⟨x1, w2, ew2, h⟩ := h
  refine r_cVi (pc := 2) wyX9_take oA4 rfl mlRX9_152 iyX9_take syX9_take ⟨(Nat.le_of_ble_eq_true rfl), (Nat.le_of_ble_eq_true rfl)⟩ rfl rfl (Nat.le_of_ble_eq_true rfl) dX9_need_2 (mX9_take ew2 (pI.mk ?_))
  refine r_z_ne (pc := 5) dX9_need_5 rfl (fun hc3 => ?_) (fun hc3 => ?_)
  · replace h := if_t hc3 h
    exact rS_v (pc := 12) rfl dX9_need_12 h hN
  replace h := if_f hc3 h
  refine r_aload_n (pc := 8) dX9_need_8 rfl 0 rfl ?_
  replace h := lt_e h; obtain ⟨w4, ew4, h⟩ := h
  refine r_cVv (pc := 9) wyX9_fail oA4 rfl mlRX9_155 iyX9_fail syX9_fail ⟨(Nat.le_of_ble_eq_true rfl), (Nat.le_of_ble_eq_true rfl)⟩ rfl rfl (Nat.le_of_ble_eq_true rfl) dX9_need_9 (mX9_fail ew4 (pV.mk ?_))
  exact rS_v (pc := 12) rfl dX9_need_12 h hN
theorem mX9_need {q : Gq} {l : Launch} {N : Option Value → Wd → Prop} {X : String → Wd → Prop} {a1 : Int32} {w : Wd} {u : Wd} (h : fX9_need a1 w = u) (hN : N none u) : Ct (GA q) l 4 yX9_need cX9_need 2 (none) [.ref 4, .int a1] w N X := Ct.of (by decide) (Nat.le_of_ble_eq_true rfl) (pX9_need hN h)
/-! AlgolMill$Tokens.failed ()Z: P, 0 -/
theorem dX9_failed_0 : decode cX9_failed 0 = .ok (.aload_n 0, 1) := by decide +kernel
theorem dX9_failed_1 : decode cX9_failed 1 = .ok (.getfield 99, 3) := by decide +kernel
theorem dX9_failed_4 : decode cX9_failed 4 = .ok (.ifCond .lt 7, 3) := by decide +kernel
theorem dX9_failed_7 : decode cX9_failed 7 = .ok (.iconst 1, 1) := by decide +kernel
theorem dX9_failed_8 : decode cX9_failed 8 = .ok (.goto 4, 3) := by decide +kernel
theorem dX9_failed_11 : decode cX9_failed 11 = .ok (.iconst 0, 1) := by decide +kernel
theorem dX9_failed_12 : decode cX9_failed 12 = .ok (.ireturn, 1) := by decide +kernel
def fX9_failed (w : Wd) : Bool :=
  if (gi w 4 10) < 0 then (false) else (true)
theorem pX9_failed {q : Gq} {l : Launch} {N : Option Value → Wd → Prop} {X : String → Wd → Prop} {w : Wd} {R : Bool} (hN : N (some (.int (b2i R))) w) (h : fX9_failed w = R) : RT (GA q) l 0 yX9_failed cX9_failed 1 ((some .boolean)) N X 0 [] [(0, .ref 4)] w := by
  unfold fX9_failed at h
  refine r_aload_n (pc := 0) dX9_failed_0 rfl 0 rfl ?_
  refine r_get (pc := 1) (j := 10) (v := .int (gi w 4 10)) oA4 cf9 flRX9_99 rfl dX9_failed_1 rfl ?_
  refine r_if_lt (pc := 4) dX9_failed_4 rfl (fun hc1 => ?_) (fun hc1 => ?_)
  · replace h := if_t hc1 h
    refine r_iconst (pc := 11) dX9_failed_11 ki_0 ?_
    exact rP_z (pc := 12) (x := false) rfl dX9_failed_12 h hN
  replace h := if_f hc1 h
  refine r_iconst (pc := 7) dX9_failed_7 ki_1 ?_
  refine r_goto (pc := 8) dX9_failed_8 rfl ?_
  exact rP_z (pc := 12) (x := true) rfl dX9_failed_12 h hN
theorem mX9_failed {q : Gq} {l : Launch} {N : Option Value → Wd → Prop} {X : String → Wd → Prop} {w : Wd} {x : Bool} (h : fX9_failed w = x) (hN : N (some (.int (b2i x))) w) : Ct (GA q) l 0 yX9_failed cX9_failed 1 ((some .boolean)) [.ref 4] w N X := Ct.of (by decide) (Nat.le_of_ble_eq_true rfl) (pX9_failed hN h)
/-! AlgolMill$Tokens.failedAt ()I: P, 0 -/
theorem dX9_failedAt_0 : decode cX9_failedAt 0 = .ok (.aload_n 0, 1) := by decide +kernel
theorem dX9_failedAt_1 : decode cX9_failedAt 1 = .ok (.getfield 99, 3) := by decide +kernel
theorem dX9_failedAt_4 : decode cX9_failedAt 4 = .ok (.ireturn, 1) := by decide +kernel
def fX9_failedAt (w : Wd) : Int32 :=
  (gi w 4 10)
theorem pX9_failedAt {q : Gq} {l : Launch} {N : Option Value → Wd → Prop} {X : String → Wd → Prop} {w : Wd} {R : Int32} (hN : N (some (.int R)) w) (h : fX9_failedAt w = R) : RT (GA q) l 0 yX9_failedAt cX9_failedAt 1 ((some .int)) N X 0 [] [(0, .ref 4)] w := by
  unfold fX9_failedAt at h
  refine r_aload_n (pc := 0) dX9_failedAt_0 rfl 0 rfl ?_
  refine r_get (pc := 1) (j := 10) (v := .int (gi w 4 10)) oA4 cf9 flRX9_99 rfl dX9_failedAt_1 rfl ?_
  exact rP_i (pc := 4) rfl dX9_failedAt_4 h hN
theorem mX9_failedAt {q : Gq} {l : Launch} {N : Option Value → Wd → Prop} {X : String → Wd → Prop} {w : Wd} {x : Int32} (h : fX9_failedAt w = x) (hN : N (some (.int x)) w) : Ct (GA q) l 0 yX9_failedAt cX9_failedAt 1 ((some .int)) [.ref 4] w N X := Ct.of (by decide) (Nat.le_of_ble_eq_true rfl) (pX9_failedAt hN h)
/-! AlgolMill$Tokens.open (I)I: S, 3 -/
theorem dX9_open_0 : decode cX9_open 0 = .ok (.aload_n 0, 1) := by decide +kernel
theorem dX9_open_1 : decode cX9_open 1 = .ok (.invokevirtual 149, 3) := by decide +kernel
theorem dX9_open_4 : decode cX9_open 4 = .ok (.iconst 4, 1) := by decide +kernel
theorem dX9_open_5 : decode cX9_open 5 = .ok (.if_icmp .ne 7, 3) := by decide +kernel
theorem dX9_open_8 : decode cX9_open 8 = .ok (.iconst 1, 1) := by decide +kernel
theorem dX9_open_9 : decode cX9_open 9 = .ok (.goto 4, 3) := by decide +kernel
theorem dX9_open_12 : decode cX9_open 12 = .ok (.iconst 0, 1) := by decide +kernel
theorem dX9_open_13 : decode cX9_open 13 = .ok (.istore_n 2, 1) := by decide +kernel
theorem dX9_open_14 : decode cX9_open 14 = .ok (.aload_n 0, 1) := by decide +kernel
theorem dX9_open_15 : decode cX9_open 15 = .ok (.dup, 1) := by decide +kernel
theorem dX9_open_16 : decode cX9_open 16 = .ok (.getfield 146, 3) := by decide +kernel
theorem dX9_open_19 : decode cX9_open 19 = .ok (.iconst 1, 1) := by decide +kernel
theorem dX9_open_20 : decode cX9_open 20 = .ok (.iadd, 1) := by decide +kernel
theorem dX9_open_21 : decode cX9_open 21 = .ok (.putfield 146, 3) := by decide +kernel
theorem dX9_open_24 : decode cX9_open 24 = .ok (.iload_n 1, 1) := by decide +kernel
theorem dX9_open_25 : decode cX9_open 25 = .ok (.bipush 40, 2) := by decide +kernel
theorem dX9_open_27 : decode cX9_open 27 = .ok (.if_icmp .lt 19, 3) := by decide +kernel
theorem dX9_open_30 : decode cX9_open 30 = .ok (.iload_n 2, 1) := by decide +kernel
theorem dX9_open_31 : decode cX9_open 31 = .ok (.ifCond .eq 11, 3) := by decide +kernel
theorem dX9_open_34 : decode cX9_open 34 = .ok (.aload_n 0, 1) := by decide +kernel
theorem dX9_open_35 : decode cX9_open 35 = .ok (.invokevirtual 149, 3) := by decide +kernel
theorem dX9_open_38 : decode cX9_open 38 = .ok (.iconst 5, 1) := by decide +kernel
theorem dX9_open_39 : decode cX9_open 39 = .ok (.if_icmp .eq 7, 3) := by decide +kernel
theorem dX9_open_42 : decode cX9_open 42 = .ok (.aload_n 0, 1) := by decide +kernel
theorem dX9_open_43 : decode cX9_open 43 = .ok (.invokevirtual 155, 3) := by decide +kernel
theorem dX9_open_46 : decode cX9_open 46 = .ok (.iload_n 1, 1) := by decide +kernel
theorem dX9_open_47 : decode cX9_open 47 = .ok (.iconst 1, 1) := by decide +kernel
theorem dX9_open_48 : decode cX9_open 48 = .ok (.iadd, 1) := by decide +kernel
theorem dX9_open_49 : decode cX9_open 49 = .ok (.ireturn, 1) := by decide +kernel
def fX9_open_13 (s0 : Bool) (a1 : Int32) (w : Wd) : Int32 × Wd :=
  lt (si w 4 9 ((gi w 4 9) + 1)) fun w1 => if a1 < 40 then (((a1 + 1), w1)) else (if s0 = true then (lt (fX9_kind w1) fun x4 => if x4 = 5 then (((a1 + 1), w1)) else (lt (fX9_fail w1) fun w6 => ((a1 + 1), w6))) else (lt (fX9_fail w1) fun w7 => ((a1 + 1), w7)))
theorem pX9_open_13 {q : Gq} {l : Launch} {N : Option Value → Wd → Prop} {X : String → Wd → Prop} {w : Wd} {R : Int32 × Wd} (hN : N (some (.int R.1)) R.2) {s0 : Bool} {a1 : Int32} (h : fX9_open_13 s0 a1 w = R) : RT (GA q) l 3 yX9_open cX9_open 3 ((some .int)) N X 13 [.int (b2i s0)] [(0, .ref 4), (1, .int a1)] w := by
  unfold fX9_open_13 at h
  refine r_istore_n (pc := 13) (loc' := [(2, .int (b2i s0)), (0, .ref 4), (1, .int a1)]) dX9_open_13 rfl (Nat.le_of_ble_eq_true rfl) rfl ?_
  refine r_aload_n (pc := 14) dX9_open_14 rfl 1 rfl ?_
  refine r_dup (pc := 15) dX9_open_15 rfl ?_
  refine r_get (pc := 16) (j := 9) (v := .int (gi w 4 9)) oA4 cf9 flRX9_146 rfl dX9_open_16 rfl ?_
  refine r_iconst (pc := 19) dX9_open_19 ki_1 ?_
  refine r_iadd (pc := 20) dX9_open_20 ?_
  replace h := lt_e h; obtain ⟨w1, ew1, h⟩ := h
  refine r_putI (pc := 21) (j := 9) oA4 cf9 flRX9_146 rfl rfl rfl rfl dX9_open_21 ?_
  refine r_w ew1 ?_
  refine r_iload_n (pc := 24) dX9_open_24 rfl 2 rfl ?_
  refine r_bipush (pc := 25) dX9_open_25 kb_40 ?_
  refine r_icmp_lt (pc := 27) dX9_open_27 rfl (fun hc2 => ?_) (fun hc2 => ?_)
  · replace h := if_t hc2 h
    refine r_iload_n (pc := 46) dX9_open_46 rfl 2 rfl ?_
    refine r_iconst (pc := 47) dX9_open_47 ki_1 ?_
    refine r_iadd (pc := 48) dX9_open_48 ?_
    exact rS_i (pc := 49) rfl dX9_open_49 h hN
  replace h := if_f hc2 h
  refine r_iload_n (pc := 30) dX9_open_30 rfl 0 rfl ?_
  refine r_z_eq (pc := 31) dX9_open_31 rfl (fun hc3 => ?_) (fun hc3 => ?_)
  · replace h := if_f hc3 h
    refine r_aload_n (pc := 42) dX9_open_42 rfl 1 rfl ?_
    replace h := lt_e h; obtain ⟨w7, ew7, h⟩ := h
    refine r_cVv (pc := 43) wyX9_fail oA4 rfl mlRX9_155 iyX9_fail syX9_fail ⟨(Nat.le_of_ble_eq_true rfl), (Nat.le_of_ble_eq_true rfl)⟩ rfl rfl (Nat.le_of_ble_eq_true rfl) dX9_open_43 (mX9_fail ew7 (pV.mk ?_))
    refine r_iload_n (pc := 46) dX9_open_46 rfl 2 rfl ?_
    refine r_iconst (pc := 47) dX9_open_47 ki_1 ?_
    refine r_iadd (pc := 48) dX9_open_48 ?_
    exact rS_i (pc := 49) rfl dX9_open_49 h hN
  replace h := if_t hc3 h
  refine r_aload_n (pc := 34) dX9_open_34 rfl 1 rfl ?_
  replace h := lt_e h; obtain ⟨x4, ex4, h⟩ := h
  refine r_cVi (pc := 35) wyX9_kind oA4 rfl mlRX9_149 iyX9_kind syX9_kind ⟨(Nat.le_of_ble_eq_true rfl), (Nat.le_of_ble_eq_true rfl)⟩ rfl rfl (Nat.le_of_ble_eq_true rfl) dX9_open_35 (mX9_kind ex4 (pI.mk ?_))
  refine r_iconst (pc := 38) dX9_open_38 ki_5 ?_
  refine r_icmp_eq (pc := 39) dX9_open_39 rfl (fun hc5 => ?_) (fun hc5 => ?_)
  · replace h := if_t hc5 h
    refine r_iload_n (pc := 46) dX9_open_46 rfl 2 rfl ?_
    refine r_iconst (pc := 47) dX9_open_47 ki_1 ?_
    refine r_iadd (pc := 48) dX9_open_48 ?_
    exact rS_i (pc := 49) rfl dX9_open_49 h hN
  replace h := if_f hc5 h
  refine r_aload_n (pc := 42) dX9_open_42 rfl 1 rfl ?_
  replace h := lt_e h; obtain ⟨w6, ew6, h⟩ := h
  refine r_cVv (pc := 43) wyX9_fail oA4 rfl mlRX9_155 iyX9_fail syX9_fail ⟨(Nat.le_of_ble_eq_true rfl), (Nat.le_of_ble_eq_true rfl)⟩ rfl rfl (Nat.le_of_ble_eq_true rfl) dX9_open_43 (mX9_fail ew6 (pV.mk ?_))
  refine r_iload_n (pc := 46) dX9_open_46 rfl 2 rfl ?_
  refine r_iconst (pc := 47) dX9_open_47 ki_1 ?_
  refine r_iadd (pc := 48) dX9_open_48 ?_
  exact rS_i (pc := 49) rfl dX9_open_49 h hN
def fX9_open (a1 : Int32) (w : Wd) : Int32 × Wd :=
  lt (fX9_kind w) fun x1 => if x1 = 4 then (fX9_open_13 true a1 w) else (fX9_open_13 false a1 w)
theorem pX9_open {q : Gq} {l : Launch} {N : Option Value → Wd → Prop} {X : String → Wd → Prop} {w : Wd} {R : Int32 × Wd} (hN : N (some (.int R.1)) R.2) {a1 : Int32} (h : fX9_open a1 w = R) : RT (GA q) l 3 yX9_open cX9_open 3 ((some .int)) N X 0 [] [(0, .ref 4), (1, .int a1)] w := by
  unfold fX9_open at h
  refine r_aload_n (pc := 0) dX9_open_0 rfl 0 rfl ?_
  replace h := lt_e h; obtain ⟨x1, ex1, h⟩ := h
  refine r_cVi (pc := 1) wyX9_kind oA4 rfl mlRX9_149 iyX9_kind syX9_kind ⟨(Nat.le_of_ble_eq_true rfl), (Nat.le_of_ble_eq_true rfl)⟩ rfl rfl (Nat.le_of_ble_eq_true rfl) dX9_open_1 (mX9_kind ex1 (pI.mk ?_))
  refine r_iconst (pc := 4) dX9_open_4 ki_4 ?_
  refine r_icmp_ne (pc := 5) dX9_open_5 rfl (fun hc2 => ?_) (fun hc2 => ?_)
  · replace h := if_f hc2 h
    refine r_iconst (pc := 12) dX9_open_12 ki_0 ?_
    exact pX9_open_13 hN h
  replace h := if_t hc2 h
  refine r_iconst (pc := 8) dX9_open_8 ki_1 ?_
  refine r_goto (pc := 9) dX9_open_9 rfl ?_
  exact pX9_open_13 hN h
theorem mX9_open {q : Gq} {l : Launch} {N : Option Value → Wd → Prop} {X : String → Wd → Prop} {a1 : Int32} {w : Wd} {x : Int32} {u : Wd} (h : fX9_open a1 w = (x, u)) (hN : N (some (.int x)) u) : Ct (GA q) l 3 yX9_open cX9_open 3 ((some .int)) [.ref 4, .int a1] w N X := Ct.of (by decide) (Nat.le_of_ble_eq_true rfl) (pX9_open hN h)
/-! AlgolMill$Tokens.form (IIZ)V: S, 1 -/
theorem dX9_form_0 : decode cX9_form 0 = .ok (.aload_n 0, 1) := by decide +kernel
theorem dX9_form_1 : decode cX9_form 1 = .ok (.getfield 22, 3) := by decide +kernel
theorem dX9_form_4 : decode cX9_form 4 = .ok (.iload_n 1, 1) := by decide +kernel
theorem dX9_form_5 : decode cX9_form 5 = .ok (.iload_n 2, 1) := by decide +kernel
theorem dX9_form_6 : decode cX9_form 6 = .ok (.invokestatic 102, 3) := by decide +kernel
theorem dX9_form_9 : decode cX9_form 9 = .ok (.aload_n 0, 1) := by decide +kernel
theorem dX9_form_10 : decode cX9_form 10 = .ok (.getfield 25, 3) := by decide +kernel
theorem dX9_form_13 : decode cX9_form 13 = .ok (.iload_n 1, 1) := by decide +kernel
theorem dX9_form_14 : decode cX9_form 14 = .ok (.iload_n 3, 1) := by decide +kernel
theorem dX9_form_15 : decode cX9_form 15 = .ok (.ifCond .eq 7, 3) := by decide +kernel
theorem dX9_form_18 : decode cX9_form 18 = .ok (.iconst 1, 1) := by decide +kernel
theorem dX9_form_19 : decode cX9_form 19 = .ok (.goto 4, 3) := by decide +kernel
theorem dX9_form_22 : decode cX9_form 22 = .ok (.iconst 0, 1) := by decide +kernel
theorem dX9_form_23 : decode cX9_form 23 = .ok (.invokestatic 102, 3) := by decide +kernel
theorem dX9_form_26 : decode cX9_form 26 = .ok (.aload_n 0, 1) := by decide +kernel
theorem dX9_form_27 : decode cX9_form 27 = .ok (.getfield 28, 3) := by decide +kernel
theorem dX9_form_30 : decode cX9_form 30 = .ok (.iload_n 1, 1) := by decide +kernel
theorem dX9_form_31 : decode cX9_form 31 = .ok (.aload_n 0, 1) := by decide +kernel
theorem dX9_form_32 : decode cX9_form 32 = .ok (.getfield 146, 3) := by decide +kernel
theorem dX9_form_35 : decode cX9_form 35 = .ok (.invokestatic 102, 3) := by decide +kernel
theorem dX9_form_38 : decode cX9_form 38 = .ok (.return_, 1) := by decide +kernel
def fX9_form_23 (s1 : Int32) (s2 : Bool) (a1 : Int32) (w : Wd) : Wd :=
  lt (rsi w 9 8193 s1 (b2i s2)) fun w1 => lt (rsi w1 10 8193 a1 (gi w1 4 9)) fun w2 => w2
theorem pX9_form_23 {q : Gq} {l : Launch} {N : Option Value → Wd → Prop} {X : String → Wd → Prop} {w : Wd} {R : Wd} (hN : N none R) {s1 : Int32} {s2 : Bool} {a1 : Int32} (h : fX9_form_23 s1 s2 a1 w = R) : RT (GA q) l 1 yX9_form cX9_form 4 (none) N X 23 [.int (b2i s2), .int s1, .ref 9] [(0, .ref 4), (1, .int a1)] w := by
  unfold fX9_form_23 at h
  replace h := lt_e h; obtain ⟨w1, ew1, h⟩ := h
  refine r_cSv (pc := 23) wyX6_set mlRX9_102 tyX6_set ⟨(Nat.le_of_ble_eq_true rfl), (Nat.le_of_ble_eq_true rfl)⟩ rfl rfl (Nat.le_of_ble_eq_true rfl) dX9_form_23 (mX6_set aA9 (Nat.le_of_ble_eq_true rfl) ew1 (pV.mk ?_))
  refine r_aload_n (pc := 26) dX9_form_26 rfl 0 rfl ?_
  refine r_get (pc := 27) (j := 5) (v := .ref 10) oA4 cf9 flRX9_28 rfl dX9_form_27 rfl ?_
  refine r_iload_n (pc := 30) dX9_form_30 rfl 1 rfl ?_
  refine r_aload_n (pc := 31) dX9_form_31 rfl 0 rfl ?_
  refine r_get (pc := 32) (j := 9) (v := .int (gi w1 4 9)) oA4 cf9 flRX9_146 rfl dX9_form_32 rfl ?_
  replace h := lt_e h; obtain ⟨w2, ew2, h⟩ := h
  refine r_cSv (pc := 35) wyX6_set mlRX9_102 tyX6_set ⟨(Nat.le_of_ble_eq_true rfl), (Nat.le_of_ble_eq_true rfl)⟩ rfl rfl (Nat.le_of_ble_eq_true rfl) dX9_form_35 (mX6_set aA10 (Nat.le_of_ble_eq_true rfl) ew2 (pV.mk ?_))
  exact rS_v (pc := 38) rfl dX9_form_38 h hN
def fX9_form (a1 : Int32) (a2 : Int32) (a3 : Bool) (w : Wd) : Wd :=
  lt (rsi w 8 8193 a1 a2) fun w1 => if a3 = true then (fX9_form_23 a1 true a1 w1) else (fX9_form_23 a1 false a1 w1)
theorem pX9_form {q : Gq} {l : Launch} {N : Option Value → Wd → Prop} {X : String → Wd → Prop} {w : Wd} {R : Wd} (hN : N none R) {a1 : Int32} {a2 : Int32} {a3 : Bool} (h : fX9_form a1 a2 a3 w = R) : RT (GA q) l 1 yX9_form cX9_form 4 (none) N X 0 [] [(0, .ref 4), (1, .int a1), (2, .int a2), (3, .int (b2i a3))] w := by
  unfold fX9_form at h
  refine r_aload_n (pc := 0) dX9_form_0 rfl 0 rfl ?_
  refine r_get (pc := 1) (j := 3) (v := .ref 8) oA4 cf9 flRX9_22 rfl dX9_form_1 rfl ?_
  refine r_iload_n (pc := 4) dX9_form_4 rfl 1 rfl ?_
  refine r_iload_n (pc := 5) dX9_form_5 rfl 2 rfl ?_
  replace h := lt_e h; obtain ⟨w1, ew1, h⟩ := h
  refine r_cSv (pc := 6) wyX6_set mlRX9_102 tyX6_set ⟨(Nat.le_of_ble_eq_true rfl), (Nat.le_of_ble_eq_true rfl)⟩ rfl rfl (Nat.le_of_ble_eq_true rfl) dX9_form_6 (mX6_set aA8 (Nat.le_of_ble_eq_true rfl) ew1 (pV.mk ?_))
  refine r_aload_n (pc := 9) dX9_form_9 rfl 0 rfl ?_
  refine r_get (pc := 10) (j := 4) (v := .ref 9) oA4 cf9 flRX9_25 rfl dX9_form_10 rfl ?_
  refine r_iload_n (pc := 13) dX9_form_13 rfl 1 rfl ?_
  refine r_iload_n (pc := 14) dX9_form_14 rfl 3 rfl ?_
  refine r_z_eq (pc := 15) dX9_form_15 rfl (fun hc2 => ?_) (fun hc2 => ?_)
  · replace h := if_f hc2 h
    refine r_iconst (pc := 22) dX9_form_22 ki_0 ?_
    refine r_drop (loc' := [(0, .ref 4), (1, .int a1)]) [0, 1] rfl ?_
    exact pX9_form_23 hN h
  replace h := if_t hc2 h
  refine r_iconst (pc := 18) dX9_form_18 ki_1 ?_
  refine r_goto (pc := 19) dX9_form_19 rfl ?_
  refine r_drop (loc' := [(0, .ref 4), (1, .int a1)]) [0, 1] rfl ?_
  exact pX9_form_23 hN h
theorem mX9_form {q : Gq} {l : Launch} {N : Option Value → Wd → Prop} {X : String → Wd → Prop} {a1 : Int32} {a2 : Int32} {a3 : Bool} {w : Wd} {u : Wd} (h : fX9_form a1 a2 a3 w = u) (hN : N none u) : Ct (GA q) l 1 yX9_form cX9_form 4 (none) [.ref 4, .int a1, .int a2, .int (b2i a3)] w N X := Ct.of (by decide) (Nat.le_of_ble_eq_true rfl) (pX9_form hN h)
/-! AlgolMill$Tokens.formAt (I)I: P, 1 -/
theorem dX9_formAt_0 : decode cX9_formAt 0 = .ok (.aload_n 0, 1) := by decide +kernel
theorem dX9_formAt_1 : decode cX9_formAt 1 = .ok (.getfield 22, 3) := by decide +kernel
theorem dX9_formAt_4 : decode cX9_formAt 4 = .ok (.iload_n 1, 1) := by decide +kernel
theorem dX9_formAt_5 : decode cX9_formAt 5 = .ok (.invokestatic 68, 3) := by decide +kernel
theorem dX9_formAt_8 : decode cX9_formAt 8 = .ok (.ireturn, 1) := by decide +kernel
def fX9_formAt (a1 : Int32) (w : Wd) : Int32 :=
  lt (rgi w 8 8193 a1) fun x1 => x1
theorem pX9_formAt {q : Gq} {l : Launch} {N : Option Value → Wd → Prop} {X : String → Wd → Prop} {w : Wd} {R : Int32} (hN : N (some (.int R)) w) {a1 : Int32} (h : fX9_formAt a1 w = R) : RT (GA q) l 1 yX9_formAt cX9_formAt 2 ((some .int)) N X 0 [] [(0, .ref 4), (1, .int a1)] w := by
  unfold fX9_formAt at h
  refine r_aload_n (pc := 0) dX9_formAt_0 rfl 0 rfl ?_
  refine r_get (pc := 1) (j := 3) (v := .ref 8) oA4 cf9 flRX9_22 rfl dX9_formAt_1 rfl ?_
  refine r_iload_n (pc := 4) dX9_formAt_4 rfl 1 rfl ?_
  replace h := lt_e h; obtain ⟨x1, ex1, h⟩ := h
  refine r_cSi (pc := 5) wyX6_get mlRX9_68 tyX6_get ⟨(Nat.le_of_ble_eq_true rfl), (Nat.le_of_ble_eq_true rfl)⟩ rfl rfl (Nat.le_of_ble_eq_true rfl) dX9_formAt_5 (mX6_get aA8 (Nat.le_of_ble_eq_true rfl) ex1 (pI.mk ?_))
  exact rP_i (pc := 8) rfl dX9_formAt_8 h hN
theorem mX9_formAt {q : Gq} {l : Launch} {N : Option Value → Wd → Prop} {X : String → Wd → Prop} {a1 : Int32} {w : Wd} {x : Int32} (h : fX9_formAt a1 w = x) (hN : N (some (.int x)) w) : Ct (GA q) l 1 yX9_formAt cX9_formAt 2 ((some .int)) [.ref 4, .int a1] w N X := Ct.of (by decide) (Nat.le_of_ble_eq_true rfl) (pX9_formAt hN h)
/-! AlgolMill$Tokens.endOf (I)I: P, 1 -/
theorem dX9_endOf_0 : decode cX9_endOf 0 = .ok (.aload_n 0, 1) := by decide +kernel
theorem dX9_endOf_1 : decode cX9_endOf 1 = .ok (.getfield 28, 3) := by decide +kernel
theorem dX9_endOf_4 : decode cX9_endOf 4 = .ok (.iload_n 1, 1) := by decide +kernel
theorem dX9_endOf_5 : decode cX9_endOf 5 = .ok (.invokestatic 68, 3) := by decide +kernel
theorem dX9_endOf_8 : decode cX9_endOf 8 = .ok (.ireturn, 1) := by decide +kernel
def fX9_endOf (a1 : Int32) (w : Wd) : Int32 :=
  lt (rgi w 10 8193 a1) fun x1 => x1
theorem pX9_endOf {q : Gq} {l : Launch} {N : Option Value → Wd → Prop} {X : String → Wd → Prop} {w : Wd} {R : Int32} (hN : N (some (.int R)) w) {a1 : Int32} (h : fX9_endOf a1 w = R) : RT (GA q) l 1 yX9_endOf cX9_endOf 2 ((some .int)) N X 0 [] [(0, .ref 4), (1, .int a1)] w := by
  unfold fX9_endOf at h
  refine r_aload_n (pc := 0) dX9_endOf_0 rfl 0 rfl ?_
  refine r_get (pc := 1) (j := 5) (v := .ref 10) oA4 cf9 flRX9_28 rfl dX9_endOf_1 rfl ?_
  refine r_iload_n (pc := 4) dX9_endOf_4 rfl 1 rfl ?_
  replace h := lt_e h; obtain ⟨x1, ex1, h⟩ := h
  refine r_cSi (pc := 5) wyX6_get mlRX9_68 tyX6_get ⟨(Nat.le_of_ble_eq_true rfl), (Nat.le_of_ble_eq_true rfl)⟩ rfl rfl (Nat.le_of_ble_eq_true rfl) dX9_endOf_5 (mX6_get aA10 (Nat.le_of_ble_eq_true rfl) ex1 (pI.mk ?_))
  exact rP_i (pc := 8) rfl dX9_endOf_8 h hN
theorem mX9_endOf {q : Gq} {l : Launch} {N : Option Value → Wd → Prop} {X : String → Wd → Prop} {a1 : Int32} {w : Wd} {x : Int32} (h : fX9_endOf a1 w = x) (hN : N (some (.int x)) w) : Ct (GA q) l 1 yX9_endOf cX9_endOf 2 ((some .int)) [.ref 4, .int a1] w N X := Ct.of (by decide) (Nat.le_of_ble_eq_true rfl) (pX9_endOf hN h)
/-! AlgolMill$Tokens.isAim (I)Z: P, 1 -/
theorem dX9_isAim_0 : decode cX9_isAim 0 = .ok (.aload_n 0, 1) := by decide +kernel
theorem dX9_isAim_1 : decode cX9_isAim 1 = .ok (.getfield 25, 3) := by decide +kernel
theorem dX9_isAim_4 : decode cX9_isAim 4 = .ok (.iload_n 1, 1) := by decide +kernel
theorem dX9_isAim_5 : decode cX9_isAim 5 = .ok (.invokestatic 68, 3) := by decide +kernel
theorem dX9_isAim_8 : decode cX9_isAim 8 = .ok (.ifCond .eq 7, 3) := by decide +kernel
theorem dX9_isAim_11 : decode cX9_isAim 11 = .ok (.iconst 1, 1) := by decide +kernel
theorem dX9_isAim_12 : decode cX9_isAim 12 = .ok (.goto 4, 3) := by decide +kernel
theorem dX9_isAim_15 : decode cX9_isAim 15 = .ok (.iconst 0, 1) := by decide +kernel
theorem dX9_isAim_16 : decode cX9_isAim 16 = .ok (.ireturn, 1) := by decide +kernel
def fX9_isAim (a1 : Int32) (w : Wd) : Bool :=
  lt (rgi w 9 8193 a1) fun x1 => if x1 = 0 then (false) else (true)
theorem pX9_isAim {q : Gq} {l : Launch} {N : Option Value → Wd → Prop} {X : String → Wd → Prop} {w : Wd} {R : Bool} (hN : N (some (.int (b2i R))) w) {a1 : Int32} (h : fX9_isAim a1 w = R) : RT (GA q) l 1 yX9_isAim cX9_isAim 2 ((some .boolean)) N X 0 [] [(0, .ref 4), (1, .int a1)] w := by
  unfold fX9_isAim at h
  refine r_aload_n (pc := 0) dX9_isAim_0 rfl 0 rfl ?_
  refine r_get (pc := 1) (j := 4) (v := .ref 9) oA4 cf9 flRX9_25 rfl dX9_isAim_1 rfl ?_
  refine r_iload_n (pc := 4) dX9_isAim_4 rfl 1 rfl ?_
  replace h := lt_e h; obtain ⟨x1, ex1, h⟩ := h
  refine r_cSi (pc := 5) wyX6_get mlRX9_68 tyX6_get ⟨(Nat.le_of_ble_eq_true rfl), (Nat.le_of_ble_eq_true rfl)⟩ rfl rfl (Nat.le_of_ble_eq_true rfl) dX9_isAim_5 (mX6_get aA9 (Nat.le_of_ble_eq_true rfl) ex1 (pI.mk ?_))
  refine r_if_eq (pc := 8) dX9_isAim_8 rfl (fun hc2 => ?_) (fun hc2 => ?_)
  · replace h := if_t hc2 h
    refine r_iconst (pc := 15) dX9_isAim_15 ki_0 ?_
    exact rP_z (pc := 16) (x := false) rfl dX9_isAim_16 h hN
  replace h := if_f hc2 h
  refine r_iconst (pc := 11) dX9_isAim_11 ki_1 ?_
  refine r_goto (pc := 12) dX9_isAim_12 rfl ?_
  exact rP_z (pc := 16) (x := true) rfl dX9_isAim_16 h hN
theorem mX9_isAim {q : Gq} {l : Launch} {N : Option Value → Wd → Prop} {X : String → Wd → Prop} {a1 : Int32} {w : Wd} {x : Bool} (h : fX9_isAim a1 w = x) (hN : N (some (.int (b2i x))) w) : Ct (GA q) l 1 yX9_isAim cX9_isAim 2 ((some .boolean)) [.ref 4, .int a1] w N X := Ct.of (by decide) (Nat.le_of_ble_eq_true rfl) (pX9_isAim hN h)
/-! AlgolMill$Tokens.isVariable (I)Z: P, 2 -/
theorem dX9_isVariable_0 : decode cX9_isVariable 0 = .ok (.aload_n 0, 1) := by decide +kernel
theorem dX9_isVariable_1 : decode cX9_isVariable 1 = .ok (.iload_n 1, 1) := by decide +kernel
theorem dX9_isVariable_2 : decode cX9_isVariable 2 = .ok (.invokevirtual 161, 3) := by decide +kernel
theorem dX9_isVariable_5 : decode cX9_isVariable 5 = .ok (.istore_n 2, 1) := by decide +kernel
theorem dX9_isVariable_6 : decode cX9_isVariable 6 = .ok (.iload_n 2, 1) := by decide +kernel
theorem dX9_isVariable_7 : decode cX9_isVariable 7 = .ok (.iconst 1, 1) := by decide +kernel
theorem dX9_isVariable_8 : decode cX9_isVariable 8 = .ok (.if_icmp .eq 13, 3) := by decide +kernel
theorem dX9_isVariable_11 : decode cX9_isVariable 11 = .ok (.iload_n 2, 1) := by decide +kernel
theorem dX9_isVariable_12 : decode cX9_isVariable 12 = .ok (.iconst 2, 1) := by decide +kernel
theorem dX9_isVariable_13 : decode cX9_isVariable 13 = .ok (.if_icmp .eq 8, 3) := by decide +kernel
theorem dX9_isVariable_16 : decode cX9_isVariable 16 = .ok (.iload_n 2, 1) := by decide +kernel
theorem dX9_isVariable_17 : decode cX9_isVariable 17 = .ok (.iconst 3, 1) := by decide +kernel
theorem dX9_isVariable_18 : decode cX9_isVariable 18 = .ok (.if_icmp .ne 7, 3) := by decide +kernel
theorem dX9_isVariable_21 : decode cX9_isVariable 21 = .ok (.iconst 1, 1) := by decide +kernel
theorem dX9_isVariable_22 : decode cX9_isVariable 22 = .ok (.goto 4, 3) := by decide +kernel
theorem dX9_isVariable_25 : decode cX9_isVariable 25 = .ok (.iconst 0, 1) := by decide +kernel
theorem dX9_isVariable_26 : decode cX9_isVariable 26 = .ok (.ireturn, 1) := by decide +kernel
def fX9_isVariable (a1 : Int32) (w : Wd) : Bool :=
  lt (fX9_formAt a1 w) fun x1 => if x1 = 1 then (true) else (if x1 = 2 then (true) else (if x1 = 3 then (true) else (false)))
theorem pX9_isVariable {q : Gq} {l : Launch} {N : Option Value → Wd → Prop} {X : String → Wd → Prop} {w : Wd} {R : Bool} (hN : N (some (.int (b2i R))) w) {a1 : Int32} (h : fX9_isVariable a1 w = R) : RT (GA q) l 2 yX9_isVariable cX9_isVariable 3 ((some .boolean)) N X 0 [] [(0, .ref 4), (1, .int a1)] w := by
  unfold fX9_isVariable at h
  refine r_aload_n (pc := 0) dX9_isVariable_0 rfl 0 rfl ?_
  refine r_iload_n (pc := 1) dX9_isVariable_1 rfl 1 rfl ?_
  replace h := lt_e h; obtain ⟨x1, ex1, h⟩ := h
  refine r_cVi (pc := 2) wyX9_formAt oA4 rfl mlRX9_161 iyX9_formAt syX9_formAt ⟨(Nat.le_of_ble_eq_true rfl), (Nat.le_of_ble_eq_true rfl)⟩ rfl rfl (Nat.le_of_ble_eq_true rfl) dX9_isVariable_2 (mX9_formAt ex1 (pI.mk ?_))
  refine r_istore_n (pc := 5) (loc' := [(2, .int x1), (0, .ref 4), (1, .int a1)]) dX9_isVariable_5 rfl (Nat.le_of_ble_eq_true rfl) rfl ?_
  refine r_iload_n (pc := 6) dX9_isVariable_6 rfl 0 rfl ?_
  refine r_iconst (pc := 7) dX9_isVariable_7 ki_1 ?_
  refine r_icmp_eq (pc := 8) dX9_isVariable_8 rfl (fun hc2 => ?_) (fun hc2 => ?_)
  · replace h := if_t hc2 h
    refine r_iconst (pc := 21) dX9_isVariable_21 ki_1 ?_
    refine r_goto (pc := 22) dX9_isVariable_22 rfl ?_
    exact rP_z (pc := 26) (x := true) rfl dX9_isVariable_26 h hN
  replace h := if_f hc2 h
  refine r_iload_n (pc := 11) dX9_isVariable_11 rfl 0 rfl ?_
  refine r_iconst (pc := 12) dX9_isVariable_12 ki_2 ?_
  refine r_icmp_eq (pc := 13) dX9_isVariable_13 rfl (fun hc3 => ?_) (fun hc3 => ?_)
  · replace h := if_t hc3 h
    refine r_iconst (pc := 21) dX9_isVariable_21 ki_1 ?_
    refine r_goto (pc := 22) dX9_isVariable_22 rfl ?_
    exact rP_z (pc := 26) (x := true) rfl dX9_isVariable_26 h hN
  replace h := if_f hc3 h
  refine r_iload_n (pc := 16) dX9_isVariable_16 rfl 0 rfl ?_
  refine r_iconst (pc := 17) dX9_isVariable_17 ki_3 ?_
  refine r_icmp_ne (pc := 18) dX9_isVariable_18 rfl (fun hc4 => ?_) (fun hc4 => ?_)
  · replace h := if_f hc4 h
    refine r_iconst (pc := 25) dX9_isVariable_25 ki_0 ?_
    exact rP_z (pc := 26) (x := false) rfl dX9_isVariable_26 h hN
  replace h := if_t hc4 h
  refine r_iconst (pc := 21) dX9_isVariable_21 ki_1 ?_
  refine r_goto (pc := 22) dX9_isVariable_22 rfl ?_
  exact rP_z (pc := 26) (x := true) rfl dX9_isVariable_26 h hN
theorem mX9_isVariable {q : Gq} {l : Launch} {N : Option Value → Wd → Prop} {X : String → Wd → Prop} {a1 : Int32} {w : Wd} {x : Bool} (h : fX9_isVariable a1 w = x) (hN : N (some (.int (b2i x))) w) : Ct (GA q) l 2 yX9_isVariable cX9_isVariable 3 ((some .boolean)) [.ref 4, .int a1] w N X := Ct.of (by decide) (Nat.le_of_ble_eq_true rfl) (pX9_isVariable hN h)
