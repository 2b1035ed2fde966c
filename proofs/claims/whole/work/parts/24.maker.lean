/-! Maker: those that no call leads back to -/
theorem kb_27 : (Int8.ofInt 27).toInt32 = 27 := by decide
theorem kb_35 : (Int8.ofInt 35).toInt32 = 35 := by decide
theorem kb_39 : (Int8.ofInt 39).toInt32 = 39 := by decide
theorem ks_201 : (Int16.ofInt 201).toInt32 = 201 := by decide
/-! AlgolMill$Maker.fault ()I: P, 0 -/
theorem dX4_fault_0 : decode cX4_fault 0 = .ok (.aload_n 0, 1) := by decide +kernel
theorem dX4_fault_1 : decode cX4_fault 1 = .ok (.getfield 12, 3) := by decide +kernel
theorem dX4_fault_4 : decode cX4_fault 4 = .ok (.getfield 69, 3) := by decide +kernel
theorem dX4_fault_7 : decode cX4_fault 7 = .ok (.ireturn, 1) := by decide +kernel
def fX4_fault (w : Wd) : Int32 :=
  (gi w 3 6)
theorem pX4_fault {q : Gq} {l : Launch} {N : Option Value → Wd → Prop} {X : String → Wd → Prop} {w : Wd} {R : Int32} (hN : N (some (.int R)) w) (h : fX4_fault w = R) : RT (GA q) l 0 yX4_fault cX4_fault 1 ((some .int)) N X 0 [] [(0, .ref 2)] w := by
  unfold fX4_fault at h
  refine r_aload_n (pc := 0) dX4_fault_0 rfl 0 rfl ?_
  refine r_get (pc := 1) (j := 0) (v := .ref 3) oA2 cf4 flRX4_12 rfl dX4_fault_1 rfl ?_
  refine r_get (pc := 4) (j := 6) (v := .int (gi w 3 6)) oA3 cf1 flRX4_69 rfl dX4_fault_4 rfl ?_
  exact rP_i (pc := 7) rfl dX4_fault_7 h hN
theorem mX4_fault {q : Gq} {l : Launch} {N : Option Value → Wd → Prop} {X : String → Wd → Prop} {w : Wd} {x : Int32} (h : fX4_fault w = x) (hN : N (some (.int x)) w) : Ct (GA q) l 0 yX4_fault cX4_fault 1 ((some .int)) [.ref 2] w N X := Ct.of (by decide) (Nat.le_of_ble_eq_true rfl) (pX4_fault hN h)
/-! AlgolMill$Maker.faultWhere ()I: P, 0 -/
theorem dX4_faultWhere_0 : decode cX4_faultWhere 0 = .ok (.aload_n 0, 1) := by decide +kernel
theorem dX4_faultWhere_1 : decode cX4_faultWhere 1 = .ok (.getfield 12, 3) := by decide +kernel
theorem dX4_faultWhere_4 : decode cX4_faultWhere 4 = .ok (.getfield 77, 3) := by decide +kernel
theorem dX4_faultWhere_7 : decode cX4_faultWhere 7 = .ok (.ireturn, 1) := by decide +kernel
def fX4_faultWhere (w : Wd) : Int32 :=
  (gi w 3 7)
theorem pX4_faultWhere {q : Gq} {l : Launch} {N : Option Value → Wd → Prop} {X : String → Wd → Prop} {w : Wd} {R : Int32} (hN : N (some (.int R)) w) (h : fX4_faultWhere w = R) : RT (GA q) l 0 yX4_faultWhere cX4_faultWhere 1 ((some .int)) N X 0 [] [(0, .ref 2)] w := by
  unfold fX4_faultWhere at h
  refine r_aload_n (pc := 0) dX4_faultWhere_0 rfl 0 rfl ?_
  refine r_get (pc := 1) (j := 0) (v := .ref 3) oA2 cf4 flRX4_12 rfl dX4_faultWhere_1 rfl ?_
  refine r_get (pc := 4) (j := 7) (v := .int (gi w 3 7)) oA3 cf1 flRX4_77 rfl dX4_faultWhere_4 rfl ?_
  exact rP_i (pc := 7) rfl dX4_faultWhere_7 h hN
theorem mX4_faultWhere {q : Gq} {l : Launch} {N : Option Value → Wd → Prop} {X : String → Wd → Prop} {w : Wd} {x : Int32} (h : fX4_faultWhere w = x) (hN : N (some (.int x)) w) : Ct (GA q) l 0 yX4_faultWhere cX4_faultWhere 1 ((some .int)) [.ref 2] w N X := Ct.of (by decide) (Nat.le_of_ble_eq_true rfl) (pX4_faultWhere hN h)
/-! AlgolMill$Maker.procedures ()I: P, 1 -/
theorem dX4_procedures_0 : decode cX4_procedures 0 = .ok (.aload_n 0, 1) := by decide +kernel
theorem dX4_procedures_1 : decode cX4_procedures 1 = .ok (.getfield 27, 3) := by decide +kernel
theorem dX4_procedures_4 : decode cX4_procedures 4 = .ok (.invokevirtual 80, 3) := by decide +kernel
theorem dX4_procedures_7 : decode cX4_procedures 7 = .ok (.ireturn, 1) := by decide +kernel
def fX4_procedures (w : Wd) : Int32 :=
  lt (fX8_procedures w) fun x1 => x1
theorem pX4_procedures {q : Gq} {l : Launch} {N : Option Value → Wd → Prop} {X : String → Wd → Prop} {w : Wd} {R : Int32} (hN : N (some (.int R)) w) (h : fX4_procedures w = R) : RT (GA q) l 1 yX4_procedures cX4_procedures 1 ((some .int)) N X 0 [] [(0, .ref 2)] w := by
  unfold fX4_procedures at h
  refine r_aload_n (pc := 0) dX4_procedures_0 rfl 0 rfl ?_
  refine r_get (pc := 1) (j := 2) (v := .ref 13) oA2 cf4 flRX4_27 rfl dX4_procedures_1 rfl ?_
  replace h := lt_e h; obtain ⟨x1, ex1, h⟩ := h
  refine r_cVi (pc := 4) wyX8_procedures oA13 rfl mlRX4_80 iyX8_procedures syX8_procedures ⟨(Nat.le_of_ble_eq_true rfl), (Nat.le_of_ble_eq_true rfl)⟩ rfl rfl (Nat.le_of_ble_eq_true rfl) dX4_procedures_4 (mX8_procedures ex1 (pI.mk ?_))
  exact rP_i (pc := 7) rfl dX4_procedures_7 h hN
theorem mX4_procedures {q : Gq} {l : Launch} {N : Option Value → Wd → Prop} {X : String → Wd → Prop} {w : Wd} {x : Int32} (h : fX4_procedures w = x) (hN : N (some (.int x)) w) : Ct (GA q) l 1 yX4_procedures cX4_procedures 1 ((some .int)) [.ref 2] w N X := Ct.of (by decide) (Nat.le_of_ble_eq_true rfl) (pX4_procedures hN h)
/-! AlgolMill$Maker.owns ()I: P, 1 -/
theorem dX4_owns_0 : decode cX4_owns 0 = .ok (.aload_n 0, 1) := by decide +kernel
theorem dX4_owns_1 : decode cX4_owns 1 = .ok (.getfield 27, 3) := by decide +kernel
theorem dX4_owns_4 : decode cX4_owns 4 = .ok (.invokevirtual 85, 3) := by decide +kernel
theorem dX4_owns_7 : decode cX4_owns 7 = .ok (.ireturn, 1) := by decide +kernel
def fX4_owns (w : Wd) : Int32 :=
  lt (fX8_owns w) fun x1 => x1
theorem pX4_owns {q : Gq} {l : Launch} {N : Option Value → Wd → Prop} {X : String → Wd → Prop} {w : Wd} {R : Int32} (hN : N (some (.int R)) w) (h : fX4_owns w = R) : RT (GA q) l 1 yX4_owns cX4_owns 1 ((some .int)) N X 0 [] [(0, .ref 2)] w := by
  unfold fX4_owns at h
  refine r_aload_n (pc := 0) dX4_owns_0 rfl 0 rfl ?_
  refine r_get (pc := 1) (j := 2) (v := .ref 13) oA2 cf4 flRX4_27 rfl dX4_owns_1 rfl ?_
  replace h := lt_e h; obtain ⟨x1, ex1, h⟩ := h
  refine r_cVi (pc := 4) wyX8_owns oA13 rfl mlRX4_85 iyX8_owns syX8_owns ⟨(Nat.le_of_ble_eq_true rfl), (Nat.le_of_ble_eq_true rfl)⟩ rfl rfl (Nat.le_of_ble_eq_true rfl) dX4_owns_4 (mX8_owns ex1 (pI.mk ?_))
  exact rP_i (pc := 7) rfl dX4_owns_7 h hN
theorem mX4_owns {q : Gq} {l : Launch} {N : Option Value → Wd → Prop} {X : String → Wd → Prop} {w : Wd} {x : Int32} (h : fX4_owns w = x) (hN : N (some (.int x)) w) : Ct (GA q) l 1 yX4_owns cX4_owns 1 ((some .int)) [.ref 2] w N X := Ct.of (by decide) (Nat.le_of_ble_eq_true rfl) (pX4_owns hN h)
/-! AlgolMill$Maker.code ()LAlgolMill$Code;: P, 0 -/
theorem dX4_code_0 : decode cX4_code 0 = .ok (.aload_n 0, 1) := by decide +kernel
theorem dX4_code_1 : decode cX4_code 1 = .ok (.getfield 42, 3) := by decide +kernel
theorem dX4_code_4 : decode cX4_code 4 = .ok (.areturn, 1) := by decide +kernel
theorem pX4_code {q : Gq} {l : Launch} {N : Option Value → Wd → Prop} {X : String → Wd → Prop} {w : Wd} (hN : N (some (.ref 40)) w) : RT (GA q) l 0 yX4_code cX4_code 1 ((some (.object "AlgolMill$Code"))) N X 0 [] [(0, .ref 2)] w := by
  refine r_aload_n (pc := 0) dX4_code_0 rfl 0 rfl ?_
  refine r_get (pc := 1) (j := 5) (v := .ref 40) oA2 cf4 flRX4_42 rfl dX4_code_1 rfl ?_
  exact r_areturn (pc := 4) rfl (Or.inl ⟨_, rfl⟩) dX4_code_4 hN
theorem mX4_code {q : Gq} {l : Launch} {N : Option Value → Wd → Prop} {X : String → Wd → Prop} {w : Wd} (hN : N (some (.ref 40)) w) : Ct (GA q) l 0 yX4_code cX4_code 1 ((some (.object "AlgolMill$Code"))) [.ref 2] w N X := Ct.of (by decide) (Nat.le_of_ble_eq_true rfl) (pX4_code hN )
/-! AlgolMill$Maker.head (I)I: S, 3 -/
theorem dX4_head_0 : decode cX4_head 0 = .ok (.aload_n 0, 1) := by decide +kernel
theorem dX4_head_1 : decode cX4_head 1 = .ok (.getfield 42, 3) := by decide +kernel
theorem dX4_head_4 : decode cX4_head 4 = .ok (.iload_n 1, 1) := by decide +kernel
theorem dX4_head_5 : decode cX4_head 5 = .ok (.invokevirtual 120, 3) := by decide +kernel
theorem dX4_head_8 : decode cX4_head 8 = .ok (.aload_n 0, 1) := by decide +kernel
theorem dX4_head_9 : decode cX4_head 9 = .ok (.getfield 42, 3) := by decide +kernel
theorem dX4_head_12 : decode cX4_head 12 = .ok (.aload_n 0, 1) := by decide +kernel
theorem dX4_head_13 : decode cX4_head 13 = .ok (.getfield 27, 3) := by decide +kernel
theorem dX4_head_16 : decode cX4_head 16 = .ok (.iload_n 1, 1) := by decide +kernel
theorem dX4_head_17 : decode cX4_head 17 = .ok (.invokevirtual 123, 3) := by decide +kernel
theorem dX4_head_20 : decode cX4_head 20 = .ok (.i2l, 1) := by decide +kernel
theorem dX4_head_21 : decode cX4_head 21 = .ok (.invokevirtual 126, 3) := by decide +kernel
theorem dX4_head_24 : decode cX4_head 24 = .ok (.pop, 1) := by decide +kernel
theorem dX4_head_25 : decode cX4_head 25 = .ok (.aload_n 0, 1) := by decide +kernel
theorem dX4_head_26 : decode cX4_head 26 = .ok (.getfield 42, 3) := by decide +kernel
theorem dX4_head_29 : decode cX4_head 29 = .ok (.lconst 0, 1) := by decide +kernel
theorem dX4_head_30 : decode cX4_head 30 = .ok (.invokevirtual 126, 3) := by decide +kernel
theorem dX4_head_33 : decode cX4_head 33 = .ok (.iconst 1, 1) := by decide +kernel
theorem dX4_head_34 : decode cX4_head 34 = .ok (.isub, 1) := by decide +kernel
theorem dX4_head_35 : decode cX4_head 35 = .ok (.ireturn, 1) := by decide +kernel
def fX4_head (a1 : Int32) (w : Wd) : Int32 × Wd :=
  lt (fX0_setCell a1 w) fun w1 => lt (fX8_slot a1 w1) fun x2 => lt2 (fX0_word (Int32.toInt64 x2) w1) fun x3 w4 => lt2 (fX0_word 0 w4) fun x5 w6 => ((x5 - 1), w6)
theorem pX4_head {q : Gq} {l : Launch} {N : Option Value → Wd → Prop} {X : String → Wd → Prop} {w : Wd} {R : Int32 × Wd} (hN : N (some (.int R.1)) R.2) {a1 : Int32} (h : fX4_head a1 w = R) : RT (GA q) l 3 yX4_head cX4_head 2 ((some .int)) N X 0 [] [(0, .ref 2), (1, .int a1)] w := by
  unfold fX4_head at h
  refine r_aload_n (pc := 0) dX4_head_0 rfl 0 rfl ?_
  refine r_get (pc := 1) (j := 5) (v := .ref 40) oA2 cf4 flRX4_42 rfl dX4_head_1 rfl ?_
  refine r_iload_n (pc := 4) dX4_head_4 rfl 1 rfl ?_
  replace h := lt_e h; obtain ⟨w1, ew1, h⟩ := h
  refine r_cVv (pc := 5) wyX0_setCell oA40 rfl mlRX4_120 iyX0_setCell syX0_setCell ⟨(Nat.le_of_ble_eq_true rfl), (Nat.le_of_ble_eq_true rfl)⟩ rfl rfl (Nat.le_of_ble_eq_true rfl) dX4_head_5 (mX0_setCell ew1 (pV.mk ?_))
  refine r_aload_n (pc := 8) dX4_head_8 rfl 0 rfl ?_
  refine r_get (pc := 9) (j := 5) (v := .ref 40) oA2 cf4 flRX4_42 rfl dX4_head_9 rfl ?_
  refine r_aload_n (pc := 12) dX4_head_12 rfl 0 rfl ?_
  refine r_get (pc := 13) (j := 2) (v := .ref 13) oA2 cf4 flRX4_27 rfl dX4_head_13 rfl ?_
  refine r_iload_n (pc := 16) dX4_head_16 rfl 1 rfl ?_
  replace h := lt_e h; obtain ⟨x2, ex2, h⟩ := h
  refine r_cVi (pc := 17) wyX8_slot oA13 rfl mlRX4_123 iyX8_slot syX8_slot ⟨(Nat.le_of_ble_eq_true rfl), (Nat.le_of_ble_eq_true rfl)⟩ rfl rfl (Nat.le_of_ble_eq_true rfl) dX4_head_17 (mX8_slot ex2 (pI.mk ?_))
  refine r_i2l (pc := 20) dX4_head_20 ?_
  replace h := lt2_e h; obtain ⟨x3, w4, ew4, h⟩ := h
  refine r_cVi (pc := 21) wyX0_word oA40 rfl mlRX4_126 iyX0_word syX0_word ⟨(Nat.le_of_ble_eq_true rfl), (Nat.le_of_ble_eq_true rfl)⟩ rfl rfl (Nat.le_of_ble_eq_true rfl) dX4_head_21 (mX0_word ew4 (pI.mk ?_))
  refine r_pop (pc := 24) dX4_head_24 rfl ?_
  refine r_aload_n (pc := 25) dX4_head_25 rfl 0 rfl ?_
  refine r_get (pc := 26) (j := 5) (v := .ref 40) oA2 cf4 flRX4_42 rfl dX4_head_26 rfl ?_
  refine r_lconst (pc := 29) dX4_head_29 kl_0 ?_
  replace h := lt2_e h; obtain ⟨x5, w6, ew6, h⟩ := h
  refine r_cVi (pc := 30) wyX0_word oA40 rfl mlRX4_126 iyX0_word syX0_word ⟨(Nat.le_of_ble_eq_true rfl), (Nat.le_of_ble_eq_true rfl)⟩ rfl rfl (Nat.le_of_ble_eq_true rfl) dX4_head_30 (mX0_word ew6 (pI.mk ?_))
  refine r_iconst (pc := 33) dX4_head_33 ki_1 ?_
  refine r_isub (pc := 34) dX4_head_34 ?_
  exact rS_i (pc := 35) rfl dX4_head_35 h hN
theorem mX4_head {q : Gq} {l : Launch} {N : Option Value → Wd → Prop} {X : String → Wd → Prop} {a1 : Int32} {w : Wd} {x : Int32} {u : Wd} (h : fX4_head a1 w = (x, u)) (hN : N (some (.int x)) u) : Ct (GA q) l 3 yX4_head cX4_head 2 ((some .int)) [.ref 2, .int a1] w N X := Ct.of (by decide) (Nat.le_of_ble_eq_true rfl) (pX4_head hN h)
/-! AlgolMill$Maker.isDeclaration ()Z: P, 3 -/
theorem dX4_isDeclaration_0 : decode cX4_isDeclaration 0 = .ok (.aload_n 0, 1) := by decide +kernel
theorem dX4_isDeclaration_1 : decode cX4_isDeclaration 1 = .ok (.getfield 22, 3) := by decide +kernel
theorem dX4_isDeclaration_4 : decode cX4_isDeclaration 4 = .ok (.invokevirtual 96, 3) := by decide +kernel
theorem dX4_isDeclaration_7 : decode cX4_isDeclaration 7 = .ok (.tableswitch 47 6 13 #[45, 45, 45, 45, 45, 47, 47, 45], 45) := by decide +kernel
theorem dX4_isDeclaration_52 : decode cX4_isDeclaration 52 = .ok (.iconst 1, 1) := by decide +kernel
theorem dX4_isDeclaration_53 : decode cX4_isDeclaration 53 = .ok (.ireturn, 1) := by decide +kernel
theorem dX4_isDeclaration_54 : decode cX4_isDeclaration 54 = .ok (.iconst 0, 1) := by decide +kernel
theorem dX4_isDeclaration_55 : decode cX4_isDeclaration 55 = .ok (.ireturn, 1) := by decide +kernel
def fX4_isDeclaration (w : Wd) : Bool :=
  lt (fX9_kind w) fun x1 => if x1 = 6 ∨ x1 = 7 ∨ x1 = 8 ∨ x1 = 9 ∨ x1 = 10 ∨ x1 = 13 then (true) else (false)
theorem pX4_isDeclaration {q : Gq} {l : Launch} {N : Option Value → Wd → Prop} {X : String → Wd → Prop} {w : Wd} {R : Bool} (hN : N (some (.int (b2i R))) w) (h : fX4_isDeclaration w = R) : RT (GA q) l 3 yX4_isDeclaration cX4_isDeclaration 1 ((some .boolean)) N X 0 [] [(0, .ref 2)] w := by
  unfold fX4_isDeclaration at h
  refine r_aload_n (pc := 0) dX4_isDeclaration_0 rfl 0 rfl ?_
  refine r_get (pc := 1) (j := 1) (v := .ref 4) oA2 cf4 flRX4_22 rfl dX4_isDeclaration_1 rfl ?_
  replace h := lt_e h; obtain ⟨x1, ex1, h⟩ := h
  refine r_cVi (pc := 4) wyX9_kind oA4 rfl mlRX4_96 iyX9_kind syX9_kind ⟨(Nat.le_of_ble_eq_true rfl), (Nat.le_of_ble_eq_true rfl)⟩ rfl rfl (Nat.le_of_ble_eq_true rfl) dX4_isDeclaration_4 (mX9_kind ex1 (pI.mk ?_))
  by_cases hc2 : x1 = 6 ∨ x1 = 7 ∨ x1 = 8 ∨ x1 = 9 ∨ x1 = 10 ∨ x1 = 13
  · refine r_tabC (pc := 7) (off := 45) (tgt := 52) (L := [6, 7, 8, 9, 10, 13]) dX4_isDeclaration_7 hc2 (by decide) rfl ?_
    replace h := if_t hc2 h
    refine r_iconst (pc := 52) dX4_isDeclaration_52 ki_1 ?_
    exact rP_z (pc := 53) (x := true) rfl dX4_isDeclaration_53 h hN
  replace h := if_f hc2 h
  refine r_tabD (pc := 7) (tgt := 54) (K := [[6, 7, 8, 9, 10, 13]]) dX4_isDeclaration_7 ⟨hc2, trivial⟩ (by decide) (by decide) rfl ?_
  refine r_iconst (pc := 54) dX4_isDeclaration_54 ki_0 ?_
  exact rP_z (pc := 55) (x := false) rfl dX4_isDeclaration_55 h hN
theorem mX4_isDeclaration {q : Gq} {l : Launch} {N : Option Value → Wd → Prop} {X : String → Wd → Prop} {w : Wd} {x : Bool} (h : fX4_isDeclaration w = x) (hN : N (some (.int (b2i x))) w) : Ct (GA q) l 3 yX4_isDeclaration cX4_isDeclaration 1 ((some .boolean)) [.ref 2] w N X := Ct.of (by decide) (Nat.le_of_ble_eq_true rfl) (pX4_isDeclaration hN h)
/-! AlgolMill$Maker.type ()I: S, 4 -/
theorem dX4_type_0 : decode cX4_type 0 = .ok (.aload_n 0, 1) := by decide +kernel
theorem dX4_type_1 : decode cX4_type 1 = .ok (.getfield 22, 3) := by decide +kernel
theorem dX4_type_4 : decode cX4_type 4 = .ok (.bipush 7, 2) := by decide +kernel
theorem dX4_type_6 : decode cX4_type 6 = .ok (.invokevirtual 164, 3) := by decide +kernel
theorem dX4_type_9 : decode cX4_type 9 = .ok (.ifCond .eq 5, 3) := by decide +kernel
theorem dX4_type_12 : decode cX4_type 12 = .ok (.iconst 1, 1) := by decide +kernel
theorem dX4_type_13 : decode cX4_type 13 = .ok (.ireturn, 1) := by decide +kernel
theorem dX4_type_14 : decode cX4_type 14 = .ok (.aload_n 0, 1) := by decide +kernel
theorem dX4_type_15 : decode cX4_type 15 = .ok (.getfield 22, 3) := by decide +kernel
theorem dX4_type_18 : decode cX4_type 18 = .ok (.bipush 8, 2) := by decide +kernel
theorem dX4_type_20 : decode cX4_type 20 = .ok (.invokevirtual 164, 3) := by decide +kernel
theorem dX4_type_23 : decode cX4_type 23 = .ok (.ifCond .eq 7, 3) := by decide +kernel
theorem dX4_type_26 : decode cX4_type 26 = .ok (.iconst 2, 1) := by decide +kernel
theorem dX4_type_27 : decode cX4_type 27 = .ok (.goto 4, 3) := by decide +kernel
theorem dX4_type_30 : decode cX4_type 30 = .ok (.iconst 0, 1) := by decide +kernel
theorem dX4_type_31 : decode cX4_type 31 = .ok (.ireturn, 1) := by decide +kernel
def fX4_type (w : Wd) : Int32 × Wd :=
  lt2 (fX9_take 7 w) fun x1 w2 => if x1 = true then ((1, w2)) else (lt2 (fX9_take 8 w2) fun x4 w5 => if x4 = true then ((2, w5)) else ((0, w5)))
theorem pX4_type {q : Gq} {l : Launch} {N : Option Value → Wd → Prop} {X : String → Wd → Prop} {w : Wd} {R : Int32 × Wd} (hN : N (some (.int R.1)) R.2) (h : fX4_type w = R) : RT (GA q) l 4 yX4_type cX4_type 1 ((some .int)) N X 0 [] [(0, .ref 2)] w := by
  unfold fX4_type at h
  refine r_aload_n (pc := 0) dX4_type_0 rfl 0 rfl ?_
  refine r_get (pc := 1) (j := 1) (v := .ref 4) oA2 cf4 flRX4_22 rfl dX4_type_1 rfl ?_
  refine r_bipush (pc := 4) dX4_type_4 kb_7 ?_
  replace h := lt2_e h; obtain ⟨x1, w2, ew2, h⟩ := h
  refine r_cVi (pc := 6) wyX9_take oA4 rfl mlRX4_164 iyX9_take syX9_take ⟨(Nat.le_of_ble_eq_true rfl), (Nat.le_of_ble_eq_true rfl)⟩ rfl rfl (Nat.le_of_ble_eq_true rfl) dX4_type_6 (mX9_take ew2 (pI.mk ?_))
  refine r_z_eq (pc := 9) dX4_type_9 rfl (fun hc3 => ?_) (fun hc3 => ?_)
  · replace h := if_f hc3 h
    refine r_aload_n (pc := 14) dX4_type_14 rfl 0 rfl ?_
    refine r_get (pc := 15) (j := 1) (v := .ref 4) oA2 cf4 flRX4_22 rfl dX4_type_15 rfl ?_
    refine r_bipush (pc := 18) dX4_type_18 kb_8 ?_
    replace h := lt2_e h; obtain ⟨x4, w5, ew5, h⟩ := h
    refine r_cVi (pc := 20) wyX9_take oA4 rfl mlRX4_164 iyX9_take syX9_take ⟨(Nat.le_of_ble_eq_true rfl), (Nat.le_of_ble_eq_true rfl)⟩ rfl rfl (Nat.le_of_ble_eq_true rfl) dX4_type_20 (mX9_take ew5 (pI.mk ?_))
    refine r_z_eq (pc := 23) dX4_type_23 rfl (fun hc6 => ?_) (fun hc6 => ?_)
    · replace h := if_f hc6 h
      refine r_iconst (pc := 30) dX4_type_30 ki_0 ?_
      exact rS_i (pc := 31) rfl dX4_type_31 h hN
    replace h := if_t hc6 h
    refine r_iconst (pc := 26) dX4_type_26 ki_2 ?_
    refine r_goto (pc := 27) dX4_type_27 rfl ?_
    exact rS_i (pc := 31) rfl dX4_type_31 h hN
  replace h := if_t hc3 h
  refine r_iconst (pc := 12) dX4_type_12 ki_1 ?_
  exact rS_i (pc := 13) rfl dX4_type_13 h hN
theorem mX4_type {q : Gq} {l : Launch} {N : Option Value → Wd → Prop} {X : String → Wd → Prop} {w : Wd} {x : Int32} {u : Wd} (h : fX4_type w = (x, u)) (hN : N (some (.int x)) u) : Ct (GA q) l 4 yX4_type cX4_type 1 ((some .int)) [.ref 2] w N X := Ct.of (by decide) (Nat.le_of_ble_eq_true rfl) (pX4_type hN h)
/-! AlgolMill$Maker.declared (II)I: S, 5 -/
theorem dX4_declared_0 : decode cX4_declared 0 = .ok (.aload_n 0, 1) := by decide +kernel
theorem dX4_declared_1 : decode cX4_declared 1 = .ok (.getfield 22, 3) := by decide +kernel
theorem dX4_declared_4 : decode cX4_declared 4 = .ok (.invokevirtual 202, 3) := by decide +kernel
theorem dX4_declared_7 : decode cX4_declared 7 = .ok (.istore_n 3, 1) := by decide +kernel
theorem dX4_declared_8 : decode cX4_declared 8 = .ok (.aload_n 0, 1) := by decide +kernel
theorem dX4_declared_9 : decode cX4_declared 9 = .ok (.getfield 22, 3) := by decide +kernel
theorem dX4_declared_12 : decode cX4_declared 12 = .ok (.iconst 2, 1) := by decide +kernel
theorem dX4_declared_13 : decode cX4_declared 13 = .ok (.invokevirtual 170, 3) := by decide +kernel
theorem dX4_declared_16 : decode cX4_declared 16 = .ok (.aload_n 0, 1) := by decide +kernel
theorem dX4_declared_17 : decode cX4_declared 17 = .ok (.getfield 12, 3) := by decide +kernel
theorem dX4_declared_20 : decode cX4_declared 20 = .ok (.getfield 143, 3) := by decide +kernel
theorem dX4_declared_23 : decode cX4_declared 23 = .ok (.ifCond .ne 13, 3) := by decide +kernel
theorem dX4_declared_26 : decode cX4_declared 26 = .ok (.aload_n 0, 1) := by decide +kernel
theorem dX4_declared_27 : decode cX4_declared 27 = .ok (.getfield 22, 3) := by decide +kernel
theorem dX4_declared_30 : decode cX4_declared 30 = .ok (.invokevirtual 65, 3) := by decide +kernel
theorem dX4_declared_33 : decode cX4_declared 33 = .ok (.ifCond .eq 12, 3) := by decide +kernel
theorem dX4_declared_36 : decode cX4_declared 36 = .ok (.aload_n 0, 1) := by decide +kernel
theorem dX4_declared_37 : decode cX4_declared 37 = .ok (.getfield 27, 3) := by decide +kernel
theorem dX4_declared_40 : decode cX4_declared 40 = .ok (.iload_n 3, 1) := by decide +kernel
theorem dX4_declared_41 : decode cX4_declared 41 = .ok (.invokevirtual 205, 3) := by decide +kernel
theorem dX4_declared_44 : decode cX4_declared 44 = .ok (.ireturn, 1) := by decide +kernel
theorem dX4_declared_45 : decode cX4_declared 45 = .ok (.aload_n 0, 1) := by decide +kernel
theorem dX4_declared_46 : decode cX4_declared 46 = .ok (.getfield 27, 3) := by decide +kernel
theorem dX4_declared_49 : decode cX4_declared 49 = .ok (.iload_n 3, 1) := by decide +kernel
theorem dX4_declared_50 : decode cX4_declared 50 = .ok (.aload_n 0, 1) := by decide +kernel
theorem dX4_declared_51 : decode cX4_declared 51 = .ok (.getfield 22, 3) := by decide +kernel
theorem dX4_declared_54 : decode cX4_declared 54 = .ok (.iload_n 3, 1) := by decide +kernel
theorem dX4_declared_55 : decode cX4_declared 55 = .ok (.invokevirtual 208, 3) := by decide +kernel
theorem dX4_declared_58 : decode cX4_declared 58 = .ok (.iload_n 1, 1) := by decide +kernel
theorem dX4_declared_59 : decode cX4_declared 59 = .ok (.iload_n 2, 1) := by decide +kernel
theorem dX4_declared_60 : decode cX4_declared 60 = .ok (.aload_n 0, 1) := by decide +kernel
theorem dX4_declared_61 : decode cX4_declared 61 = .ok (.getfield 37, 3) := by decide +kernel
theorem dX4_declared_64 : decode cX4_declared 64 = .ok (.invokevirtual 211, 3) := by decide +kernel
theorem dX4_declared_67 : decode cX4_declared 67 = .ok (.invokevirtual 214, 3) := by decide +kernel
theorem dX4_declared_70 : decode cX4_declared 70 = .ok (.istore 4, 2) := by decide +kernel
theorem dX4_declared_72 : decode cX4_declared 72 = .ok (.aload_n 0, 1) := by decide +kernel
theorem dX4_declared_73 : decode cX4_declared 73 = .ok (.getfield 32, 3) := by decide +kernel
theorem dX4_declared_76 : decode cX4_declared 76 = .ok (.iload 4, 2) := by decide +kernel
theorem dX4_declared_78 : decode cX4_declared 78 = .ok (.invokevirtual 218, 3) := by decide +kernel
theorem dX4_declared_81 : decode cX4_declared 81 = .ok (.ifCond .ne 12, 3) := by decide +kernel
theorem dX4_declared_84 : decode cX4_declared 84 = .ok (.aload_n 0, 1) := by decide +kernel
theorem dX4_declared_85 : decode cX4_declared 85 = .ok (.getfield 12, 3) := by decide +kernel
theorem dX4_declared_88 : decode cX4_declared 88 = .ok (.iload_n 3, 1) := by decide +kernel
theorem dX4_declared_89 : decode cX4_declared 89 = .ok (.iconst 3, 1) := by decide +kernel
theorem dX4_declared_90 : decode cX4_declared 90 = .ok (.invokevirtual 220, 3) := by decide +kernel
theorem dX4_declared_93 : decode cX4_declared 93 = .ok (.iload_n 1, 1) := by decide +kernel
theorem dX4_declared_94 : decode cX4_declared 94 = .ok (.iconst 4, 1) := by decide +kernel
theorem dX4_declared_95 : decode cX4_declared 95 = .ok (.if_icmp .eq 25, 3) := by decide +kernel
theorem dX4_declared_98 : decode cX4_declared 98 = .ok (.aload_n 0, 1) := by decide +kernel
theorem dX4_declared_99 : decode cX4_declared 99 = .ok (.getfield 37, 3) := by decide +kernel
theorem dX4_declared_102 : decode cX4_declared 102 = .ok (.invokevirtual 223, 3) := by decide +kernel
theorem dX4_declared_105 : decode cX4_declared 105 = .ok (.sipush 201, 3) := by decide +kernel
theorem dX4_declared_108 : decode cX4_declared 108 = .ok (.if_icmp .ne 12, 3) := by decide +kernel
theorem dX4_declared_111 : decode cX4_declared 111 = .ok (.aload_n 0, 1) := by decide +kernel
theorem dX4_declared_112 : decode cX4_declared 112 = .ok (.getfield 12, 3) := by decide +kernel
theorem dX4_declared_115 : decode cX4_declared 115 = .ok (.iload_n 3, 1) := by decide +kernel
theorem dX4_declared_116 : decode cX4_declared 116 = .ok (.iconst 5, 1) := by decide +kernel
theorem dX4_declared_117 : decode cX4_declared 117 = .ok (.invokevirtual 220, 3) := by decide +kernel
theorem dX4_declared_120 : decode cX4_declared 120 = .ok (.iload 4, 2) := by decide +kernel
theorem dX4_declared_122 : decode cX4_declared 122 = .ok (.ireturn, 1) := by decide +kernel
def fX4_declared_93 (a1 : Int32) (a3 : Int32) (a4 : Int32) (w : Wd) : Int32 × Wd :=
  if a1 = 4 then ((a4, w)) else (lt2 (fX5_oneNameMore w) fun x2 w3 => if x2 = 201 then (lt (fX1_note a3 5 w3) fun w5 => (a4, w5)) else ((a4, w3)))
theorem pX4_declared_93 {q : Gq} {l : Launch} {N : Option Value → Wd → Prop} {X : String → Wd → Prop} {w : Wd} {R : Int32 × Wd} (hN : N (some (.int R.1)) R.2) {a1 : Int32} {a3 : Int32} {a4 : Int32} (h : fX4_declared_93 a1 a3 a4 w = R) : RT (GA q) l 5 yX4_declared cX4_declared 5 ((some .int)) N X 93 [] [(0, .ref 2), (1, .int a1), (3, .int a3), (4, .int a4)] w := by
  unfold fX4_declared_93 at h
  refine r_iload_n (pc := 93) dX4_declared_93 rfl 1 rfl ?_
  refine r_iconst (pc := 94) dX4_declared_94 ki_4 ?_
  refine r_icmp_eq (pc := 95) dX4_declared_95 rfl (fun hc1 => ?_) (fun hc1 => ?_)
  · replace h := if_t hc1 h
    refine r_iload (pc := 120) dX4_declared_120 3 rfl ?_
    exact rS_i (pc := 122) rfl dX4_declared_122 h hN
  replace h := if_f hc1 h
  refine r_aload_n (pc := 98) dX4_declared_98 rfl 0 rfl ?_
  refine r_get (pc := 99) (j := 4) (v := .ref 34) oA2 cf4 flRX4_37 rfl dX4_declared_99 rfl ?_
  replace h := lt2_e h; obtain ⟨x2, w3, ew3, h⟩ := h
  refine r_cVi (pc := 102) wyX5_oneNameMore oA34 rfl mlRX4_223 iyX5_oneNameMore syX5_oneNameMore ⟨(Nat.le_of_ble_eq_true rfl), (Nat.le_of_ble_eq_true rfl)⟩ rfl rfl (Nat.le_of_ble_eq_true rfl) dX4_declared_102 (mX5_oneNameMore ew3 (pI.mk ?_))
  refine r_sipush (pc := 105) dX4_declared_105 ks_201 ?_
  refine r_icmp_ne (pc := 108) dX4_declared_108 rfl (fun hc4 => ?_) (fun hc4 => ?_)
  · replace h := if_f hc4 h
    refine r_iload (pc := 120) dX4_declared_120 3 rfl ?_
    exact rS_i (pc := 122) rfl dX4_declared_122 h hN
  replace h := if_t hc4 h
  refine r_aload_n (pc := 111) dX4_declared_111 rfl 0 rfl ?_
  refine r_get (pc := 112) (j := 0) (v := .ref 3) oA2 cf4 flRX4_12 rfl dX4_declared_112 rfl ?_
  refine r_iload_n (pc := 115) dX4_declared_115 rfl 2 rfl ?_
  refine r_iconst (pc := 116) dX4_declared_116 ki_5 ?_
  replace h := lt_e h; obtain ⟨w5, ew5, h⟩ := h
  refine r_cVv (pc := 117) wyX1_note oA3 rfl mlRX4_220 iyX1_note syX1_note ⟨(Nat.le_of_ble_eq_true rfl), (Nat.le_of_ble_eq_true rfl)⟩ rfl rfl (Nat.le_of_ble_eq_true rfl) dX4_declared_117 (mX1_note ew5 (pV.mk ?_))
  refine r_iload (pc := 120) dX4_declared_120 3 rfl ?_
  exact rS_i (pc := 122) rfl dX4_declared_122 h hN
def fX4_declared (a1 : Int32) (a2 : Int32) (w : Wd) : Int32 × Wd :=
  lt (fX9_at w) fun x1 => lt (fX9_need 2 w) fun w2 => if (gi w2 3 5) = 0 then (lt (fX9_failed w2) fun x4 => if x4 = true then (lt (fX8_declaredAt x1 w2) fun x6 => (x6, w2)) else (lt (fX9_nameOf x1 w2) fun x7 => lt (fX5_level w2) fun x8 => lt2 (fX8_add x1 x7 a1 a2 x8 w2) fun x9 w10 => lt2 (fX7_add x9 w10) fun x11 w12 => if x11 = true then (fX4_declared_93 a1 x1 x9 w12) else (lt (fX1_note x1 3 w12) fun w14 => fX4_declared_93 a1 x1 x9 w14))) else (lt (fX8_declaredAt x1 w2) fun x15 => (x15, w2))
theorem pX4_declared {q : Gq} {l : Launch} {N : Option Value → Wd → Prop} {X : String → Wd → Prop} {w : Wd} {R : Int32 × Wd} (hN : N (some (.int R.1)) R.2) {a1 : Int32} {a2 : Int32} (h : fX4_declared a1 a2 w = R) : RT (GA q) l 5 yX4_declared cX4_declared 5 ((some .int)) N X 0 [] [(0, .ref 2), (1, .int a1), (2, .int a2)] w := by
  unfold fX4_declared at h
  refine r_aload_n (pc := 0) dX4_declared_0 rfl 0 rfl ?_
  refine r_get (pc := 1) (j := 1) (v := .ref 4) oA2 cf4 flRX4_22 rfl dX4_declared_1 rfl ?_
  replace h := lt_e h; obtain ⟨x1, ex1, h⟩ := h
  refine r_cVi (pc := 4) wyX9_at oA4 rfl mlRX4_202 iyX9_at syX9_at ⟨(Nat.le_of_ble_eq_true rfl), (Nat.le_of_ble_eq_true rfl)⟩ rfl rfl (Nat.le_of_ble_eq_true rfl) dX4_declared_4 (mX9_at ex1 (pI.mk ?_))
  refine r_istore_n (pc := 7) (loc' := [(3, .int x1), (0, .ref 2), (1, .int a1), (2, .int a2)]) dX4_declared_7 rfl (Nat.le_of_ble_eq_true rfl) rfl ?_
  refine r_aload_n (pc := 8) dX4_declared_8 rfl 1 rfl ?_
  refine r_get (pc := 9) (j := 1) (v := .ref 4) oA2 cf4 flRX4_22 rfl dX4_declared_9 rfl ?_
  refine r_iconst (pc := 12) dX4_declared_12 ki_2 ?_
  replace h := lt_e h; obtain ⟨w2, ew2, h⟩ := h
  refine r_cVv (pc := 13) wyX9_need oA4 rfl mlRX4_170 iyX9_need syX9_need ⟨(Nat.le_of_ble_eq_true rfl), (Nat.le_of_ble_eq_true rfl)⟩ rfl rfl (Nat.le_of_ble_eq_true rfl) dX4_declared_13 (mX9_need ew2 (pV.mk ?_))
  refine r_aload_n (pc := 16) dX4_declared_16 rfl 1 rfl ?_
  refine r_get (pc := 17) (j := 0) (v := .ref 3) oA2 cf4 flRX4_12 rfl dX4_declared_17 rfl ?_
  refine r_get (pc := 20) (j := 5) (v := .int (gi w2 3 5)) oA3 cf1 flRX4_143 rfl dX4_declared_20 rfl ?_
  refine r_if_ne (pc := 23) dX4_declared_23 rfl (fun hc3 => ?_) (fun hc3 => ?_)
  · replace h := if_f hc3 h
    refine r_aload_n (pc := 36) dX4_declared_36 rfl 1 rfl ?_
    refine r_get (pc := 37) (j := 2) (v := .ref 13) oA2 cf4 flRX4_27 rfl dX4_declared_37 rfl ?_
    refine r_iload_n (pc := 40) dX4_declared_40 rfl 0 rfl ?_
    replace h := lt_e h; obtain ⟨x15, ex15, h⟩ := h
    refine r_cVi (pc := 41) wyX8_declaredAt oA13 rfl mlRX4_205 iyX8_declaredAt syX8_declaredAt ⟨(Nat.le_of_ble_eq_true rfl), (Nat.le_of_ble_eq_true rfl)⟩ rfl rfl (Nat.le_of_ble_eq_true rfl) dX4_declared_41 (mX8_declaredAt ex15 (pI.mk ?_))
    exact rS_i (pc := 44) rfl dX4_declared_44 h hN
  replace h := if_t hc3 h
  refine r_aload_n (pc := 26) dX4_declared_26 rfl 1 rfl ?_
  refine r_get (pc := 27) (j := 1) (v := .ref 4) oA2 cf4 flRX4_22 rfl dX4_declared_27 rfl ?_
  replace h := lt_e h; obtain ⟨x4, ex4, h⟩ := h
  refine r_cVi (pc := 30) wyX9_failed oA4 rfl mlRX4_65 iyX9_failed syX9_failed ⟨(Nat.le_of_ble_eq_true rfl), (Nat.le_of_ble_eq_true rfl)⟩ rfl rfl (Nat.le_of_ble_eq_true rfl) dX4_declared_30 (mX9_failed ex4 (pI.mk ?_))
  refine r_z_eq (pc := 33) dX4_declared_33 rfl (fun hc5 => ?_) (fun hc5 => ?_)
  · replace h := if_f hc5 h
    refine r_aload_n (pc := 45) dX4_declared_45 rfl 1 rfl ?_
    refine r_get (pc := 46) (j := 2) (v := .ref 13) oA2 cf4 flRX4_27 rfl dX4_declared_46 rfl ?_
    refine r_iload_n (pc := 49) dX4_declared_49 rfl 0 rfl ?_
    refine r_aload_n (pc := 50) dX4_declared_50 rfl 1 rfl ?_
    refine r_get (pc := 51) (j := 1) (v := .ref 4) oA2 cf4 flRX4_22 rfl dX4_declared_51 rfl ?_
    refine r_iload_n (pc := 54) dX4_declared_54 rfl 0 rfl ?_
    replace h := lt_e h; obtain ⟨x7, ex7, h⟩ := h
    refine r_cVi (pc := 55) wyX9_nameOf oA4 rfl mlRX4_208 iyX9_nameOf syX9_nameOf ⟨(Nat.le_of_ble_eq_true rfl), (Nat.le_of_ble_eq_true rfl)⟩ rfl rfl (Nat.le_of_ble_eq_true rfl) dX4_declared_55 (mX9_nameOf ex7 (pI.mk ?_))
    refine r_iload_n (pc := 58) dX4_declared_58 rfl 2 rfl ?_
    refine r_iload_n (pc := 59) dX4_declared_59 rfl 3 rfl ?_
    refine r_aload_n (pc := 60) dX4_declared_60 rfl 1 rfl ?_
    refine r_get (pc := 61) (j := 4) (v := .ref 34) oA2 cf4 flRX4_37 rfl dX4_declared_61 rfl ?_
    replace h := lt_e h; obtain ⟨x8, ex8, h⟩ := h
    refine r_cVi (pc := 64) wyX5_level oA34 rfl mlRX4_211 iyX5_level syX5_level ⟨(Nat.le_of_ble_eq_true rfl), (Nat.le_of_ble_eq_true rfl)⟩ rfl rfl (Nat.le_of_ble_eq_true rfl) dX4_declared_64 (mX5_level ex8 (pI.mk ?_))
    replace h := lt2_e h; obtain ⟨x9, w10, ew10, h⟩ := h
    refine r_cVi (pc := 67) wyX8_add oA13 rfl mlRX4_214 iyX8_add syX8_add ⟨(Nat.le_of_ble_eq_true rfl), (Nat.le_of_ble_eq_true rfl)⟩ rfl rfl (Nat.le_of_ble_eq_true rfl) dX4_declared_67 (mX8_add ew10 (pI.mk ?_))
    refine r_istore (pc := 70) (loc' := [(4, .int x9), (3, .int x1), (0, .ref 2), (1, .int a1), (2, .int a2)]) dX4_declared_70 (Nat.le_of_ble_eq_true rfl) rfl ?_
    refine r_aload_n (pc := 72) dX4_declared_72 rfl 2 rfl ?_
    refine r_get (pc := 73) (j := 3) (v := .ref 26) oA2 cf4 flRX4_32 rfl dX4_declared_73 rfl ?_
    refine r_iload (pc := 76) dX4_declared_76 0 rfl ?_
    replace h := lt2_e h; obtain ⟨x11, w12, ew12, h⟩ := h
    refine r_cVi (pc := 78) wyX7_add oA26 rfl mlRX4_218 iyX7_add syX7_add ⟨(Nat.le_of_ble_eq_true rfl), (Nat.le_of_ble_eq_true rfl)⟩ rfl rfl (Nat.le_of_ble_eq_true rfl) dX4_declared_78 (mX7_add ew12 (pI.mk ?_))
    refine r_z_ne (pc := 81) dX4_declared_81 rfl (fun hc13 => ?_) (fun hc13 => ?_)
    · replace h := if_t hc13 h
      refine r_drop (loc' := [(0, .ref 2), (1, .int a1), (3, .int x1), (4, .int x9)]) [2, 3, 1, 0] rfl ?_
      exact pX4_declared_93 hN h
    replace h := if_f hc13 h
    refine r_aload_n (pc := 84) dX4_declared_84 rfl 2 rfl ?_
    refine r_get (pc := 85) (j := 0) (v := .ref 3) oA2 cf4 flRX4_12 rfl dX4_declared_85 rfl ?_
    refine r_iload_n (pc := 88) dX4_declared_88 rfl 1 rfl ?_
    refine r_iconst (pc := 89) dX4_declared_89 ki_3 ?_
    replace h := lt_e h; obtain ⟨w14, ew14, h⟩ := h
    refine r_cVv (pc := 90) wyX1_note oA3 rfl mlRX4_220 iyX1_note syX1_note ⟨(Nat.le_of_ble_eq_true rfl), (Nat.le_of_ble_eq_true rfl)⟩ rfl rfl (Nat.le_of_ble_eq_true rfl) dX4_declared_90 (mX1_note ew14 (pV.mk ?_))
    refine r_drop (loc' := [(0, .ref 2), (1, .int a1), (3, .int x1), (4, .int x9)]) [2, 3, 1, 0] rfl ?_
    exact pX4_declared_93 hN h
  replace h := if_t hc5 h
  refine r_aload_n (pc := 36) dX4_declared_36 rfl 1 rfl ?_
  refine r_get (pc := 37) (j := 2) (v := .ref 13) oA2 cf4 flRX4_27 rfl dX4_declared_37 rfl ?_
  refine r_iload_n (pc := 40) dX4_declared_40 rfl 0 rfl ?_
  replace h := lt_e h; obtain ⟨x6, ex6, h⟩ := h
  refine r_cVi (pc := 41) wyX8_declaredAt oA13 rfl mlRX4_205 iyX8_declaredAt syX8_declaredAt ⟨(Nat.le_of_ble_eq_true rfl), (Nat.le_of_ble_eq_true rfl)⟩ rfl rfl (Nat.le_of_ble_eq_true rfl) dX4_declared_41 (mX8_declaredAt ex6 (pI.mk ?_))
  exact rS_i (pc := 44) rfl dX4_declared_44 h hN
theorem mX4_declared {q : Gq} {l : Launch} {N : Option Value → Wd → Prop} {X : String → Wd → Prop} {a1 : Int32} {a2 : Int32} {w : Wd} {x : Int32} {u : Wd} (h : fX4_declared a1 a2 w = (x, u)) (hN : N (some (.int x)) u) : Ct (GA q) l 5 yX4_declared cX4_declared 5 ((some .int)) [.ref 2, .int a1, .int a2] w N X := Ct.of (by decide) (Nat.le_of_ble_eq_true rfl) (pX4_declared hN h)
/-! AlgolMill$Maker.variables (IZ)V: O, 6 -/
theorem dX4_variables_0 : decode cX4_variables 0 = .ok (.iconst 0, 1) := by decide +kernel
theorem dX4_variables_1 : decode cX4_variables 1 = .ok (.istore_n 3, 1) := by decide +kernel
theorem dX4_variables_2 : decode cX4_variables 2 = .ok (.iload_n 3, 1) := by decide +kernel
theorem dX4_variables_3 : decode cX4_variables 3 = .ok (.sipush 8193, 3) := by decide +kernel
theorem dX4_variables_6 : decode cX4_variables 6 = .ok (.if_icmp .ge 79, 3) := by decide +kernel
theorem dX4_variables_9 : decode cX4_variables 9 = .ok (.iload_n 3, 1) := by decide +kernel
theorem dX4_variables_10 : decode cX4_variables 10 = .ok (.ifCond .eq 15, 3) := by decide +kernel
theorem dX4_variables_13 : decode cX4_variables 13 = .ok (.aload_n 0, 1) := by decide +kernel
theorem dX4_variables_14 : decode cX4_variables 14 = .ok (.getfield 22, 3) := by decide +kernel
theorem dX4_variables_17 : decode cX4_variables 17 = .ok (.bipush 40, 2) := by decide +kernel
theorem dX4_variables_19 : decode cX4_variables 19 = .ok (.invokevirtual 164, 3) := by decide +kernel
theorem dX4_variables_22 : decode cX4_variables 22 = .ok (.ifCond .eq 63, 3) := by decide +kernel
theorem dX4_variables_25 : decode cX4_variables 25 = .ok (.aload_n 0, 1) := by decide +kernel
theorem dX4_variables_26 : decode cX4_variables 26 = .ok (.iconst 1, 1) := by decide +kernel
theorem dX4_variables_27 : decode cX4_variables 27 = .ok (.iload_n 1, 1) := by decide +kernel
theorem dX4_variables_28 : decode cX4_variables 28 = .ok (.invokevirtual 226, 3) := by decide +kernel
theorem dX4_variables_31 : decode cX4_variables 31 = .ok (.istore 4, 2) := by decide +kernel
theorem dX4_variables_33 : decode cX4_variables 33 = .ok (.aload_n 0, 1) := by decide +kernel
theorem dX4_variables_34 : decode cX4_variables 34 = .ok (.getfield 12, 3) := by decide +kernel
theorem dX4_variables_37 : decode cX4_variables 37 = .ok (.getfield 143, 3) := by decide +kernel
theorem dX4_variables_40 : decode cX4_variables 40 = .ok (.ifCond .eq 6, 3) := by decide +kernel
theorem dX4_variables_43 : decode cX4_variables 43 = .ok (.goto 36, 3) := by decide +kernel
theorem dX4_variables_46 : decode cX4_variables 46 = .ok (.iload_n 2, 1) := by decide +kernel
theorem dX4_variables_47 : decode cX4_variables 47 = .ok (.ifCond .eq 15, 3) := by decide +kernel
theorem dX4_variables_50 : decode cX4_variables 50 = .ok (.aload_n 0, 1) := by decide +kernel
theorem dX4_variables_51 : decode cX4_variables 51 = .ok (.getfield 27, 3) := by decide +kernel
theorem dX4_variables_54 : decode cX4_variables 54 = .ok (.iload 4, 2) := by decide +kernel
theorem dX4_variables_56 : decode cX4_variables 56 = .ok (.invokevirtual 229, 3) := by decide +kernel
theorem dX4_variables_59 : decode cX4_variables 59 = .ok (.goto 20, 3) := by decide +kernel
theorem dX4_variables_62 : decode cX4_variables 62 = .ok (.aload_n 0, 1) := by decide +kernel
theorem dX4_variables_63 : decode cX4_variables 63 = .ok (.getfield 27, 3) := by decide +kernel
theorem dX4_variables_66 : decode cX4_variables 66 = .ok (.iload 4, 2) := by decide +kernel
theorem dX4_variables_68 : decode cX4_variables 68 = .ok (.aload_n 0, 1) := by decide +kernel
theorem dX4_variables_69 : decode cX4_variables 69 = .ok (.getfield 37, 3) := by decide +kernel
theorem dX4_variables_72 : decode cX4_variables 72 = .ok (.iconst 1, 1) := by decide +kernel
theorem dX4_variables_73 : decode cX4_variables 73 = .ok (.invokevirtual 150, 3) := by decide +kernel
theorem dX4_variables_76 : decode cX4_variables 76 = .ok (.invokevirtual 232, 3) := by decide +kernel
theorem dX4_variables_79 : decode cX4_variables 79 = .ok (.iinc 3 1, 3) := by decide +kernel
theorem dX4_variables_82 : decode cX4_variables 82 = .ok (.goto (-80), 3) := by decide +kernel
theorem dX4_variables_85 : decode cX4_variables 85 = .ok (.return_, 1) := by decide +kernel
def fX4_variables_25 (k_2 : Int32 → Bool → Int32 → Wd → Option Wd) (a1 : Int32) (a2 : Bool) (a3 : Int32) (w : Wd) : Option Wd :=
  lt2 (fX4_declared 1 a1 w) fun x1 w2 => if (gi w2 3 5) = 0 then (if a2 = true then (lt (fX8_placeOwn x1 w2) fun w5 => lt (a3 + 1) fun x6 => k_2 a1 a2 x6 w5) else (lt2 (fX5_take 1 w2) fun x7 w8 => lt (fX8_place x1 x7 w8) fun w9 => lt (a3 + 1) fun x10 => k_2 a1 a2 x10 w9)) else (lt (a3 + 1) fun x11 => k_2 a1 a2 x11 w2)
theorem pX4_variables_25 {q : Gq} {l : Launch} {N : Option Value → Wd → Prop} {X : String → Wd → Prop} {w : Wd} {R : Wd} (hN : N none R) {k_2 : Int32 → Bool → Int32 → Wd → Option Wd} (hk_2 : ∀ (a1 : Int32) (a2 : Bool) (a3 : Int32) (w : Wd), k_2 a1 a2 a3 w = some R → RT (GA q) l 6 yX4_variables cX4_variables 5 (none) N X 2 [] [(0, .ref 2), (1, .int a1), (2, .int (b2i a2)), (3, .int a3)] w) {a1 : Int32} {a2 : Bool} {a3 : Int32} (h : fX4_variables_25 k_2 a1 a2 a3 w = some R) : RT (GA q) l 6 yX4_variables cX4_variables 5 (none) N X 25 [] [(0, .ref 2), (1, .int a1), (2, .int (b2i a2)), (3, .int a3)] w := by
  unfold fX4_variables_25 at h
  refine r_aload_n (pc := 25) dX4_variables_25 rfl 0 rfl ?_
  refine r_iconst (pc := 26) dX4_variables_26 ki_1 ?_
  refine r_iload_n (pc := 27) dX4_variables_27 rfl 1 rfl ?_
  replace h := lt2_e h; obtain ⟨x1, w2, ew2, h⟩ := h
  refine r_cVi (pc := 28) wyX4_declared oA2 rfl mlRX4_226 iyX4_declared syX4_declared ⟨(Nat.le_of_ble_eq_true rfl), (Nat.le_of_ble_eq_true rfl)⟩ rfl rfl (Nat.le_of_ble_eq_true rfl) dX4_variables_28 (mX4_declared ew2 (pI.mk ?_))
  refine r_istore (pc := 31) (loc' := [(4, .int x1), (0, .ref 2), (1, .int a1), (2, .int (b2i a2)), (3, .int a3)]) dX4_variables_31 (Nat.le_of_ble_eq_true rfl) rfl ?_
  refine r_aload_n (pc := 33) dX4_variables_33 rfl 1 rfl ?_
  refine r_get (pc := 34) (j := 0) (v := .ref 3) oA2 cf4 flRX4_12 rfl dX4_variables_34 rfl ?_
  refine r_get (pc := 37) (j := 5) (v := .int (gi w2 3 5)) oA3 cf1 flRX4_143 rfl dX4_variables_37 rfl ?_
  refine r_if_eq (pc := 40) dX4_variables_40 rfl (fun hc3 => ?_) (fun hc3 => ?_)
  · replace h := if_t hc3 h
    refine r_iload_n (pc := 46) dX4_variables_46 rfl 3 rfl ?_
    refine r_z_eq (pc := 47) dX4_variables_47 rfl (fun hc4 => ?_) (fun hc4 => ?_)
    · replace h := if_f hc4 h
      refine r_aload_n (pc := 62) dX4_variables_62 rfl 1 rfl ?_
      refine r_get (pc := 63) (j := 2) (v := .ref 13) oA2 cf4 flRX4_27 rfl dX4_variables_63 rfl ?_
      refine r_iload (pc := 66) dX4_variables_66 0 rfl ?_
      refine r_aload_n (pc := 68) dX4_variables_68 rfl 1 rfl ?_
      refine r_get (pc := 69) (j := 4) (v := .ref 34) oA2 cf4 flRX4_37 rfl dX4_variables_69 rfl ?_
      refine r_iconst (pc := 72) dX4_variables_72 ki_1 ?_
      replace h := lt2_e h; obtain ⟨x7, w8, ew8, h⟩ := h
      refine r_cVi (pc := 73) wyX5_take oA34 rfl mlRX4_150 iyX5_take syX5_take ⟨(Nat.le_of_ble_eq_true rfl), (Nat.le_of_ble_eq_true rfl)⟩ rfl rfl (Nat.le_of_ble_eq_true rfl) dX4_variables_73 (mX5_take ew8 (pI.mk ?_))
      replace h := lt_e h; obtain ⟨w9, ew9, h⟩ := h
      refine r_cVv (pc := 76) wyX8_place oA13 rfl mlRX4_232 iyX8_place syX8_place ⟨(Nat.le_of_ble_eq_true rfl), (Nat.le_of_ble_eq_true rfl)⟩ rfl rfl (Nat.le_of_ble_eq_true rfl) dX4_variables_76 (mX8_place ew9 (pV.mk ?_))
      replace h := lt_e h; obtain ⟨x10, ex10, h⟩ := h
      refine r_inc (pc := 79) (loc' := [(3, .int x10), (4, .int x1), (0, .ref 2), (1, .int a1), (2, .int (b2i a2))]) dX4_variables_79 ki_1 ex10 4 rfl (Nat.le_of_ble_eq_true rfl) rfl ?_
      refine r_goto (pc := 82) dX4_variables_82 rfl ?_
      refine r_drop (loc' := [(0, .ref 2), (1, .int a1), (2, .int (b2i a2)), (3, .int x10)]) [2, 3, 4, 0] rfl ?_
      exact hk_2 a1 a2 x10 w9 h
    replace h := if_t hc4 h
    refine r_aload_n (pc := 50) dX4_variables_50 rfl 1 rfl ?_
    refine r_get (pc := 51) (j := 2) (v := .ref 13) oA2 cf4 flRX4_27 rfl dX4_variables_51 rfl ?_
    refine r_iload (pc := 54) dX4_variables_54 0 rfl ?_
    replace h := lt_e h; obtain ⟨w5, ew5, h⟩ := h
    refine r_cVv (pc := 56) wyX8_placeOwn oA13 rfl mlRX4_229 iyX8_placeOwn syX8_placeOwn ⟨(Nat.le_of_ble_eq_true rfl), (Nat.le_of_ble_eq_true rfl)⟩ rfl rfl (Nat.le_of_ble_eq_true rfl) dX4_variables_56 (mX8_placeOwn ew5 (pV.mk ?_))
    refine r_goto (pc := 59) dX4_variables_59 rfl ?_
    replace h := lt_e h; obtain ⟨x6, ex6, h⟩ := h
    refine r_inc (pc := 79) (loc' := [(3, .int x6), (4, .int x1), (0, .ref 2), (1, .int a1), (2, .int (b2i a2))]) dX4_variables_79 ki_1 ex6 4 rfl (Nat.le_of_ble_eq_true rfl) rfl ?_
    refine r_goto (pc := 82) dX4_variables_82 rfl ?_
    refine r_drop (loc' := [(0, .ref 2), (1, .int a1), (2, .int (b2i a2)), (3, .int x6)]) [2, 3, 4, 0] rfl ?_
    exact hk_2 a1 a2 x6 w5 h
  replace h := if_f hc3 h
  refine r_goto (pc := 43) dX4_variables_43 rfl ?_
  replace h := lt_e h; obtain ⟨x11, ex11, h⟩ := h
  refine r_inc (pc := 79) (loc' := [(3, .int x11), (4, .int x1), (0, .ref 2), (1, .int a1), (2, .int (b2i a2))]) dX4_variables_79 ki_1 ex11 4 rfl (Nat.le_of_ble_eq_true rfl) rfl ?_
  refine r_goto (pc := 82) dX4_variables_82 rfl ?_
  refine r_drop (loc' := [(0, .ref 2), (1, .int a1), (2, .int (b2i a2)), (3, .int x11)]) [2, 3, 4, 0] rfl ?_
  exact hk_2 a1 a2 x11 w2 h
def fX4_variables_2 (k_2 : Int32 → Bool → Int32 → Wd → Option Wd) (a1 : Int32) (a2 : Bool) (a3 : Int32) (w : Wd) : Option Wd :=
  if 8193 ≤ a3 then (some w) else (if a3 = 0 then (fX4_variables_25 k_2 a1 a2 a3 w) else (lt2 (fX9_take 40 w) fun x3 w4 => if x3 = true then (fX4_variables_25 k_2 a1 a2 a3 w4) else (some w4)))
theorem pX4_variables_2 {q : Gq} {l : Launch} {N : Option Value → Wd → Prop} {X : String → Wd → Prop} {w : Wd} {R : Wd} (hN : N none R) {k_2 : Int32 → Bool → Int32 → Wd → Option Wd} (hk_2 : ∀ (a1 : Int32) (a2 : Bool) (a3 : Int32) (w : Wd), k_2 a1 a2 a3 w = some R → RT (GA q) l 6 yX4_variables cX4_variables 5 (none) N X 2 [] [(0, .ref 2), (1, .int a1), (2, .int (b2i a2)), (3, .int a3)] w) {a1 : Int32} {a2 : Bool} {a3 : Int32} (h : fX4_variables_2 k_2 a1 a2 a3 w = some R) : RT (GA q) l 6 yX4_variables cX4_variables 5 (none) N X 2 [] [(0, .ref 2), (1, .int a1), (2, .int (b2i a2)), (3, .int a3)] w := by
  unfold fX4_variables_2 at h
  refine r_iload_n (pc := 2) dX4_variables_2 rfl 3 rfl ?_
  refine r_sipush (pc := 3) dX4_variables_3 ks_8193 ?_
  refine r_icmp_ge (pc := 6) dX4_variables_6 rfl (fun hc1 => ?_) (fun hc1 => ?_)
  · replace h := if_t hc1 h
    exact rO_v (pc := 85) rfl dX4_variables_85 h hN
  replace h := if_f hc1 h
  refine r_iload_n (pc := 9) dX4_variables_9 rfl 3 rfl ?_
  refine r_if_eq (pc := 10) dX4_variables_10 rfl (fun hc2 => ?_) (fun hc2 => ?_)
  · replace h := if_t hc2 h
    exact pX4_variables_25 hN hk_2 h
  replace h := if_f hc2 h
  refine r_aload_n (pc := 13) dX4_variables_13 rfl 0 rfl ?_
  refine r_get (pc := 14) (j := 1) (v := .ref 4) oA2 cf4 flRX4_22 rfl dX4_variables_14 rfl ?_
  refine r_bipush (pc := 17) dX4_variables_17 kb_40 ?_
  replace h := lt2_e h; obtain ⟨x3, w4, ew4, h⟩ := h
  refine r_cVi (pc := 19) wyX9_take oA4 rfl mlRX4_164 iyX9_take syX9_take ⟨(Nat.le_of_ble_eq_true rfl), (Nat.le_of_ble_eq_true rfl)⟩ rfl rfl (Nat.le_of_ble_eq_true rfl) dX4_variables_19 (mX9_take ew4 (pI.mk ?_))
  refine r_z_eq (pc := 22) dX4_variables_22 rfl (fun hc5 => ?_) (fun hc5 => ?_)
  · replace h := if_f hc5 h
    exact rO_v (pc := 85) rfl dX4_variables_85 h hN
  replace h := if_t hc5 h
  exact pX4_variables_25 hN hk_2 h
def oX4_variables_2 : Nat → Int32 → Bool → Int32 → Wd → Option Wd
  | 0 => fun _ _ _ _ => none
  | n + 1 => fX4_variables_2 (oX4_variables_2 n)
theorem qX4_variables_2 {q : Gq} {l : Launch} {N : Option Value → Wd → Prop} {X : String → Wd → Prop} {R : Wd} (hN : N none R) : ∀ (n : Nat) (a1 : Int32) (a2 : Bool) (a3 : Int32) (w : Wd), oX4_variables_2 n a1 a2 a3 w = some R → RT (GA q) l 6 yX4_variables cX4_variables 5 (none) N X 2 [] [(0, .ref 2), (1, .int a1), (2, .int (b2i a2)), (3, .int a3)] w := by
  intro n
  induction n with
  | zero =>
    intro a1 a2 a3 w h
    exact absurd h (fun q => nomatch q)
  | succ n ih =>
    intro a1 a2 a3 w h
    exact pX4_variables_2 hN ih h
def fX4_variables (a1 : Int32) (a2 : Bool) (w : Wd) : Option Wd :=
  oX4_variables_2 FU a1 a2 0 w
theorem pX4_variables {q : Gq} {l : Launch} {N : Option Value → Wd → Prop} {X : String → Wd → Prop} {w : Wd} {R : Wd} (hN : N none R) {a1 : Int32} {a2 : Bool} (h : fX4_variables a1 a2 w = some R) : RT (GA q) l 6 yX4_variables cX4_variables 5 (none) N X 0 [] [(0, .ref 2), (1, .int a1), (2, .int (b2i a2))] w := by
  unfold fX4_variables at h
  refine r_iconst (pc := 0) dX4_variables_0 ki_0 ?_
  refine r_istore_n (pc := 1) (loc' := [(3, .int 0), (0, .ref 2), (1, .int a1), (2, .int (b2i a2))]) dX4_variables_1 rfl (Nat.le_of_ble_eq_true rfl) rfl ?_
  refine r_drop (loc' := [(0, .ref 2), (1, .int a1), (2, .int (b2i a2)), (3, .int 0)]) [1, 2, 3, 0] rfl ?_
  exact qX4_variables_2 hN FU a1 a2 0 w h
theorem mX4_variables {q : Gq} {l : Launch} {N : Option Value → Wd → Prop} {X : String → Wd → Prop} {a1 : Int32} {a2 : Bool} {w : Wd} {u : Wd} (h : fX4_variables a1 a2 w = some u) (hN : N none u) : Ct (GA q) l 6 yX4_variables cX4_variables 5 (none) [.ref 2, .int a1, .int (b2i a2)] w N X := Ct.of (by decide) (Nat.le_of_ble_eq_true rfl) (pX4_variables hN h)
/-! AlgolMill$Maker.bounds (I)I: O, 909 -/
theorem dX4_bounds_0 : decode cX4_bounds 0 = .ok (.aload_n 0, 1) := by decide +kernel
theorem dX4_bounds_1 : decode cX4_bounds 1 = .ok (.getfield 22, 3) := by decide +kernel
theorem dX4_bounds_4 : decode cX4_bounds 4 = .ok (.invokevirtual 96, 3) := by decide +kernel
theorem dX4_bounds_7 : decode cX4_bounds 7 = .ok (.bipush 45, 2) := by decide +kernel
theorem dX4_bounds_9 : decode cX4_bounds 9 = .ok (.if_icmp .eq 12, 3) := by decide +kernel
theorem dX4_bounds_12 : decode cX4_bounds 12 = .ok (.aload_n 0, 1) := by decide +kernel
theorem dX4_bounds_13 : decode cX4_bounds 13 = .ok (.getfield 22, 3) := by decide +kernel
theorem dX4_bounds_16 : decode cX4_bounds 16 = .ok (.invokevirtual 103, 3) := by decide +kernel
theorem dX4_bounds_19 : decode cX4_bounds 19 = .ok (.iconst 0, 1) := by decide +kernel
theorem dX4_bounds_20 : decode cX4_bounds 20 = .ok (.ireturn, 1) := by decide +kernel
theorem dX4_bounds_21 : decode cX4_bounds 21 = .ok (.aload_n 0, 1) := by decide +kernel
theorem dX4_bounds_22 : decode cX4_bounds 22 = .ok (.getfield 22, 3) := by decide +kernel
theorem dX4_bounds_25 : decode cX4_bounds 25 = .ok (.iload_n 1, 1) := by decide +kernel
theorem dX4_bounds_26 : decode cX4_bounds 26 = .ok (.invokevirtual 130, 3) := by decide +kernel
theorem dX4_bounds_29 : decode cX4_bounds 29 = .ok (.istore_n 2, 1) := by decide +kernel
theorem dX4_bounds_30 : decode cX4_bounds 30 = .ok (.iconst 0, 1) := by decide +kernel
theorem dX4_bounds_31 : decode cX4_bounds 31 = .ok (.istore_n 3, 1) := by decide +kernel
theorem dX4_bounds_32 : decode cX4_bounds 32 = .ok (.aload_n 0, 1) := by decide +kernel
theorem dX4_bounds_33 : decode cX4_bounds 33 = .ok (.getfield 32, 3) := by decide +kernel
theorem dX4_bounds_36 : decode cX4_bounds 36 = .ok (.invokevirtual 244, 3) := by decide +kernel
theorem dX4_bounds_39 : decode cX4_bounds 39 = .ok (.iload_n 3, 1) := by decide +kernel
theorem dX4_bounds_40 : decode cX4_bounds 40 = .ok (.iconst 3, 1) := by decide +kernel
theorem dX4_bounds_41 : decode cX4_bounds 41 = .ok (.if_icmp .ge 52, 3) := by decide +kernel
theorem dX4_bounds_44 : decode cX4_bounds 44 = .ok (.iload_n 3, 1) := by decide +kernel
theorem dX4_bounds_45 : decode cX4_bounds 45 = .ok (.ifCond .eq 15, 3) := by decide +kernel
theorem dX4_bounds_48 : decode cX4_bounds 48 = .ok (.aload_n 0, 1) := by decide +kernel
theorem dX4_bounds_49 : decode cX4_bounds 49 = .ok (.getfield 22, 3) := by decide +kernel
theorem dX4_bounds_52 : decode cX4_bounds 52 = .ok (.bipush 40, 2) := by decide +kernel
theorem dX4_bounds_54 : decode cX4_bounds 54 = .ok (.invokevirtual 164, 3) := by decide +kernel
theorem dX4_bounds_57 : decode cX4_bounds 57 = .ok (.ifCond .eq 36, 3) := by decide +kernel
theorem dX4_bounds_60 : decode cX4_bounds 60 = .ok (.aload_n 0, 1) := by decide +kernel
theorem dX4_bounds_61 : decode cX4_bounds 61 = .ok (.getfield 48, 3) := by decide +kernel
theorem dX4_bounds_64 : decode cX4_bounds 64 = .ok (.iload_n 2, 1) := by decide +kernel
theorem dX4_bounds_65 : decode cX4_bounds 65 = .ok (.iconst 1, 1) := by decide +kernel
theorem dX4_bounds_66 : decode cX4_bounds 66 = .ok (.invokevirtual 247, 3) := by decide +kernel
theorem dX4_bounds_69 : decode cX4_bounds 69 = .ok (.aload_n 0, 1) := by decide +kernel
theorem dX4_bounds_70 : decode cX4_bounds 70 = .ok (.getfield 22, 3) := by decide +kernel
theorem dX4_bounds_73 : decode cX4_bounds 73 = .ok (.bipush 42, 2) := by decide +kernel
theorem dX4_bounds_75 : decode cX4_bounds 75 = .ok (.invokevirtual 170, 3) := by decide +kernel
theorem dX4_bounds_78 : decode cX4_bounds 78 = .ok (.aload_n 0, 1) := by decide +kernel
theorem dX4_bounds_79 : decode cX4_bounds 79 = .ok (.getfield 48, 3) := by decide +kernel
theorem dX4_bounds_82 : decode cX4_bounds 82 = .ok (.iload_n 2, 1) := by decide +kernel
theorem dX4_bounds_83 : decode cX4_bounds 83 = .ok (.iconst 1, 1) := by decide +kernel
theorem dX4_bounds_84 : decode cX4_bounds 84 = .ok (.invokevirtual 247, 3) := by decide +kernel
theorem dX4_bounds_87 : decode cX4_bounds 87 = .ok (.iinc 3 1, 3) := by decide +kernel
theorem dX4_bounds_90 : decode cX4_bounds 90 = .ok (.goto (-51), 3) := by decide +kernel
theorem dX4_bounds_93 : decode cX4_bounds 93 = .ok (.aload_n 0, 1) := by decide +kernel
theorem dX4_bounds_94 : decode cX4_bounds 94 = .ok (.getfield 32, 3) := by decide +kernel
theorem dX4_bounds_97 : decode cX4_bounds 97 = .ok (.invokevirtual 250, 3) := by decide +kernel
theorem dX4_bounds_100 : decode cX4_bounds 100 = .ok (.aload_n 0, 1) := by decide +kernel
theorem dX4_bounds_101 : decode cX4_bounds 101 = .ok (.getfield 22, 3) := by decide +kernel
theorem dX4_bounds_104 : decode cX4_bounds 104 = .ok (.bipush 46, 2) := by decide +kernel
theorem dX4_bounds_106 : decode cX4_bounds 106 = .ok (.invokevirtual 170, 3) := by decide +kernel
theorem dX4_bounds_109 : decode cX4_bounds 109 = .ok (.iload_n 3, 1) := by decide +kernel
theorem dX4_bounds_110 : decode cX4_bounds 110 = .ok (.ireturn, 1) := by decide +kernel
def fX4_bounds_93 (a3 : Int32) (w : Wd) : Option (Int32 × Wd) :=
  lt (fX7_showAll w) fun w1 => lt (fX9_need 46 w1) fun w2 => some (a3, w2)
theorem pX4_bounds_93 {q : Gq} {l : Launch} {N : Option Value → Wd → Prop} {X : String → Wd → Prop} {w : Wd} {R : Int32 × Wd} (hN : N (some (.int R.1)) R.2) {a3 : Int32} (h : fX4_bounds_93 a3 w = some R) : RT (GA q) l 909 yX4_bounds cX4_bounds 4 ((some .int)) N X 93 [] [(0, .ref 2), (3, .int a3)] w := by
  unfold fX4_bounds_93 at h
  refine r_aload_n (pc := 93) dX4_bounds_93 rfl 0 rfl ?_
  refine r_get (pc := 94) (j := 3) (v := .ref 26) oA2 cf4 flRX4_32 rfl dX4_bounds_94 rfl ?_
  replace h := lt_e h; obtain ⟨w1, ew1, h⟩ := h
  refine r_cVv (pc := 97) wyX7_showAll oA26 rfl mlRX4_250 iyX7_showAll syX7_showAll ⟨(Nat.le_of_ble_eq_true rfl), (Nat.le_of_ble_eq_true rfl)⟩ rfl rfl (Nat.le_of_ble_eq_true rfl) dX4_bounds_97 (mX7_showAll ew1 (pV.mk ?_))
  refine r_aload_n (pc := 100) dX4_bounds_100 rfl 0 rfl ?_
  refine r_get (pc := 101) (j := 1) (v := .ref 4) oA2 cf4 flRX4_22 rfl dX4_bounds_101 rfl ?_
  refine r_bipush (pc := 104) dX4_bounds_104 kb_46 ?_
  replace h := lt_e h; obtain ⟨w2, ew2, h⟩ := h
  refine r_cVv (pc := 106) wyX9_need oA4 rfl mlRX4_170 iyX9_need syX9_need ⟨(Nat.le_of_ble_eq_true rfl), (Nat.le_of_ble_eq_true rfl)⟩ rfl rfl (Nat.le_of_ble_eq_true rfl) dX4_bounds_106 (mX9_need ew2 (pV.mk ?_))
  refine r_iload_n (pc := 109) dX4_bounds_109 rfl 1 rfl ?_
  exact rO_i (pc := 110) rfl dX4_bounds_110 h hN
def fX4_bounds_60 (k_39 : Int32 → Int32 → Wd → Option (Int32 × Wd)) (a2 : Int32) (a3 : Int32) (w : Wd) : Option (Int32 × Wd) :=
  bn2 (RX2_typed 900 0 a2 1 0 w) fun _ w2 => lt (fX9_need 42 w2) fun w3 => bn2 (RX2_typed 900 0 a2 1 0 w3) fun _ w5 => lt (a3 + 1) fun x6 => k_39 a2 x6 w5
theorem pX4_bounds_60 {q : Gq} {l : Launch} {N : Option Value → Wd → Prop} {X : String → Wd → Prop} {w : Wd} {R : Int32 × Wd} (hN : N (some (.int R.1)) R.2) {k_39 : Int32 → Int32 → Wd → Option (Int32 × Wd)} (hk_39 : ∀ (a2 : Int32) (a3 : Int32) (w : Wd), k_39 a2 a3 w = some R → RT (GA q) l 909 yX4_bounds cX4_bounds 4 ((some .int)) N X 39 [] [(0, .ref 2), (2, .int a2), (3, .int a3)] w) {a2 : Int32} {a3 : Int32} (h : fX4_bounds_60 k_39 a2 a3 w = some R) : RT (GA q) l 909 yX4_bounds cX4_bounds 4 ((some .int)) N X 60 [] [(0, .ref 2), (2, .int a2), (3, .int a3)] w := by
  unfold fX4_bounds_60 at h
  refine r_aload_n (pc := 60) dX4_bounds_60 rfl 0 rfl ?_
  refine r_get (pc := 61) (j := 6) (v := .ref 42) oA2 cf4 flRX4_48 rfl dX4_bounds_61 rfl ?_
  refine r_iload_n (pc := 64) dX4_bounds_64 rfl 1 rfl ?_
  refine r_iconst (pc := 65) dX4_bounds_65 ki_1 ?_
  replace h := bn2_e h; obtain ⟨x1, w2, ew2, h⟩ := h
  refine r_cVv (pc := 66) wyX2_typed oA42 rfl mlRX4_247 iyX2_typed syX2_typed ⟨(Nat.le_of_ble_eq_true rfl), (Nat.le_of_ble_eq_true rfl)⟩ rfl rfl (Nat.le_of_ble_eq_true rfl) dX4_bounds_66 (mX2_typed ew2 (pV.mk ?_))
  refine r_aload_n (pc := 69) dX4_bounds_69 rfl 0 rfl ?_
  refine r_get (pc := 70) (j := 1) (v := .ref 4) oA2 cf4 flRX4_22 rfl dX4_bounds_70 rfl ?_
  refine r_bipush (pc := 73) dX4_bounds_73 kb_42 ?_
  replace h := lt_e h; obtain ⟨w3, ew3, h⟩ := h
  refine r_cVv (pc := 75) wyX9_need oA4 rfl mlRX4_170 iyX9_need syX9_need ⟨(Nat.le_of_ble_eq_true rfl), (Nat.le_of_ble_eq_true rfl)⟩ rfl rfl (Nat.le_of_ble_eq_true rfl) dX4_bounds_75 (mX9_need ew3 (pV.mk ?_))
  refine r_aload_n (pc := 78) dX4_bounds_78 rfl 0 rfl ?_
  refine r_get (pc := 79) (j := 6) (v := .ref 42) oA2 cf4 flRX4_48 rfl dX4_bounds_79 rfl ?_
  refine r_iload_n (pc := 82) dX4_bounds_82 rfl 1 rfl ?_
  refine r_iconst (pc := 83) dX4_bounds_83 ki_1 ?_
  replace h := bn2_e h; obtain ⟨x4, w5, ew5, h⟩ := h
  refine r_cVv (pc := 84) wyX2_typed oA42 rfl mlRX4_247 iyX2_typed syX2_typed ⟨(Nat.le_of_ble_eq_true rfl), (Nat.le_of_ble_eq_true rfl)⟩ rfl rfl (Nat.le_of_ble_eq_true rfl) dX4_bounds_84 (mX2_typed ew5 (pV.mk ?_))
  replace h := lt_e h; obtain ⟨x6, ex6, h⟩ := h
  refine r_inc (pc := 87) (loc' := [(3, .int x6), (0, .ref 2), (2, .int a2)]) dX4_bounds_87 ki_1 ex6 2 rfl (Nat.le_of_ble_eq_true rfl) rfl ?_
  refine r_goto (pc := 90) dX4_bounds_90 rfl ?_
  refine r_drop (loc' := [(0, .ref 2), (2, .int a2), (3, .int x6)]) [1, 2, 0] rfl ?_
  exact hk_39 a2 x6 w5 h
def fX4_bounds_39 (k_39 : Int32 → Int32 → Wd → Option (Int32 × Wd)) (a2 : Int32) (a3 : Int32) (w : Wd) : Option (Int32 × Wd) :=
  if 3 ≤ a3 then (fX4_bounds_93 a3 w) else (if a3 = 0 then (fX4_bounds_60 k_39 a2 a3 w) else (lt2 (fX9_take 40 w) fun x3 w4 => if x3 = true then (fX4_bounds_60 k_39 a2 a3 w4) else (fX4_bounds_93 a3 w4)))
theorem pX4_bounds_39 {q : Gq} {l : Launch} {N : Option Value → Wd → Prop} {X : String → Wd → Prop} {w : Wd} {R : Int32 × Wd} (hN : N (some (.int R.1)) R.2) {k_39 : Int32 → Int32 → Wd → Option (Int32 × Wd)} (hk_39 : ∀ (a2 : Int32) (a3 : Int32) (w : Wd), k_39 a2 a3 w = some R → RT (GA q) l 909 yX4_bounds cX4_bounds 4 ((some .int)) N X 39 [] [(0, .ref 2), (2, .int a2), (3, .int a3)] w) {a2 : Int32} {a3 : Int32} (h : fX4_bounds_39 k_39 a2 a3 w = some R) : RT (GA q) l 909 yX4_bounds cX4_bounds 4 ((some .int)) N X 39 [] [(0, .ref 2), (2, .int a2), (3, .int a3)] w := by
  unfold fX4_bounds_39 at h
  refine r_iload_n (pc := 39) dX4_bounds_39 rfl 2 rfl ?_
  refine r_iconst (pc := 40) dX4_bounds_40 ki_3 ?_
  refine r_icmp_ge (pc := 41) dX4_bounds_41 rfl (fun hc1 => ?_) (fun hc1 => ?_)
  · replace h := if_t hc1 h
    refine r_drop (loc' := [(0, .ref 2), (3, .int a3)]) [0, 2] rfl ?_
    exact pX4_bounds_93 hN h
  replace h := if_f hc1 h
  refine r_iload_n (pc := 44) dX4_bounds_44 rfl 2 rfl ?_
  refine r_if_eq (pc := 45) dX4_bounds_45 rfl (fun hc2 => ?_) (fun hc2 => ?_)
  · replace h := if_t hc2 h
    exact pX4_bounds_60 hN hk_39 h
  replace h := if_f hc2 h
  refine r_aload_n (pc := 48) dX4_bounds_48 rfl 0 rfl ?_
  refine r_get (pc := 49) (j := 1) (v := .ref 4) oA2 cf4 flRX4_22 rfl dX4_bounds_49 rfl ?_
  refine r_bipush (pc := 52) dX4_bounds_52 kb_40 ?_
  replace h := lt2_e h; obtain ⟨x3, w4, ew4, h⟩ := h
  refine r_cVi (pc := 54) wyX9_take oA4 rfl mlRX4_164 iyX9_take syX9_take ⟨(Nat.le_of_ble_eq_true rfl), (Nat.le_of_ble_eq_true rfl)⟩ rfl rfl (Nat.le_of_ble_eq_true rfl) dX4_bounds_54 (mX9_take ew4 (pI.mk ?_))
  refine r_z_eq (pc := 57) dX4_bounds_57 rfl (fun hc5 => ?_) (fun hc5 => ?_)
  · replace h := if_f hc5 h
    refine r_drop (loc' := [(0, .ref 2), (3, .int a3)]) [0, 2] rfl ?_
    exact pX4_bounds_93 hN h
  replace h := if_t hc5 h
  exact pX4_bounds_60 hN hk_39 h
def oX4_bounds_39 : Nat → Int32 → Int32 → Wd → Option (Int32 × Wd)
  | 0 => fun _ _ _ => none
  | n + 1 => fX4_bounds_39 (oX4_bounds_39 n)
theorem qX4_bounds_39 {q : Gq} {l : Launch} {N : Option Value → Wd → Prop} {X : String → Wd → Prop} {R : Int32 × Wd} (hN : N (some (.int R.1)) R.2) : ∀ (n : Nat) (a2 : Int32) (a3 : Int32) (w : Wd), oX4_bounds_39 n a2 a3 w = some R → RT (GA q) l 909 yX4_bounds cX4_bounds 4 ((some .int)) N X 39 [] [(0, .ref 2), (2, .int a2), (3, .int a3)] w := by
  intro n
  induction n with
  | zero =>
    intro a2 a3 w h
    exact absurd h (fun q => nomatch q)
  | succ n ih =>
    intro a2 a3 w h
    exact pX4_bounds_39 hN ih h
def fX4_bounds (a1 : Int32) (w : Wd) : Option (Int32 × Wd) :=
  lt (fX9_kind w) fun x1 => if x1 = 45 then (lt2 (fX9_open a1 w) fun x3 w4 => lt (fX7_hide w4) fun w5 => oX4_bounds_39 FU x3 0 w5) else (lt (fX9_fail w) fun w6 => some (0, w6))
theorem pX4_bounds {q : Gq} {l : Launch} {N : Option Value → Wd → Prop} {X : String → Wd → Prop} {w : Wd} {R : Int32 × Wd} (hN : N (some (.int R.1)) R.2) {a1 : Int32} (h : fX4_bounds a1 w = some R) : RT (GA q) l 909 yX4_bounds cX4_bounds 4 ((some .int)) N X 0 [] [(0, .ref 2), (1, .int a1)] w := by
  unfold fX4_bounds at h
  refine r_aload_n (pc := 0) dX4_bounds_0 rfl 0 rfl ?_
  refine r_get (pc := 1) (j := 1) (v := .ref 4) oA2 cf4 flRX4_22 rfl dX4_bounds_1 rfl ?_
  replace h := lt_e h; obtain ⟨x1, ex1, h⟩ := h
  refine r_cVi (pc := 4) wyX9_kind oA4 rfl mlRX4_96 iyX9_kind syX9_kind ⟨(Nat.le_of_ble_eq_true rfl), (Nat.le_of_ble_eq_true rfl)⟩ rfl rfl (Nat.le_of_ble_eq_true rfl) dX4_bounds_4 (mX9_kind ex1 (pI.mk ?_))
  refine r_bipush (pc := 7) dX4_bounds_7 kb_45 ?_
  refine r_icmp_eq (pc := 9) dX4_bounds_9 rfl (fun hc2 => ?_) (fun hc2 => ?_)
  · replace h := if_t hc2 h
    refine r_aload_n (pc := 21) dX4_bounds_21 rfl 0 rfl ?_
    refine r_get (pc := 22) (j := 1) (v := .ref 4) oA2 cf4 flRX4_22 rfl dX4_bounds_22 rfl ?_
    refine r_iload_n (pc := 25) dX4_bounds_25 rfl 1 rfl ?_
    replace h := lt2_e h; obtain ⟨x3, w4, ew4, h⟩ := h
    refine r_cVi (pc := 26) wyX9_open oA4 rfl mlRX4_130 iyX9_open syX9_open ⟨(Nat.le_of_ble_eq_true rfl), (Nat.le_of_ble_eq_true rfl)⟩ rfl rfl (Nat.le_of_ble_eq_true rfl) dX4_bounds_26 (mX9_open ew4 (pI.mk ?_))
    refine r_istore_n (pc := 29) (loc' := [(2, .int x3), (0, .ref 2), (1, .int a1)]) dX4_bounds_29 rfl (Nat.le_of_ble_eq_true rfl) rfl ?_
    refine r_iconst (pc := 30) dX4_bounds_30 ki_0 ?_
    refine r_istore_n (pc := 31) (loc' := [(3, .int 0), (2, .int x3), (0, .ref 2), (1, .int a1)]) dX4_bounds_31 rfl (Nat.le_of_ble_eq_true rfl) rfl ?_
    refine r_aload_n (pc := 32) dX4_bounds_32 rfl 2 rfl ?_
    refine r_get (pc := 33) (j := 3) (v := .ref 26) oA2 cf4 flRX4_32 rfl dX4_bounds_33 rfl ?_
    replace h := lt_e h; obtain ⟨w5, ew5, h⟩ := h
    refine r_cVv (pc := 36) wyX7_hide oA26 rfl mlRX4_244 iyX7_hide syX7_hide ⟨(Nat.le_of_ble_eq_true rfl), (Nat.le_of_ble_eq_true rfl)⟩ rfl rfl (Nat.le_of_ble_eq_true rfl) dX4_bounds_36 (mX7_hide ew5 (pV.mk ?_))
    refine r_drop (loc' := [(0, .ref 2), (2, .int x3), (3, .int 0)]) [2, 1, 0] rfl ?_
    exact qX4_bounds_39 hN FU x3 0 w5 h
  replace h := if_f hc2 h
  refine r_aload_n (pc := 12) dX4_bounds_12 rfl 0 rfl ?_
  refine r_get (pc := 13) (j := 1) (v := .ref 4) oA2 cf4 flRX4_22 rfl dX4_bounds_13 rfl ?_
  replace h := lt_e h; obtain ⟨w6, ew6, h⟩ := h
  refine r_cVv (pc := 16) wyX9_fail oA4 rfl mlRX4_103 iyX9_fail syX9_fail ⟨(Nat.le_of_ble_eq_true rfl), (Nat.le_of_ble_eq_true rfl)⟩ rfl rfl (Nat.le_of_ble_eq_true rfl) dX4_bounds_16 (mX9_fail ew6 (pV.mk ?_))
  refine r_iconst (pc := 19) dX4_bounds_19 ki_0 ?_
  exact rO_i (pc := 20) rfl dX4_bounds_20 h hN
theorem mX4_bounds {q : Gq} {l : Launch} {N : Option Value → Wd → Prop} {X : String → Wd → Prop} {a1 : Int32} {w : Wd} {x : Int32} {u : Wd} (h : fX4_bounds a1 w = some (x, u)) (hN : N (some (.int x)) u) : Ct (GA q) l 909 yX4_bounds cX4_bounds 4 ((some .int)) [.ref 2, .int a1] w N X := Ct.of (by decide) (Nat.le_of_ble_eq_true rfl) (pX4_bounds hN h)
/-! AlgolMill$Maker.arrays (II)V: O, 910 -/
theorem dX4_arrays_0 : decode cX4_arrays 0 = .ok (.aload_n 0, 1) := by decide +kernel
theorem dX4_arrays_1 : decode cX4_arrays 1 = .ok (.getfield 22, 3) := by decide +kernel
theorem dX4_arrays_4 : decode cX4_arrays 4 = .ok (.bipush 9, 2) := by decide +kernel
theorem dX4_arrays_6 : decode cX4_arrays 6 = .ok (.invokevirtual 170, 3) := by decide +kernel
theorem dX4_arrays_9 : decode cX4_arrays 9 = .ok (.aload_n 0, 1) := by decide +kernel
theorem dX4_arrays_10 : decode cX4_arrays 10 = .ok (.getfield 22, 3) := by decide +kernel
theorem dX4_arrays_13 : decode cX4_arrays 13 = .ok (.invokevirtual 202, 3) := by decide +kernel
theorem dX4_arrays_16 : decode cX4_arrays 16 = .ok (.istore_n 3, 1) := by decide +kernel
theorem dX4_arrays_17 : decode cX4_arrays 17 = .ok (.iconst 0, 1) := by decide +kernel
theorem dX4_arrays_18 : decode cX4_arrays 18 = .ok (.istore 4, 2) := by decide +kernel
theorem dX4_arrays_20 : decode cX4_arrays 20 = .ok (.iload 4, 2) := by decide +kernel
theorem dX4_arrays_22 : decode cX4_arrays 22 = .ok (.sipush 8193, 3) := by decide +kernel
theorem dX4_arrays_25 : decode cX4_arrays 25 = .ok (.if_icmp .ge 33, 3) := by decide +kernel
theorem dX4_arrays_28 : decode cX4_arrays 28 = .ok (.iload 4, 2) := by decide +kernel
theorem dX4_arrays_30 : decode cX4_arrays 30 = .ok (.ifCond .eq 15, 3) := by decide +kernel
theorem dX4_arrays_33 : decode cX4_arrays 33 = .ok (.aload_n 0, 1) := by decide +kernel
theorem dX4_arrays_34 : decode cX4_arrays 34 = .ok (.getfield 22, 3) := by decide +kernel
theorem dX4_arrays_37 : decode cX4_arrays 37 = .ok (.bipush 40, 2) := by decide +kernel
theorem dX4_arrays_39 : decode cX4_arrays 39 = .ok (.invokevirtual 164, 3) := by decide +kernel
theorem dX4_arrays_42 : decode cX4_arrays 42 = .ok (.ifCond .eq 16, 3) := by decide +kernel
theorem dX4_arrays_45 : decode cX4_arrays 45 = .ok (.aload_n 0, 1) := by decide +kernel
theorem dX4_arrays_46 : decode cX4_arrays 46 = .ok (.iconst 2, 1) := by decide +kernel
theorem dX4_arrays_47 : decode cX4_arrays 47 = .ok (.iload_n 2, 1) := by decide +kernel
theorem dX4_arrays_48 : decode cX4_arrays 48 = .ok (.invokevirtual 226, 3) := by decide +kernel
theorem dX4_arrays_51 : decode cX4_arrays 51 = .ok (.pop, 1) := by decide +kernel
theorem dX4_arrays_52 : decode cX4_arrays 52 = .ok (.iinc 4 1, 3) := by decide +kernel
theorem dX4_arrays_55 : decode cX4_arrays 55 = .ok (.goto (-35), 3) := by decide +kernel
theorem dX4_arrays_58 : decode cX4_arrays 58 = .ok (.aload_n 0, 1) := by decide +kernel
theorem dX4_arrays_59 : decode cX4_arrays 59 = .ok (.iload_n 1, 1) := by decide +kernel
theorem dX4_arrays_60 : decode cX4_arrays 60 = .ok (.invokevirtual 235, 3) := by decide +kernel
theorem dX4_arrays_63 : decode cX4_arrays 63 = .ok (.istore 5, 2) := by decide +kernel
theorem dX4_arrays_65 : decode cX4_arrays 65 = .ok (.iconst 0, 1) := by decide +kernel
theorem dX4_arrays_66 : decode cX4_arrays 66 = .ok (.istore 6, 2) := by decide +kernel
theorem dX4_arrays_68 : decode cX4_arrays 68 = .ok (.iload 6, 2) := by decide +kernel
theorem dX4_arrays_70 : decode cX4_arrays 70 = .ok (.iload 4, 2) := by decide +kernel
theorem dX4_arrays_72 : decode cX4_arrays 72 = .ok (.if_icmp .ge 88, 3) := by decide +kernel
theorem dX4_arrays_75 : decode cX4_arrays 75 = .ok (.aload_n 0, 1) := by decide +kernel
theorem dX4_arrays_76 : decode cX4_arrays 76 = .ok (.getfield 27, 3) := by decide +kernel
theorem dX4_arrays_79 : decode cX4_arrays 79 = .ok (.iload_n 3, 1) := by decide +kernel
theorem dX4_arrays_80 : decode cX4_arrays 80 = .ok (.iconst 2, 1) := by decide +kernel
theorem dX4_arrays_81 : decode cX4_arrays 81 = .ok (.iload 6, 2) := by decide +kernel
theorem dX4_arrays_83 : decode cX4_arrays 83 = .ok (.imul, 1) := by decide +kernel
theorem dX4_arrays_84 : decode cX4_arrays 84 = .ok (.iadd, 1) := by decide +kernel
theorem dX4_arrays_85 : decode cX4_arrays 85 = .ok (.invokevirtual 205, 3) := by decide +kernel
theorem dX4_arrays_88 : decode cX4_arrays 88 = .ok (.istore 7, 2) := by decide +kernel
theorem dX4_arrays_90 : decode cX4_arrays 90 = .ok (.aload_n 0, 1) := by decide +kernel
theorem dX4_arrays_91 : decode cX4_arrays 91 = .ok (.getfield 12, 3) := by decide +kernel
theorem dX4_arrays_94 : decode cX4_arrays 94 = .ok (.getfield 143, 3) := by decide +kernel
theorem dX4_arrays_97 : decode cX4_arrays 97 = .ok (.ifCond .ne 36, 3) := by decide +kernel
theorem dX4_arrays_100 : decode cX4_arrays 100 = .ok (.aload_n 0, 1) := by decide +kernel
theorem dX4_arrays_101 : decode cX4_arrays 101 = .ok (.getfield 27, 3) := by decide +kernel
theorem dX4_arrays_104 : decode cX4_arrays 104 = .ok (.iload 7, 2) := by decide +kernel
theorem dX4_arrays_106 : decode cX4_arrays 106 = .ok (.iload 5, 2) := by decide +kernel
theorem dX4_arrays_108 : decode cX4_arrays 108 = .ok (.invokevirtual 238, 3) := by decide +kernel
theorem dX4_arrays_111 : decode cX4_arrays 111 = .ok (.aload_n 0, 1) := by decide +kernel
theorem dX4_arrays_112 : decode cX4_arrays 112 = .ok (.getfield 27, 3) := by decide +kernel
theorem dX4_arrays_115 : decode cX4_arrays 115 = .ok (.iload 7, 2) := by decide +kernel
theorem dX4_arrays_117 : decode cX4_arrays 117 = .ok (.aload_n 0, 1) := by decide +kernel
theorem dX4_arrays_118 : decode cX4_arrays 118 = .ok (.getfield 37, 3) := by decide +kernel
theorem dX4_arrays_121 : decode cX4_arrays 121 = .ok (.iconst 2, 1) := by decide +kernel
theorem dX4_arrays_122 : decode cX4_arrays 122 = .ok (.iconst 2, 1) := by decide +kernel
theorem dX4_arrays_123 : decode cX4_arrays 123 = .ok (.iload 5, 2) := by decide +kernel
theorem dX4_arrays_125 : decode cX4_arrays 125 = .ok (.imul, 1) := by decide +kernel
theorem dX4_arrays_126 : decode cX4_arrays 126 = .ok (.iadd, 1) := by decide +kernel
theorem dX4_arrays_127 : decode cX4_arrays 127 = .ok (.invokevirtual 150, 3) := by decide +kernel
theorem dX4_arrays_130 : decode cX4_arrays 130 = .ok (.invokevirtual 232, 3) := by decide +kernel
theorem dX4_arrays_133 : decode cX4_arrays 133 = .ok (.aload_n 0, 1) := by decide +kernel
theorem dX4_arrays_134 : decode cX4_arrays 134 = .ok (.getfield 42, 3) := by decide +kernel
theorem dX4_arrays_137 : decode cX4_arrays 137 = .ok (.bipush 30, 2) := by decide +kernel
theorem dX4_arrays_139 : decode cX4_arrays 139 = .ok (.iload 5, 2) := by decide +kernel
theorem dX4_arrays_141 : decode cX4_arrays 141 = .ok (.aload_n 0, 1) := by decide +kernel
theorem dX4_arrays_142 : decode cX4_arrays 142 = .ok (.getfield 27, 3) := by decide +kernel
theorem dX4_arrays_145 : decode cX4_arrays 145 = .ok (.iload 7, 2) := by decide +kernel
theorem dX4_arrays_147 : decode cX4_arrays 147 = .ok (.invokevirtual 123, 3) := by decide +kernel
theorem dX4_arrays_150 : decode cX4_arrays 150 = .ok (.invokevirtual 241, 3) := by decide +kernel
theorem dX4_arrays_153 : decode cX4_arrays 153 = .ok (.pop, 1) := by decide +kernel
theorem dX4_arrays_154 : decode cX4_arrays 154 = .ok (.iinc 6 1, 3) := by decide +kernel
theorem dX4_arrays_157 : decode cX4_arrays 157 = .ok (.goto (-89), 3) := by decide +kernel
theorem dX4_arrays_160 : decode cX4_arrays 160 = .ok (.aload_n 0, 1) := by decide +kernel
theorem dX4_arrays_161 : decode cX4_arrays 161 = .ok (.getfield 42, 3) := by decide +kernel
theorem dX4_arrays_164 : decode cX4_arrays 164 = .ok (.bipush 27, 2) := by decide +kernel
theorem dX4_arrays_166 : decode cX4_arrays 166 = .ok (.iconst 2, 1) := by decide +kernel
theorem dX4_arrays_167 : decode cX4_arrays 167 = .ok (.iload 5, 2) := by decide +kernel
theorem dX4_arrays_169 : decode cX4_arrays 169 = .ok (.imul, 1) := by decide +kernel
theorem dX4_arrays_170 : decode cX4_arrays 170 = .ok (.invokevirtual 156, 3) := by decide +kernel
theorem dX4_arrays_173 : decode cX4_arrays 173 = .ok (.pop, 1) := by decide +kernel
theorem dX4_arrays_174 : decode cX4_arrays 174 = .ok (.return_, 1) := by decide +kernel
def fX4_arrays_133 (k_68 : Int32 → Int32 → Int32 → Int32 → Wd → Option Wd) (a3 : Int32) (a4 : Int32) (a5 : Int32) (a6 : Int32) (a7 : Int32) (w : Wd) : Option Wd :=
  lt (fX8_slot a7 w) fun x1 => lt2 (fX0_put 30 a5 x1 w) fun x2 w3 => lt (a6 + 1) fun x4 => k_68 a3 a4 a5 x4 w3
theorem pX4_arrays_133 {q : Gq} {l : Launch} {N : Option Value → Wd → Prop} {X : String → Wd → Prop} {w : Wd} {R : Wd} (hN : N none R) {k_68 : Int32 → Int32 → Int32 → Int32 → Wd → Option Wd} (hk_68 : ∀ (a3 : Int32) (a4 : Int32) (a5 : Int32) (a6 : Int32) (w : Wd), k_68 a3 a4 a5 a6 w = some R → RT (GA q) l 910 yX4_arrays cX4_arrays 8 (none) N X 68 [] [(0, .ref 2), (3, .int a3), (4, .int a4), (5, .int a5), (6, .int a6)] w) {a3 : Int32} {a4 : Int32} {a5 : Int32} {a6 : Int32} {a7 : Int32} (h : fX4_arrays_133 k_68 a3 a4 a5 a6 a7 w = some R) : RT (GA q) l 910 yX4_arrays cX4_arrays 8 (none) N X 133 [] [(0, .ref 2), (3, .int a3), (4, .int a4), (5, .int a5), (6, .int a6), (7, .int a7)] w := by
  unfold fX4_arrays_133 at h
  refine r_aload_n (pc := 133) dX4_arrays_133 rfl 0 rfl ?_
  refine r_get (pc := 134) (j := 5) (v := .ref 40) oA2 cf4 flRX4_42 rfl dX4_arrays_134 rfl ?_
  refine r_bipush (pc := 137) dX4_arrays_137 kb_30 ?_
  refine r_iload (pc := 139) dX4_arrays_139 3 rfl ?_
  refine r_aload_n (pc := 141) dX4_arrays_141 rfl 0 rfl ?_
  refine r_get (pc := 142) (j := 2) (v := .ref 13) oA2 cf4 flRX4_27 rfl dX4_arrays_142 rfl ?_
  refine r_iload (pc := 145) dX4_arrays_145 5 rfl ?_
  replace h := lt_e h; obtain ⟨x1, ex1, h⟩ := h
  refine r_cVi (pc := 147) wyX8_slot oA13 rfl mlRX4_123 iyX8_slot syX8_slot ⟨(Nat.le_of_ble_eq_true rfl), (Nat.le_of_ble_eq_true rfl)⟩ rfl rfl (Nat.le_of_ble_eq_true rfl) dX4_arrays_147 (mX8_slot ex1 (pI.mk ?_))
  replace h := lt2_e h; obtain ⟨x2, w3, ew3, h⟩ := h
  refine r_cVi (pc := 150) wyX0_put oA40 rfl mlRX4_241 iyX0_put syX0_put ⟨(Nat.le_of_ble_eq_true rfl), (Nat.le_of_ble_eq_true rfl)⟩ rfl rfl (Nat.le_of_ble_eq_true rfl) dX4_arrays_150 (mX0_put ew3 (pI.mk ?_))
  refine r_pop (pc := 153) dX4_arrays_153 rfl ?_
  replace h := lt_e h; obtain ⟨x4, ex4, h⟩ := h
  refine r_inc (pc := 154) (loc' := [(6, .int x4), (0, .ref 2), (3, .int a3), (4, .int a4), (5, .int a5), (7, .int a7)]) dX4_arrays_154 ki_1 ex4 4 rfl (Nat.le_of_ble_eq_true rfl) rfl ?_
  refine r_goto (pc := 157) dX4_arrays_157 rfl ?_
  refine r_drop (loc' := [(0, .ref 2), (3, .int a3), (4, .int a4), (5, .int a5), (6, .int x4)]) [1, 2, 3, 4, 0] rfl ?_
  exact hk_68 a3 a4 a5 x4 w3 h
def fX4_arrays_68 (k_68 : Int32 → Int32 → Int32 → Int32 → Wd → Option Wd) (a3 : Int32) (a4 : Int32) (a5 : Int32) (a6 : Int32) (w : Wd) : Option Wd :=
  if a4 ≤ a6 then (lt2 (fX0_put_ 27 (2 * a5) w) fun x2 w3 => some w3) else (lt (fX8_declaredAt (a3 + (2 * a6)) w) fun x4 => if (gi w 3 5) = 0 then (lt (fX8_bound x4 a5 w) fun w6 => lt2 (fX5_take (2 + (2 * a5)) w6) fun x7 w8 => lt (fX8_place x4 x7 w8) fun w9 => fX4_arrays_133 k_68 a3 a4 a5 a6 x4 w9) else (fX4_arrays_133 k_68 a3 a4 a5 a6 x4 w))
theorem pX4_arrays_68 {q : Gq} {l : Launch} {N : Option Value → Wd → Prop} {X : String → Wd → Prop} {w : Wd} {R : Wd} (hN : N none R) {k_68 : Int32 → Int32 → Int32 → Int32 → Wd → Option Wd} (hk_68 : ∀ (a3 : Int32) (a4 : Int32) (a5 : Int32) (a6 : Int32) (w : Wd), k_68 a3 a4 a5 a6 w = some R → RT (GA q) l 910 yX4_arrays cX4_arrays 8 (none) N X 68 [] [(0, .ref 2), (3, .int a3), (4, .int a4), (5, .int a5), (6, .int a6)] w) {a3 : Int32} {a4 : Int32} {a5 : Int32} {a6 : Int32} (h : fX4_arrays_68 k_68 a3 a4 a5 a6 w = some R) : RT (GA q) l 910 yX4_arrays cX4_arrays 8 (none) N X 68 [] [(0, .ref 2), (3, .int a3), (4, .int a4), (5, .int a5), (6, .int a6)] w := by
  unfold fX4_arrays_68 at h
  refine r_iload (pc := 68) dX4_arrays_68 4 rfl ?_
  refine r_iload (pc := 70) dX4_arrays_70 2 rfl ?_
  refine r_icmp_ge (pc := 72) dX4_arrays_72 rfl (fun hc1 => ?_) (fun hc1 => ?_)
  · replace h := if_t hc1 h
    refine r_aload_n (pc := 160) dX4_arrays_160 rfl 0 rfl ?_
    refine r_get (pc := 161) (j := 5) (v := .ref 40) oA2 cf4 flRX4_42 rfl dX4_arrays_161 rfl ?_
    refine r_bipush (pc := 164) dX4_arrays_164 kb_27 ?_
    refine r_iconst (pc := 166) dX4_arrays_166 ki_2 ?_
    refine r_iload (pc := 167) dX4_arrays_167 3 rfl ?_
    refine r_imul (pc := 169) dX4_arrays_169 ?_
    replace h := lt2_e h; obtain ⟨x2, w3, ew3, h⟩ := h
    refine r_cVi (pc := 170) wyX0_put_ oA40 rfl mlRX4_156 iyX0_put_ syX0_put_ ⟨(Nat.le_of_ble_eq_true rfl), (Nat.le_of_ble_eq_true rfl)⟩ rfl rfl (Nat.le_of_ble_eq_true rfl) dX4_arrays_170 (mX0_put_ ew3 (pI.mk ?_))
    refine r_pop (pc := 173) dX4_arrays_173 rfl ?_
    exact rO_v (pc := 174) rfl dX4_arrays_174 h hN
  replace h := if_f hc1 h
  refine r_aload_n (pc := 75) dX4_arrays_75 rfl 0 rfl ?_
  refine r_get (pc := 76) (j := 2) (v := .ref 13) oA2 cf4 flRX4_27 rfl dX4_arrays_76 rfl ?_
  refine r_iload_n (pc := 79) dX4_arrays_79 rfl 1 rfl ?_
  refine r_iconst (pc := 80) dX4_arrays_80 ki_2 ?_
  refine r_iload (pc := 81) dX4_arrays_81 4 rfl ?_
  refine r_imul (pc := 83) dX4_arrays_83 ?_
  refine r_iadd (pc := 84) dX4_arrays_84 ?_
  replace h := lt_e h; obtain ⟨x4, ex4, h⟩ := h
  refine r_cVi (pc := 85) wyX8_declaredAt oA13 rfl mlRX4_205 iyX8_declaredAt syX8_declaredAt ⟨(Nat.le_of_ble_eq_true rfl), (Nat.le_of_ble_eq_true rfl)⟩ rfl rfl (Nat.le_of_ble_eq_true rfl) dX4_arrays_85 (mX8_declaredAt ex4 (pI.mk ?_))
  refine r_istore (pc := 88) (loc' := [(7, .int x4), (0, .ref 2), (3, .int a3), (4, .int a4), (5, .int a5), (6, .int a6)]) dX4_arrays_88 (Nat.le_of_ble_eq_true rfl) rfl ?_
  refine r_aload_n (pc := 90) dX4_arrays_90 rfl 1 rfl ?_
  refine r_get (pc := 91) (j := 0) (v := .ref 3) oA2 cf4 flRX4_12 rfl dX4_arrays_91 rfl ?_
  refine r_get (pc := 94) (j := 5) (v := .int (gi w 3 5)) oA3 cf1 flRX4_143 rfl dX4_arrays_94 rfl ?_
  refine r_if_ne (pc := 97) dX4_arrays_97 rfl (fun hc5 => ?_) (fun hc5 => ?_)
  · replace h := if_f hc5 h
    refine r_drop (loc' := [(0, .ref 2), (3, .int a3), (4, .int a4), (5, .int a5), (6, .int a6), (7, .int x4)]) [1, 2, 3, 4, 5, 0] rfl ?_
    exact pX4_arrays_133 hN hk_68 h
  replace h := if_t hc5 h
  refine r_aload_n (pc := 100) dX4_arrays_100 rfl 1 rfl ?_
  refine r_get (pc := 101) (j := 2) (v := .ref 13) oA2 cf4 flRX4_27 rfl dX4_arrays_101 rfl ?_
  refine r_iload (pc := 104) dX4_arrays_104 0 rfl ?_
  refine r_iload (pc := 106) dX4_arrays_106 4 rfl ?_
  replace h := lt_e h; obtain ⟨w6, ew6, h⟩ := h
  refine r_cVv (pc := 108) wyX8_bound oA13 rfl mlRX4_238 iyX8_bound syX8_bound ⟨(Nat.le_of_ble_eq_true rfl), (Nat.le_of_ble_eq_true rfl)⟩ rfl rfl (Nat.le_of_ble_eq_true rfl) dX4_arrays_108 (mX8_bound ew6 (pV.mk ?_))
  refine r_aload_n (pc := 111) dX4_arrays_111 rfl 1 rfl ?_
  refine r_get (pc := 112) (j := 2) (v := .ref 13) oA2 cf4 flRX4_27 rfl dX4_arrays_112 rfl ?_
  refine r_iload (pc := 115) dX4_arrays_115 0 rfl ?_
  refine r_aload_n (pc := 117) dX4_arrays_117 rfl 1 rfl ?_
  refine r_get (pc := 118) (j := 4) (v := .ref 34) oA2 cf4 flRX4_37 rfl dX4_arrays_118 rfl ?_
  refine r_iconst (pc := 121) dX4_arrays_121 ki_2 ?_
  refine r_iconst (pc := 122) dX4_arrays_122 ki_2 ?_
  refine r_iload (pc := 123) dX4_arrays_123 4 rfl ?_
  refine r_imul (pc := 125) dX4_arrays_125 ?_
  refine r_iadd (pc := 126) dX4_arrays_126 ?_
  replace h := lt2_e h; obtain ⟨x7, w8, ew8, h⟩ := h
  refine r_cVi (pc := 127) wyX5_take oA34 rfl mlRX4_150 iyX5_take syX5_take ⟨(Nat.le_of_ble_eq_true rfl), (Nat.le_of_ble_eq_true rfl)⟩ rfl rfl (Nat.le_of_ble_eq_true rfl) dX4_arrays_127 (mX5_take ew8 (pI.mk ?_))
  replace h := lt_e h; obtain ⟨w9, ew9, h⟩ := h
  refine r_cVv (pc := 130) wyX8_place oA13 rfl mlRX4_232 iyX8_place syX8_place ⟨(Nat.le_of_ble_eq_true rfl), (Nat.le_of_ble_eq_true rfl)⟩ rfl rfl (Nat.le_of_ble_eq_true rfl) dX4_arrays_130 (mX8_place ew9 (pV.mk ?_))
  refine r_drop (loc' := [(0, .ref 2), (3, .int a3), (4, .int a4), (5, .int a5), (6, .int a6), (7, .int x4)]) [1, 2, 3, 4, 5, 0] rfl ?_
  exact pX4_arrays_133 hN hk_68 h
def oX4_arrays_68 : Nat → Int32 → Int32 → Int32 → Int32 → Wd → Option Wd
  | 0 => fun _ _ _ _ _ => none
  | n + 1 => fX4_arrays_68 (oX4_arrays_68 n)
theorem qX4_arrays_68 {q : Gq} {l : Launch} {N : Option Value → Wd → Prop} {X : String → Wd → Prop} {R : Wd} (hN : N none R) : ∀ (n : Nat) (a3 : Int32) (a4 : Int32) (a5 : Int32) (a6 : Int32) (w : Wd), oX4_arrays_68 n a3 a4 a5 a6 w = some R → RT (GA q) l 910 yX4_arrays cX4_arrays 8 (none) N X 68 [] [(0, .ref 2), (3, .int a3), (4, .int a4), (5, .int a5), (6, .int a6)] w := by
  intro n
  induction n with
  | zero =>
    intro a3 a4 a5 a6 w h
    exact absurd h (fun q => nomatch q)
  | succ n ih =>
    intro a3 a4 a5 a6 w h
    exact pX4_arrays_68 hN ih h
def fX4_arrays_20 (k_20 : Int32 → Int32 → Int32 → Int32 → Wd → Option Wd) (a1 : Int32) (a2 : Int32) (a3 : Int32) (a4 : Int32) (w : Wd) : Option Wd :=
  if 8193 ≤ a4 then (bn2 (fX4_bounds a1 w) fun x2 w3 => oX4_arrays_68 FU a3 a4 x2 0 w3) else (if a4 = 0 then (lt2 (fX4_declared 2 a2 w) fun x5 w6 => lt (a4 + 1) fun x7 => k_20 a1 a2 a3 x7 w6) else (lt2 (fX9_take 40 w) fun x8 w9 => if x8 = true then (lt2 (fX4_declared 2 a2 w9) fun x11 w12 => lt (a4 + 1) fun x13 => k_20 a1 a2 a3 x13 w12) else (bn2 (fX4_bounds a1 w9) fun x14 w15 => oX4_arrays_68 FU a3 a4 x14 0 w15)))
theorem pX4_arrays_20 {q : Gq} {l : Launch} {N : Option Value → Wd → Prop} {X : String → Wd → Prop} {w : Wd} {R : Wd} (hN : N none R) {k_20 : Int32 → Int32 → Int32 → Int32 → Wd → Option Wd} (hk_20 : ∀ (a1 : Int32) (a2 : Int32) (a3 : Int32) (a4 : Int32) (w : Wd), k_20 a1 a2 a3 a4 w = some R → RT (GA q) l 910 yX4_arrays cX4_arrays 8 (none) N X 20 [] [(0, .ref 2), (1, .int a1), (2, .int a2), (3, .int a3), (4, .int a4)] w) {a1 : Int32} {a2 : Int32} {a3 : Int32} {a4 : Int32} (h : fX4_arrays_20 k_20 a1 a2 a3 a4 w = some R) : RT (GA q) l 910 yX4_arrays cX4_arrays 8 (none) N X 20 [] [(0, .ref 2), (1, .int a1), (2, .int a2), (3, .int a3), (4, .int a4)] w := by
  unfold fX4_arrays_20 at h
  refine r_iload (pc := 20) dX4_arrays_20 4 rfl ?_
  refine r_sipush (pc := 22) dX4_arrays_22 ks_8193 ?_
  refine r_icmp_ge (pc := 25) dX4_arrays_25 rfl (fun hc1 => ?_) (fun hc1 => ?_)
  · replace h := if_t hc1 h
    refine r_aload_n (pc := 58) dX4_arrays_58 rfl 0 rfl ?_
    refine r_iload_n (pc := 59) dX4_arrays_59 rfl 1 rfl ?_
    replace h := bn2_e h; obtain ⟨x2, w3, ew3, h⟩ := h
    refine r_cVi (pc := 60) wyX4_bounds oA2 rfl mlRX4_235 iyX4_bounds syX4_bounds ⟨(Nat.le_of_ble_eq_true rfl), (Nat.le_of_ble_eq_true rfl)⟩ rfl rfl (Nat.le_of_ble_eq_true rfl) dX4_arrays_60 (mX4_bounds ew3 (pI.mk ?_))
    refine r_istore (pc := 63) (loc' := [(5, .int x2), (0, .ref 2), (1, .int a1), (2, .int a2), (3, .int a3), (4, .int a4)]) dX4_arrays_63 (Nat.le_of_ble_eq_true rfl) rfl ?_
    refine r_iconst (pc := 65) dX4_arrays_65 ki_0 ?_
    refine r_istore (pc := 66) (loc' := [(6, .int 0), (5, .int x2), (0, .ref 2), (1, .int a1), (2, .int a2), (3, .int a3), (4, .int a4)]) dX4_arrays_66 (Nat.le_of_ble_eq_true rfl) rfl ?_
    refine r_drop (loc' := [(0, .ref 2), (3, .int a3), (4, .int a4), (5, .int x2), (6, .int 0)]) [2, 5, 6, 1, 0] rfl ?_
    exact qX4_arrays_68 hN FU a3 a4 x2 0 w3 h
  replace h := if_f hc1 h
  refine r_iload (pc := 28) dX4_arrays_28 4 rfl ?_
  refine r_if_eq (pc := 30) dX4_arrays_30 rfl (fun hc4 => ?_) (fun hc4 => ?_)
  · replace h := if_t hc4 h
    refine r_aload_n (pc := 45) dX4_arrays_45 rfl 0 rfl ?_
    refine r_iconst (pc := 46) dX4_arrays_46 ki_2 ?_
    refine r_iload_n (pc := 47) dX4_arrays_47 rfl 2 rfl ?_
    replace h := lt2_e h; obtain ⟨x5, w6, ew6, h⟩ := h
    refine r_cVi (pc := 48) wyX4_declared oA2 rfl mlRX4_226 iyX4_declared syX4_declared ⟨(Nat.le_of_ble_eq_true rfl), (Nat.le_of_ble_eq_true rfl)⟩ rfl rfl (Nat.le_of_ble_eq_true rfl) dX4_arrays_48 (mX4_declared ew6 (pI.mk ?_))
    refine r_pop (pc := 51) dX4_arrays_51 rfl ?_
    replace h := lt_e h; obtain ⟨x7, ex7, h⟩ := h
    refine r_inc (pc := 52) (loc' := [(4, .int x7), (0, .ref 2), (1, .int a1), (2, .int a2), (3, .int a3)]) dX4_arrays_52 ki_1 ex7 4 rfl (Nat.le_of_ble_eq_true rfl) rfl ?_
    refine r_goto (pc := 55) dX4_arrays_55 rfl ?_
    refine r_drop (loc' := [(0, .ref 2), (1, .int a1), (2, .int a2), (3, .int a3), (4, .int x7)]) [1, 2, 3, 4, 0] rfl ?_
    exact hk_20 a1 a2 a3 x7 w6 h
  replace h := if_f hc4 h
  refine r_aload_n (pc := 33) dX4_arrays_33 rfl 0 rfl ?_
  refine r_get (pc := 34) (j := 1) (v := .ref 4) oA2 cf4 flRX4_22 rfl dX4_arrays_34 rfl ?_
  refine r_bipush (pc := 37) dX4_arrays_37 kb_40 ?_
  replace h := lt2_e h; obtain ⟨x8, w9, ew9, h⟩ := h
  refine r_cVi (pc := 39) wyX9_take oA4 rfl mlRX4_164 iyX9_take syX9_take ⟨(Nat.le_of_ble_eq_true rfl), (Nat.le_of_ble_eq_true rfl)⟩ rfl rfl (Nat.le_of_ble_eq_true rfl) dX4_arrays_39 (mX9_take ew9 (pI.mk ?_))
  refine r_z_eq (pc := 42) dX4_arrays_42 rfl (fun hc10 => ?_) (fun hc10 => ?_)
  · replace h := if_f hc10 h
    refine r_aload_n (pc := 58) dX4_arrays_58 rfl 0 rfl ?_
    refine r_iload_n (pc := 59) dX4_arrays_59 rfl 1 rfl ?_
    replace h := bn2_e h; obtain ⟨x14, w15, ew15, h⟩ := h
    refine r_cVi (pc := 60) wyX4_bounds oA2 rfl mlRX4_235 iyX4_bounds syX4_bounds ⟨(Nat.le_of_ble_eq_true rfl), (Nat.le_of_ble_eq_true rfl)⟩ rfl rfl (Nat.le_of_ble_eq_true rfl) dX4_arrays_60 (mX4_bounds ew15 (pI.mk ?_))
    refine r_istore (pc := 63) (loc' := [(5, .int x14), (0, .ref 2), (1, .int a1), (2, .int a2), (3, .int a3), (4, .int a4)]) dX4_arrays_63 (Nat.le_of_ble_eq_true rfl) rfl ?_
    refine r_iconst (pc := 65) dX4_arrays_65 ki_0 ?_
    refine r_istore (pc := 66) (loc' := [(6, .int 0), (5, .int x14), (0, .ref 2), (1, .int a1), (2, .int a2), (3, .int a3), (4, .int a4)]) dX4_arrays_66 (Nat.le_of_ble_eq_true rfl) rfl ?_
    refine r_drop (loc' := [(0, .ref 2), (3, .int a3), (4, .int a4), (5, .int x14), (6, .int 0)]) [2, 5, 6, 1, 0] rfl ?_
    exact qX4_arrays_68 hN FU a3 a4 x14 0 w15 h
  replace h := if_t hc10 h
  refine r_aload_n (pc := 45) dX4_arrays_45 rfl 0 rfl ?_
  refine r_iconst (pc := 46) dX4_arrays_46 ki_2 ?_
  refine r_iload_n (pc := 47) dX4_arrays_47 rfl 2 rfl ?_
  replace h := lt2_e h; obtain ⟨x11, w12, ew12, h⟩ := h
  refine r_cVi (pc := 48) wyX4_declared oA2 rfl mlRX4_226 iyX4_declared syX4_declared ⟨(Nat.le_of_ble_eq_true rfl), (Nat.le_of_ble_eq_true rfl)⟩ rfl rfl (Nat.le_of_ble_eq_true rfl) dX4_arrays_48 (mX4_declared ew12 (pI.mk ?_))
  refine r_pop (pc := 51) dX4_arrays_51 rfl ?_
  replace h := lt_e h; obtain ⟨x13, ex13, h⟩ := h
  refine r_inc (pc := 52) (loc' := [(4, .int x13), (0, .ref 2), (1, .int a1), (2, .int a2), (3, .int a3)]) dX4_arrays_52 ki_1 ex13 4 rfl (Nat.le_of_ble_eq_true rfl) rfl ?_
  refine r_goto (pc := 55) dX4_arrays_55 rfl ?_
  refine r_drop (loc' := [(0, .ref 2), (1, .int a1), (2, .int a2), (3, .int a3), (4, .int x13)]) [1, 2, 3, 4, 0] rfl ?_
  exact hk_20 a1 a2 a3 x13 w12 h
def oX4_arrays_20 : Nat → Int32 → Int32 → Int32 → Int32 → Wd → Option Wd
  | 0 => fun _ _ _ _ _ => none
  | n + 1 => fX4_arrays_20 (oX4_arrays_20 n)
theorem qX4_arrays_20 {q : Gq} {l : Launch} {N : Option Value → Wd → Prop} {X : String → Wd → Prop} {R : Wd} (hN : N none R) : ∀ (n : Nat) (a1 : Int32) (a2 : Int32) (a3 : Int32) (a4 : Int32) (w : Wd), oX4_arrays_20 n a1 a2 a3 a4 w = some R → RT (GA q) l 910 yX4_arrays cX4_arrays 8 (none) N X 20 [] [(0, .ref 2), (1, .int a1), (2, .int a2), (3, .int a3), (4, .int a4)] w := by
  intro n
  induction n with
  | zero =>
    intro a1 a2 a3 a4 w h
    exact absurd h (fun q => nomatch q)
  | succ n ih =>
    intro a1 a2 a3 a4 w h
    exact pX4_arrays_20 hN ih h
def fX4_arrays (a1 : Int32) (a2 : Int32) (w : Wd) : Option Wd :=
  lt (fX9_need 9 w) fun w1 => lt (fX9_at w1) fun x2 => oX4_arrays_20 FU a1 a2 x2 0 w1
theorem pX4_arrays {q : Gq} {l : Launch} {N : Option Value → Wd → Prop} {X : String → Wd → Prop} {w : Wd} {R : Wd} (hN : N none R) {a1 : Int32} {a2 : Int32} (h : fX4_arrays a1 a2 w = some R) : RT (GA q) l 910 yX4_arrays cX4_arrays 8 (none) N X 0 [] [(0, .ref 2), (1, .int a1), (2, .int a2)] w := by
  unfold fX4_arrays at h
  refine r_aload_n (pc := 0) dX4_arrays_0 rfl 0 rfl ?_
  refine r_get (pc := 1) (j := 1) (v := .ref 4) oA2 cf4 flRX4_22 rfl dX4_arrays_1 rfl ?_
  refine r_bipush (pc := 4) dX4_arrays_4 kb_9 ?_
  replace h := lt_e h; obtain ⟨w1, ew1, h⟩ := h
  refine r_cVv (pc := 6) wyX9_need oA4 rfl mlRX4_170 iyX9_need syX9_need ⟨(Nat.le_of_ble_eq_true rfl), (Nat.le_of_ble_eq_true rfl)⟩ rfl rfl (Nat.le_of_ble_eq_true rfl) dX4_arrays_6 (mX9_need ew1 (pV.mk ?_))
  refine r_aload_n (pc := 9) dX4_arrays_9 rfl 0 rfl ?_
  refine r_get (pc := 10) (j := 1) (v := .ref 4) oA2 cf4 flRX4_22 rfl dX4_arrays_10 rfl ?_
  replace h := lt_e h; obtain ⟨x2, ex2, h⟩ := h
  refine r_cVi (pc := 13) wyX9_at oA4 rfl mlRX4_202 iyX9_at syX9_at ⟨(Nat.le_of_ble_eq_true rfl), (Nat.le_of_ble_eq_true rfl)⟩ rfl rfl (Nat.le_of_ble_eq_true rfl) dX4_arrays_13 (mX9_at ex2 (pI.mk ?_))
  refine r_istore_n (pc := 16) (loc' := [(3, .int x2), (0, .ref 2), (1, .int a1), (2, .int a2)]) dX4_arrays_16 rfl (Nat.le_of_ble_eq_true rfl) rfl ?_
  refine r_iconst (pc := 17) dX4_arrays_17 ki_0 ?_
  refine r_istore (pc := 18) (loc' := [(4, .int 0), (3, .int x2), (0, .ref 2), (1, .int a1), (2, .int a2)]) dX4_arrays_18 (Nat.le_of_ble_eq_true rfl) rfl ?_
  refine r_drop (loc' := [(0, .ref 2), (1, .int a1), (2, .int a2), (3, .int x2), (4, .int 0)]) [2, 3, 4, 1, 0] rfl ?_
  exact qX4_arrays_20 hN FU a1 a2 x2 0 w1 h
theorem mX4_arrays {q : Gq} {l : Launch} {N : Option Value → Wd → Prop} {X : String → Wd → Prop} {a1 : Int32} {a2 : Int32} {w : Wd} {u : Wd} (h : fX4_arrays a1 a2 w = some u) (hN : N none u) : Ct (GA q) l 910 yX4_arrays cX4_arrays 8 (none) [.ref 2, .int a1, .int a2] w N X := Ct.of (by decide) (Nat.le_of_ble_eq_true rfl) (pX4_arrays hN h)
/-! AlgolMill$Maker.aims (I)V: O, 909 -/
theorem dX4_aims_0 : decode cX4_aims 0 = .ok (.aload_n 0, 1) := by decide +kernel
theorem dX4_aims_1 : decode cX4_aims 1 = .ok (.getfield 22, 3) := by decide +kernel
theorem dX4_aims_4 : decode cX4_aims 4 = .ok (.bipush 13, 2) := by decide +kernel
theorem dX4_aims_6 : decode cX4_aims 6 = .ok (.invokevirtual 170, 3) := by decide +kernel
theorem dX4_aims_9 : decode cX4_aims 9 = .ok (.aload_n 0, 1) := by decide +kernel
theorem dX4_aims_10 : decode cX4_aims 10 = .ok (.iconst 5, 1) := by decide +kernel
theorem dX4_aims_11 : decode cX4_aims 11 = .ok (.iconst 0, 1) := by decide +kernel
theorem dX4_aims_12 : decode cX4_aims 12 = .ok (.invokevirtual 226, 3) := by decide +kernel
theorem dX4_aims_15 : decode cX4_aims 15 = .ok (.istore_n 2, 1) := by decide +kernel
theorem dX4_aims_16 : decode cX4_aims 16 = .ok (.aload_n 0, 1) := by decide +kernel
theorem dX4_aims_17 : decode cX4_aims 17 = .ok (.getfield 22, 3) := by decide +kernel
theorem dX4_aims_20 : decode cX4_aims 20 = .ok (.bipush 50, 2) := by decide +kernel
theorem dX4_aims_22 : decode cX4_aims 22 = .ok (.invokevirtual 170, 3) := by decide +kernel
theorem dX4_aims_25 : decode cX4_aims 25 = .ok (.aload_n 0, 1) := by decide +kernel
theorem dX4_aims_26 : decode cX4_aims 26 = .ok (.getfield 42, 3) := by decide +kernel
theorem dX4_aims_29 : decode cX4_aims 29 = .ok (.bipush 33, 2) := by decide +kernel
theorem dX4_aims_31 : decode cX4_aims 31 = .ok (.invokevirtual 108, 3) := by decide +kernel
theorem dX4_aims_34 : decode cX4_aims 34 = .ok (.istore_n 3, 1) := by decide +kernel
theorem dX4_aims_35 : decode cX4_aims 35 = .ok (.aload_n 0, 1) := by decide +kernel
theorem dX4_aims_36 : decode cX4_aims 36 = .ok (.getfield 42, 3) := by decide +kernel
theorem dX4_aims_39 : decode cX4_aims 39 = .ok (.iload_n 2, 1) := by decide +kernel
theorem dX4_aims_40 : decode cX4_aims 40 = .ok (.invokevirtual 120, 3) := by decide +kernel
theorem dX4_aims_43 : decode cX4_aims 43 = .ok (.aload_n 0, 1) := by decide +kernel
theorem dX4_aims_44 : decode cX4_aims 44 = .ok (.getfield 42, 3) := by decide +kernel
theorem dX4_aims_47 : decode cX4_aims 47 = .ok (.lconst 0, 1) := by decide +kernel
theorem dX4_aims_48 : decode cX4_aims 48 = .ok (.invokevirtual 126, 3) := by decide +kernel
theorem dX4_aims_51 : decode cX4_aims 51 = .ok (.istore 4, 2) := by decide +kernel
theorem dX4_aims_53 : decode cX4_aims 53 = .ok (.iconst 0, 1) := by decide +kernel
theorem dX4_aims_54 : decode cX4_aims 54 = .ok (.istore 5, 2) := by decide +kernel
theorem dX4_aims_56 : decode cX4_aims 56 = .ok (.iload 5, 2) := by decide +kernel
theorem dX4_aims_58 : decode cX4_aims 58 = .ok (.sipush 8193, 3) := by decide +kernel
theorem dX4_aims_61 : decode cX4_aims 61 = .ok (.if_icmp .ge 72, 3) := by decide +kernel
theorem dX4_aims_64 : decode cX4_aims 64 = .ok (.iload 5, 2) := by decide +kernel
theorem dX4_aims_66 : decode cX4_aims 66 = .ok (.ifCond .eq 15, 3) := by decide +kernel
theorem dX4_aims_69 : decode cX4_aims 69 = .ok (.aload_n 0, 1) := by decide +kernel
theorem dX4_aims_70 : decode cX4_aims 70 = .ok (.getfield 22, 3) := by decide +kernel
theorem dX4_aims_73 : decode cX4_aims 73 = .ok (.bipush 40, 2) := by decide +kernel
theorem dX4_aims_75 : decode cX4_aims 75 = .ok (.invokevirtual 164, 3) := by decide +kernel
theorem dX4_aims_78 : decode cX4_aims 78 = .ok (.ifCond .eq 55, 3) := by decide +kernel
theorem dX4_aims_81 : decode cX4_aims 81 = .ok (.aload_n 0, 1) := by decide +kernel
theorem dX4_aims_82 : decode cX4_aims 82 = .ok (.getfield 42, 3) := by decide +kernel
theorem dX4_aims_85 : decode cX4_aims 85 = .ok (.lconst 0, 1) := by decide +kernel
theorem dX4_aims_86 : decode cX4_aims 86 = .ok (.invokevirtual 126, 3) := by decide +kernel
theorem dX4_aims_89 : decode cX4_aims 89 = .ok (.istore 6, 2) := by decide +kernel
theorem dX4_aims_91 : decode cX4_aims 91 = .ok (.aload_n 0, 1) := by decide +kernel
theorem dX4_aims_92 : decode cX4_aims 92 = .ok (.getfield 48, 3) := by decide +kernel
theorem dX4_aims_95 : decode cX4_aims 95 = .ok (.iload_n 1, 1) := by decide +kernel
theorem dX4_aims_96 : decode cX4_aims 96 = .ok (.iconst 1, 1) := by decide +kernel
theorem dX4_aims_97 : decode cX4_aims 97 = .ok (.invokevirtual 253, 3) := by decide +kernel
theorem dX4_aims_100 : decode cX4_aims 100 = .ok (.aload_n 0, 1) := by decide +kernel
theorem dX4_aims_101 : decode cX4_aims 101 = .ok (.getfield 42, 3) := by decide +kernel
theorem dX4_aims_104 : decode cX4_aims 104 = .ok (.bipush 46, 2) := by decide +kernel
theorem dX4_aims_106 : decode cX4_aims 106 = .ok (.invokevirtual 108, 3) := by decide +kernel
theorem dX4_aims_109 : decode cX4_aims 109 = .ok (.pop, 1) := by decide +kernel
theorem dX4_aims_110 : decode cX4_aims 110 = .ok (.aload_n 0, 1) := by decide +kernel
theorem dX4_aims_111 : decode cX4_aims 111 = .ok (.getfield 42, 3) := by decide +kernel
theorem dX4_aims_114 : decode cX4_aims 114 = .ok (.iload 6, 2) := by decide +kernel
theorem dX4_aims_116 : decode cX4_aims 116 = .ok (.aload_n 0, 1) := by decide +kernel
theorem dX4_aims_117 : decode cX4_aims 117 = .ok (.getfield 42, 3) := by decide +kernel
theorem dX4_aims_120 : decode cX4_aims 120 = .ok (.invokevirtual 256, 3) := by decide +kernel
theorem dX4_aims_123 : decode cX4_aims 123 = .ok (.i2l, 1) := by decide +kernel
theorem dX4_aims_124 : decode cX4_aims 124 = .ok (.invokevirtual 116, 3) := by decide +kernel
theorem dX4_aims_127 : decode cX4_aims 127 = .ok (.iinc 5 1, 3) := by decide +kernel
theorem dX4_aims_130 : decode cX4_aims 130 = .ok (.goto (-74), 3) := by decide +kernel
theorem dX4_aims_133 : decode cX4_aims 133 = .ok (.aload_n 0, 1) := by decide +kernel
theorem dX4_aims_134 : decode cX4_aims 134 = .ok (.getfield 42, 3) := by decide +kernel
theorem dX4_aims_137 : decode cX4_aims 137 = .ok (.iload 4, 2) := by decide +kernel
theorem dX4_aims_139 : decode cX4_aims 139 = .ok (.iload 5, 2) := by decide +kernel
theorem dX4_aims_141 : decode cX4_aims 141 = .ok (.i2l, 1) := by decide +kernel
theorem dX4_aims_142 : decode cX4_aims 142 = .ok (.invokevirtual 116, 3) := by decide +kernel
theorem dX4_aims_145 : decode cX4_aims 145 = .ok (.aload_n 0, 1) := by decide +kernel
theorem dX4_aims_146 : decode cX4_aims 146 = .ok (.getfield 42, 3) := by decide +kernel
theorem dX4_aims_149 : decode cX4_aims 149 = .ok (.iload_n 3, 1) := by decide +kernel
theorem dX4_aims_150 : decode cX4_aims 150 = .ok (.invokevirtual 259, 3) := by decide +kernel
theorem dX4_aims_153 : decode cX4_aims 153 = .ok (.pop, 1) := by decide +kernel
theorem dX4_aims_154 : decode cX4_aims 154 = .ok (.return_, 1) := by decide +kernel
def fX4_aims_133 (a3 : Int32) (a4 : Int32) (a5 : Int32) (w : Wd) : Option Wd :=
  lt (fX0_set a4 (Int32.toInt64 a5) w) fun w1 => lt2 (fX0_patch a3 w1) fun x2 w3 => some w3
theorem pX4_aims_133 {q : Gq} {l : Launch} {N : Option Value → Wd → Prop} {X : String → Wd → Prop} {w : Wd} {R : Wd} (hN : N none R) {a3 : Int32} {a4 : Int32} {a5 : Int32} (h : fX4_aims_133 a3 a4 a5 w = some R) : RT (GA q) l 909 yX4_aims cX4_aims 7 (none) N X 133 [] [(0, .ref 2), (3, .int a3), (4, .int a4), (5, .int a5)] w := by
  unfold fX4_aims_133 at h
  refine r_aload_n (pc := 133) dX4_aims_133 rfl 0 rfl ?_
  refine r_get (pc := 134) (j := 5) (v := .ref 40) oA2 cf4 flRX4_42 rfl dX4_aims_134 rfl ?_
  refine r_iload (pc := 137) dX4_aims_137 2 rfl ?_
  refine r_iload (pc := 139) dX4_aims_139 3 rfl ?_
  refine r_i2l (pc := 141) dX4_aims_141 ?_
  replace h := lt_e h; obtain ⟨w1, ew1, h⟩ := h
  refine r_cVv (pc := 142) wyX0_set oA40 rfl mlRX4_116 iyX0_set syX0_set ⟨(Nat.le_of_ble_eq_true rfl), (Nat.le_of_ble_eq_true rfl)⟩ rfl rfl (Nat.le_of_ble_eq_true rfl) dX4_aims_142 (mX0_set ew1 (pV.mk ?_))
  refine r_aload_n (pc := 145) dX4_aims_145 rfl 0 rfl ?_
  refine r_get (pc := 146) (j := 5) (v := .ref 40) oA2 cf4 flRX4_42 rfl dX4_aims_146 rfl ?_
  refine r_iload_n (pc := 149) dX4_aims_149 rfl 1 rfl ?_
  replace h := lt2_e h; obtain ⟨x2, w3, ew3, h⟩ := h
  refine r_cVi (pc := 150) wyX0_patch oA40 rfl mlRX4_259 iyX0_patch syX0_patch ⟨(Nat.le_of_ble_eq_true rfl), (Nat.le_of_ble_eq_true rfl)⟩ rfl rfl (Nat.le_of_ble_eq_true rfl) dX4_aims_150 (mX0_patch ew3 (pI.mk ?_))
  refine r_pop (pc := 153) dX4_aims_153 rfl ?_
  exact rO_v (pc := 154) rfl dX4_aims_154 h hN
def fX4_aims_81 (k_56 : Int32 → Int32 → Int32 → Int32 → Wd → Option Wd) (a1 : Int32) (a3 : Int32) (a4 : Int32) (a5 : Int32) (w : Wd) : Option Wd :=
  lt2 (fX0_word 0 w) fun x1 w2 => bn2 (RX2_typed 900 11 a1 1 0 w2) fun _ w4 => lt2 (fX0_put__ 46 w4) fun x5 w6 => lt (fX0_here w6) fun x7 => lt (fX0_set x1 (Int32.toInt64 x7) w6) fun w8 => lt (a5 + 1) fun x9 => k_56 a1 a3 a4 x9 w8
theorem pX4_aims_81 {q : Gq} {l : Launch} {N : Option Value → Wd → Prop} {X : String → Wd → Prop} {w : Wd} {R : Wd} (hN : N none R) {k_56 : Int32 → Int32 → Int32 → Int32 → Wd → Option Wd} (hk_56 : ∀ (a1 : Int32) (a3 : Int32) (a4 : Int32) (a5 : Int32) (w : Wd), k_56 a1 a3 a4 a5 w = some R → RT (GA q) l 909 yX4_aims cX4_aims 7 (none) N X 56 [] [(0, .ref 2), (1, .int a1), (3, .int a3), (4, .int a4), (5, .int a5)] w) {a1 : Int32} {a3 : Int32} {a4 : Int32} {a5 : Int32} (h : fX4_aims_81 k_56 a1 a3 a4 a5 w = some R) : RT (GA q) l 909 yX4_aims cX4_aims 7 (none) N X 81 [] [(0, .ref 2), (1, .int a1), (3, .int a3), (4, .int a4), (5, .int a5)] w := by
  unfold fX4_aims_81 at h
  refine r_aload_n (pc := 81) dX4_aims_81 rfl 0 rfl ?_
  refine r_get (pc := 82) (j := 5) (v := .ref 40) oA2 cf4 flRX4_42 rfl dX4_aims_82 rfl ?_
  refine r_lconst (pc := 85) dX4_aims_85 kl_0 ?_
  replace h := lt2_e h; obtain ⟨x1, w2, ew2, h⟩ := h
  refine r_cVi (pc := 86) wyX0_word oA40 rfl mlRX4_126 iyX0_word syX0_word ⟨(Nat.le_of_ble_eq_true rfl), (Nat.le_of_ble_eq_true rfl)⟩ rfl rfl (Nat.le_of_ble_eq_true rfl) dX4_aims_86 (mX0_word ew2 (pI.mk ?_))
  refine r_istore (pc := 89) (loc' := [(6, .int x1), (0, .ref 2), (1, .int a1), (3, .int a3), (4, .int a4), (5, .int a5)]) dX4_aims_89 (Nat.le_of_ble_eq_true rfl) rfl ?_
  refine r_aload_n (pc := 91) dX4_aims_91 rfl 1 rfl ?_
  refine r_get (pc := 92) (j := 6) (v := .ref 42) oA2 cf4 flRX4_48 rfl dX4_aims_92 rfl ?_
  refine r_iload_n (pc := 95) dX4_aims_95 rfl 2 rfl ?_
  refine r_iconst (pc := 96) dX4_aims_96 ki_1 ?_
  replace h := bn2_e h; obtain ⟨x3, w4, ew4, h⟩ := h
  refine r_cVv (pc := 97) wyX2_aim oA42 rfl mlRX4_253 iyX2_aim syX2_aim ⟨(Nat.le_of_ble_eq_true rfl), (Nat.le_of_ble_eq_true rfl)⟩ rfl rfl (Nat.le_of_ble_eq_true rfl) dX4_aims_97 (mX2_aim ew4 (pV.mk ?_))
  refine r_aload_n (pc := 100) dX4_aims_100 rfl 1 rfl ?_
  refine r_get (pc := 101) (j := 5) (v := .ref 40) oA2 cf4 flRX4_42 rfl dX4_aims_101 rfl ?_
  refine r_bipush (pc := 104) dX4_aims_104 kb_46 ?_
  replace h := lt2_e h; obtain ⟨x5, w6, ew6, h⟩ := h
  refine r_cVi (pc := 106) wyX0_put__ oA40 rfl mlRX4_108 iyX0_put__ syX0_put__ ⟨(Nat.le_of_ble_eq_true rfl), (Nat.le_of_ble_eq_true rfl)⟩ rfl rfl (Nat.le_of_ble_eq_true rfl) dX4_aims_106 (mX0_put__ ew6 (pI.mk ?_))
  refine r_pop (pc := 109) dX4_aims_109 rfl ?_
  refine r_aload_n (pc := 110) dX4_aims_110 rfl 1 rfl ?_
  refine r_get (pc := 111) (j := 5) (v := .ref 40) oA2 cf4 flRX4_42 rfl dX4_aims_111 rfl ?_
  refine r_iload (pc := 114) dX4_aims_114 0 rfl ?_
  refine r_aload_n (pc := 116) dX4_aims_116 rfl 1 rfl ?_
  refine r_get (pc := 117) (j := 5) (v := .ref 40) oA2 cf4 flRX4_42 rfl dX4_aims_117 rfl ?_
  replace h := lt_e h; obtain ⟨x7, ex7, h⟩ := h
  refine r_cVi (pc := 120) wyX0_here oA40 rfl mlRX4_256 iyX0_here syX0_here ⟨(Nat.le_of_ble_eq_true rfl), (Nat.le_of_ble_eq_true rfl)⟩ rfl rfl (Nat.le_of_ble_eq_true rfl) dX4_aims_120 (mX0_here ex7 (pI.mk ?_))
  refine r_i2l (pc := 123) dX4_aims_123 ?_
  replace h := lt_e h; obtain ⟨w8, ew8, h⟩ := h
  refine r_cVv (pc := 124) wyX0_set oA40 rfl mlRX4_116 iyX0_set syX0_set ⟨(Nat.le_of_ble_eq_true rfl), (Nat.le_of_ble_eq_true rfl)⟩ rfl rfl (Nat.le_of_ble_eq_true rfl) dX4_aims_124 (mX0_set ew8 (pV.mk ?_))
  replace h := lt_e h; obtain ⟨x9, ex9, h⟩ := h
  refine r_inc (pc := 127) (loc' := [(5, .int x9), (6, .int x1), (0, .ref 2), (1, .int a1), (3, .int a3), (4, .int a4)]) dX4_aims_127 ki_1 ex9 5 rfl (Nat.le_of_ble_eq_true rfl) rfl ?_
  refine r_goto (pc := 130) dX4_aims_130 rfl ?_
  refine r_drop (loc' := [(0, .ref 2), (1, .int a1), (3, .int a3), (4, .int a4), (5, .int x9)]) [2, 3, 4, 5, 0] rfl ?_
  exact hk_56 a1 a3 a4 x9 w8 h
def fX4_aims_56 (k_56 : Int32 → Int32 → Int32 → Int32 → Wd → Option Wd) (a1 : Int32) (a3 : Int32) (a4 : Int32) (a5 : Int32) (w : Wd) : Option Wd :=
  if 8193 ≤ a5 then (fX4_aims_133 a3 a4 a5 w) else (if a5 = 0 then (fX4_aims_81 k_56 a1 a3 a4 a5 w) else (lt2 (fX9_take 40 w) fun x3 w4 => if x3 = true then (fX4_aims_81 k_56 a1 a3 a4 a5 w4) else (fX4_aims_133 a3 a4 a5 w4)))
theorem pX4_aims_56 {q : Gq} {l : Launch} {N : Option Value → Wd → Prop} {X : String → Wd → Prop} {w : Wd} {R : Wd} (hN : N none R) {k_56 : Int32 → Int32 → Int32 → Int32 → Wd → Option Wd} (hk_56 : ∀ (a1 : Int32) (a3 : Int32) (a4 : Int32) (a5 : Int32) (w : Wd), k_56 a1 a3 a4 a5 w = some R → RT (GA q) l 909 yX4_aims cX4_aims 7 (none) N X 56 [] [(0, .ref 2), (1, .int a1), (3, .int a3), (4, .int a4), (5, .int a5)] w) {a1 : Int32} {a3 : Int32} {a4 : Int32} {a5 : Int32} (h : fX4_aims_56 k_56 a1 a3 a4 a5 w = some R) : RT (GA q) l 909 yX4_aims cX4_aims 7 (none) N X 56 [] [(0, .ref 2), (1, .int a1), (3, .int a3), (4, .int a4), (5, .int a5)] w := by
  unfold fX4_aims_56 at h
  refine r_iload (pc := 56) dX4_aims_56 4 rfl ?_
  refine r_sipush (pc := 58) dX4_aims_58 ks_8193 ?_
  refine r_icmp_ge (pc := 61) dX4_aims_61 rfl (fun hc1 => ?_) (fun hc1 => ?_)
  · replace h := if_t hc1 h
    refine r_drop (loc' := [(0, .ref 2), (3, .int a3), (4, .int a4), (5, .int a5)]) [0, 2, 3, 4] rfl ?_
    exact pX4_aims_133 hN h
  replace h := if_f hc1 h
  refine r_iload (pc := 64) dX4_aims_64 4 rfl ?_
  refine r_if_eq (pc := 66) dX4_aims_66 rfl (fun hc2 => ?_) (fun hc2 => ?_)
  · replace h := if_t hc2 h
    exact pX4_aims_81 hN hk_56 h
  replace h := if_f hc2 h
  refine r_aload_n (pc := 69) dX4_aims_69 rfl 0 rfl ?_
  refine r_get (pc := 70) (j := 1) (v := .ref 4) oA2 cf4 flRX4_22 rfl dX4_aims_70 rfl ?_
  refine r_bipush (pc := 73) dX4_aims_73 kb_40 ?_
  replace h := lt2_e h; obtain ⟨x3, w4, ew4, h⟩ := h
  refine r_cVi (pc := 75) wyX9_take oA4 rfl mlRX4_164 iyX9_take syX9_take ⟨(Nat.le_of_ble_eq_true rfl), (Nat.le_of_ble_eq_true rfl)⟩ rfl rfl (Nat.le_of_ble_eq_true rfl) dX4_aims_75 (mX9_take ew4 (pI.mk ?_))
  refine r_z_eq (pc := 78) dX4_aims_78 rfl (fun hc5 => ?_) (fun hc5 => ?_)
  · replace h := if_f hc5 h
    refine r_drop (loc' := [(0, .ref 2), (3, .int a3), (4, .int a4), (5, .int a5)]) [0, 2, 3, 4] rfl ?_
    exact pX4_aims_133 hN h
  replace h := if_t hc5 h
  exact pX4_aims_81 hN hk_56 h
def oX4_aims_56 : Nat → Int32 → Int32 → Int32 → Int32 → Wd → Option Wd
  | 0 => fun _ _ _ _ _ => none
  | n + 1 => fX4_aims_56 (oX4_aims_56 n)
theorem qX4_aims_56 {q : Gq} {l : Launch} {N : Option Value → Wd → Prop} {X : String → Wd → Prop} {R : Wd} (hN : N none R) : ∀ (n : Nat) (a1 : Int32) (a3 : Int32) (a4 : Int32) (a5 : Int32) (w : Wd), oX4_aims_56 n a1 a3 a4 a5 w = some R → RT (GA q) l 909 yX4_aims cX4_aims 7 (none) N X 56 [] [(0, .ref 2), (1, .int a1), (3, .int a3), (4, .int a4), (5, .int a5)] w := by
  intro n
  induction n with
  | zero =>
    intro a1 a3 a4 a5 w h
    exact absurd h (fun q => nomatch q)
  | succ n ih =>
    intro a1 a3 a4 a5 w h
    exact pX4_aims_56 hN ih h
def fX4_aims (a1 : Int32) (w : Wd) : Option Wd :=
  lt (fX9_need 13 w) fun w1 => lt2 (fX4_declared 5 0 w1) fun x2 w3 => lt (fX9_need 50 w3) fun w4 => lt2 (fX0_put__ 33 w4) fun x5 w6 => lt (fX0_setCell x2 w6) fun w7 => lt2 (fX0_word 0 w7) fun x8 w9 => oX4_aims_56 FU a1 x5 x8 0 w9
theorem pX4_aims {q : Gq} {l : Launch} {N : Option Value → Wd → Prop} {X : String → Wd → Prop} {w : Wd} {R : Wd} (hN : N none R) {a1 : Int32} (h : fX4_aims a1 w = some R) : RT (GA q) l 909 yX4_aims cX4_aims 7 (none) N X 0 [] [(0, .ref 2), (1, .int a1)] w := by
  unfold fX4_aims at h
  refine r_aload_n (pc := 0) dX4_aims_0 rfl 0 rfl ?_
  refine r_get (pc := 1) (j := 1) (v := .ref 4) oA2 cf4 flRX4_22 rfl dX4_aims_1 rfl ?_
  refine r_bipush (pc := 4) dX4_aims_4 kb_13 ?_
  replace h := lt_e h; obtain ⟨w1, ew1, h⟩ := h
  refine r_cVv (pc := 6) wyX9_need oA4 rfl mlRX4_170 iyX9_need syX9_need ⟨(Nat.le_of_ble_eq_true rfl), (Nat.le_of_ble_eq_true rfl)⟩ rfl rfl (Nat.le_of_ble_eq_true rfl) dX4_aims_6 (mX9_need ew1 (pV.mk ?_))
  refine r_aload_n (pc := 9) dX4_aims_9 rfl 0 rfl ?_
  refine r_iconst (pc := 10) dX4_aims_10 ki_5 ?_
  refine r_iconst (pc := 11) dX4_aims_11 ki_0 ?_
  replace h := lt2_e h; obtain ⟨x2, w3, ew3, h⟩ := h
  refine r_cVi (pc := 12) wyX4_declared oA2 rfl mlRX4_226 iyX4_declared syX4_declared ⟨(Nat.le_of_ble_eq_true rfl), (Nat.le_of_ble_eq_true rfl)⟩ rfl rfl (Nat.le_of_ble_eq_true rfl) dX4_aims_12 (mX4_declared ew3 (pI.mk ?_))
  refine r_istore_n (pc := 15) (loc' := [(2, .int x2), (0, .ref 2), (1, .int a1)]) dX4_aims_15 rfl (Nat.le_of_ble_eq_true rfl) rfl ?_
  refine r_aload_n (pc := 16) dX4_aims_16 rfl 1 rfl ?_
  refine r_get (pc := 17) (j := 1) (v := .ref 4) oA2 cf4 flRX4_22 rfl dX4_aims_17 rfl ?_
  refine r_bipush (pc := 20) dX4_aims_20 kb_50 ?_
  replace h := lt_e h; obtain ⟨w4, ew4, h⟩ := h
  refine r_cVv (pc := 22) wyX9_need oA4 rfl mlRX4_170 iyX9_need syX9_need ⟨(Nat.le_of_ble_eq_true rfl), (Nat.le_of_ble_eq_true rfl)⟩ rfl rfl (Nat.le_of_ble_eq_true rfl) dX4_aims_22 (mX9_need ew4 (pV.mk ?_))
  refine r_aload_n (pc := 25) dX4_aims_25 rfl 1 rfl ?_
  refine r_get (pc := 26) (j := 5) (v := .ref 40) oA2 cf4 flRX4_42 rfl dX4_aims_26 rfl ?_
  refine r_bipush (pc := 29) dX4_aims_29 kb_33 ?_
  replace h := lt2_e h; obtain ⟨x5, w6, ew6, h⟩ := h
  refine r_cVi (pc := 31) wyX0_put__ oA40 rfl mlRX4_108 iyX0_put__ syX0_put__ ⟨(Nat.le_of_ble_eq_true rfl), (Nat.le_of_ble_eq_true rfl)⟩ rfl rfl (Nat.le_of_ble_eq_true rfl) dX4_aims_31 (mX0_put__ ew6 (pI.mk ?_))
  refine r_istore_n (pc := 34) (loc' := [(3, .int x5), (2, .int x2), (0, .ref 2), (1, .int a1)]) dX4_aims_34 rfl (Nat.le_of_ble_eq_true rfl) rfl ?_
  refine r_aload_n (pc := 35) dX4_aims_35 rfl 2 rfl ?_
  refine r_get (pc := 36) (j := 5) (v := .ref 40) oA2 cf4 flRX4_42 rfl dX4_aims_36 rfl ?_
  refine r_iload_n (pc := 39) dX4_aims_39 rfl 1 rfl ?_
  replace h := lt_e h; obtain ⟨w7, ew7, h⟩ := h
  refine r_cVv (pc := 40) wyX0_setCell oA40 rfl mlRX4_120 iyX0_setCell syX0_setCell ⟨(Nat.le_of_ble_eq_true rfl), (Nat.le_of_ble_eq_true rfl)⟩ rfl rfl (Nat.le_of_ble_eq_true rfl) dX4_aims_40 (mX0_setCell ew7 (pV.mk ?_))
  refine r_aload_n (pc := 43) dX4_aims_43 rfl 2 rfl ?_
  refine r_get (pc := 44) (j := 5) (v := .ref 40) oA2 cf4 flRX4_42 rfl dX4_aims_44 rfl ?_
  refine r_lconst (pc := 47) dX4_aims_47 kl_0 ?_
  replace h := lt2_e h; obtain ⟨x8, w9, ew9, h⟩ := h
  refine r_cVi (pc := 48) wyX0_word oA40 rfl mlRX4_126 iyX0_word syX0_word ⟨(Nat.le_of_ble_eq_true rfl), (Nat.le_of_ble_eq_true rfl)⟩ rfl rfl (Nat.le_of_ble_eq_true rfl) dX4_aims_48 (mX0_word ew9 (pI.mk ?_))
  refine r_istore (pc := 51) (loc' := [(4, .int x8), (3, .int x5), (2, .int x2), (0, .ref 2), (1, .int a1)]) dX4_aims_51 (Nat.le_of_ble_eq_true rfl) rfl ?_
  refine r_iconst (pc := 53) dX4_aims_53 ki_0 ?_
  refine r_istore (pc := 54) (loc' := [(5, .int 0), (4, .int x8), (3, .int x5), (2, .int x2), (0, .ref 2), (1, .int a1)]) dX4_aims_54 (Nat.le_of_ble_eq_true rfl) rfl ?_
  refine r_drop (loc' := [(0, .ref 2), (1, .int a1), (3, .int x5), (4, .int x8), (5, .int 0)]) [4, 5, 2, 1, 0] rfl ?_
  exact qX4_aims_56 hN FU a1 x5 x8 0 w9 h
theorem mX4_aims {q : Gq} {l : Launch} {N : Option Value → Wd → Prop} {X : String → Wd → Prop} {a1 : Int32} {w : Wd} {u : Wd} (h : fX4_aims a1 w = some u) (hN : N none u) : Ct (GA q) l 909 yX4_aims cX4_aims 7 (none) [.ref 2, .int a1] w N X := Ct.of (by decide) (Nat.le_of_ble_eq_true rfl) (pX4_aims hN h)
/-! AlgolMill$Maker.checkValue (II)V: O, 4 -/
theorem dX4_checkValue_0 : decode cX4_checkValue 0 = .ok (.aload_n 0, 1) := by decide +kernel
theorem dX4_checkValue_1 : decode cX4_checkValue 1 = .ok (.getfield 27, 3) := by decide +kernel
theorem dX4_checkValue_4 : decode cX4_checkValue 4 = .ok (.iload_n 1, 1) := by decide +kernel
theorem dX4_checkValue_5 : decode cX4_checkValue 5 = .ok (.aload_n 0, 1) := by decide +kernel
theorem dX4_checkValue_6 : decode cX4_checkValue 6 = .ok (.getfield 22, 3) := by decide +kernel
theorem dX4_checkValue_9 : decode cX4_checkValue 9 = .ok (.iload_n 2, 1) := by decide +kernel
theorem dX4_checkValue_10 : decode cX4_checkValue 10 = .ok (.invokevirtual 208, 3) := by decide +kernel
theorem dX4_checkValue_13 : decode cX4_checkValue 13 = .ok (.invokevirtual 310, 3) := by decide +kernel
theorem dX4_checkValue_16 : decode cX4_checkValue 16 = .ok (.istore_n 3, 1) := by decide +kernel
theorem dX4_checkValue_17 : decode cX4_checkValue 17 = .ok (.iload_n 3, 1) := by decide +kernel
theorem dX4_checkValue_18 : decode cX4_checkValue 18 = .ok (.ifCond .eq 33, 3) := by decide +kernel
theorem dX4_checkValue_21 : decode cX4_checkValue 21 = .ok (.aload_n 0, 1) := by decide +kernel
theorem dX4_checkValue_22 : decode cX4_checkValue 22 = .ok (.getfield 27, 3) := by decide +kernel
theorem dX4_checkValue_25 : decode cX4_checkValue 25 = .ok (.iload_n 3, 1) := by decide +kernel
theorem dX4_checkValue_26 : decode cX4_checkValue 26 = .ok (.invokevirtual 315, 3) := by decide +kernel
theorem dX4_checkValue_29 : decode cX4_checkValue 29 = .ok (.iconst 1, 1) := by decide +kernel
theorem dX4_checkValue_30 : decode cX4_checkValue 30 = .ok (.if_icmp .eq 21, 3) := by decide +kernel
theorem dX4_checkValue_33 : decode cX4_checkValue 33 = .ok (.aload_n 0, 1) := by decide +kernel
theorem dX4_checkValue_34 : decode cX4_checkValue 34 = .ok (.getfield 12, 3) := by decide +kernel
theorem dX4_checkValue_37 : decode cX4_checkValue 37 = .ok (.iload_n 2, 1) := by decide +kernel
theorem dX4_checkValue_38 : decode cX4_checkValue 38 = .ok (.iconst 3, 1) := by decide +kernel
theorem dX4_checkValue_39 : decode cX4_checkValue 39 = .ok (.invokevirtual 220, 3) := by decide +kernel
theorem dX4_checkValue_42 : decode cX4_checkValue 42 = .ok (.aload_n 0, 1) := by decide +kernel
theorem dX4_checkValue_43 : decode cX4_checkValue 43 = .ok (.getfield 27, 3) := by decide +kernel
theorem dX4_checkValue_46 : decode cX4_checkValue 46 = .ok (.iload_n 3, 1) := by decide +kernel
theorem dX4_checkValue_47 : decode cX4_checkValue 47 = .ok (.iconst 3, 1) := by decide +kernel
theorem dX4_checkValue_48 : decode cX4_checkValue 48 = .ok (.invokevirtual 301, 3) := by decide +kernel
theorem dX4_checkValue_51 : decode cX4_checkValue 51 = .ok (.return_, 1) := by decide +kernel
def fX4_checkValue (a1 : Int32) (a2 : Int32) (w : Wd) : Option Wd :=
  lt (fX9_nameOf a2 w) fun x1 => bn2 (fX8_formalNamed a1 x1 w) fun x2 w3 => if x2 = 0 then (some w3) else (lt (fX8_sort x2 w3) fun x5 => if x5 = 1 then (some w3) else (lt (fX1_note a2 3 w3) fun w7 => lt (fX8_how x2 3 w7) fun w8 => some w8))
theorem pX4_checkValue {q : Gq} {l : Launch} {N : Option Value → Wd → Prop} {X : String → Wd → Prop} {w : Wd} {R : Wd} (hN : N none R) {a1 : Int32} {a2 : Int32} (h : fX4_checkValue a1 a2 w = some R) : RT (GA q) l 4 yX4_checkValue cX4_checkValue 4 (none) N X 0 [] [(0, .ref 2), (1, .int a1), (2, .int a2)] w := by
  unfold fX4_checkValue at h
  refine r_aload_n (pc := 0) dX4_checkValue_0 rfl 0 rfl ?_
  refine r_get (pc := 1) (j := 2) (v := .ref 13) oA2 cf4 flRX4_27 rfl dX4_checkValue_1 rfl ?_
  refine r_iload_n (pc := 4) dX4_checkValue_4 rfl 1 rfl ?_
  refine r_aload_n (pc := 5) dX4_checkValue_5 rfl 0 rfl ?_
  refine r_get (pc := 6) (j := 1) (v := .ref 4) oA2 cf4 flRX4_22 rfl dX4_checkValue_6 rfl ?_
  refine r_iload_n (pc := 9) dX4_checkValue_9 rfl 2 rfl ?_
  replace h := lt_e h; obtain ⟨x1, ex1, h⟩ := h
  refine r_cVi (pc := 10) wyX9_nameOf oA4 rfl mlRX4_208 iyX9_nameOf syX9_nameOf ⟨(Nat.le_of_ble_eq_true rfl), (Nat.le_of_ble_eq_true rfl)⟩ rfl rfl (Nat.le_of_ble_eq_true rfl) dX4_checkValue_10 (mX9_nameOf ex1 (pI.mk ?_))
  replace h := bn2_e h; obtain ⟨x2, w3, ew3, h⟩ := h
  refine r_cVi (pc := 13) wyX8_formalNamed oA13 rfl mlRX4_310 iyX8_formalNamed syX8_formalNamed ⟨(Nat.le_of_ble_eq_true rfl), (Nat.le_of_ble_eq_true rfl)⟩ rfl rfl (Nat.le_of_ble_eq_true rfl) dX4_checkValue_13 (mX8_formalNamed ew3 (pI.mk ?_))
  refine r_istore_n (pc := 16) (loc' := [(3, .int x2), (0, .ref 2), (1, .int a1), (2, .int a2)]) dX4_checkValue_16 rfl (Nat.le_of_ble_eq_true rfl) rfl ?_
  refine r_iload_n (pc := 17) dX4_checkValue_17 rfl 0 rfl ?_
  refine r_if_eq (pc := 18) dX4_checkValue_18 rfl (fun hc4 => ?_) (fun hc4 => ?_)
  · replace h := if_t hc4 h
    exact rO_v (pc := 51) rfl dX4_checkValue_51 h hN
  replace h := if_f hc4 h
  refine r_aload_n (pc := 21) dX4_checkValue_21 rfl 1 rfl ?_
  refine r_get (pc := 22) (j := 2) (v := .ref 13) oA2 cf4 flRX4_27 rfl dX4_checkValue_22 rfl ?_
  refine r_iload_n (pc := 25) dX4_checkValue_25 rfl 0 rfl ?_
  replace h := lt_e h; obtain ⟨x5, ex5, h⟩ := h
  refine r_cVi (pc := 26) wyX8_sort oA13 rfl mlRX4_315 iyX8_sort syX8_sort ⟨(Nat.le_of_ble_eq_true rfl), (Nat.le_of_ble_eq_true rfl)⟩ rfl rfl (Nat.le_of_ble_eq_true rfl) dX4_checkValue_26 (mX8_sort ex5 (pI.mk ?_))
  refine r_iconst (pc := 29) dX4_checkValue_29 ki_1 ?_
  refine r_icmp_eq (pc := 30) dX4_checkValue_30 rfl (fun hc6 => ?_) (fun hc6 => ?_)
  · replace h := if_t hc6 h
    exact rO_v (pc := 51) rfl dX4_checkValue_51 h hN
  replace h := if_f hc6 h
  refine r_aload_n (pc := 33) dX4_checkValue_33 rfl 1 rfl ?_
  refine r_get (pc := 34) (j := 0) (v := .ref 3) oA2 cf4 flRX4_12 rfl dX4_checkValue_34 rfl ?_
  refine r_iload_n (pc := 37) dX4_checkValue_37 rfl 3 rfl ?_
  refine r_iconst (pc := 38) dX4_checkValue_38 ki_3 ?_
  replace h := lt_e h; obtain ⟨w7, ew7, h⟩ := h
  refine r_cVv (pc := 39) wyX1_note oA3 rfl mlRX4_220 iyX1_note syX1_note ⟨(Nat.le_of_ble_eq_true rfl), (Nat.le_of_ble_eq_true rfl)⟩ rfl rfl (Nat.le_of_ble_eq_true rfl) dX4_checkValue_39 (mX1_note ew7 (pV.mk ?_))
  refine r_aload_n (pc := 42) dX4_checkValue_42 rfl 1 rfl ?_
  refine r_get (pc := 43) (j := 2) (v := .ref 13) oA2 cf4 flRX4_27 rfl dX4_checkValue_43 rfl ?_
  refine r_iload_n (pc := 46) dX4_checkValue_46 rfl 0 rfl ?_
  refine r_iconst (pc := 47) dX4_checkValue_47 ki_3 ?_
  replace h := lt_e h; obtain ⟨w8, ew8, h⟩ := h
  refine r_cVv (pc := 48) wyX8_how oA13 rfl mlRX4_301 iyX8_how syX8_how ⟨(Nat.le_of_ble_eq_true rfl), (Nat.le_of_ble_eq_true rfl)⟩ rfl rfl (Nat.le_of_ble_eq_true rfl) dX4_checkValue_48 (mX8_how ew8 (pV.mk ?_))
  exact rO_v (pc := 51) rfl dX4_checkValue_51 h hN
theorem mX4_checkValue {q : Gq} {l : Launch} {N : Option Value → Wd → Prop} {X : String → Wd → Prop} {a1 : Int32} {a2 : Int32} {w : Wd} {u : Wd} (h : fX4_checkValue a1 a2 w = some u) (hN : N none u) : Ct (GA q) l 4 yX4_checkValue cX4_checkValue 4 (none) [.ref 2, .int a1, .int a2] w N X := Ct.of (by decide) (Nat.le_of_ble_eq_true rfl) (pX4_checkValue hN h)
/-! AlgolMill$Maker.formals ()I: O, 6 -/
theorem dX4_formals_0 : decode cX4_formals 0 = .ok (.iconst 0, 1) := by decide +kernel
theorem dX4_formals_1 : decode cX4_formals 1 = .ok (.istore_n 1, 1) := by decide +kernel
theorem dX4_formals_2 : decode cX4_formals 2 = .ok (.iload_n 1, 1) := by decide +kernel
theorem dX4_formals_3 : decode cX4_formals 3 = .ok (.sipush 8193, 3) := by decide +kernel
theorem dX4_formals_6 : decode cX4_formals 6 = .ok (.if_icmp .ge 63, 3) := by decide +kernel
theorem dX4_formals_9 : decode cX4_formals 9 = .ok (.iload_n 1, 1) := by decide +kernel
theorem dX4_formals_10 : decode cX4_formals 10 = .ok (.ifCond .eq 15, 3) := by decide +kernel
theorem dX4_formals_13 : decode cX4_formals 13 = .ok (.aload_n 0, 1) := by decide +kernel
theorem dX4_formals_14 : decode cX4_formals 14 = .ok (.getfield 22, 3) := by decide +kernel
theorem dX4_formals_17 : decode cX4_formals 17 = .ok (.bipush 40, 2) := by decide +kernel
theorem dX4_formals_19 : decode cX4_formals 19 = .ok (.invokevirtual 164, 3) := by decide +kernel
theorem dX4_formals_22 : decode cX4_formals 22 = .ok (.ifCond .eq 47, 3) := by decide +kernel
theorem dX4_formals_25 : decode cX4_formals 25 = .ok (.aload_n 0, 1) := by decide +kernel
theorem dX4_formals_26 : decode cX4_formals 26 = .ok (.iconst 0, 1) := by decide +kernel
theorem dX4_formals_27 : decode cX4_formals 27 = .ok (.iconst 0, 1) := by decide +kernel
theorem dX4_formals_28 : decode cX4_formals 28 = .ok (.invokevirtual 226, 3) := by decide +kernel
theorem dX4_formals_31 : decode cX4_formals 31 = .ok (.istore_n 2, 1) := by decide +kernel
theorem dX4_formals_32 : decode cX4_formals 32 = .ok (.aload_n 0, 1) := by decide +kernel
theorem dX4_formals_33 : decode cX4_formals 33 = .ok (.getfield 27, 3) := by decide +kernel
theorem dX4_formals_36 : decode cX4_formals 36 = .ok (.iload_n 2, 1) := by decide +kernel
theorem dX4_formals_37 : decode cX4_formals 37 = .ok (.iconst 3, 1) := by decide +kernel
theorem dX4_formals_38 : decode cX4_formals 38 = .ok (.invokevirtual 301, 3) := by decide +kernel
theorem dX4_formals_41 : decode cX4_formals 41 = .ok (.iload_n 1, 1) := by decide +kernel
theorem dX4_formals_42 : decode cX4_formals 42 = .ok (.bipush 8, 2) := by decide +kernel
theorem dX4_formals_44 : decode cX4_formals 44 = .ok (.if_icmp .ne 19, 3) := by decide +kernel
theorem dX4_formals_47 : decode cX4_formals 47 = .ok (.aload_n 0, 1) := by decide +kernel
theorem dX4_formals_48 : decode cX4_formals 48 = .ok (.getfield 12, 3) := by decide +kernel
theorem dX4_formals_51 : decode cX4_formals 51 = .ok (.aload_n 0, 1) := by decide +kernel
theorem dX4_formals_52 : decode cX4_formals 52 = .ok (.getfield 27, 3) := by decide +kernel
theorem dX4_formals_55 : decode cX4_formals 55 = .ok (.iload_n 2, 1) := by decide +kernel
theorem dX4_formals_56 : decode cX4_formals 56 = .ok (.invokevirtual 304, 3) := by decide +kernel
theorem dX4_formals_59 : decode cX4_formals 59 = .ok (.iconst 5, 1) := by decide +kernel
theorem dX4_formals_60 : decode cX4_formals 60 = .ok (.invokevirtual 220, 3) := by decide +kernel
theorem dX4_formals_63 : decode cX4_formals 63 = .ok (.iinc 1 1, 3) := by decide +kernel
theorem dX4_formals_66 : decode cX4_formals 66 = .ok (.goto (-64), 3) := by decide +kernel
theorem dX4_formals_69 : decode cX4_formals 69 = .ok (.iload_n 1, 1) := by decide +kernel
theorem dX4_formals_70 : decode cX4_formals 70 = .ok (.ireturn, 1) := by decide +kernel
def fX4_formals_25 (k_2 : Int32 → Wd → Option (Int32 × Wd)) (a1 : Int32) (w : Wd) : Option (Int32 × Wd) :=
  lt2 (fX4_declared 0 0 w) fun x1 w2 => lt (fX8_how x1 3 w2) fun w3 => if a1 = 8 then (lt (fX8_token x1 w3) fun x5 => lt (fX1_note x5 5 w3) fun w6 => lt (a1 + 1) fun x7 => k_2 x7 w6) else (lt (a1 + 1) fun x8 => k_2 x8 w3)
theorem pX4_formals_25 {q : Gq} {l : Launch} {N : Option Value → Wd → Prop} {X : String → Wd → Prop} {w : Wd} {R : Int32 × Wd} (hN : N (some (.int R.1)) R.2) {k_2 : Int32 → Wd → Option (Int32 × Wd)} (hk_2 : ∀ (a1 : Int32) (w : Wd), k_2 a1 w = some R → RT (GA q) l 6 yX4_formals cX4_formals 3 ((some .int)) N X 2 [] [(0, .ref 2), (1, .int a1)] w) {a1 : Int32} (h : fX4_formals_25 k_2 a1 w = some R) : RT (GA q) l 6 yX4_formals cX4_formals 3 ((some .int)) N X 25 [] [(0, .ref 2), (1, .int a1)] w := by
  unfold fX4_formals_25 at h
  refine r_aload_n (pc := 25) dX4_formals_25 rfl 0 rfl ?_
  refine r_iconst (pc := 26) dX4_formals_26 ki_0 ?_
  refine r_iconst (pc := 27) dX4_formals_27 ki_0 ?_
  replace h := lt2_e h; obtain ⟨x1, w2, ew2, h⟩ := h
  refine r_cVi (pc := 28) wyX4_declared oA2 rfl mlRX4_226 iyX4_declared syX4_declared ⟨(Nat.le_of_ble_eq_true rfl), (Nat.le_of_ble_eq_true rfl)⟩ rfl rfl (Nat.le_of_ble_eq_true rfl) dX4_formals_28 (mX4_declared ew2 (pI.mk ?_))
  refine r_istore_n (pc := 31) (loc' := [(2, .int x1), (0, .ref 2), (1, .int a1)]) dX4_formals_31 rfl (Nat.le_of_ble_eq_true rfl) rfl ?_
  refine r_aload_n (pc := 32) dX4_formals_32 rfl 1 rfl ?_
  refine r_get (pc := 33) (j := 2) (v := .ref 13) oA2 cf4 flRX4_27 rfl dX4_formals_33 rfl ?_
  refine r_iload_n (pc := 36) dX4_formals_36 rfl 0 rfl ?_
  refine r_iconst (pc := 37) dX4_formals_37 ki_3 ?_
  replace h := lt_e h; obtain ⟨w3, ew3, h⟩ := h
  refine r_cVv (pc := 38) wyX8_how oA13 rfl mlRX4_301 iyX8_how syX8_how ⟨(Nat.le_of_ble_eq_true rfl), (Nat.le_of_ble_eq_true rfl)⟩ rfl rfl (Nat.le_of_ble_eq_true rfl) dX4_formals_38 (mX8_how ew3 (pV.mk ?_))
  refine r_iload_n (pc := 41) dX4_formals_41 rfl 2 rfl ?_
  refine r_bipush (pc := 42) dX4_formals_42 kb_8 ?_
  refine r_icmp_ne (pc := 44) dX4_formals_44 rfl (fun hc4 => ?_) (fun hc4 => ?_)
  · replace h := if_f hc4 h
    replace h := lt_e h; obtain ⟨x8, ex8, h⟩ := h
    refine r_inc (pc := 63) (loc' := [(1, .int x8), (2, .int x1), (0, .ref 2)]) dX4_formals_63 ki_1 ex8 2 rfl (Nat.le_of_ble_eq_true rfl) rfl ?_
    refine r_goto (pc := 66) dX4_formals_66 rfl ?_
    refine r_drop (loc' := [(0, .ref 2), (1, .int x8)]) [2, 0] rfl ?_
    exact hk_2 x8 w3 h
  replace h := if_t hc4 h
  refine r_aload_n (pc := 47) dX4_formals_47 rfl 1 rfl ?_
  refine r_get (pc := 48) (j := 0) (v := .ref 3) oA2 cf4 flRX4_12 rfl dX4_formals_48 rfl ?_
  refine r_aload_n (pc := 51) dX4_formals_51 rfl 1 rfl ?_
  refine r_get (pc := 52) (j := 2) (v := .ref 13) oA2 cf4 flRX4_27 rfl dX4_formals_52 rfl ?_
  refine r_iload_n (pc := 55) dX4_formals_55 rfl 0 rfl ?_
  replace h := lt_e h; obtain ⟨x5, ex5, h⟩ := h
  refine r_cVi (pc := 56) wyX8_token oA13 rfl mlRX4_304 iyX8_token syX8_token ⟨(Nat.le_of_ble_eq_true rfl), (Nat.le_of_ble_eq_true rfl)⟩ rfl rfl (Nat.le_of_ble_eq_true rfl) dX4_formals_56 (mX8_token ex5 (pI.mk ?_))
  refine r_iconst (pc := 59) dX4_formals_59 ki_5 ?_
  replace h := lt_e h; obtain ⟨w6, ew6, h⟩ := h
  refine r_cVv (pc := 60) wyX1_note oA3 rfl mlRX4_220 iyX1_note syX1_note ⟨(Nat.le_of_ble_eq_true rfl), (Nat.le_of_ble_eq_true rfl)⟩ rfl rfl (Nat.le_of_ble_eq_true rfl) dX4_formals_60 (mX1_note ew6 (pV.mk ?_))
  replace h := lt_e h; obtain ⟨x7, ex7, h⟩ := h
  refine r_inc (pc := 63) (loc' := [(1, .int x7), (2, .int x1), (0, .ref 2)]) dX4_formals_63 ki_1 ex7 2 rfl (Nat.le_of_ble_eq_true rfl) rfl ?_
  refine r_goto (pc := 66) dX4_formals_66 rfl ?_
  refine r_drop (loc' := [(0, .ref 2), (1, .int x7)]) [2, 0] rfl ?_
  exact hk_2 x7 w6 h
def fX4_formals_2 (k_2 : Int32 → Wd → Option (Int32 × Wd)) (a1 : Int32) (w : Wd) : Option (Int32 × Wd) :=
  if 8193 ≤ a1 then (some (a1, w)) else (if a1 = 0 then (fX4_formals_25 k_2 a1 w) else (lt2 (fX9_take 40 w) fun x3 w4 => if x3 = true then (fX4_formals_25 k_2 a1 w4) else (some (a1, w4))))
theorem pX4_formals_2 {q : Gq} {l : Launch} {N : Option Value → Wd → Prop} {X : String → Wd → Prop} {w : Wd} {R : Int32 × Wd} (hN : N (some (.int R.1)) R.2) {k_2 : Int32 → Wd → Option (Int32 × Wd)} (hk_2 : ∀ (a1 : Int32) (w : Wd), k_2 a1 w = some R → RT (GA q) l 6 yX4_formals cX4_formals 3 ((some .int)) N X 2 [] [(0, .ref 2), (1, .int a1)] w) {a1 : Int32} (h : fX4_formals_2 k_2 a1 w = some R) : RT (GA q) l 6 yX4_formals cX4_formals 3 ((some .int)) N X 2 [] [(0, .ref 2), (1, .int a1)] w := by
  unfold fX4_formals_2 at h
  refine r_iload_n (pc := 2) dX4_formals_2 rfl 1 rfl ?_
  refine r_sipush (pc := 3) dX4_formals_3 ks_8193 ?_
  refine r_icmp_ge (pc := 6) dX4_formals_6 rfl (fun hc1 => ?_) (fun hc1 => ?_)
  · replace h := if_t hc1 h
    refine r_iload_n (pc := 69) dX4_formals_69 rfl 1 rfl ?_
    exact rO_i (pc := 70) rfl dX4_formals_70 h hN
  replace h := if_f hc1 h
  refine r_iload_n (pc := 9) dX4_formals_9 rfl 1 rfl ?_
  refine r_if_eq (pc := 10) dX4_formals_10 rfl (fun hc2 => ?_) (fun hc2 => ?_)
  · replace h := if_t hc2 h
    exact pX4_formals_25 hN hk_2 h
  replace h := if_f hc2 h
  refine r_aload_n (pc := 13) dX4_formals_13 rfl 0 rfl ?_
  refine r_get (pc := 14) (j := 1) (v := .ref 4) oA2 cf4 flRX4_22 rfl dX4_formals_14 rfl ?_
  refine r_bipush (pc := 17) dX4_formals_17 kb_40 ?_
  replace h := lt2_e h; obtain ⟨x3, w4, ew4, h⟩ := h
  refine r_cVi (pc := 19) wyX9_take oA4 rfl mlRX4_164 iyX9_take syX9_take ⟨(Nat.le_of_ble_eq_true rfl), (Nat.le_of_ble_eq_true rfl)⟩ rfl rfl (Nat.le_of_ble_eq_true rfl) dX4_formals_19 (mX9_take ew4 (pI.mk ?_))
  refine r_z_eq (pc := 22) dX4_formals_22 rfl (fun hc5 => ?_) (fun hc5 => ?_)
  · replace h := if_f hc5 h
    refine r_iload_n (pc := 69) dX4_formals_69 rfl 1 rfl ?_
    exact rO_i (pc := 70) rfl dX4_formals_70 h hN
  replace h := if_t hc5 h
  exact pX4_formals_25 hN hk_2 h
def oX4_formals_2 : Nat → Int32 → Wd → Option (Int32 × Wd)
  | 0 => fun _ _ => none
  | n + 1 => fX4_formals_2 (oX4_formals_2 n)
theorem qX4_formals_2 {q : Gq} {l : Launch} {N : Option Value → Wd → Prop} {X : String → Wd → Prop} {R : Int32 × Wd} (hN : N (some (.int R.1)) R.2) : ∀ (n : Nat) (a1 : Int32) (w : Wd), oX4_formals_2 n a1 w = some R → RT (GA q) l 6 yX4_formals cX4_formals 3 ((some .int)) N X 2 [] [(0, .ref 2), (1, .int a1)] w := by
  intro n
  induction n with
  | zero =>
    intro a1 w h
    exact absurd h (fun q => nomatch q)
  | succ n ih =>
    intro a1 w h
    exact pX4_formals_2 hN ih h
def fX4_formals (w : Wd) : Option (Int32 × Wd) :=
  oX4_formals_2 FU 0 w
theorem pX4_formals {q : Gq} {l : Launch} {N : Option Value → Wd → Prop} {X : String → Wd → Prop} {w : Wd} {R : Int32 × Wd} (hN : N (some (.int R.1)) R.2) (h : fX4_formals w = some R) : RT (GA q) l 6 yX4_formals cX4_formals 3 ((some .int)) N X 0 [] [(0, .ref 2)] w := by
  unfold fX4_formals at h
  refine r_iconst (pc := 0) dX4_formals_0 ki_0 ?_
  refine r_istore_n (pc := 1) (loc' := [(1, .int 0), (0, .ref 2)]) dX4_formals_1 rfl (Nat.le_of_ble_eq_true rfl) rfl ?_
  refine r_drop (loc' := [(0, .ref 2), (1, .int 0)]) [1, 0] rfl ?_
  exact qX4_formals_2 hN FU 0 w h
theorem mX4_formals {q : Gq} {l : Launch} {N : Option Value → Wd → Prop} {X : String → Wd → Prop} {w : Wd} {x : Int32} {u : Wd} (h : fX4_formals w = some (x, u)) (hN : N (some (.int x)) u) : Ct (GA q) l 6 yX4_formals cX4_formals 3 ((some .int)) [.ref 2] w N X := Ct.of (by decide) (Nat.le_of_ble_eq_true rfl) (pX4_formals hN h)
/-! AlgolMill$Maker.isSpec ()Z: P, 4 -/
theorem dX4_isSpec_0 : decode cX4_isSpec 0 = .ok (.aload_n 0, 1) := by decide +kernel
theorem dX4_isSpec_1 : decode cX4_isSpec 1 = .ok (.getfield 22, 3) := by decide +kernel
theorem dX4_isSpec_4 : decode cX4_isSpec 4 = .ok (.invokevirtual 96, 3) := by decide +kernel
theorem dX4_isSpec_7 : decode cX4_isSpec 7 = .ok (.istore_n 1, 1) := by decide +kernel
theorem dX4_isSpec_8 : decode cX4_isSpec 8 = .ok (.iload_n 1, 1) := by decide +kernel
theorem dX4_isSpec_9 : decode cX4_isSpec 9 = .ok (.bipush 12, 2) := by decide +kernel
theorem dX4_isSpec_11 : decode cX4_isSpec 11 = .ok (.if_icmp .eq 16, 3) := by decide +kernel
theorem dX4_isSpec_14 : decode cX4_isSpec 14 = .ok (.aload_n 0, 1) := by decide +kernel
theorem dX4_isSpec_15 : decode cX4_isSpec 15 = .ok (.invokevirtual 179, 3) := by decide +kernel
theorem dX4_isSpec_18 : decode cX4_isSpec 18 = .ok (.ifCond .eq 13, 3) := by decide +kernel
theorem dX4_isSpec_21 : decode cX4_isSpec 21 = .ok (.iload_n 1, 1) := by decide +kernel
theorem dX4_isSpec_22 : decode cX4_isSpec 22 = .ok (.bipush 6, 2) := by decide +kernel
theorem dX4_isSpec_24 : decode cX4_isSpec 24 = .ok (.if_icmp .eq 7, 3) := by decide +kernel
theorem dX4_isSpec_27 : decode cX4_isSpec 27 = .ok (.iconst 1, 1) := by decide +kernel
theorem dX4_isSpec_28 : decode cX4_isSpec 28 = .ok (.goto 4, 3) := by decide +kernel
theorem dX4_isSpec_31 : decode cX4_isSpec 31 = .ok (.iconst 0, 1) := by decide +kernel
theorem dX4_isSpec_32 : decode cX4_isSpec 32 = .ok (.ireturn, 1) := by decide +kernel
def fX4_isSpec (w : Wd) : Bool :=
  lt (fX9_kind w) fun x1 => if x1 = 12 then (true) else (lt (fX4_isDeclaration w) fun x3 => if x3 = true then (if x1 = 6 then (false) else (true)) else (false))
theorem pX4_isSpec {q : Gq} {l : Launch} {N : Option Value → Wd → Prop} {X : String → Wd → Prop} {w : Wd} {R : Bool} (hN : N (some (.int (b2i R))) w) (h : fX4_isSpec w = R) : RT (GA q) l 4 yX4_isSpec cX4_isSpec 2 ((some .boolean)) N X 0 [] [(0, .ref 2)] w := by
  unfold fX4_isSpec at h
  refine r_aload_n (pc := 0) dX4_isSpec_0 rfl 0 rfl ?_
  refine r_get (pc := 1) (j := 1) (v := .ref 4) oA2 cf4 flRX4_22 rfl dX4_isSpec_1 rfl ?_
  replace h := lt_e h; obtain ⟨x1, ex1, h⟩ := h
  refine r_cVi (pc := 4) wyX9_kind oA4 rfl mlRX4_96 iyX9_kind syX9_kind ⟨(Nat.le_of_ble_eq_true rfl), (Nat.le_of_ble_eq_true rfl)⟩ rfl rfl (Nat.le_of_ble_eq_true rfl) dX4_isSpec_4 (mX9_kind ex1 (pI.mk ?_))
  refine r_istore_n (pc := 7) (loc' := [(1, .int x1), (0, .ref 2)]) dX4_isSpec_7 rfl (Nat.le_of_ble_eq_true rfl) rfl ?_
  refine r_iload_n (pc := 8) dX4_isSpec_8 rfl 0 rfl ?_
  refine r_bipush (pc := 9) dX4_isSpec_9 kb_12 ?_
  refine r_icmp_eq (pc := 11) dX4_isSpec_11 rfl (fun hc2 => ?_) (fun hc2 => ?_)
  · replace h := if_t hc2 h
    refine r_iconst (pc := 27) dX4_isSpec_27 ki_1 ?_
    refine r_goto (pc := 28) dX4_isSpec_28 rfl ?_
    exact rP_z (pc := 32) (x := true) rfl dX4_isSpec_32 h hN
  replace h := if_f hc2 h
  refine r_aload_n (pc := 14) dX4_isSpec_14 rfl 1 rfl ?_
  replace h := lt_e h; obtain ⟨x3, ex3, h⟩ := h
  refine r_cVi (pc := 15) wyX4_isDeclaration oA2 rfl mlRX4_179 iyX4_isDeclaration syX4_isDeclaration ⟨(Nat.le_of_ble_eq_true rfl), (Nat.le_of_ble_eq_true rfl)⟩ rfl rfl (Nat.le_of_ble_eq_true rfl) dX4_isSpec_15 (mX4_isDeclaration ex3 (pI.mk ?_))
  refine r_z_eq (pc := 18) dX4_isSpec_18 rfl (fun hc4 => ?_) (fun hc4 => ?_)
  · replace h := if_f hc4 h
    refine r_iconst (pc := 31) dX4_isSpec_31 ki_0 ?_
    exact rP_z (pc := 32) (x := false) rfl dX4_isSpec_32 h hN
  replace h := if_t hc4 h
  refine r_iload_n (pc := 21) dX4_isSpec_21 rfl 0 rfl ?_
  refine r_bipush (pc := 22) dX4_isSpec_22 kb_6 ?_
  refine r_icmp_eq (pc := 24) dX4_isSpec_24 rfl (fun hc5 => ?_) (fun hc5 => ?_)
  · replace h := if_t hc5 h
    refine r_iconst (pc := 31) dX4_isSpec_31 ki_0 ?_
    exact rP_z (pc := 32) (x := false) rfl dX4_isSpec_32 h hN
  replace h := if_f hc5 h
  refine r_iconst (pc := 27) dX4_isSpec_27 ki_1 ?_
  refine r_goto (pc := 28) dX4_isSpec_28 rfl ?_
  exact rP_z (pc := 32) (x := true) rfl dX4_isSpec_32 h hN
theorem mX4_isSpec {q : Gq} {l : Launch} {N : Option Value → Wd → Prop} {X : String → Wd → Prop} {w : Wd} {x : Bool} (h : fX4_isSpec w = x) (hN : N (some (.int (b2i x))) w) : Ct (GA q) l 4 yX4_isSpec cX4_isSpec 2 ((some .boolean)) [.ref 2] w N X := Ct.of (by decide) (Nat.le_of_ble_eq_true rfl) (pX4_isSpec hN h)
/-! AlgolMill$Maker.settle (I)V: O, 3 -/
theorem dX4_settle_0 : decode cX4_settle 0 = .ok (.aload_n 0, 1) := by decide +kernel
theorem dX4_settle_1 : decode cX4_settle 1 = .ok (.getfield 37, 3) := by decide +kernel
theorem dX4_settle_4 : decode cX4_settle 4 = .ok (.invokevirtual 133, 3) := by decide +kernel
theorem dX4_settle_7 : decode cX4_settle 7 = .ok (.istore_n 2, 1) := by decide +kernel
theorem dX4_settle_8 : decode cX4_settle 8 = .ok (.iconst 0, 1) := by decide +kernel
theorem dX4_settle_9 : decode cX4_settle 9 = .ok (.istore_n 3, 1) := by decide +kernel
theorem dX4_settle_10 : decode cX4_settle 10 = .ok (.iload_n 3, 1) := by decide +kernel
theorem dX4_settle_11 : decode cX4_settle 11 = .ok (.aload_n 0, 1) := by decide +kernel
theorem dX4_settle_12 : decode cX4_settle 12 = .ok (.getfield 27, 3) := by decide +kernel
theorem dX4_settle_15 : decode cX4_settle 15 = .ok (.iload_n 1, 1) := by decide +kernel
theorem dX4_settle_16 : decode cX4_settle 16 = .ok (.invokevirtual 318, 3) := by decide +kernel
theorem dX4_settle_19 : decode cX4_settle 19 = .ok (.if_icmp .ge 108, 3) := by decide +kernel
theorem dX4_settle_22 : decode cX4_settle 22 = .ok (.aload_n 0, 1) := by decide +kernel
theorem dX4_settle_23 : decode cX4_settle 23 = .ok (.getfield 27, 3) := by decide +kernel
theorem dX4_settle_26 : decode cX4_settle 26 = .ok (.iload_n 1, 1) := by decide +kernel
theorem dX4_settle_27 : decode cX4_settle 27 = .ok (.iload_n 3, 1) := by decide +kernel
theorem dX4_settle_28 : decode cX4_settle 28 = .ok (.invokevirtual 320, 3) := by decide +kernel
theorem dX4_settle_31 : decode cX4_settle 31 = .ok (.istore 4, 2) := by decide +kernel
theorem dX4_settle_33 : decode cX4_settle 33 = .ok (.aload_n 0, 1) := by decide +kernel
theorem dX4_settle_34 : decode cX4_settle 34 = .ok (.getfield 27, 3) := by decide +kernel
theorem dX4_settle_37 : decode cX4_settle 37 = .ok (.iload 4, 2) := by decide +kernel
theorem dX4_settle_39 : decode cX4_settle 39 = .ok (.invokevirtual 322, 3) := by decide +kernel
theorem dX4_settle_42 : decode cX4_settle 42 = .ok (.iconst 1, 1) := by decide +kernel
theorem dX4_settle_43 : decode cX4_settle 43 = .ok (.if_icmp .eq 20, 3) := by decide +kernel
theorem dX4_settle_46 : decode cX4_settle 46 = .ok (.aload_n 0, 1) := by decide +kernel
theorem dX4_settle_47 : decode cX4_settle 47 = .ok (.getfield 12, 3) := by decide +kernel
theorem dX4_settle_50 : decode cX4_settle 50 = .ok (.aload_n 0, 1) := by decide +kernel
theorem dX4_settle_51 : decode cX4_settle 51 = .ok (.getfield 27, 3) := by decide +kernel
theorem dX4_settle_54 : decode cX4_settle 54 = .ok (.iload 4, 2) := by decide +kernel
theorem dX4_settle_56 : decode cX4_settle 56 = .ok (.invokevirtual 304, 3) := by decide +kernel
theorem dX4_settle_59 : decode cX4_settle 59 = .ok (.iconst 3, 1) := by decide +kernel
theorem dX4_settle_60 : decode cX4_settle 60 = .ok (.invokevirtual 220, 3) := by decide +kernel
theorem dX4_settle_63 : decode cX4_settle 63 = .ok (.aload_n 0, 1) := by decide +kernel
theorem dX4_settle_64 : decode cX4_settle 64 = .ok (.getfield 27, 3) := by decide +kernel
theorem dX4_settle_67 : decode cX4_settle 67 = .ok (.iload 4, 2) := by decide +kernel
theorem dX4_settle_69 : decode cX4_settle 69 = .ok (.invokevirtual 325, 3) := by decide +kernel
theorem dX4_settle_72 : decode cX4_settle 72 = .ok (.ifCond .ne 16, 3) := by decide +kernel
theorem dX4_settle_75 : decode cX4_settle 75 = .ok (.aload_n 0, 1) := by decide +kernel
theorem dX4_settle_76 : decode cX4_settle 76 = .ok (.getfield 27, 3) := by decide +kernel
theorem dX4_settle_79 : decode cX4_settle 79 = .ok (.iload 4, 2) := by decide +kernel
theorem dX4_settle_81 : decode cX4_settle 81 = .ok (.invokevirtual 315, 3) := by decide +kernel
theorem dX4_settle_84 : decode cX4_settle 84 = .ok (.iconst 2, 1) := by decide +kernel
theorem dX4_settle_85 : decode cX4_settle 85 = .ok (.if_icmp .ne 7, 3) := by decide +kernel
theorem dX4_settle_88 : decode cX4_settle 88 = .ok (.iconst 1, 1) := by decide +kernel
theorem dX4_settle_89 : decode cX4_settle 89 = .ok (.goto 4, 3) := by decide +kernel
theorem dX4_settle_92 : decode cX4_settle 92 = .ok (.iconst 0, 1) := by decide +kernel
theorem dX4_settle_93 : decode cX4_settle 93 = .ok (.istore 5, 2) := by decide +kernel
theorem dX4_settle_95 : decode cX4_settle 95 = .ok (.aload_n 0, 1) := by decide +kernel
theorem dX4_settle_96 : decode cX4_settle 96 = .ok (.getfield 27, 3) := by decide +kernel
theorem dX4_settle_99 : decode cX4_settle 99 = .ok (.iload 4, 2) := by decide +kernel
theorem dX4_settle_101 : decode cX4_settle 101 = .ok (.aload_n 0, 1) := by decide +kernel
theorem dX4_settle_102 : decode cX4_settle 102 = .ok (.getfield 37, 3) := by decide +kernel
theorem dX4_settle_105 : decode cX4_settle 105 = .ok (.iload 5, 2) := by decide +kernel
theorem dX4_settle_107 : decode cX4_settle 107 = .ok (.ifCond .eq 7, 3) := by decide +kernel
theorem dX4_settle_110 : decode cX4_settle 110 = .ok (.iconst 1, 1) := by decide +kernel
theorem dX4_settle_111 : decode cX4_settle 111 = .ok (.goto 4, 3) := by decide +kernel
theorem dX4_settle_114 : decode cX4_settle 114 = .ok (.iconst 2, 1) := by decide +kernel
theorem dX4_settle_115 : decode cX4_settle 115 = .ok (.invokevirtual 150, 3) := by decide +kernel
theorem dX4_settle_118 : decode cX4_settle 118 = .ok (.invokevirtual 232, 3) := by decide +kernel
theorem dX4_settle_121 : decode cX4_settle 121 = .ok (.iinc 3 1, 3) := by decide +kernel
theorem dX4_settle_124 : decode cX4_settle 124 = .ok (.goto (-114), 3) := by decide +kernel
theorem dX4_settle_127 : decode cX4_settle 127 = .ok (.aload_n 0, 1) := by decide +kernel
theorem dX4_settle_128 : decode cX4_settle 128 = .ok (.getfield 27, 3) := by decide +kernel
theorem dX4_settle_131 : decode cX4_settle 131 = .ok (.iload_n 1, 1) := by decide +kernel
theorem dX4_settle_132 : decode cX4_settle 132 = .ok (.aload_n 0, 1) := by decide +kernel
theorem dX4_settle_133 : decode cX4_settle 133 = .ok (.getfield 37, 3) := by decide +kernel
theorem dX4_settle_136 : decode cX4_settle 136 = .ok (.invokevirtual 133, 3) := by decide +kernel
theorem dX4_settle_139 : decode cX4_settle 139 = .ok (.iload_n 2, 1) := by decide +kernel
theorem dX4_settle_140 : decode cX4_settle 140 = .ok (.isub, 1) := by decide +kernel
theorem dX4_settle_141 : decode cX4_settle 141 = .ok (.invokevirtual 232, 3) := by decide +kernel
theorem dX4_settle_144 : decode cX4_settle 144 = .ok (.return_, 1) := by decide +kernel
def fX4_settle_93 (k_10 : Int32 → Int32 → Int32 → Wd → Option Wd) (s0 : Bool) (a1 : Int32) (a2 : Int32) (a3 : Int32) (a4 : Int32) (w : Wd) : Option Wd :=
  if s0 = true then (lt2 (fX5_take 1 w) fun x2 w3 => lt (fX8_place a4 x2 w3) fun w4 => lt (a3 + 1) fun x5 => k_10 a1 a2 x5 w4) else (lt2 (fX5_take 2 w) fun x6 w7 => lt (fX8_place a4 x6 w7) fun w8 => lt (a3 + 1) fun x9 => k_10 a1 a2 x9 w8)
theorem pX4_settle_93 {q : Gq} {l : Launch} {N : Option Value → Wd → Prop} {X : String → Wd → Prop} {w : Wd} {R : Wd} (hN : N none R) {k_10 : Int32 → Int32 → Int32 → Wd → Option Wd} (hk_10 : ∀ (a1 : Int32) (a2 : Int32) (a3 : Int32) (w : Wd), k_10 a1 a2 a3 w = some R → RT (GA q) l 3 yX4_settle cX4_settle 6 (none) N X 10 [] [(0, .ref 2), (1, .int a1), (2, .int a2), (3, .int a3)] w) {s0 : Bool} {a1 : Int32} {a2 : Int32} {a3 : Int32} {a4 : Int32} (h : fX4_settle_93 k_10 s0 a1 a2 a3 a4 w = some R) : RT (GA q) l 3 yX4_settle cX4_settle 6 (none) N X 93 [.int (b2i s0)] [(0, .ref 2), (1, .int a1), (2, .int a2), (3, .int a3), (4, .int a4)] w := by
  unfold fX4_settle_93 at h
  refine r_istore (pc := 93) (loc' := [(5, .int (b2i s0)), (0, .ref 2), (1, .int a1), (2, .int a2), (3, .int a3), (4, .int a4)]) dX4_settle_93 (Nat.le_of_ble_eq_true rfl) rfl ?_
  refine r_aload_n (pc := 95) dX4_settle_95 rfl 1 rfl ?_
  refine r_get (pc := 96) (j := 2) (v := .ref 13) oA2 cf4 flRX4_27 rfl dX4_settle_96 rfl ?_
  refine r_iload (pc := 99) dX4_settle_99 5 rfl ?_
  refine r_aload_n (pc := 101) dX4_settle_101 rfl 1 rfl ?_
  refine r_get (pc := 102) (j := 4) (v := .ref 34) oA2 cf4 flRX4_37 rfl dX4_settle_102 rfl ?_
  refine r_iload (pc := 105) dX4_settle_105 0 rfl ?_
  refine r_z_eq (pc := 107) dX4_settle_107 rfl (fun hc1 => ?_) (fun hc1 => ?_)
  · replace h := if_f hc1 h
    refine r_iconst (pc := 114) dX4_settle_114 ki_2 ?_
    replace h := lt2_e h; obtain ⟨x6, w7, ew7, h⟩ := h
    refine r_cVi (pc := 115) wyX5_take oA34 rfl mlRX4_150 iyX5_take syX5_take ⟨(Nat.le_of_ble_eq_true rfl), (Nat.le_of_ble_eq_true rfl)⟩ rfl rfl (Nat.le_of_ble_eq_true rfl) dX4_settle_115 (mX5_take ew7 (pI.mk ?_))
    replace h := lt_e h; obtain ⟨w8, ew8, h⟩ := h
    refine r_cVv (pc := 118) wyX8_place oA13 rfl mlRX4_232 iyX8_place syX8_place ⟨(Nat.le_of_ble_eq_true rfl), (Nat.le_of_ble_eq_true rfl)⟩ rfl rfl (Nat.le_of_ble_eq_true rfl) dX4_settle_118 (mX8_place ew8 (pV.mk ?_))
    replace h := lt_e h; obtain ⟨x9, ex9, h⟩ := h
    refine r_inc (pc := 121) (loc' := [(3, .int x9), (5, .int (b2i s0)), (0, .ref 2), (1, .int a1), (2, .int a2), (4, .int a4)]) dX4_settle_121 ki_1 ex9 4 rfl (Nat.le_of_ble_eq_true rfl) rfl ?_
    refine r_goto (pc := 124) dX4_settle_124 rfl ?_
    refine r_drop (loc' := [(0, .ref 2), (1, .int a1), (2, .int a2), (3, .int x9)]) [2, 3, 4, 0] rfl ?_
    exact hk_10 a1 a2 x9 w8 h
  replace h := if_t hc1 h
  refine r_iconst (pc := 110) dX4_settle_110 ki_1 ?_
  refine r_goto (pc := 111) dX4_settle_111 rfl ?_
  replace h := lt2_e h; obtain ⟨x2, w3, ew3, h⟩ := h
  refine r_cVi (pc := 115) wyX5_take oA34 rfl mlRX4_150 iyX5_take syX5_take ⟨(Nat.le_of_ble_eq_true rfl), (Nat.le_of_ble_eq_true rfl)⟩ rfl rfl (Nat.le_of_ble_eq_true rfl) dX4_settle_115 (mX5_take ew3 (pI.mk ?_))
  replace h := lt_e h; obtain ⟨w4, ew4, h⟩ := h
  refine r_cVv (pc := 118) wyX8_place oA13 rfl mlRX4_232 iyX8_place syX8_place ⟨(Nat.le_of_ble_eq_true rfl), (Nat.le_of_ble_eq_true rfl)⟩ rfl rfl (Nat.le_of_ble_eq_true rfl) dX4_settle_118 (mX8_place ew4 (pV.mk ?_))
  replace h := lt_e h; obtain ⟨x5, ex5, h⟩ := h
  refine r_inc (pc := 121) (loc' := [(3, .int x5), (5, .int (b2i s0)), (0, .ref 2), (1, .int a1), (2, .int a2), (4, .int a4)]) dX4_settle_121 ki_1 ex5 4 rfl (Nat.le_of_ble_eq_true rfl) rfl ?_
  refine r_goto (pc := 124) dX4_settle_124 rfl ?_
  refine r_drop (loc' := [(0, .ref 2), (1, .int a1), (2, .int a2), (3, .int x5)]) [2, 3, 4, 0] rfl ?_
  exact hk_10 a1 a2 x5 w4 h
def fX4_settle_63 (k_10 : Int32 → Int32 → Int32 → Wd → Option Wd) (a1 : Int32) (a2 : Int32) (a3 : Int32) (a4 : Int32) (w : Wd) : Option Wd :=
  lt (fX8_isValue a4 w) fun x1 => if x1 = true then (fX4_settle_93 k_10 true a1 a2 a3 a4 w) else (lt (fX8_sort a4 w) fun x3 => if x3 = 2 then (fX4_settle_93 k_10 true a1 a2 a3 a4 w) else (fX4_settle_93 k_10 false a1 a2 a3 a4 w))
theorem pX4_settle_63 {q : Gq} {l : Launch} {N : Option Value → Wd → Prop} {X : String → Wd → Prop} {w : Wd} {R : Wd} (hN : N none R) {k_10 : Int32 → Int32 → Int32 → Wd → Option Wd} (hk_10 : ∀ (a1 : Int32) (a2 : Int32) (a3 : Int32) (w : Wd), k_10 a1 a2 a3 w = some R → RT (GA q) l 3 yX4_settle cX4_settle 6 (none) N X 10 [] [(0, .ref 2), (1, .int a1), (2, .int a2), (3, .int a3)] w) {a1 : Int32} {a2 : Int32} {a3 : Int32} {a4 : Int32} (h : fX4_settle_63 k_10 a1 a2 a3 a4 w = some R) : RT (GA q) l 3 yX4_settle cX4_settle 6 (none) N X 63 [] [(0, .ref 2), (1, .int a1), (2, .int a2), (3, .int a3), (4, .int a4)] w := by
  unfold fX4_settle_63 at h
  refine r_aload_n (pc := 63) dX4_settle_63 rfl 0 rfl ?_
  refine r_get (pc := 64) (j := 2) (v := .ref 13) oA2 cf4 flRX4_27 rfl dX4_settle_64 rfl ?_
  refine r_iload (pc := 67) dX4_settle_67 4 rfl ?_
  replace h := lt_e h; obtain ⟨x1, ex1, h⟩ := h
  refine r_cVi (pc := 69) wyX8_isValue oA13 rfl mlRX4_325 iyX8_isValue syX8_isValue ⟨(Nat.le_of_ble_eq_true rfl), (Nat.le_of_ble_eq_true rfl)⟩ rfl rfl (Nat.le_of_ble_eq_true rfl) dX4_settle_69 (mX8_isValue ex1 (pI.mk ?_))
  refine r_z_ne (pc := 72) dX4_settle_72 rfl (fun hc2 => ?_) (fun hc2 => ?_)
  · replace h := if_t hc2 h
    refine r_iconst (pc := 88) dX4_settle_88 ki_1 ?_
    refine r_goto (pc := 89) dX4_settle_89 rfl ?_
    exact pX4_settle_93 hN hk_10 h
  replace h := if_f hc2 h
  refine r_aload_n (pc := 75) dX4_settle_75 rfl 0 rfl ?_
  refine r_get (pc := 76) (j := 2) (v := .ref 13) oA2 cf4 flRX4_27 rfl dX4_settle_76 rfl ?_
  refine r_iload (pc := 79) dX4_settle_79 4 rfl ?_
  replace h := lt_e h; obtain ⟨x3, ex3, h⟩ := h
  refine r_cVi (pc := 81) wyX8_sort oA13 rfl mlRX4_315 iyX8_sort syX8_sort ⟨(Nat.le_of_ble_eq_true rfl), (Nat.le_of_ble_eq_true rfl)⟩ rfl rfl (Nat.le_of_ble_eq_true rfl) dX4_settle_81 (mX8_sort ex3 (pI.mk ?_))
  refine r_iconst (pc := 84) dX4_settle_84 ki_2 ?_
  refine r_icmp_ne (pc := 85) dX4_settle_85 rfl (fun hc4 => ?_) (fun hc4 => ?_)
  · replace h := if_f hc4 h
    refine r_iconst (pc := 92) dX4_settle_92 ki_0 ?_
    exact pX4_settle_93 hN hk_10 h
  replace h := if_t hc4 h
  refine r_iconst (pc := 88) dX4_settle_88 ki_1 ?_
  refine r_goto (pc := 89) dX4_settle_89 rfl ?_
  exact pX4_settle_93 hN hk_10 h
def fX4_settle_10 (k_10 : Int32 → Int32 → Int32 → Wd → Option Wd) (a1 : Int32) (a2 : Int32) (a3 : Int32) (w : Wd) : Option Wd :=
  lt (fX8_size_ a1 w) fun x1 => if x1 ≤ a3 then (lt (fX5_slot w) fun x3 => lt (fX8_place a1 (x3 - a2) w) fun w4 => some w4) else (lt (fX8_formal a1 a3 w) fun x5 => lt (fX8_specs x5 w) fun x6 => if x6 = 1 then (fX4_settle_63 k_10 a1 a2 a3 x5 w) else (lt (fX8_token x5 w) fun x8 => lt (fX1_note x8 3 w) fun w9 => fX4_settle_63 k_10 a1 a2 a3 x5 w9))
theorem pX4_settle_10 {q : Gq} {l : Launch} {N : Option Value → Wd → Prop} {X : String → Wd → Prop} {w : Wd} {R : Wd} (hN : N none R) {k_10 : Int32 → Int32 → Int32 → Wd → Option Wd} (hk_10 : ∀ (a1 : Int32) (a2 : Int32) (a3 : Int32) (w : Wd), k_10 a1 a2 a3 w = some R → RT (GA q) l 3 yX4_settle cX4_settle 6 (none) N X 10 [] [(0, .ref 2), (1, .int a1), (2, .int a2), (3, .int a3)] w) {a1 : Int32} {a2 : Int32} {a3 : Int32} (h : fX4_settle_10 k_10 a1 a2 a3 w = some R) : RT (GA q) l 3 yX4_settle cX4_settle 6 (none) N X 10 [] [(0, .ref 2), (1, .int a1), (2, .int a2), (3, .int a3)] w := by
  unfold fX4_settle_10 at h
  refine r_iload_n (pc := 10) dX4_settle_10 rfl 3 rfl ?_
  refine r_aload_n (pc := 11) dX4_settle_11 rfl 0 rfl ?_
  refine r_get (pc := 12) (j := 2) (v := .ref 13) oA2 cf4 flRX4_27 rfl dX4_settle_12 rfl ?_
  refine r_iload_n (pc := 15) dX4_settle_15 rfl 1 rfl ?_
  replace h := lt_e h; obtain ⟨x1, ex1, h⟩ := h
  refine r_cVi (pc := 16) wyX8_size_ oA13 rfl mlRX4_318 iyX8_size_ syX8_size_ ⟨(Nat.le_of_ble_eq_true rfl), (Nat.le_of_ble_eq_true rfl)⟩ rfl rfl (Nat.le_of_ble_eq_true rfl) dX4_settle_16 (mX8_size_ ex1 (pI.mk ?_))
  refine r_icmp_ge (pc := 19) dX4_settle_19 rfl (fun hc2 => ?_) (fun hc2 => ?_)
  · replace h := if_t hc2 h
    refine r_aload_n (pc := 127) dX4_settle_127 rfl 0 rfl ?_
    refine r_get (pc := 128) (j := 2) (v := .ref 13) oA2 cf4 flRX4_27 rfl dX4_settle_128 rfl ?_
    refine r_iload_n (pc := 131) dX4_settle_131 rfl 1 rfl ?_
    refine r_aload_n (pc := 132) dX4_settle_132 rfl 0 rfl ?_
    refine r_get (pc := 133) (j := 4) (v := .ref 34) oA2 cf4 flRX4_37 rfl dX4_settle_133 rfl ?_
    replace h := lt_e h; obtain ⟨x3, ex3, h⟩ := h
    refine r_cVi (pc := 136) wyX5_slot oA34 rfl mlRX4_133 iyX5_slot syX5_slot ⟨(Nat.le_of_ble_eq_true rfl), (Nat.le_of_ble_eq_true rfl)⟩ rfl rfl (Nat.le_of_ble_eq_true rfl) dX4_settle_136 (mX5_slot ex3 (pI.mk ?_))
    refine r_iload_n (pc := 139) dX4_settle_139 rfl 2 rfl ?_
    refine r_isub (pc := 140) dX4_settle_140 ?_
    replace h := lt_e h; obtain ⟨w4, ew4, h⟩ := h
    refine r_cVv (pc := 141) wyX8_place oA13 rfl mlRX4_232 iyX8_place syX8_place ⟨(Nat.le_of_ble_eq_true rfl), (Nat.le_of_ble_eq_true rfl)⟩ rfl rfl (Nat.le_of_ble_eq_true rfl) dX4_settle_141 (mX8_place ew4 (pV.mk ?_))
    exact rO_v (pc := 144) rfl dX4_settle_144 h hN
  replace h := if_f hc2 h
  refine r_aload_n (pc := 22) dX4_settle_22 rfl 0 rfl ?_
  refine r_get (pc := 23) (j := 2) (v := .ref 13) oA2 cf4 flRX4_27 rfl dX4_settle_23 rfl ?_
  refine r_iload_n (pc := 26) dX4_settle_26 rfl 1 rfl ?_
  refine r_iload_n (pc := 27) dX4_settle_27 rfl 3 rfl ?_
  replace h := lt_e h; obtain ⟨x5, ex5, h⟩ := h
  refine r_cVi (pc := 28) wyX8_formal oA13 rfl mlRX4_320 iyX8_formal syX8_formal ⟨(Nat.le_of_ble_eq_true rfl), (Nat.le_of_ble_eq_true rfl)⟩ rfl rfl (Nat.le_of_ble_eq_true rfl) dX4_settle_28 (mX8_formal ex5 (pI.mk ?_))
  refine r_istore (pc := 31) (loc' := [(4, .int x5), (0, .ref 2), (1, .int a1), (2, .int a2), (3, .int a3)]) dX4_settle_31 (Nat.le_of_ble_eq_true rfl) rfl ?_
  refine r_aload_n (pc := 33) dX4_settle_33 rfl 1 rfl ?_
  refine r_get (pc := 34) (j := 2) (v := .ref 13) oA2 cf4 flRX4_27 rfl dX4_settle_34 rfl ?_
  refine r_iload (pc := 37) dX4_settle_37 0 rfl ?_
  replace h := lt_e h; obtain ⟨x6, ex6, h⟩ := h
  refine r_cVi (pc := 39) wyX8_specs oA13 rfl mlRX4_322 iyX8_specs syX8_specs ⟨(Nat.le_of_ble_eq_true rfl), (Nat.le_of_ble_eq_true rfl)⟩ rfl rfl (Nat.le_of_ble_eq_true rfl) dX4_settle_39 (mX8_specs ex6 (pI.mk ?_))
  refine r_iconst (pc := 42) dX4_settle_42 ki_1 ?_
  refine r_icmp_eq (pc := 43) dX4_settle_43 rfl (fun hc7 => ?_) (fun hc7 => ?_)
  · replace h := if_t hc7 h
    refine r_drop (loc' := [(0, .ref 2), (1, .int a1), (2, .int a2), (3, .int a3), (4, .int x5)]) [1, 2, 3, 4, 0] rfl ?_
    exact pX4_settle_63 hN hk_10 h
  replace h := if_f hc7 h
  refine r_aload_n (pc := 46) dX4_settle_46 rfl 1 rfl ?_
  refine r_get (pc := 47) (j := 0) (v := .ref 3) oA2 cf4 flRX4_12 rfl dX4_settle_47 rfl ?_
  refine r_aload_n (pc := 50) dX4_settle_50 rfl 1 rfl ?_
  refine r_get (pc := 51) (j := 2) (v := .ref 13) oA2 cf4 flRX4_27 rfl dX4_settle_51 rfl ?_
  refine r_iload (pc := 54) dX4_settle_54 0 rfl ?_
  replace h := lt_e h; obtain ⟨x8, ex8, h⟩ := h
  refine r_cVi (pc := 56) wyX8_token oA13 rfl mlRX4_304 iyX8_token syX8_token ⟨(Nat.le_of_ble_eq_true rfl), (Nat.le_of_ble_eq_true rfl)⟩ rfl rfl (Nat.le_of_ble_eq_true rfl) dX4_settle_56 (mX8_token ex8 (pI.mk ?_))
  refine r_iconst (pc := 59) dX4_settle_59 ki_3 ?_
  replace h := lt_e h; obtain ⟨w9, ew9, h⟩ := h
  refine r_cVv (pc := 60) wyX1_note oA3 rfl mlRX4_220 iyX1_note syX1_note ⟨(Nat.le_of_ble_eq_true rfl), (Nat.le_of_ble_eq_true rfl)⟩ rfl rfl (Nat.le_of_ble_eq_true rfl) dX4_settle_60 (mX1_note ew9 (pV.mk ?_))
  refine r_drop (loc' := [(0, .ref 2), (1, .int a1), (2, .int a2), (3, .int a3), (4, .int x5)]) [1, 2, 3, 4, 0] rfl ?_
  exact pX4_settle_63 hN hk_10 h
def oX4_settle_10 : Nat → Int32 → Int32 → Int32 → Wd → Option Wd
  | 0 => fun _ _ _ _ => none
  | n + 1 => fX4_settle_10 (oX4_settle_10 n)
theorem qX4_settle_10 {q : Gq} {l : Launch} {N : Option Value → Wd → Prop} {X : String → Wd → Prop} {R : Wd} (hN : N none R) : ∀ (n : Nat) (a1 : Int32) (a2 : Int32) (a3 : Int32) (w : Wd), oX4_settle_10 n a1 a2 a3 w = some R → RT (GA q) l 3 yX4_settle cX4_settle 6 (none) N X 10 [] [(0, .ref 2), (1, .int a1), (2, .int a2), (3, .int a3)] w := by
  intro n
  induction n with
  | zero =>
    intro a1 a2 a3 w h
    exact absurd h (fun q => nomatch q)
  | succ n ih =>
    intro a1 a2 a3 w h
    exact pX4_settle_10 hN ih h
def fX4_settle (a1 : Int32) (w : Wd) : Option Wd :=
  lt (fX5_slot w) fun x1 => oX4_settle_10 FU a1 x1 0 w
theorem pX4_settle {q : Gq} {l : Launch} {N : Option Value → Wd → Prop} {X : String → Wd → Prop} {w : Wd} {R : Wd} (hN : N none R) {a1 : Int32} (h : fX4_settle a1 w = some R) : RT (GA q) l 3 yX4_settle cX4_settle 6 (none) N X 0 [] [(0, .ref 2), (1, .int a1)] w := by
  unfold fX4_settle at h
  refine r_aload_n (pc := 0) dX4_settle_0 rfl 0 rfl ?_
  refine r_get (pc := 1) (j := 4) (v := .ref 34) oA2 cf4 flRX4_37 rfl dX4_settle_1 rfl ?_
  replace h := lt_e h; obtain ⟨x1, ex1, h⟩ := h
  refine r_cVi (pc := 4) wyX5_slot oA34 rfl mlRX4_133 iyX5_slot syX5_slot ⟨(Nat.le_of_ble_eq_true rfl), (Nat.le_of_ble_eq_true rfl)⟩ rfl rfl (Nat.le_of_ble_eq_true rfl) dX4_settle_4 (mX5_slot ex1 (pI.mk ?_))
  refine r_istore_n (pc := 7) (loc' := [(2, .int x1), (0, .ref 2), (1, .int a1)]) dX4_settle_7 rfl (Nat.le_of_ble_eq_true rfl) rfl ?_
  refine r_iconst (pc := 8) dX4_settle_8 ki_0 ?_
  refine r_istore_n (pc := 9) (loc' := [(3, .int 0), (2, .int x1), (0, .ref 2), (1, .int a1)]) dX4_settle_9 rfl (Nat.le_of_ble_eq_true rfl) rfl ?_
  refine r_drop (loc' := [(0, .ref 2), (1, .int a1), (2, .int x1), (3, .int 0)]) [2, 3, 1, 0] rfl ?_
  exact qX4_settle_10 hN FU a1 x1 0 w h
theorem mX4_settle {q : Gq} {l : Launch} {N : Option Value → Wd → Prop} {X : String → Wd → Prop} {a1 : Int32} {w : Wd} {u : Wd} (h : fX4_settle a1 w = some u) (hN : N none u) : Ct (GA q) l 3 yX4_settle cX4_settle 6 (none) [.ref 2, .int a1] w N X := Ct.of (by decide) (Nat.le_of_ble_eq_true rfl) (pX4_settle hN h)
/-! AlgolMill$Maker.formal (I)I: O, 5 -/
theorem dX4_formal_0 : decode cX4_formal 0 = .ok (.aload_n 0, 1) := by decide +kernel
theorem dX4_formal_1 : decode cX4_formal 1 = .ok (.getfield 22, 3) := by decide +kernel
theorem dX4_formal_4 : decode cX4_formal 4 = .ok (.invokevirtual 202, 3) := by decide +kernel
theorem dX4_formal_7 : decode cX4_formal 7 = .ok (.istore_n 2, 1) := by decide +kernel
theorem dX4_formal_8 : decode cX4_formal 8 = .ok (.aload_n 0, 1) := by decide +kernel
theorem dX4_formal_9 : decode cX4_formal 9 = .ok (.getfield 22, 3) := by decide +kernel
theorem dX4_formal_12 : decode cX4_formal 12 = .ok (.iconst 2, 1) := by decide +kernel
theorem dX4_formal_13 : decode cX4_formal 13 = .ok (.invokevirtual 170, 3) := by decide +kernel
theorem dX4_formal_16 : decode cX4_formal 16 = .ok (.aload_n 0, 1) := by decide +kernel
theorem dX4_formal_17 : decode cX4_formal 17 = .ok (.getfield 22, 3) := by decide +kernel
theorem dX4_formal_20 : decode cX4_formal 20 = .ok (.invokevirtual 65, 3) := by decide +kernel
theorem dX4_formal_23 : decode cX4_formal 23 = .ok (.ifCond .eq 7, 3) := by decide +kernel
theorem dX4_formal_26 : decode cX4_formal 26 = .ok (.iconst 0, 1) := by decide +kernel
theorem dX4_formal_27 : decode cX4_formal 27 = .ok (.goto 19, 3) := by decide +kernel
theorem dX4_formal_30 : decode cX4_formal 30 = .ok (.aload_n 0, 1) := by decide +kernel
theorem dX4_formal_31 : decode cX4_formal 31 = .ok (.getfield 27, 3) := by decide +kernel
theorem dX4_formal_34 : decode cX4_formal 34 = .ok (.iload_n 1, 1) := by decide +kernel
theorem dX4_formal_35 : decode cX4_formal 35 = .ok (.aload_n 0, 1) := by decide +kernel
theorem dX4_formal_36 : decode cX4_formal 36 = .ok (.getfield 22, 3) := by decide +kernel
theorem dX4_formal_39 : decode cX4_formal 39 = .ok (.iload_n 2, 1) := by decide +kernel
theorem dX4_formal_40 : decode cX4_formal 40 = .ok (.invokevirtual 208, 3) := by decide +kernel
theorem dX4_formal_43 : decode cX4_formal 43 = .ok (.invokevirtual 310, 3) := by decide +kernel
theorem dX4_formal_46 : decode cX4_formal 46 = .ok (.istore_n 3, 1) := by decide +kernel
theorem dX4_formal_47 : decode cX4_formal 47 = .ok (.iload_n 3, 1) := by decide +kernel
theorem dX4_formal_48 : decode cX4_formal 48 = .ok (.ifCond .ne 12, 3) := by decide +kernel
theorem dX4_formal_51 : decode cX4_formal 51 = .ok (.aload_n 0, 1) := by decide +kernel
theorem dX4_formal_52 : decode cX4_formal 52 = .ok (.getfield 12, 3) := by decide +kernel
theorem dX4_formal_55 : decode cX4_formal 55 = .ok (.iload_n 2, 1) := by decide +kernel
theorem dX4_formal_56 : decode cX4_formal 56 = .ok (.iconst 3, 1) := by decide +kernel
theorem dX4_formal_57 : decode cX4_formal 57 = .ok (.invokevirtual 220, 3) := by decide +kernel
theorem dX4_formal_60 : decode cX4_formal 60 = .ok (.iload_n 3, 1) := by decide +kernel
theorem dX4_formal_61 : decode cX4_formal 61 = .ok (.ireturn, 1) := by decide +kernel
def fX4_formal_46 (s0 : Int32) (a2 : Int32) (w : Wd) : Option (Int32 × Wd) :=
  if s0 = 0 then (lt (fX1_note a2 3 w) fun w2 => some (s0, w2)) else (some (s0, w))
theorem pX4_formal_46 {q : Gq} {l : Launch} {N : Option Value → Wd → Prop} {X : String → Wd → Prop} {w : Wd} {R : Int32 × Wd} (hN : N (some (.int R.1)) R.2) {s0 : Int32} {a2 : Int32} (h : fX4_formal_46 s0 a2 w = some R) : RT (GA q) l 5 yX4_formal cX4_formal 4 ((some .int)) N X 46 [.int s0] [(0, .ref 2), (2, .int a2)] w := by
  unfold fX4_formal_46 at h
  refine r_istore_n (pc := 46) (loc' := [(3, .int s0), (0, .ref 2), (2, .int a2)]) dX4_formal_46 rfl (Nat.le_of_ble_eq_true rfl) rfl ?_
  refine r_iload_n (pc := 47) dX4_formal_47 rfl 0 rfl ?_
  refine r_if_ne (pc := 48) dX4_formal_48 rfl (fun hc1 => ?_) (fun hc1 => ?_)
  · replace h := if_f hc1 h
    refine r_iload_n (pc := 60) dX4_formal_60 rfl 0 rfl ?_
    exact rO_i (pc := 61) rfl dX4_formal_61 h hN
  replace h := if_t hc1 h
  refine r_aload_n (pc := 51) dX4_formal_51 rfl 1 rfl ?_
  refine r_get (pc := 52) (j := 0) (v := .ref 3) oA2 cf4 flRX4_12 rfl dX4_formal_52 rfl ?_
  refine r_iload_n (pc := 55) dX4_formal_55 rfl 2 rfl ?_
  refine r_iconst (pc := 56) dX4_formal_56 ki_3 ?_
  replace h := lt_e h; obtain ⟨w2, ew2, h⟩ := h
  refine r_cVv (pc := 57) wyX1_note oA3 rfl mlRX4_220 iyX1_note syX1_note ⟨(Nat.le_of_ble_eq_true rfl), (Nat.le_of_ble_eq_true rfl)⟩ rfl rfl (Nat.le_of_ble_eq_true rfl) dX4_formal_57 (mX1_note ew2 (pV.mk ?_))
  refine r_iload_n (pc := 60) dX4_formal_60 rfl 0 rfl ?_
  exact rO_i (pc := 61) rfl dX4_formal_61 h hN
def fX4_formal (a1 : Int32) (w : Wd) : Option (Int32 × Wd) :=
  lt (fX9_at w) fun x1 => lt (fX9_need 2 w) fun w2 => lt (fX9_failed w2) fun x3 => if x3 = true then (fX4_formal_46 0 x1 w2) else (lt (fX9_nameOf x1 w2) fun x5 => bn2 (fX8_formalNamed a1 x5 w2) fun x6 w7 => fX4_formal_46 x6 x1 w7)
theorem pX4_formal {q : Gq} {l : Launch} {N : Option Value → Wd → Prop} {X : String → Wd → Prop} {w : Wd} {R : Int32 × Wd} (hN : N (some (.int R.1)) R.2) {a1 : Int32} (h : fX4_formal a1 w = some R) : RT (GA q) l 5 yX4_formal cX4_formal 4 ((some .int)) N X 0 [] [(0, .ref 2), (1, .int a1)] w := by
  unfold fX4_formal at h
  refine r_aload_n (pc := 0) dX4_formal_0 rfl 0 rfl ?_
  refine r_get (pc := 1) (j := 1) (v := .ref 4) oA2 cf4 flRX4_22 rfl dX4_formal_1 rfl ?_
  replace h := lt_e h; obtain ⟨x1, ex1, h⟩ := h
  refine r_cVi (pc := 4) wyX9_at oA4 rfl mlRX4_202 iyX9_at syX9_at ⟨(Nat.le_of_ble_eq_true rfl), (Nat.le_of_ble_eq_true rfl)⟩ rfl rfl (Nat.le_of_ble_eq_true rfl) dX4_formal_4 (mX9_at ex1 (pI.mk ?_))
  refine r_istore_n (pc := 7) (loc' := [(2, .int x1), (0, .ref 2), (1, .int a1)]) dX4_formal_7 rfl (Nat.le_of_ble_eq_true rfl) rfl ?_
  refine r_aload_n (pc := 8) dX4_formal_8 rfl 1 rfl ?_
  refine r_get (pc := 9) (j := 1) (v := .ref 4) oA2 cf4 flRX4_22 rfl dX4_formal_9 rfl ?_
  refine r_iconst (pc := 12) dX4_formal_12 ki_2 ?_
  replace h := lt_e h; obtain ⟨w2, ew2, h⟩ := h
  refine r_cVv (pc := 13) wyX9_need oA4 rfl mlRX4_170 iyX9_need syX9_need ⟨(Nat.le_of_ble_eq_true rfl), (Nat.le_of_ble_eq_true rfl)⟩ rfl rfl (Nat.le_of_ble_eq_true rfl) dX4_formal_13 (mX9_need ew2 (pV.mk ?_))
  refine r_aload_n (pc := 16) dX4_formal_16 rfl 1 rfl ?_
  refine r_get (pc := 17) (j := 1) (v := .ref 4) oA2 cf4 flRX4_22 rfl dX4_formal_17 rfl ?_
  replace h := lt_e h; obtain ⟨x3, ex3, h⟩ := h
  refine r_cVi (pc := 20) wyX9_failed oA4 rfl mlRX4_65 iyX9_failed syX9_failed ⟨(Nat.le_of_ble_eq_true rfl), (Nat.le_of_ble_eq_true rfl)⟩ rfl rfl (Nat.le_of_ble_eq_true rfl) dX4_formal_20 (mX9_failed ex3 (pI.mk ?_))
  refine r_z_eq (pc := 23) dX4_formal_23 rfl (fun hc4 => ?_) (fun hc4 => ?_)
  · replace h := if_f hc4 h
    refine r_aload_n (pc := 30) dX4_formal_30 rfl 1 rfl ?_
    refine r_get (pc := 31) (j := 2) (v := .ref 13) oA2 cf4 flRX4_27 rfl dX4_formal_31 rfl ?_
    refine r_iload_n (pc := 34) dX4_formal_34 rfl 2 rfl ?_
    refine r_aload_n (pc := 35) dX4_formal_35 rfl 1 rfl ?_
    refine r_get (pc := 36) (j := 1) (v := .ref 4) oA2 cf4 flRX4_22 rfl dX4_formal_36 rfl ?_
    refine r_iload_n (pc := 39) dX4_formal_39 rfl 0 rfl ?_
    replace h := lt_e h; obtain ⟨x5, ex5, h⟩ := h
    refine r_cVi (pc := 40) wyX9_nameOf oA4 rfl mlRX4_208 iyX9_nameOf syX9_nameOf ⟨(Nat.le_of_ble_eq_true rfl), (Nat.le_of_ble_eq_true rfl)⟩ rfl rfl (Nat.le_of_ble_eq_true rfl) dX4_formal_40 (mX9_nameOf ex5 (pI.mk ?_))
    replace h := bn2_e h; obtain ⟨x6, w7, ew7, h⟩ := h
    refine r_cVi (pc := 43) wyX8_formalNamed oA13 rfl mlRX4_310 iyX8_formalNamed syX8_formalNamed ⟨(Nat.le_of_ble_eq_true rfl), (Nat.le_of_ble_eq_true rfl)⟩ rfl rfl (Nat.le_of_ble_eq_true rfl) dX4_formal_43 (mX8_formalNamed ew7 (pI.mk ?_))
    refine r_drop (loc' := [(0, .ref 2), (2, .int x1)]) [1, 0] rfl ?_
    exact pX4_formal_46 hN h
  replace h := if_t hc4 h
  refine r_iconst (pc := 26) dX4_formal_26 ki_0 ?_
  refine r_goto (pc := 27) dX4_formal_27 rfl ?_
  refine r_drop (loc' := [(0, .ref 2), (2, .int x1)]) [1, 0] rfl ?_
  exact pX4_formal_46 hN h
theorem mX4_formal {q : Gq} {l : Launch} {N : Option Value → Wd → Prop} {X : String → Wd → Prop} {a1 : Int32} {w : Wd} {x : Int32} {u : Wd} (h : fX4_formal a1 w = some (x, u)) (hN : N (some (.int x)) u) : Ct (GA q) l 5 yX4_formal cX4_formal 4 ((some .int)) [.ref 2, .int a1] w N X := Ct.of (by decide) (Nat.le_of_ble_eq_true rfl) (pX4_formal hN h)
/-! AlgolMill$Maker.spec (I)V: O, 6 -/
theorem dX4_spec_0 : decode cX4_spec 0 = .ok (.aload_n 0, 1) := by decide +kernel
theorem dX4_spec_1 : decode cX4_spec 1 = .ok (.invokevirtual 185, 3) := by decide +kernel
theorem dX4_spec_4 : decode cX4_spec 4 = .ok (.istore_n 2, 1) := by decide +kernel
theorem dX4_spec_5 : decode cX4_spec 5 = .ok (.iload_n 2, 1) := by decide +kernel
theorem dX4_spec_6 : decode cX4_spec 6 = .ok (.ifCond .ne 7, 3) := by decide +kernel
theorem dX4_spec_9 : decode cX4_spec 9 = .ok (.iconst 0, 1) := by decide +kernel
theorem dX4_spec_10 : decode cX4_spec 10 = .ok (.goto 4, 3) := by decide +kernel
theorem dX4_spec_13 : decode cX4_spec 13 = .ok (.iconst 1, 1) := by decide +kernel
theorem dX4_spec_14 : decode cX4_spec 14 = .ok (.istore_n 3, 1) := by decide +kernel
theorem dX4_spec_15 : decode cX4_spec 15 = .ok (.aload_n 0, 1) := by decide +kernel
theorem dX4_spec_16 : decode cX4_spec 16 = .ok (.getfield 22, 3) := by decide +kernel
theorem dX4_spec_19 : decode cX4_spec 19 = .ok (.bipush 9, 2) := by decide +kernel
theorem dX4_spec_21 : decode cX4_spec 21 = .ok (.invokevirtual 164, 3) := by decide +kernel
theorem dX4_spec_24 : decode cX4_spec 24 = .ok (.ifCond .eq 18, 3) := by decide +kernel
theorem dX4_spec_27 : decode cX4_spec 27 = .ok (.iconst 2, 1) := by decide +kernel
theorem dX4_spec_28 : decode cX4_spec 28 = .ok (.istore_n 3, 1) := by decide +kernel
theorem dX4_spec_29 : decode cX4_spec 29 = .ok (.iload_n 2, 1) := by decide +kernel
theorem dX4_spec_30 : decode cX4_spec 30 = .ok (.ifCond .ne 7, 3) := by decide +kernel
theorem dX4_spec_33 : decode cX4_spec 33 = .ok (.iconst 1, 1) := by decide +kernel
theorem dX4_spec_34 : decode cX4_spec 34 = .ok (.goto 4, 3) := by decide +kernel
theorem dX4_spec_37 : decode cX4_spec 37 = .ok (.iload_n 2, 1) := by decide +kernel
theorem dX4_spec_38 : decode cX4_spec 38 = .ok (.istore_n 2, 1) := by decide +kernel
theorem dX4_spec_39 : decode cX4_spec 39 = .ok (.goto 57, 3) := by decide +kernel
theorem dX4_spec_42 : decode cX4_spec 42 = .ok (.aload_n 0, 1) := by decide +kernel
theorem dX4_spec_43 : decode cX4_spec 43 = .ok (.getfield 22, 3) := by decide +kernel
theorem dX4_spec_46 : decode cX4_spec 46 = .ok (.bipush 10, 2) := by decide +kernel
theorem dX4_spec_48 : decode cX4_spec 48 = .ok (.invokevirtual 164, 3) := by decide +kernel
theorem dX4_spec_51 : decode cX4_spec 51 = .ok (.ifCond .eq 8, 3) := by decide +kernel
theorem dX4_spec_54 : decode cX4_spec 54 = .ok (.iconst 3, 1) := by decide +kernel
theorem dX4_spec_55 : decode cX4_spec 55 = .ok (.istore_n 3, 1) := by decide +kernel
theorem dX4_spec_56 : decode cX4_spec 56 = .ok (.goto 40, 3) := by decide +kernel
theorem dX4_spec_59 : decode cX4_spec 59 = .ok (.iload_n 2, 1) := by decide +kernel
theorem dX4_spec_60 : decode cX4_spec 60 = .ok (.ifCond .ne 36, 3) := by decide +kernel
theorem dX4_spec_63 : decode cX4_spec 63 = .ok (.aload_n 0, 1) := by decide +kernel
theorem dX4_spec_64 : decode cX4_spec 64 = .ok (.getfield 22, 3) := by decide +kernel
theorem dX4_spec_67 : decode cX4_spec 67 = .ok (.invokevirtual 96, 3) := by decide +kernel
theorem dX4_spec_70 : decode cX4_spec 70 = .ok (.bipush 12, 2) := by decide +kernel
theorem dX4_spec_72 : decode cX4_spec 72 = .ok (.if_icmp .ne 7, 3) := by decide +kernel
theorem dX4_spec_75 : decode cX4_spec 75 = .ok (.iconst 4, 1) := by decide +kernel
theorem dX4_spec_76 : decode cX4_spec 76 = .ok (.goto 4, 3) := by decide +kernel
theorem dX4_spec_79 : decode cX4_spec 79 = .ok (.iconst 5, 1) := by decide +kernel
theorem dX4_spec_80 : decode cX4_spec 80 = .ok (.istore_n 3, 1) := by decide +kernel
theorem dX4_spec_81 : decode cX4_spec 81 = .ok (.aload_n 0, 1) := by decide +kernel
theorem dX4_spec_82 : decode cX4_spec 82 = .ok (.getfield 22, 3) := by decide +kernel
theorem dX4_spec_85 : decode cX4_spec 85 = .ok (.aload_n 0, 1) := by decide +kernel
theorem dX4_spec_86 : decode cX4_spec 86 = .ok (.getfield 22, 3) := by decide +kernel
theorem dX4_spec_89 : decode cX4_spec 89 = .ok (.invokevirtual 96, 3) := by decide +kernel
theorem dX4_spec_92 : decode cX4_spec 92 = .ok (.invokevirtual 164, 3) := by decide +kernel
theorem dX4_spec_95 : decode cX4_spec 95 = .ok (.pop, 1) := by decide +kernel
theorem dX4_spec_96 : decode cX4_spec 96 = .ok (.iconst 0, 1) := by decide +kernel
theorem dX4_spec_97 : decode cX4_spec 97 = .ok (.istore 4, 2) := by decide +kernel
theorem dX4_spec_99 : decode cX4_spec 99 = .ok (.iload 4, 2) := by decide +kernel
theorem dX4_spec_101 : decode cX4_spec 101 = .ok (.sipush 8193, 3) := by decide +kernel
theorem dX4_spec_104 : decode cX4_spec 104 = .ok (.if_icmp .ge 49, 3) := by decide +kernel
theorem dX4_spec_107 : decode cX4_spec 107 = .ok (.iload 4, 2) := by decide +kernel
theorem dX4_spec_109 : decode cX4_spec 109 = .ok (.ifCond .eq 15, 3) := by decide +kernel
theorem dX4_spec_112 : decode cX4_spec 112 = .ok (.aload_n 0, 1) := by decide +kernel
theorem dX4_spec_113 : decode cX4_spec 113 = .ok (.getfield 22, 3) := by decide +kernel
theorem dX4_spec_116 : decode cX4_spec 116 = .ok (.bipush 40, 2) := by decide +kernel
theorem dX4_spec_118 : decode cX4_spec 118 = .ok (.invokevirtual 164, 3) := by decide +kernel
theorem dX4_spec_121 : decode cX4_spec 121 = .ok (.ifCond .eq 32, 3) := by decide +kernel
theorem dX4_spec_124 : decode cX4_spec 124 = .ok (.aload_n 0, 1) := by decide +kernel
theorem dX4_spec_125 : decode cX4_spec 125 = .ok (.iload_n 1, 1) := by decide +kernel
theorem dX4_spec_126 : decode cX4_spec 126 = .ok (.invokevirtual 307, 3) := by decide +kernel
theorem dX4_spec_129 : decode cX4_spec 129 = .ok (.istore 5, 2) := by decide +kernel
theorem dX4_spec_131 : decode cX4_spec 131 = .ok (.iload 5, 2) := by decide +kernel
theorem dX4_spec_133 : decode cX4_spec 133 = .ok (.ifCond .eq 14, 3) := by decide +kernel
theorem dX4_spec_136 : decode cX4_spec 136 = .ok (.aload_n 0, 1) := by decide +kernel
theorem dX4_spec_137 : decode cX4_spec 137 = .ok (.getfield 27, 3) := by decide +kernel
theorem dX4_spec_140 : decode cX4_spec 140 = .ok (.iload 5, 2) := by decide +kernel
theorem dX4_spec_142 : decode cX4_spec 142 = .ok (.iload_n 3, 1) := by decide +kernel
theorem dX4_spec_143 : decode cX4_spec 143 = .ok (.iload_n 2, 1) := by decide +kernel
theorem dX4_spec_144 : decode cX4_spec 144 = .ok (.invokevirtual 313, 3) := by decide +kernel
theorem dX4_spec_147 : decode cX4_spec 147 = .ok (.iinc 4 1, 3) := by decide +kernel
theorem dX4_spec_150 : decode cX4_spec 150 = .ok (.goto (-51), 3) := by decide +kernel
theorem dX4_spec_153 : decode cX4_spec 153 = .ok (.return_, 1) := by decide +kernel
def fX4_spec_124 (k_99 : Int32 → Int32 → Int32 → Int32 → Wd → Option Wd) (a1 : Int32) (a2 : Int32) (a3 : Int32) (a4 : Int32) (w : Wd) : Option Wd :=
  bn2 (fX4_formal a1 w) fun x1 w2 => if x1 = 0 then (lt (a4 + 1) fun x4 => k_99 a1 a2 a3 x4 w2) else (lt (fX8_spec x1 a3 a2 w2) fun w5 => lt (a4 + 1) fun x6 => k_99 a1 a2 a3 x6 w5)
theorem pX4_spec_124 {q : Gq} {l : Launch} {N : Option Value → Wd → Prop} {X : String → Wd → Prop} {w : Wd} {R : Wd} (hN : N none R) {k_99 : Int32 → Int32 → Int32 → Int32 → Wd → Option Wd} (hk_99 : ∀ (a1 : Int32) (a2 : Int32) (a3 : Int32) (a4 : Int32) (w : Wd), k_99 a1 a2 a3 a4 w = some R → RT (GA q) l 6 yX4_spec cX4_spec 6 (none) N X 99 [] [(0, .ref 2), (1, .int a1), (2, .int a2), (3, .int a3), (4, .int a4)] w) {a1 : Int32} {a2 : Int32} {a3 : Int32} {a4 : Int32} (h : fX4_spec_124 k_99 a1 a2 a3 a4 w = some R) : RT (GA q) l 6 yX4_spec cX4_spec 6 (none) N X 124 [] [(0, .ref 2), (1, .int a1), (2, .int a2), (3, .int a3), (4, .int a4)] w := by
  unfold fX4_spec_124 at h
  refine r_aload_n (pc := 124) dX4_spec_124 rfl 0 rfl ?_
  refine r_iload_n (pc := 125) dX4_spec_125 rfl 1 rfl ?_
  replace h := bn2_e h; obtain ⟨x1, w2, ew2, h⟩ := h
  refine r_cVi (pc := 126) wyX4_formal oA2 rfl mlRX4_307 iyX4_formal syX4_formal ⟨(Nat.le_of_ble_eq_true rfl), (Nat.le_of_ble_eq_true rfl)⟩ rfl rfl (Nat.le_of_ble_eq_true rfl) dX4_spec_126 (mX4_formal ew2 (pI.mk ?_))
  refine r_istore (pc := 129) (loc' := [(5, .int x1), (0, .ref 2), (1, .int a1), (2, .int a2), (3, .int a3), (4, .int a4)]) dX4_spec_129 (Nat.le_of_ble_eq_true rfl) rfl ?_
  refine r_iload (pc := 131) dX4_spec_131 0 rfl ?_
  refine r_if_eq (pc := 133) dX4_spec_133 rfl (fun hc3 => ?_) (fun hc3 => ?_)
  · replace h := if_t hc3 h
    replace h := lt_e h; obtain ⟨x4, ex4, h⟩ := h
    refine r_inc (pc := 147) (loc' := [(4, .int x4), (5, .int x1), (0, .ref 2), (1, .int a1), (2, .int a2), (3, .int a3)]) dX4_spec_147 ki_1 ex4 5 rfl (Nat.le_of_ble_eq_true rfl) rfl ?_
    refine r_goto (pc := 150) dX4_spec_150 rfl ?_
    refine r_drop (loc' := [(0, .ref 2), (1, .int a1), (2, .int a2), (3, .int a3), (4, .int x4)]) [2, 3, 4, 5, 0] rfl ?_
    exact hk_99 a1 a2 a3 x4 w2 h
  replace h := if_f hc3 h
  refine r_aload_n (pc := 136) dX4_spec_136 rfl 1 rfl ?_
  refine r_get (pc := 137) (j := 2) (v := .ref 13) oA2 cf4 flRX4_27 rfl dX4_spec_137 rfl ?_
  refine r_iload (pc := 140) dX4_spec_140 0 rfl ?_
  refine r_iload_n (pc := 142) dX4_spec_142 rfl 4 rfl ?_
  refine r_iload_n (pc := 143) dX4_spec_143 rfl 3 rfl ?_
  replace h := lt_e h; obtain ⟨w5, ew5, h⟩ := h
  refine r_cVv (pc := 144) wyX8_spec oA13 rfl mlRX4_313 iyX8_spec syX8_spec ⟨(Nat.le_of_ble_eq_true rfl), (Nat.le_of_ble_eq_true rfl)⟩ rfl rfl (Nat.le_of_ble_eq_true rfl) dX4_spec_144 (mX8_spec ew5 (pV.mk ?_))
  replace h := lt_e h; obtain ⟨x6, ex6, h⟩ := h
  refine r_inc (pc := 147) (loc' := [(4, .int x6), (5, .int x1), (0, .ref 2), (1, .int a1), (2, .int a2), (3, .int a3)]) dX4_spec_147 ki_1 ex6 5 rfl (Nat.le_of_ble_eq_true rfl) rfl ?_
  refine r_goto (pc := 150) dX4_spec_150 rfl ?_
  refine r_drop (loc' := [(0, .ref 2), (1, .int a1), (2, .int a2), (3, .int a3), (4, .int x6)]) [2, 3, 4, 5, 0] rfl ?_
  exact hk_99 a1 a2 a3 x6 w5 h
def fX4_spec_99 (k_99 : Int32 → Int32 → Int32 → Int32 → Wd → Option Wd) (a1 : Int32) (a2 : Int32) (a3 : Int32) (a4 : Int32) (w : Wd) : Option Wd :=
  if 8193 ≤ a4 then (some w) else (if a4 = 0 then (fX4_spec_124 k_99 a1 a2 a3 a4 w) else (lt2 (fX9_take 40 w) fun x3 w4 => if x3 = true then (fX4_spec_124 k_99 a1 a2 a3 a4 w4) else (some w4)))
theorem pX4_spec_99 {q : Gq} {l : Launch} {N : Option Value → Wd → Prop} {X : String → Wd → Prop} {w : Wd} {R : Wd} (hN : N none R) {k_99 : Int32 → Int32 → Int32 → Int32 → Wd → Option Wd} (hk_99 : ∀ (a1 : Int32) (a2 : Int32) (a3 : Int32) (a4 : Int32) (w : Wd), k_99 a1 a2 a3 a4 w = some R → RT (GA q) l 6 yX4_spec cX4_spec 6 (none) N X 99 [] [(0, .ref 2), (1, .int a1), (2, .int a2), (3, .int a3), (4, .int a4)] w) {a1 : Int32} {a2 : Int32} {a3 : Int32} {a4 : Int32} (h : fX4_spec_99 k_99 a1 a2 a3 a4 w = some R) : RT (GA q) l 6 yX4_spec cX4_spec 6 (none) N X 99 [] [(0, .ref 2), (1, .int a1), (2, .int a2), (3, .int a3), (4, .int a4)] w := by
  unfold fX4_spec_99 at h
  refine r_iload (pc := 99) dX4_spec_99 4 rfl ?_
  refine r_sipush (pc := 101) dX4_spec_101 ks_8193 ?_
  refine r_icmp_ge (pc := 104) dX4_spec_104 rfl (fun hc1 => ?_) (fun hc1 => ?_)
  · replace h := if_t hc1 h
    exact rO_v (pc := 153) rfl dX4_spec_153 h hN
  replace h := if_f hc1 h
  refine r_iload (pc := 107) dX4_spec_107 4 rfl ?_
  refine r_if_eq (pc := 109) dX4_spec_109 rfl (fun hc2 => ?_) (fun hc2 => ?_)
  · replace h := if_t hc2 h
    exact pX4_spec_124 hN hk_99 h
  replace h := if_f hc2 h
  refine r_aload_n (pc := 112) dX4_spec_112 rfl 0 rfl ?_
  refine r_get (pc := 113) (j := 1) (v := .ref 4) oA2 cf4 flRX4_22 rfl dX4_spec_113 rfl ?_
  refine r_bipush (pc := 116) dX4_spec_116 kb_40 ?_
  replace h := lt2_e h; obtain ⟨x3, w4, ew4, h⟩ := h
  refine r_cVi (pc := 118) wyX9_take oA4 rfl mlRX4_164 iyX9_take syX9_take ⟨(Nat.le_of_ble_eq_true rfl), (Nat.le_of_ble_eq_true rfl)⟩ rfl rfl (Nat.le_of_ble_eq_true rfl) dX4_spec_118 (mX9_take ew4 (pI.mk ?_))
  refine r_z_eq (pc := 121) dX4_spec_121 rfl (fun hc5 => ?_) (fun hc5 => ?_)
  · replace h := if_f hc5 h
    exact rO_v (pc := 153) rfl dX4_spec_153 h hN
  replace h := if_t hc5 h
  exact pX4_spec_124 hN hk_99 h
def oX4_spec_99 : Nat → Int32 → Int32 → Int32 → Int32 → Wd → Option Wd
  | 0 => fun _ _ _ _ _ => none
  | n + 1 => fX4_spec_99 (oX4_spec_99 n)
theorem qX4_spec_99 {q : Gq} {l : Launch} {N : Option Value → Wd → Prop} {X : String → Wd → Prop} {R : Wd} (hN : N none R) : ∀ (n : Nat) (a1 : Int32) (a2 : Int32) (a3 : Int32) (a4 : Int32) (w : Wd), oX4_spec_99 n a1 a2 a3 a4 w = some R → RT (GA q) l 6 yX4_spec cX4_spec 6 (none) N X 99 [] [(0, .ref 2), (1, .int a1), (2, .int a2), (3, .int a3), (4, .int a4)] w := by
  intro n
  induction n with
  | zero =>
    intro a1 a2 a3 a4 w h
    exact absurd h (fun q => nomatch q)
  | succ n ih =>
    intro a1 a2 a3 a4 w h
    exact pX4_spec_99 hN ih h
def fX4_spec_80 (s0 : Int32) (a1 : Int32) (a2 : Int32) (w : Wd) : Option Wd :=
  lt (fX9_kind w) fun x1 => lt2 (fX9_take x1 w) fun x2 w3 => oX4_spec_99 FU a1 a2 s0 0 w3
theorem pX4_spec_80 {q : Gq} {l : Launch} {N : Option Value → Wd → Prop} {X : String → Wd → Prop} {w : Wd} {R : Wd} (hN : N none R) {s0 : Int32} {a1 : Int32} {a2 : Int32} (h : fX4_spec_80 s0 a1 a2 w = some R) : RT (GA q) l 6 yX4_spec cX4_spec 6 (none) N X 80 [.int s0] [(0, .ref 2), (1, .int a1), (2, .int a2)] w := by
  unfold fX4_spec_80 at h
  refine r_istore_n (pc := 80) (loc' := [(3, .int s0), (0, .ref 2), (1, .int a1), (2, .int a2)]) dX4_spec_80 rfl (Nat.le_of_ble_eq_true rfl) rfl ?_
  refine r_aload_n (pc := 81) dX4_spec_81 rfl 1 rfl ?_
  refine r_get (pc := 82) (j := 1) (v := .ref 4) oA2 cf4 flRX4_22 rfl dX4_spec_82 rfl ?_
  refine r_aload_n (pc := 85) dX4_spec_85 rfl 1 rfl ?_
  refine r_get (pc := 86) (j := 1) (v := .ref 4) oA2 cf4 flRX4_22 rfl dX4_spec_86 rfl ?_
  replace h := lt_e h; obtain ⟨x1, ex1, h⟩ := h
  refine r_cVi (pc := 89) wyX9_kind oA4 rfl mlRX4_96 iyX9_kind syX9_kind ⟨(Nat.le_of_ble_eq_true rfl), (Nat.le_of_ble_eq_true rfl)⟩ rfl rfl (Nat.le_of_ble_eq_true rfl) dX4_spec_89 (mX9_kind ex1 (pI.mk ?_))
  replace h := lt2_e h; obtain ⟨x2, w3, ew3, h⟩ := h
  refine r_cVi (pc := 92) wyX9_take oA4 rfl mlRX4_164 iyX9_take syX9_take ⟨(Nat.le_of_ble_eq_true rfl), (Nat.le_of_ble_eq_true rfl)⟩ rfl rfl (Nat.le_of_ble_eq_true rfl) dX4_spec_92 (mX9_take ew3 (pI.mk ?_))
  refine r_pop (pc := 95) dX4_spec_95 rfl ?_
  refine r_iconst (pc := 96) dX4_spec_96 ki_0 ?_
  refine r_istore (pc := 97) (loc' := [(4, .int 0), (3, .int s0), (0, .ref 2), (1, .int a1), (2, .int a2)]) dX4_spec_97 (Nat.le_of_ble_eq_true rfl) rfl ?_
  refine r_drop (loc' := [(0, .ref 2), (1, .int a1), (2, .int a2), (3, .int s0), (4, .int 0)]) [2, 3, 4, 1, 0] rfl ?_
  exact qX4_spec_99 hN FU a1 a2 s0 0 w3 h
def fX4_spec_14 (s0 : Bool) (a1 : Int32) (a2 : Int32) (w : Wd) : Option Wd :=
  lt2 (fX9_take 9 w) fun x1 w2 => if x1 = true then (if a2 = 0 then (oX4_spec_99 FU a1 1 2 0 w2) else (oX4_spec_99 FU a1 a2 2 0 w2)) else (lt2 (fX9_take 10 w2) fun x5 w6 => if x5 = true then (oX4_spec_99 FU a1 a2 3 0 w6) else (if a2 = 0 then (lt (fX9_kind w6) fun x9 => if x9 = 12 then (fX4_spec_80 4 a1 a2 w6) else (fX4_spec_80 5 a1 a2 w6)) else (oX4_spec_99 FU a1 a2 (b2i s0) 0 w6)))
theorem pX4_spec_14 {q : Gq} {l : Launch} {N : Option Value → Wd → Prop} {X : String → Wd → Prop} {w : Wd} {R : Wd} (hN : N none R) {s0 : Bool} {a1 : Int32} {a2 : Int32} (h : fX4_spec_14 s0 a1 a2 w = some R) : RT (GA q) l 6 yX4_spec cX4_spec 6 (none) N X 14 [.int (b2i s0)] [(0, .ref 2), (1, .int a1), (2, .int a2)] w := by
  unfold fX4_spec_14 at h
  refine r_istore_n (pc := 14) (loc' := [(3, .int (b2i s0)), (0, .ref 2), (1, .int a1), (2, .int a2)]) dX4_spec_14 rfl (Nat.le_of_ble_eq_true rfl) rfl ?_
  refine r_aload_n (pc := 15) dX4_spec_15 rfl 1 rfl ?_
  refine r_get (pc := 16) (j := 1) (v := .ref 4) oA2 cf4 flRX4_22 rfl dX4_spec_16 rfl ?_
  refine r_bipush (pc := 19) dX4_spec_19 kb_9 ?_
  replace h := lt2_e h; obtain ⟨x1, w2, ew2, h⟩ := h
  refine r_cVi (pc := 21) wyX9_take oA4 rfl mlRX4_164 iyX9_take syX9_take ⟨(Nat.le_of_ble_eq_true rfl), (Nat.le_of_ble_eq_true rfl)⟩ rfl rfl (Nat.le_of_ble_eq_true rfl) dX4_spec_21 (mX9_take ew2 (pI.mk ?_))
  refine r_z_eq (pc := 24) dX4_spec_24 rfl (fun hc3 => ?_) (fun hc3 => ?_)
  · replace h := if_f hc3 h
    refine r_aload_n (pc := 42) dX4_spec_42 rfl 1 rfl ?_
    refine r_get (pc := 43) (j := 1) (v := .ref 4) oA2 cf4 flRX4_22 rfl dX4_spec_43 rfl ?_
    refine r_bipush (pc := 46) dX4_spec_46 kb_10 ?_
    replace h := lt2_e h; obtain ⟨x5, w6, ew6, h⟩ := h
    refine r_cVi (pc := 48) wyX9_take oA4 rfl mlRX4_164 iyX9_take syX9_take ⟨(Nat.le_of_ble_eq_true rfl), (Nat.le_of_ble_eq_true rfl)⟩ rfl rfl (Nat.le_of_ble_eq_true rfl) dX4_spec_48 (mX9_take ew6 (pI.mk ?_))
    refine r_z_eq (pc := 51) dX4_spec_51 rfl (fun hc7 => ?_) (fun hc7 => ?_)
    · replace h := if_f hc7 h
      refine r_iload_n (pc := 59) dX4_spec_59 rfl 3 rfl ?_
      refine r_if_ne (pc := 60) dX4_spec_60 rfl (fun hc8 => ?_) (fun hc8 => ?_)
      · replace h := if_f hc8 h
        refine r_iconst (pc := 96) dX4_spec_96 ki_0 ?_
        refine r_istore (pc := 97) (loc' := [(4, .int 0), (3, .int (b2i s0)), (0, .ref 2), (1, .int a1), (2, .int a2)]) dX4_spec_97 (Nat.le_of_ble_eq_true rfl) rfl ?_
        refine r_drop (loc' := [(0, .ref 2), (1, .int a1), (2, .int a2), (3, .int (b2i s0)), (4, .int 0)]) [2, 3, 4, 1, 0] rfl ?_
        exact qX4_spec_99 hN FU a1 a2 (b2i s0) 0 w6 h
      replace h := if_t hc8 h
      refine r_aload_n (pc := 63) dX4_spec_63 rfl 1 rfl ?_
      refine r_get (pc := 64) (j := 1) (v := .ref 4) oA2 cf4 flRX4_22 rfl dX4_spec_64 rfl ?_
      replace h := lt_e h; obtain ⟨x9, ex9, h⟩ := h
      refine r_cVi (pc := 67) wyX9_kind oA4 rfl mlRX4_96 iyX9_kind syX9_kind ⟨(Nat.le_of_ble_eq_true rfl), (Nat.le_of_ble_eq_true rfl)⟩ rfl rfl (Nat.le_of_ble_eq_true rfl) dX4_spec_67 (mX9_kind ex9 (pI.mk ?_))
      refine r_bipush (pc := 70) dX4_spec_70 kb_12 ?_
      refine r_icmp_ne (pc := 72) dX4_spec_72 rfl (fun hc10 => ?_) (fun hc10 => ?_)
      · replace h := if_f hc10 h
        refine r_iconst (pc := 79) dX4_spec_79 ki_5 ?_
        refine r_drop (loc' := [(0, .ref 2), (1, .int a1), (2, .int a2)]) [1, 2, 3] rfl ?_
        exact pX4_spec_80 hN h
      replace h := if_t hc10 h
      refine r_iconst (pc := 75) dX4_spec_75 ki_4 ?_
      refine r_goto (pc := 76) dX4_spec_76 rfl ?_
      refine r_drop (loc' := [(0, .ref 2), (1, .int a1), (2, .int a2)]) [1, 2, 3] rfl ?_
      exact pX4_spec_80 hN h
    replace h := if_t hc7 h
    refine r_iconst (pc := 54) dX4_spec_54 ki_3 ?_
    refine r_istore_n (pc := 55) (loc' := [(3, .int 3), (0, .ref 2), (1, .int a1), (2, .int a2)]) dX4_spec_55 rfl (Nat.le_of_ble_eq_true rfl) rfl ?_
    refine r_goto (pc := 56) dX4_spec_56 rfl ?_
    refine r_iconst (pc := 96) dX4_spec_96 ki_0 ?_
    refine r_istore (pc := 97) (loc' := [(4, .int 0), (3, .int 3), (0, .ref 2), (1, .int a1), (2, .int a2)]) dX4_spec_97 (Nat.le_of_ble_eq_true rfl) rfl ?_
    refine r_drop (loc' := [(0, .ref 2), (1, .int a1), (2, .int a2), (3, .int 3), (4, .int 0)]) [2, 3, 4, 1, 0] rfl ?_
    exact qX4_spec_99 hN FU a1 a2 3 0 w6 h
  replace h := if_t hc3 h
  refine r_iconst (pc := 27) dX4_spec_27 ki_2 ?_
  refine r_istore_n (pc := 28) (loc' := [(3, .int 2), (0, .ref 2), (1, .int a1), (2, .int a2)]) dX4_spec_28 rfl (Nat.le_of_ble_eq_true rfl) rfl ?_
  refine r_iload_n (pc := 29) dX4_spec_29 rfl 3 rfl ?_
  refine r_if_ne (pc := 30) dX4_spec_30 rfl (fun hc4 => ?_) (fun hc4 => ?_)
  · replace h := if_f hc4 h
    refine r_iload_n (pc := 37) dX4_spec_37 rfl 3 rfl ?_
    refine r_istore_n (pc := 38) (loc' := [(2, .int a2), (3, .int 2), (0, .ref 2), (1, .int a1)]) dX4_spec_38 rfl (Nat.le_of_ble_eq_true rfl) rfl ?_
    refine r_goto (pc := 39) dX4_spec_39 rfl ?_
    refine r_iconst (pc := 96) dX4_spec_96 ki_0 ?_
    refine r_istore (pc := 97) (loc' := [(4, .int 0), (2, .int a2), (3, .int 2), (0, .ref 2), (1, .int a1)]) dX4_spec_97 (Nat.le_of_ble_eq_true rfl) rfl ?_
    refine r_drop (loc' := [(0, .ref 2), (1, .int a1), (2, .int a2), (3, .int 2), (4, .int 0)]) [3, 4, 1, 2, 0] rfl ?_
    exact qX4_spec_99 hN FU a1 a2 2 0 w2 h
  replace h := if_t hc4 h
  refine r_iconst (pc := 33) dX4_spec_33 ki_1 ?_
  refine r_goto (pc := 34) dX4_spec_34 rfl ?_
  refine r_istore_n (pc := 38) (loc' := [(2, .int 1), (3, .int 2), (0, .ref 2), (1, .int a1)]) dX4_spec_38 rfl (Nat.le_of_ble_eq_true rfl) rfl ?_
  refine r_goto (pc := 39) dX4_spec_39 rfl ?_
  refine r_iconst (pc := 96) dX4_spec_96 ki_0 ?_
  refine r_istore (pc := 97) (loc' := [(4, .int 0), (2, .int 1), (3, .int 2), (0, .ref 2), (1, .int a1)]) dX4_spec_97 (Nat.le_of_ble_eq_true rfl) rfl ?_
  refine r_drop (loc' := [(0, .ref 2), (1, .int a1), (2, .int 1), (3, .int 2), (4, .int 0)]) [3, 4, 1, 2, 0] rfl ?_
  exact qX4_spec_99 hN FU a1 1 2 0 w2 h
def fX4_spec (a1 : Int32) (w : Wd) : Option Wd :=
  lt2 (fX4_type w) fun x1 w2 => if x1 = 0 then (fX4_spec_14 false a1 x1 w2) else (fX4_spec_14 true a1 x1 w2)
theorem pX4_spec {q : Gq} {l : Launch} {N : Option Value → Wd → Prop} {X : String → Wd → Prop} {w : Wd} {R : Wd} (hN : N none R) {a1 : Int32} (h : fX4_spec a1 w = some R) : RT (GA q) l 6 yX4_spec cX4_spec 6 (none) N X 0 [] [(0, .ref 2), (1, .int a1)] w := by
  unfold fX4_spec at h
  refine r_aload_n (pc := 0) dX4_spec_0 rfl 0 rfl ?_
  replace h := lt2_e h; obtain ⟨x1, w2, ew2, h⟩ := h
  refine r_cVi (pc := 1) wyX4_type oA2 rfl mlRX4_185 iyX4_type syX4_type ⟨(Nat.le_of_ble_eq_true rfl), (Nat.le_of_ble_eq_true rfl)⟩ rfl rfl (Nat.le_of_ble_eq_true rfl) dX4_spec_1 (mX4_type ew2 (pI.mk ?_))
  refine r_istore_n (pc := 4) (loc' := [(2, .int x1), (0, .ref 2), (1, .int a1)]) dX4_spec_4 rfl (Nat.le_of_ble_eq_true rfl) rfl ?_
  refine r_iload_n (pc := 5) dX4_spec_5 rfl 0 rfl ?_
  refine r_if_ne (pc := 6) dX4_spec_6 rfl (fun hc3 => ?_) (fun hc3 => ?_)
  · replace h := if_f hc3 h
    refine r_iconst (pc := 13) dX4_spec_13 ki_1 ?_
    refine r_drop (loc' := [(0, .ref 2), (1, .int a1), (2, .int x1)]) [1, 2, 0] rfl ?_
    exact pX4_spec_14 hN h
  replace h := if_t hc3 h
  refine r_iconst (pc := 9) dX4_spec_9 ki_0 ?_
  refine r_goto (pc := 10) dX4_spec_10 rfl ?_
  refine r_drop (loc' := [(0, .ref 2), (1, .int a1), (2, .int x1)]) [1, 2, 0] rfl ?_
  exact pX4_spec_14 hN h
theorem mX4_spec {q : Gq} {l : Launch} {N : Option Value → Wd → Prop} {X : String → Wd → Prop} {a1 : Int32} {w : Wd} {u : Wd} (h : fX4_spec a1 w = some u) (hN : N none u) : Ct (GA q) l 6 yX4_spec cX4_spec 6 (none) [.ref 2, .int a1] w N X := Ct.of (by decide) (Nat.le_of_ble_eq_true rfl) (pX4_spec hN h)
/-! AlgolMill$Maker.values (I)I: O, 6 -/
theorem dX4_values_0 : decode cX4_values 0 = .ok (.iconst 0, 1) := by decide +kernel
theorem dX4_values_1 : decode cX4_values 1 = .ok (.istore_n 2, 1) := by decide +kernel
theorem dX4_values_2 : decode cX4_values 2 = .ok (.iload_n 2, 1) := by decide +kernel
theorem dX4_values_3 : decode cX4_values 3 = .ok (.sipush 8193, 3) := by decide +kernel
theorem dX4_values_6 : decode cX4_values 6 = .ok (.if_icmp .ge 44, 3) := by decide +kernel
theorem dX4_values_9 : decode cX4_values 9 = .ok (.iload_n 2, 1) := by decide +kernel
theorem dX4_values_10 : decode cX4_values 10 = .ok (.ifCond .eq 15, 3) := by decide +kernel
theorem dX4_values_13 : decode cX4_values 13 = .ok (.aload_n 0, 1) := by decide +kernel
theorem dX4_values_14 : decode cX4_values 14 = .ok (.getfield 22, 3) := by decide +kernel
theorem dX4_values_17 : decode cX4_values 17 = .ok (.bipush 40, 2) := by decide +kernel
theorem dX4_values_19 : decode cX4_values 19 = .ok (.invokevirtual 164, 3) := by decide +kernel
theorem dX4_values_22 : decode cX4_values 22 = .ok (.ifCond .eq 28, 3) := by decide +kernel
theorem dX4_values_25 : decode cX4_values 25 = .ok (.aload_n 0, 1) := by decide +kernel
theorem dX4_values_26 : decode cX4_values 26 = .ok (.iload_n 1, 1) := by decide +kernel
theorem dX4_values_27 : decode cX4_values 27 = .ok (.invokevirtual 307, 3) := by decide +kernel
theorem dX4_values_30 : decode cX4_values 30 = .ok (.istore_n 3, 1) := by decide +kernel
theorem dX4_values_31 : decode cX4_values 31 = .ok (.iload_n 3, 1) := by decide +kernel
theorem dX4_values_32 : decode cX4_values 32 = .ok (.ifCond .eq 12, 3) := by decide +kernel
theorem dX4_values_35 : decode cX4_values 35 = .ok (.aload_n 0, 1) := by decide +kernel
theorem dX4_values_36 : decode cX4_values 36 = .ok (.getfield 27, 3) := by decide +kernel
theorem dX4_values_39 : decode cX4_values 39 = .ok (.iload_n 3, 1) := by decide +kernel
theorem dX4_values_40 : decode cX4_values 40 = .ok (.iconst 2, 1) := by decide +kernel
theorem dX4_values_41 : decode cX4_values 41 = .ok (.invokevirtual 301, 3) := by decide +kernel
theorem dX4_values_44 : decode cX4_values 44 = .ok (.iinc 2 1, 3) := by decide +kernel
theorem dX4_values_47 : decode cX4_values 47 = .ok (.goto (-45), 3) := by decide +kernel
theorem dX4_values_50 : decode cX4_values 50 = .ok (.iload_n 2, 1) := by decide +kernel
theorem dX4_values_51 : decode cX4_values 51 = .ok (.ireturn, 1) := by decide +kernel
def fX4_values_25 (k_2 : Int32 → Int32 → Wd → Option (Int32 × Wd)) (a1 : Int32) (a2 : Int32) (w : Wd) : Option (Int32 × Wd) :=
  bn2 (fX4_formal a1 w) fun x1 w2 => if x1 = 0 then (lt (a2 + 1) fun x4 => k_2 a1 x4 w2) else (lt (fX8_how x1 2 w2) fun w5 => lt (a2 + 1) fun x6 => k_2 a1 x6 w5)
theorem pX4_values_25 {q : Gq} {l : Launch} {N : Option Value → Wd → Prop} {X : String → Wd → Prop} {w : Wd} {R : Int32 × Wd} (hN : N (some (.int R.1)) R.2) {k_2 : Int32 → Int32 → Wd → Option (Int32 × Wd)} (hk_2 : ∀ (a1 : Int32) (a2 : Int32) (w : Wd), k_2 a1 a2 w = some R → RT (GA q) l 6 yX4_values cX4_values 4 ((some .int)) N X 2 [] [(0, .ref 2), (1, .int a1), (2, .int a2)] w) {a1 : Int32} {a2 : Int32} (h : fX4_values_25 k_2 a1 a2 w = some R) : RT (GA q) l 6 yX4_values cX4_values 4 ((some .int)) N X 25 [] [(0, .ref 2), (1, .int a1), (2, .int a2)] w := by
  unfold fX4_values_25 at h
  refine r_aload_n (pc := 25) dX4_values_25 rfl 0 rfl ?_
  refine r_iload_n (pc := 26) dX4_values_26 rfl 1 rfl ?_
  replace h := bn2_e h; obtain ⟨x1, w2, ew2, h⟩ := h
  refine r_cVi (pc := 27) wyX4_formal oA2 rfl mlRX4_307 iyX4_formal syX4_formal ⟨(Nat.le_of_ble_eq_true rfl), (Nat.le_of_ble_eq_true rfl)⟩ rfl rfl (Nat.le_of_ble_eq_true rfl) dX4_values_27 (mX4_formal ew2 (pI.mk ?_))
  refine r_istore_n (pc := 30) (loc' := [(3, .int x1), (0, .ref 2), (1, .int a1), (2, .int a2)]) dX4_values_30 rfl (Nat.le_of_ble_eq_true rfl) rfl ?_
  refine r_iload_n (pc := 31) dX4_values_31 rfl 0 rfl ?_
  refine r_if_eq (pc := 32) dX4_values_32 rfl (fun hc3 => ?_) (fun hc3 => ?_)
  · replace h := if_t hc3 h
    replace h := lt_e h; obtain ⟨x4, ex4, h⟩ := h
    refine r_inc (pc := 44) (loc' := [(2, .int x4), (3, .int x1), (0, .ref 2), (1, .int a1)]) dX4_values_44 ki_1 ex4 3 rfl (Nat.le_of_ble_eq_true rfl) rfl ?_
    refine r_goto (pc := 47) dX4_values_47 rfl ?_
    refine r_drop (loc' := [(0, .ref 2), (1, .int a1), (2, .int x4)]) [2, 3, 0] rfl ?_
    exact hk_2 a1 x4 w2 h
  replace h := if_f hc3 h
  refine r_aload_n (pc := 35) dX4_values_35 rfl 1 rfl ?_
  refine r_get (pc := 36) (j := 2) (v := .ref 13) oA2 cf4 flRX4_27 rfl dX4_values_36 rfl ?_
  refine r_iload_n (pc := 39) dX4_values_39 rfl 0 rfl ?_
  refine r_iconst (pc := 40) dX4_values_40 ki_2 ?_
  replace h := lt_e h; obtain ⟨w5, ew5, h⟩ := h
  refine r_cVv (pc := 41) wyX8_how oA13 rfl mlRX4_301 iyX8_how syX8_how ⟨(Nat.le_of_ble_eq_true rfl), (Nat.le_of_ble_eq_true rfl)⟩ rfl rfl (Nat.le_of_ble_eq_true rfl) dX4_values_41 (mX8_how ew5 (pV.mk ?_))
  replace h := lt_e h; obtain ⟨x6, ex6, h⟩ := h
  refine r_inc (pc := 44) (loc' := [(2, .int x6), (3, .int x1), (0, .ref 2), (1, .int a1)]) dX4_values_44 ki_1 ex6 3 rfl (Nat.le_of_ble_eq_true rfl) rfl ?_
  refine r_goto (pc := 47) dX4_values_47 rfl ?_
  refine r_drop (loc' := [(0, .ref 2), (1, .int a1), (2, .int x6)]) [2, 3, 0] rfl ?_
  exact hk_2 a1 x6 w5 h
def fX4_values_2 (k_2 : Int32 → Int32 → Wd → Option (Int32 × Wd)) (a1 : Int32) (a2 : Int32) (w : Wd) : Option (Int32 × Wd) :=
  if 8193 ≤ a2 then (some (a2, w)) else (if a2 = 0 then (fX4_values_25 k_2 a1 a2 w) else (lt2 (fX9_take 40 w) fun x3 w4 => if x3 = true then (fX4_values_25 k_2 a1 a2 w4) else (some (a2, w4))))
theorem pX4_values_2 {q : Gq} {l : Launch} {N : Option Value → Wd → Prop} {X : String → Wd → Prop} {w : Wd} {R : Int32 × Wd} (hN : N (some (.int R.1)) R.2) {k_2 : Int32 → Int32 → Wd → Option (Int32 × Wd)} (hk_2 : ∀ (a1 : Int32) (a2 : Int32) (w : Wd), k_2 a1 a2 w = some R → RT (GA q) l 6 yX4_values cX4_values 4 ((some .int)) N X 2 [] [(0, .ref 2), (1, .int a1), (2, .int a2)] w) {a1 : Int32} {a2 : Int32} (h : fX4_values_2 k_2 a1 a2 w = some R) : RT (GA q) l 6 yX4_values cX4_values 4 ((some .int)) N X 2 [] [(0, .ref 2), (1, .int a1), (2, .int a2)] w := by
  unfold fX4_values_2 at h
  refine r_iload_n (pc := 2) dX4_values_2 rfl 2 rfl ?_
  refine r_sipush (pc := 3) dX4_values_3 ks_8193 ?_
  refine r_icmp_ge (pc := 6) dX4_values_6 rfl (fun hc1 => ?_) (fun hc1 => ?_)
  · replace h := if_t hc1 h
    refine r_iload_n (pc := 50) dX4_values_50 rfl 2 rfl ?_
    exact rO_i (pc := 51) rfl dX4_values_51 h hN
  replace h := if_f hc1 h
  refine r_iload_n (pc := 9) dX4_values_9 rfl 2 rfl ?_
  refine r_if_eq (pc := 10) dX4_values_10 rfl (fun hc2 => ?_) (fun hc2 => ?_)
  · replace h := if_t hc2 h
    exact pX4_values_25 hN hk_2 h
  replace h := if_f hc2 h
  refine r_aload_n (pc := 13) dX4_values_13 rfl 0 rfl ?_
  refine r_get (pc := 14) (j := 1) (v := .ref 4) oA2 cf4 flRX4_22 rfl dX4_values_14 rfl ?_
  refine r_bipush (pc := 17) dX4_values_17 kb_40 ?_
  replace h := lt2_e h; obtain ⟨x3, w4, ew4, h⟩ := h
  refine r_cVi (pc := 19) wyX9_take oA4 rfl mlRX4_164 iyX9_take syX9_take ⟨(Nat.le_of_ble_eq_true rfl), (Nat.le_of_ble_eq_true rfl)⟩ rfl rfl (Nat.le_of_ble_eq_true rfl) dX4_values_19 (mX9_take ew4 (pI.mk ?_))
  refine r_z_eq (pc := 22) dX4_values_22 rfl (fun hc5 => ?_) (fun hc5 => ?_)
  · replace h := if_f hc5 h
    refine r_iload_n (pc := 50) dX4_values_50 rfl 2 rfl ?_
    exact rO_i (pc := 51) rfl dX4_values_51 h hN
  replace h := if_t hc5 h
  exact pX4_values_25 hN hk_2 h
def oX4_values_2 : Nat → Int32 → Int32 → Wd → Option (Int32 × Wd)
  | 0 => fun _ _ _ => none
  | n + 1 => fX4_values_2 (oX4_values_2 n)
theorem qX4_values_2 {q : Gq} {l : Launch} {N : Option Value → Wd → Prop} {X : String → Wd → Prop} {R : Int32 × Wd} (hN : N (some (.int R.1)) R.2) : ∀ (n : Nat) (a1 : Int32) (a2 : Int32) (w : Wd), oX4_values_2 n a1 a2 w = some R → RT (GA q) l 6 yX4_values cX4_values 4 ((some .int)) N X 2 [] [(0, .ref 2), (1, .int a1), (2, .int a2)] w := by
  intro n
  induction n with
  | zero =>
    intro a1 a2 w h
    exact absurd h (fun q => nomatch q)
  | succ n ih =>
    intro a1 a2 w h
    exact pX4_values_2 hN ih h
def fX4_values (a1 : Int32) (w : Wd) : Option (Int32 × Wd) :=
  oX4_values_2 FU a1 0 w
theorem pX4_values {q : Gq} {l : Launch} {N : Option Value → Wd → Prop} {X : String → Wd → Prop} {w : Wd} {R : Int32 × Wd} (hN : N (some (.int R.1)) R.2) {a1 : Int32} (h : fX4_values a1 w = some R) : RT (GA q) l 6 yX4_values cX4_values 4 ((some .int)) N X 0 [] [(0, .ref 2), (1, .int a1)] w := by
  unfold fX4_values at h
  refine r_iconst (pc := 0) dX4_values_0 ki_0 ?_
  refine r_istore_n (pc := 1) (loc' := [(2, .int 0), (0, .ref 2), (1, .int a1)]) dX4_values_1 rfl (Nat.le_of_ble_eq_true rfl) rfl ?_
  refine r_drop (loc' := [(0, .ref 2), (1, .int a1), (2, .int 0)]) [1, 2, 0] rfl ?_
  exact qX4_values_2 hN FU a1 0 w h
theorem mX4_values {q : Gq} {l : Launch} {N : Option Value → Wd → Prop} {X : String → Wd → Prop} {a1 : Int32} {w : Wd} {x : Int32} {u : Wd} (h : fX4_values a1 w = some (x, u)) (hN : N (some (.int x)) u) : Ct (GA q) l 6 yX4_values cX4_values 4 ((some .int)) [.ref 2, .int a1] w N X := Ct.of (by decide) (Nat.le_of_ble_eq_true rfl) (pX4_values hN h)
/-! AlgolMill$Maker.heading (II)V: O, 7 -/
theorem dX4_heading_0 : decode cX4_heading 0 = .ok (.aload_n 0, 1) := by decide +kernel
theorem dX4_heading_1 : decode cX4_heading 1 = .ok (.getfield 27, 3) := by decide +kernel
theorem dX4_heading_4 : decode cX4_heading 4 = .ok (.invokevirtual 277, 3) := by decide +kernel
theorem dX4_heading_7 : decode cX4_heading 7 = .ok (.istore_n 3, 1) := by decide +kernel
theorem dX4_heading_8 : decode cX4_heading 8 = .ok (.iconst 0, 1) := by decide +kernel
theorem dX4_heading_9 : decode cX4_heading 9 = .ok (.istore 4, 2) := by decide +kernel
theorem dX4_heading_11 : decode cX4_heading 11 = .ok (.aload_n 0, 1) := by decide +kernel
theorem dX4_heading_12 : decode cX4_heading 12 = .ok (.getfield 22, 3) := by decide +kernel
theorem dX4_heading_15 : decode cX4_heading 15 = .ok (.invokevirtual 96, 3) := by decide +kernel
theorem dX4_heading_18 : decode cX4_heading 18 = .ok (.bipush 43, 2) := by decide +kernel
theorem dX4_heading_20 : decode cX4_heading 20 = .ok (.if_icmp .ne 27, 3) := by decide +kernel
theorem dX4_heading_23 : decode cX4_heading 23 = .ok (.aload_n 0, 1) := by decide +kernel
theorem dX4_heading_24 : decode cX4_heading 24 = .ok (.getfield 22, 3) := by decide +kernel
theorem dX4_heading_27 : decode cX4_heading 27 = .ok (.iload_n 1, 1) := by decide +kernel
theorem dX4_heading_28 : decode cX4_heading 28 = .ok (.invokevirtual 130, 3) := by decide +kernel
theorem dX4_heading_31 : decode cX4_heading 31 = .ok (.pop, 1) := by decide +kernel
theorem dX4_heading_32 : decode cX4_heading 32 = .ok (.aload_n 0, 1) := by decide +kernel
theorem dX4_heading_33 : decode cX4_heading 33 = .ok (.invokevirtual 278, 3) := by decide +kernel
theorem dX4_heading_36 : decode cX4_heading 36 = .ok (.istore 4, 2) := by decide +kernel
theorem dX4_heading_38 : decode cX4_heading 38 = .ok (.aload_n 0, 1) := by decide +kernel
theorem dX4_heading_39 : decode cX4_heading 39 = .ok (.getfield 22, 3) := by decide +kernel
theorem dX4_heading_42 : decode cX4_heading 42 = .ok (.bipush 44, 2) := by decide +kernel
theorem dX4_heading_44 : decode cX4_heading 44 = .ok (.invokevirtual 170, 3) := by decide +kernel
theorem dX4_heading_47 : decode cX4_heading 47 = .ok (.aload_n 0, 1) := by decide +kernel
theorem dX4_heading_48 : decode cX4_heading 48 = .ok (.getfield 22, 3) := by decide +kernel
theorem dX4_heading_51 : decode cX4_heading 51 = .ok (.bipush 41, 2) := by decide +kernel
theorem dX4_heading_53 : decode cX4_heading 53 = .ok (.invokevirtual 170, 3) := by decide +kernel
theorem dX4_heading_56 : decode cX4_heading 56 = .ok (.aload_n 0, 1) := by decide +kernel
theorem dX4_heading_57 : decode cX4_heading 57 = .ok (.getfield 27, 3) := by decide +kernel
theorem dX4_heading_60 : decode cX4_heading 60 = .ok (.iload_n 2, 1) := by decide +kernel
theorem dX4_heading_61 : decode cX4_heading 61 = .ok (.iload_n 3, 1) := by decide +kernel
theorem dX4_heading_62 : decode cX4_heading 62 = .ok (.iload 4, 2) := by decide +kernel
theorem dX4_heading_64 : decode cX4_heading 64 = .ok (.invokevirtual 281, 3) := by decide +kernel
theorem dX4_heading_67 : decode cX4_heading 67 = .ok (.aload_n 0, 1) := by decide +kernel
theorem dX4_heading_68 : decode cX4_heading 68 = .ok (.getfield 22, 3) := by decide +kernel
theorem dX4_heading_71 : decode cX4_heading 71 = .ok (.invokevirtual 202, 3) := by decide +kernel
theorem dX4_heading_74 : decode cX4_heading 74 = .ok (.istore 5, 2) := by decide +kernel
theorem dX4_heading_76 : decode cX4_heading 76 = .ok (.iconst 0, 1) := by decide +kernel
theorem dX4_heading_77 : decode cX4_heading 77 = .ok (.istore 6, 2) := by decide +kernel
theorem dX4_heading_79 : decode cX4_heading 79 = .ok (.aload_n 0, 1) := by decide +kernel
theorem dX4_heading_80 : decode cX4_heading 80 = .ok (.getfield 22, 3) := by decide +kernel
theorem dX4_heading_83 : decode cX4_heading 83 = .ok (.bipush 11, 2) := by decide +kernel
theorem dX4_heading_85 : decode cX4_heading 85 = .ok (.invokevirtual 164, 3) := by decide +kernel
theorem dX4_heading_88 : decode cX4_heading 88 = .ok (.ifCond .eq 19, 3) := by decide +kernel
theorem dX4_heading_91 : decode cX4_heading 91 = .ok (.aload_n 0, 1) := by decide +kernel
theorem dX4_heading_92 : decode cX4_heading 92 = .ok (.iload_n 2, 1) := by decide +kernel
theorem dX4_heading_93 : decode cX4_heading 93 = .ok (.invokevirtual 284, 3) := by decide +kernel
theorem dX4_heading_96 : decode cX4_heading 96 = .ok (.istore 6, 2) := by decide +kernel
theorem dX4_heading_98 : decode cX4_heading 98 = .ok (.aload_n 0, 1) := by decide +kernel
theorem dX4_heading_99 : decode cX4_heading 99 = .ok (.getfield 22, 3) := by decide +kernel
theorem dX4_heading_102 : decode cX4_heading 102 = .ok (.bipush 41, 2) := by decide +kernel
theorem dX4_heading_104 : decode cX4_heading 104 = .ok (.invokevirtual 170, 3) := by decide +kernel
theorem dX4_heading_107 : decode cX4_heading 107 = .ok (.iconst 0, 1) := by decide +kernel
theorem dX4_heading_108 : decode cX4_heading 108 = .ok (.istore 7, 2) := by decide +kernel
theorem dX4_heading_110 : decode cX4_heading 110 = .ok (.iload 7, 2) := by decide +kernel
theorem dX4_heading_112 : decode cX4_heading 112 = .ok (.sipush 8193, 3) := by decide +kernel
theorem dX4_heading_115 : decode cX4_heading 115 = .ok (.if_icmp .ge 30, 3) := by decide +kernel
theorem dX4_heading_118 : decode cX4_heading 118 = .ok (.aload_n 0, 1) := by decide +kernel
theorem dX4_heading_119 : decode cX4_heading 119 = .ok (.invokevirtual 287, 3) := by decide +kernel
theorem dX4_heading_122 : decode cX4_heading 122 = .ok (.ifCond .eq 23, 3) := by decide +kernel
theorem dX4_heading_125 : decode cX4_heading 125 = .ok (.aload_n 0, 1) := by decide +kernel
theorem dX4_heading_126 : decode cX4_heading 126 = .ok (.iload_n 2, 1) := by decide +kernel
theorem dX4_heading_127 : decode cX4_heading 127 = .ok (.invokevirtual 290, 3) := by decide +kernel
theorem dX4_heading_130 : decode cX4_heading 130 = .ok (.aload_n 0, 1) := by decide +kernel
theorem dX4_heading_131 : decode cX4_heading 131 = .ok (.getfield 22, 3) := by decide +kernel
theorem dX4_heading_134 : decode cX4_heading 134 = .ok (.bipush 41, 2) := by decide +kernel
theorem dX4_heading_136 : decode cX4_heading 136 = .ok (.invokevirtual 170, 3) := by decide +kernel
theorem dX4_heading_139 : decode cX4_heading 139 = .ok (.iinc 7 1, 3) := by decide +kernel
theorem dX4_heading_142 : decode cX4_heading 142 = .ok (.goto (-32), 3) := by decide +kernel
theorem dX4_heading_145 : decode cX4_heading 145 = .ok (.iconst 0, 1) := by decide +kernel
theorem dX4_heading_146 : decode cX4_heading 146 = .ok (.istore 7, 2) := by decide +kernel
theorem dX4_heading_148 : decode cX4_heading 148 = .ok (.iload 7, 2) := by decide +kernel
theorem dX4_heading_150 : decode cX4_heading 150 = .ok (.iload 6, 2) := by decide +kernel
theorem dX4_heading_152 : decode cX4_heading 152 = .ok (.if_icmp .ge 23, 3) := by decide +kernel
theorem dX4_heading_155 : decode cX4_heading 155 = .ok (.aload_n 0, 1) := by decide +kernel
theorem dX4_heading_156 : decode cX4_heading 156 = .ok (.iload_n 2, 1) := by decide +kernel
theorem dX4_heading_157 : decode cX4_heading 157 = .ok (.iload 5, 2) := by decide +kernel
theorem dX4_heading_159 : decode cX4_heading 159 = .ok (.iconst 1, 1) := by decide +kernel
theorem dX4_heading_160 : decode cX4_heading 160 = .ok (.iadd, 1) := by decide +kernel
theorem dX4_heading_161 : decode cX4_heading 161 = .ok (.iconst 2, 1) := by decide +kernel
theorem dX4_heading_162 : decode cX4_heading 162 = .ok (.iload 7, 2) := by decide +kernel
theorem dX4_heading_164 : decode cX4_heading 164 = .ok (.imul, 1) := by decide +kernel
theorem dX4_heading_165 : decode cX4_heading 165 = .ok (.iadd, 1) := by decide +kernel
theorem dX4_heading_166 : decode cX4_heading 166 = .ok (.invokevirtual 293, 3) := by decide +kernel
theorem dX4_heading_169 : decode cX4_heading 169 = .ok (.iinc 7 1, 3) := by decide +kernel
theorem dX4_heading_172 : decode cX4_heading 172 = .ok (.goto (-24), 3) := by decide +kernel
theorem dX4_heading_175 : decode cX4_heading 175 = .ok (.aload_n 0, 1) := by decide +kernel
theorem dX4_heading_176 : decode cX4_heading 176 = .ok (.iload_n 2, 1) := by decide +kernel
theorem dX4_heading_177 : decode cX4_heading 177 = .ok (.invokevirtual 296, 3) := by decide +kernel
theorem dX4_heading_180 : decode cX4_heading 180 = .ok (.aload_n 0, 1) := by decide +kernel
theorem dX4_heading_181 : decode cX4_heading 181 = .ok (.getfield 27, 3) := by decide +kernel
theorem dX4_heading_184 : decode cX4_heading 184 = .ok (.iload_n 2, 1) := by decide +kernel
theorem dX4_heading_185 : decode cX4_heading 185 = .ok (.aload_n 0, 1) := by decide +kernel
theorem dX4_heading_186 : decode cX4_heading 186 = .ok (.getfield 22, 3) := by decide +kernel
theorem dX4_heading_189 : decode cX4_heading 189 = .ok (.invokevirtual 202, 3) := by decide +kernel
theorem dX4_heading_192 : decode cX4_heading 192 = .ok (.invokevirtual 299, 3) := by decide +kernel
theorem dX4_heading_195 : decode cX4_heading 195 = .ok (.return_, 1) := by decide +kernel
def fX4_heading_148 (k_148 : Int32 → Int32 → Int32 → Int32 → Wd → Option Wd) (a2 : Int32) (a5 : Int32) (a6 : Int32) (a7 : Int32) (w : Wd) : Option Wd :=
  if a6 ≤ a7 then (bn (fX4_settle a2 w) fun w2 => lt (fX9_at w2) fun x3 => lt (fX8_body_ a2 x3 w2) fun w4 => some w4) else (bn (fX4_checkValue a2 ((a5 + 1) + (2 * a7)) w) fun w5 => lt (a7 + 1) fun x6 => k_148 a2 a5 a6 x6 w5)
theorem pX4_heading_148 {q : Gq} {l : Launch} {N : Option Value → Wd → Prop} {X : String → Wd → Prop} {w : Wd} {R : Wd} (hN : N none R) {k_148 : Int32 → Int32 → Int32 → Int32 → Wd → Option Wd} (hk_148 : ∀ (a2 : Int32) (a5 : Int32) (a6 : Int32) (a7 : Int32) (w : Wd), k_148 a2 a5 a6 a7 w = some R → RT (GA q) l 7 yX4_heading cX4_heading 8 (none) N X 148 [] [(0, .ref 2), (2, .int a2), (5, .int a5), (6, .int a6), (7, .int a7)] w) {a2 : Int32} {a5 : Int32} {a6 : Int32} {a7 : Int32} (h : fX4_heading_148 k_148 a2 a5 a6 a7 w = some R) : RT (GA q) l 7 yX4_heading cX4_heading 8 (none) N X 148 [] [(0, .ref 2), (2, .int a2), (5, .int a5), (6, .int a6), (7, .int a7)] w := by
  unfold fX4_heading_148 at h
  refine r_iload (pc := 148) dX4_heading_148 4 rfl ?_
  refine r_iload (pc := 150) dX4_heading_150 3 rfl ?_
  refine r_icmp_ge (pc := 152) dX4_heading_152 rfl (fun hc1 => ?_) (fun hc1 => ?_)
  · replace h := if_t hc1 h
    refine r_aload_n (pc := 175) dX4_heading_175 rfl 0 rfl ?_
    refine r_iload_n (pc := 176) dX4_heading_176 rfl 1 rfl ?_
    replace h := bn_e h; obtain ⟨w2, ew2, h⟩ := h
    refine r_cVv (pc := 177) wyX4_settle oA2 rfl mlRX4_296 iyX4_settle syX4_settle ⟨(Nat.le_of_ble_eq_true rfl), (Nat.le_of_ble_eq_true rfl)⟩ rfl rfl (Nat.le_of_ble_eq_true rfl) dX4_heading_177 (mX4_settle ew2 (pV.mk ?_))
    refine r_aload_n (pc := 180) dX4_heading_180 rfl 0 rfl ?_
    refine r_get (pc := 181) (j := 2) (v := .ref 13) oA2 cf4 flRX4_27 rfl dX4_heading_181 rfl ?_
    refine r_iload_n (pc := 184) dX4_heading_184 rfl 1 rfl ?_
    refine r_aload_n (pc := 185) dX4_heading_185 rfl 0 rfl ?_
    refine r_get (pc := 186) (j := 1) (v := .ref 4) oA2 cf4 flRX4_22 rfl dX4_heading_186 rfl ?_
    replace h := lt_e h; obtain ⟨x3, ex3, h⟩ := h
    refine r_cVi (pc := 189) wyX9_at oA4 rfl mlRX4_202 iyX9_at syX9_at ⟨(Nat.le_of_ble_eq_true rfl), (Nat.le_of_ble_eq_true rfl)⟩ rfl rfl (Nat.le_of_ble_eq_true rfl) dX4_heading_189 (mX9_at ex3 (pI.mk ?_))
    replace h := lt_e h; obtain ⟨w4, ew4, h⟩ := h
    refine r_cVv (pc := 192) wyX8_body_ oA13 rfl mlRX4_299 iyX8_body_ syX8_body_ ⟨(Nat.le_of_ble_eq_true rfl), (Nat.le_of_ble_eq_true rfl)⟩ rfl rfl (Nat.le_of_ble_eq_true rfl) dX4_heading_192 (mX8_body_ ew4 (pV.mk ?_))
    exact rO_v (pc := 195) rfl dX4_heading_195 h hN
  replace h := if_f hc1 h
  refine r_aload_n (pc := 155) dX4_heading_155 rfl 0 rfl ?_
  refine r_iload_n (pc := 156) dX4_heading_156 rfl 1 rfl ?_
  refine r_iload (pc := 157) dX4_heading_157 2 rfl ?_
  refine r_iconst (pc := 159) dX4_heading_159 ki_1 ?_
  refine r_iadd (pc := 160) dX4_heading_160 ?_
  refine r_iconst (pc := 161) dX4_heading_161 ki_2 ?_
  refine r_iload (pc := 162) dX4_heading_162 4 rfl ?_
  refine r_imul (pc := 164) dX4_heading_164 ?_
  refine r_iadd (pc := 165) dX4_heading_165 ?_
  replace h := bn_e h; obtain ⟨w5, ew5, h⟩ := h
  refine r_cVv (pc := 166) wyX4_checkValue oA2 rfl mlRX4_293 iyX4_checkValue syX4_checkValue ⟨(Nat.le_of_ble_eq_true rfl), (Nat.le_of_ble_eq_true rfl)⟩ rfl rfl (Nat.le_of_ble_eq_true rfl) dX4_heading_166 (mX4_checkValue ew5 (pV.mk ?_))
  replace h := lt_e h; obtain ⟨x6, ex6, h⟩ := h
  refine r_inc (pc := 169) (loc' := [(7, .int x6), (0, .ref 2), (2, .int a2), (5, .int a5), (6, .int a6)]) dX4_heading_169 ki_1 ex6 4 rfl (Nat.le_of_ble_eq_true rfl) rfl ?_
  refine r_goto (pc := 172) dX4_heading_172 rfl ?_
  refine r_drop (loc' := [(0, .ref 2), (2, .int a2), (5, .int a5), (6, .int a6), (7, .int x6)]) [1, 2, 3, 4, 0] rfl ?_
  exact hk_148 a2 a5 a6 x6 w5 h
def oX4_heading_148 : Nat → Int32 → Int32 → Int32 → Int32 → Wd → Option Wd
  | 0 => fun _ _ _ _ _ => none
  | n + 1 => fX4_heading_148 (oX4_heading_148 n)
theorem qX4_heading_148 {q : Gq} {l : Launch} {N : Option Value → Wd → Prop} {X : String → Wd → Prop} {R : Wd} (hN : N none R) : ∀ (n : Nat) (a2 : Int32) (a5 : Int32) (a6 : Int32) (a7 : Int32) (w : Wd), oX4_heading_148 n a2 a5 a6 a7 w = some R → RT (GA q) l 7 yX4_heading cX4_heading 8 (none) N X 148 [] [(0, .ref 2), (2, .int a2), (5, .int a5), (6, .int a6), (7, .int a7)] w := by
  intro n
  induction n with
  | zero =>
    intro a2 a5 a6 a7 w h
    exact absurd h (fun q => nomatch q)
  | succ n ih =>
    intro a2 a5 a6 a7 w h
    exact pX4_heading_148 hN ih h
def fX4_heading_110 (k_110 : Int32 → Int32 → Int32 → Int32 → Wd → Option Wd) (a2 : Int32) (a5 : Int32) (a6 : Int32) (a7 : Int32) (w : Wd) : Option Wd :=
  if 8193 ≤ a7 then (oX4_heading_148 FU a2 a5 a6 0 w) else (lt (fX4_isSpec w) fun x2 => if x2 = true then (bn (fX4_spec a2 w) fun w4 => lt (fX9_need 41 w4) fun w5 => lt (a7 + 1) fun x6 => k_110 a2 a5 a6 x6 w5) else (oX4_heading_148 FU a2 a5 a6 0 w))
theorem pX4_heading_110 {q : Gq} {l : Launch} {N : Option Value → Wd → Prop} {X : String → Wd → Prop} {w : Wd} {R : Wd} (hN : N none R) {k_110 : Int32 → Int32 → Int32 → Int32 → Wd → Option Wd} (hk_110 : ∀ (a2 : Int32) (a5 : Int32) (a6 : Int32) (a7 : Int32) (w : Wd), k_110 a2 a5 a6 a7 w = some R → RT (GA q) l 7 yX4_heading cX4_heading 8 (none) N X 110 [] [(0, .ref 2), (2, .int a2), (5, .int a5), (6, .int a6), (7, .int a7)] w) {a2 : Int32} {a5 : Int32} {a6 : Int32} {a7 : Int32} (h : fX4_heading_110 k_110 a2 a5 a6 a7 w = some R) : RT (GA q) l 7 yX4_heading cX4_heading 8 (none) N X 110 [] [(0, .ref 2), (2, .int a2), (5, .int a5), (6, .int a6), (7, .int a7)] w := by
  unfold fX4_heading_110 at h
  refine r_iload (pc := 110) dX4_heading_110 4 rfl ?_
  refine r_sipush (pc := 112) dX4_heading_112 ks_8193 ?_
  refine r_icmp_ge (pc := 115) dX4_heading_115 rfl (fun hc1 => ?_) (fun hc1 => ?_)
  · replace h := if_t hc1 h
    refine r_iconst (pc := 145) dX4_heading_145 ki_0 ?_
    refine r_istore (pc := 146) (loc' := [(7, .int 0), (0, .ref 2), (2, .int a2), (5, .int a5), (6, .int a6)]) dX4_heading_146 (Nat.le_of_ble_eq_true rfl) rfl ?_
    refine r_drop (loc' := [(0, .ref 2), (2, .int a2), (5, .int a5), (6, .int a6), (7, .int 0)]) [1, 2, 3, 4, 0] rfl ?_
    exact qX4_heading_148 hN FU a2 a5 a6 0 w h
  replace h := if_f hc1 h
  refine r_aload_n (pc := 118) dX4_heading_118 rfl 0 rfl ?_
  replace h := lt_e h; obtain ⟨x2, ex2, h⟩ := h
  refine r_cVi (pc := 119) wyX4_isSpec oA2 rfl mlRX4_287 iyX4_isSpec syX4_isSpec ⟨(Nat.le_of_ble_eq_true rfl), (Nat.le_of_ble_eq_true rfl)⟩ rfl rfl (Nat.le_of_ble_eq_true rfl) dX4_heading_119 (mX4_isSpec ex2 (pI.mk ?_))
  refine r_z_eq (pc := 122) dX4_heading_122 rfl (fun hc3 => ?_) (fun hc3 => ?_)
  · replace h := if_f hc3 h
    refine r_iconst (pc := 145) dX4_heading_145 ki_0 ?_
    refine r_istore (pc := 146) (loc' := [(7, .int 0), (0, .ref 2), (2, .int a2), (5, .int a5), (6, .int a6)]) dX4_heading_146 (Nat.le_of_ble_eq_true rfl) rfl ?_
    refine r_drop (loc' := [(0, .ref 2), (2, .int a2), (5, .int a5), (6, .int a6), (7, .int 0)]) [1, 2, 3, 4, 0] rfl ?_
    exact qX4_heading_148 hN FU a2 a5 a6 0 w h
  replace h := if_t hc3 h
  refine r_aload_n (pc := 125) dX4_heading_125 rfl 0 rfl ?_
  refine r_iload_n (pc := 126) dX4_heading_126 rfl 1 rfl ?_
  replace h := bn_e h; obtain ⟨w4, ew4, h⟩ := h
  refine r_cVv (pc := 127) wyX4_spec oA2 rfl mlRX4_290 iyX4_spec syX4_spec ⟨(Nat.le_of_ble_eq_true rfl), (Nat.le_of_ble_eq_true rfl)⟩ rfl rfl (Nat.le_of_ble_eq_true rfl) dX4_heading_127 (mX4_spec ew4 (pV.mk ?_))
  refine r_aload_n (pc := 130) dX4_heading_130 rfl 0 rfl ?_
  refine r_get (pc := 131) (j := 1) (v := .ref 4) oA2 cf4 flRX4_22 rfl dX4_heading_131 rfl ?_
  refine r_bipush (pc := 134) dX4_heading_134 kb_41 ?_
  replace h := lt_e h; obtain ⟨w5, ew5, h⟩ := h
  refine r_cVv (pc := 136) wyX9_need oA4 rfl mlRX4_170 iyX9_need syX9_need ⟨(Nat.le_of_ble_eq_true rfl), (Nat.le_of_ble_eq_true rfl)⟩ rfl rfl (Nat.le_of_ble_eq_true rfl) dX4_heading_136 (mX9_need ew5 (pV.mk ?_))
  replace h := lt_e h; obtain ⟨x6, ex6, h⟩ := h
  refine r_inc (pc := 139) (loc' := [(7, .int x6), (0, .ref 2), (2, .int a2), (5, .int a5), (6, .int a6)]) dX4_heading_139 ki_1 ex6 4 rfl (Nat.le_of_ble_eq_true rfl) rfl ?_
  refine r_goto (pc := 142) dX4_heading_142 rfl ?_
  refine r_drop (loc' := [(0, .ref 2), (2, .int a2), (5, .int a5), (6, .int a6), (7, .int x6)]) [1, 2, 3, 4, 0] rfl ?_
  exact hk_110 a2 a5 a6 x6 w5 h
def oX4_heading_110 : Nat → Int32 → Int32 → Int32 → Int32 → Wd → Option Wd
  | 0 => fun _ _ _ _ _ => none
  | n + 1 => fX4_heading_110 (oX4_heading_110 n)
theorem qX4_heading_110 {q : Gq} {l : Launch} {N : Option Value → Wd → Prop} {X : String → Wd → Prop} {R : Wd} (hN : N none R) : ∀ (n : Nat) (a2 : Int32) (a5 : Int32) (a6 : Int32) (a7 : Int32) (w : Wd), oX4_heading_110 n a2 a5 a6 a7 w = some R → RT (GA q) l 7 yX4_heading cX4_heading 8 (none) N X 110 [] [(0, .ref 2), (2, .int a2), (5, .int a5), (6, .int a6), (7, .int a7)] w := by
  intro n
  induction n with
  | zero =>
    intro a2 a5 a6 a7 w h
    exact absurd h (fun q => nomatch q)
  | succ n ih =>
    intro a2 a5 a6 a7 w h
    exact pX4_heading_110 hN ih h
def fX4_heading_47 (a2 : Int32) (a3 : Int32) (a4 : Int32) (w : Wd) : Option Wd :=
  lt (fX9_need 41 w) fun w1 => lt (fX8_formals a2 a3 a4 w1) fun w2 => lt (fX9_at w2) fun x3 => lt2 (fX9_take 11 w2) fun x4 w5 => if x4 = true then (bn2 (fX4_values a2 w5) fun x7 w8 => lt (fX9_need 41 w8) fun w9 => oX4_heading_110 FU a2 x3 x7 0 w9) else (oX4_heading_110 FU a2 x3 0 0 w5)
theorem pX4_heading_47 {q : Gq} {l : Launch} {N : Option Value → Wd → Prop} {X : String → Wd → Prop} {w : Wd} {R : Wd} (hN : N none R) {a2 : Int32} {a3 : Int32} {a4 : Int32} (h : fX4_heading_47 a2 a3 a4 w = some R) : RT (GA q) l 7 yX4_heading cX4_heading 8 (none) N X 47 [] [(0, .ref 2), (2, .int a2), (3, .int a3), (4, .int a4)] w := by
  unfold fX4_heading_47 at h
  refine r_aload_n (pc := 47) dX4_heading_47 rfl 0 rfl ?_
  refine r_get (pc := 48) (j := 1) (v := .ref 4) oA2 cf4 flRX4_22 rfl dX4_heading_48 rfl ?_
  refine r_bipush (pc := 51) dX4_heading_51 kb_41 ?_
  replace h := lt_e h; obtain ⟨w1, ew1, h⟩ := h
  refine r_cVv (pc := 53) wyX9_need oA4 rfl mlRX4_170 iyX9_need syX9_need ⟨(Nat.le_of_ble_eq_true rfl), (Nat.le_of_ble_eq_true rfl)⟩ rfl rfl (Nat.le_of_ble_eq_true rfl) dX4_heading_53 (mX9_need ew1 (pV.mk ?_))
  refine r_aload_n (pc := 56) dX4_heading_56 rfl 0 rfl ?_
  refine r_get (pc := 57) (j := 2) (v := .ref 13) oA2 cf4 flRX4_27 rfl dX4_heading_57 rfl ?_
  refine r_iload_n (pc := 60) dX4_heading_60 rfl 1 rfl ?_
  refine r_iload_n (pc := 61) dX4_heading_61 rfl 2 rfl ?_
  refine r_iload (pc := 62) dX4_heading_62 3 rfl ?_
  replace h := lt_e h; obtain ⟨w2, ew2, h⟩ := h
  refine r_cVv (pc := 64) wyX8_formals oA13 rfl mlRX4_281 iyX8_formals syX8_formals ⟨(Nat.le_of_ble_eq_true rfl), (Nat.le_of_ble_eq_true rfl)⟩ rfl rfl (Nat.le_of_ble_eq_true rfl) dX4_heading_64 (mX8_formals ew2 (pV.mk ?_))
  refine r_aload_n (pc := 67) dX4_heading_67 rfl 0 rfl ?_
  refine r_get (pc := 68) (j := 1) (v := .ref 4) oA2 cf4 flRX4_22 rfl dX4_heading_68 rfl ?_
  replace h := lt_e h; obtain ⟨x3, ex3, h⟩ := h
  refine r_cVi (pc := 71) wyX9_at oA4 rfl mlRX4_202 iyX9_at syX9_at ⟨(Nat.le_of_ble_eq_true rfl), (Nat.le_of_ble_eq_true rfl)⟩ rfl rfl (Nat.le_of_ble_eq_true rfl) dX4_heading_71 (mX9_at ex3 (pI.mk ?_))
  refine r_istore (pc := 74) (loc' := [(5, .int x3), (0, .ref 2), (2, .int a2), (3, .int a3), (4, .int a4)]) dX4_heading_74 (Nat.le_of_ble_eq_true rfl) rfl ?_
  refine r_iconst (pc := 76) dX4_heading_76 ki_0 ?_
  refine r_istore (pc := 77) (loc' := [(6, .int 0), (5, .int x3), (0, .ref 2), (2, .int a2), (3, .int a3), (4, .int a4)]) dX4_heading_77 (Nat.le_of_ble_eq_true rfl) rfl ?_
  refine r_aload_n (pc := 79) dX4_heading_79 rfl 2 rfl ?_
  refine r_get (pc := 80) (j := 1) (v := .ref 4) oA2 cf4 flRX4_22 rfl dX4_heading_80 rfl ?_
  refine r_bipush (pc := 83) dX4_heading_83 kb_11 ?_
  replace h := lt2_e h; obtain ⟨x4, w5, ew5, h⟩ := h
  refine r_cVi (pc := 85) wyX9_take oA4 rfl mlRX4_164 iyX9_take syX9_take ⟨(Nat.le_of_ble_eq_true rfl), (Nat.le_of_ble_eq_true rfl)⟩ rfl rfl (Nat.le_of_ble_eq_true rfl) dX4_heading_85 (mX9_take ew5 (pI.mk ?_))
  refine r_z_eq (pc := 88) dX4_heading_88 rfl (fun hc6 => ?_) (fun hc6 => ?_)
  · replace h := if_f hc6 h
    refine r_iconst (pc := 107) dX4_heading_107 ki_0 ?_
    refine r_istore (pc := 108) (loc' := [(7, .int 0), (6, .int 0), (5, .int x3), (0, .ref 2), (2, .int a2), (3, .int a3), (4, .int a4)]) dX4_heading_108 (Nat.le_of_ble_eq_true rfl) rfl ?_
    refine r_drop (loc' := [(0, .ref 2), (2, .int a2), (5, .int x3), (6, .int 0), (7, .int 0)]) [3, 4, 2, 1, 0] rfl ?_
    exact qX4_heading_110 hN FU a2 x3 0 0 w5 h
  replace h := if_t hc6 h
  refine r_aload_n (pc := 91) dX4_heading_91 rfl 2 rfl ?_
  refine r_iload_n (pc := 92) dX4_heading_92 rfl 3 rfl ?_
  replace h := bn2_e h; obtain ⟨x7, w8, ew8, h⟩ := h
  refine r_cVi (pc := 93) wyX4_values oA2 rfl mlRX4_284 iyX4_values syX4_values ⟨(Nat.le_of_ble_eq_true rfl), (Nat.le_of_ble_eq_true rfl)⟩ rfl rfl (Nat.le_of_ble_eq_true rfl) dX4_heading_93 (mX4_values ew8 (pI.mk ?_))
  refine r_istore (pc := 96) (loc' := [(6, .int x7), (5, .int x3), (0, .ref 2), (2, .int a2), (3, .int a3), (4, .int a4)]) dX4_heading_96 (Nat.le_of_ble_eq_true rfl) rfl ?_
  refine r_aload_n (pc := 98) dX4_heading_98 rfl 2 rfl ?_
  refine r_get (pc := 99) (j := 1) (v := .ref 4) oA2 cf4 flRX4_22 rfl dX4_heading_99 rfl ?_
  refine r_bipush (pc := 102) dX4_heading_102 kb_41 ?_
  replace h := lt_e h; obtain ⟨w9, ew9, h⟩ := h
  refine r_cVv (pc := 104) wyX9_need oA4 rfl mlRX4_170 iyX9_need syX9_need ⟨(Nat.le_of_ble_eq_true rfl), (Nat.le_of_ble_eq_true rfl)⟩ rfl rfl (Nat.le_of_ble_eq_true rfl) dX4_heading_104 (mX9_need ew9 (pV.mk ?_))
  refine r_iconst (pc := 107) dX4_heading_107 ki_0 ?_
  refine r_istore (pc := 108) (loc' := [(7, .int 0), (6, .int x7), (5, .int x3), (0, .ref 2), (2, .int a2), (3, .int a3), (4, .int a4)]) dX4_heading_108 (Nat.le_of_ble_eq_true rfl) rfl ?_
  refine r_drop (loc' := [(0, .ref 2), (2, .int a2), (5, .int x3), (6, .int x7), (7, .int 0)]) [3, 4, 2, 1, 0] rfl ?_
  exact qX4_heading_110 hN FU a2 x3 x7 0 w9 h
def fX4_heading (a1 : Int32) (a2 : Int32) (w : Wd) : Option Wd :=
  lt (fX8_size w) fun x1 => lt (fX9_kind w) fun x2 => if x2 = 43 then (lt2 (fX9_open a1 w) fun x4 w5 => bn2 (fX4_formals w5) fun x6 w7 => lt (fX9_need 44 w7) fun w8 => fX4_heading_47 a2 x1 x6 w8) else (fX4_heading_47 a2 x1 0 w)
theorem pX4_heading {q : Gq} {l : Launch} {N : Option Value → Wd → Prop} {X : String → Wd → Prop} {w : Wd} {R : Wd} (hN : N none R) {a1 : Int32} {a2 : Int32} (h : fX4_heading a1 a2 w = some R) : RT (GA q) l 7 yX4_heading cX4_heading 8 (none) N X 0 [] [(0, .ref 2), (1, .int a1), (2, .int a2)] w := by
  unfold fX4_heading at h
  refine r_aload_n (pc := 0) dX4_heading_0 rfl 0 rfl ?_
  refine r_get (pc := 1) (j := 2) (v := .ref 13) oA2 cf4 flRX4_27 rfl dX4_heading_1 rfl ?_
  replace h := lt_e h; obtain ⟨x1, ex1, h⟩ := h
  refine r_cVi (pc := 4) wyX8_size oA13 rfl mlRX4_277 iyX8_size syX8_size ⟨(Nat.le_of_ble_eq_true rfl), (Nat.le_of_ble_eq_true rfl)⟩ rfl rfl (Nat.le_of_ble_eq_true rfl) dX4_heading_4 (mX8_size ex1 (pI.mk ?_))
  refine r_istore_n (pc := 7) (loc' := [(3, .int x1), (0, .ref 2), (1, .int a1), (2, .int a2)]) dX4_heading_7 rfl (Nat.le_of_ble_eq_true rfl) rfl ?_
  refine r_iconst (pc := 8) dX4_heading_8 ki_0 ?_
  refine r_istore (pc := 9) (loc' := [(4, .int 0), (3, .int x1), (0, .ref 2), (1, .int a1), (2, .int a2)]) dX4_heading_9 (Nat.le_of_ble_eq_true rfl) rfl ?_
  refine r_aload_n (pc := 11) dX4_heading_11 rfl 2 rfl ?_
  refine r_get (pc := 12) (j := 1) (v := .ref 4) oA2 cf4 flRX4_22 rfl dX4_heading_12 rfl ?_
  replace h := lt_e h; obtain ⟨x2, ex2, h⟩ := h
  refine r_cVi (pc := 15) wyX9_kind oA4 rfl mlRX4_96 iyX9_kind syX9_kind ⟨(Nat.le_of_ble_eq_true rfl), (Nat.le_of_ble_eq_true rfl)⟩ rfl rfl (Nat.le_of_ble_eq_true rfl) dX4_heading_15 (mX9_kind ex2 (pI.mk ?_))
  refine r_bipush (pc := 18) dX4_heading_18 kb_43 ?_
  refine r_icmp_ne (pc := 20) dX4_heading_20 rfl (fun hc3 => ?_) (fun hc3 => ?_)
  · replace h := if_f hc3 h
    refine r_drop (loc' := [(0, .ref 2), (2, .int a2), (3, .int x1), (4, .int 0)]) [2, 4, 1, 0] rfl ?_
    exact pX4_heading_47 hN h
  replace h := if_t hc3 h
  refine r_aload_n (pc := 23) dX4_heading_23 rfl 2 rfl ?_
  refine r_get (pc := 24) (j := 1) (v := .ref 4) oA2 cf4 flRX4_22 rfl dX4_heading_24 rfl ?_
  refine r_iload_n (pc := 27) dX4_heading_27 rfl 3 rfl ?_
  replace h := lt2_e h; obtain ⟨x4, w5, ew5, h⟩ := h
  refine r_cVi (pc := 28) wyX9_open oA4 rfl mlRX4_130 iyX9_open syX9_open ⟨(Nat.le_of_ble_eq_true rfl), (Nat.le_of_ble_eq_true rfl)⟩ rfl rfl (Nat.le_of_ble_eq_true rfl) dX4_heading_28 (mX9_open ew5 (pI.mk ?_))
  refine r_pop (pc := 31) dX4_heading_31 rfl ?_
  refine r_aload_n (pc := 32) dX4_heading_32 rfl 2 rfl ?_
  replace h := bn2_e h; obtain ⟨x6, w7, ew7, h⟩ := h
  refine r_cVi (pc := 33) wyX4_formals oA2 rfl mlRX4_278 iyX4_formals syX4_formals ⟨(Nat.le_of_ble_eq_true rfl), (Nat.le_of_ble_eq_true rfl)⟩ rfl rfl (Nat.le_of_ble_eq_true rfl) dX4_heading_33 (mX4_formals ew7 (pI.mk ?_))
  refine r_istore (pc := 36) (loc' := [(4, .int x6), (3, .int x1), (0, .ref 2), (1, .int a1), (2, .int a2)]) dX4_heading_36 (Nat.le_of_ble_eq_true rfl) rfl ?_
  refine r_aload_n (pc := 38) dX4_heading_38 rfl 2 rfl ?_
  refine r_get (pc := 39) (j := 1) (v := .ref 4) oA2 cf4 flRX4_22 rfl dX4_heading_39 rfl ?_
  refine r_bipush (pc := 42) dX4_heading_42 kb_44 ?_
  replace h := lt_e h; obtain ⟨w8, ew8, h⟩ := h
  refine r_cVv (pc := 44) wyX9_need oA4 rfl mlRX4_170 iyX9_need syX9_need ⟨(Nat.le_of_ble_eq_true rfl), (Nat.le_of_ble_eq_true rfl)⟩ rfl rfl (Nat.le_of_ble_eq_true rfl) dX4_heading_44 (mX9_need ew8 (pV.mk ?_))
  refine r_drop (loc' := [(0, .ref 2), (2, .int a2), (3, .int x1), (4, .int x6)]) [2, 4, 1, 0] rfl ?_
  exact pX4_heading_47 hN h
theorem mX4_heading {q : Gq} {l : Launch} {N : Option Value → Wd → Prop} {X : String → Wd → Prop} {a1 : Int32} {a2 : Int32} {w : Wd} {u : Wd} (h : fX4_heading a1 a2 w = some u) (hN : N none u) : Ct (GA q) l 7 yX4_heading cX4_heading 8 (none) [.ref 2, .int a1, .int a2] w N X := Ct.of (by decide) (Nat.le_of_ble_eq_true rfl) (pX4_heading hN h)
/-! AlgolMill$Maker.isLabel ()Z: P, 3 -/
theorem dX4_isLabel_0 : decode cX4_isLabel 0 = .ok (.aload_n 0, 1) := by decide +kernel
theorem dX4_isLabel_1 : decode cX4_isLabel 1 = .ok (.getfield 22, 3) := by decide +kernel
theorem dX4_isLabel_4 : decode cX4_isLabel 4 = .ok (.invokevirtual 96, 3) := by decide +kernel
theorem dX4_isLabel_7 : decode cX4_isLabel 7 = .ok (.iconst 2, 1) := by decide +kernel
theorem dX4_isLabel_8 : decode cX4_isLabel 8 = .ok (.if_icmp .ne 28, 3) := by decide +kernel
theorem dX4_isLabel_11 : decode cX4_isLabel 11 = .ok (.aload_n 0, 1) := by decide +kernel
theorem dX4_isLabel_12 : decode cX4_isLabel 12 = .ok (.getfield 22, 3) := by decide +kernel
theorem dX4_isLabel_15 : decode cX4_isLabel 15 = .ok (.aload_n 0, 1) := by decide +kernel
theorem dX4_isLabel_16 : decode cX4_isLabel 16 = .ok (.getfield 22, 3) := by decide +kernel
theorem dX4_isLabel_19 : decode cX4_isLabel 19 = .ok (.invokevirtual 202, 3) := by decide +kernel
theorem dX4_isLabel_22 : decode cX4_isLabel 22 = .ok (.iconst 1, 1) := by decide +kernel
theorem dX4_isLabel_23 : decode cX4_isLabel 23 = .ok (.iadd, 1) := by decide +kernel
theorem dX4_isLabel_24 : decode cX4_isLabel 24 = .ok (.invokevirtual 343, 3) := by decide +kernel
theorem dX4_isLabel_27 : decode cX4_isLabel 27 = .ok (.bipush 42, 2) := by decide +kernel
theorem dX4_isLabel_29 : decode cX4_isLabel 29 = .ok (.if_icmp .ne 7, 3) := by decide +kernel
theorem dX4_isLabel_32 : decode cX4_isLabel 32 = .ok (.iconst 1, 1) := by decide +kernel
theorem dX4_isLabel_33 : decode cX4_isLabel 33 = .ok (.goto 4, 3) := by decide +kernel
theorem dX4_isLabel_36 : decode cX4_isLabel 36 = .ok (.iconst 0, 1) := by decide +kernel
theorem dX4_isLabel_37 : decode cX4_isLabel 37 = .ok (.ireturn, 1) := by decide +kernel
def fX4_isLabel (w : Wd) : Bool :=
  lt (fX9_kind w) fun x1 => if x1 = 2 then (lt (fX9_at w) fun x3 => lt (fX9_kindOf (x3 + 1) w) fun x4 => if x4 = 42 then (true) else (false)) else (false)
theorem pX4_isLabel {q : Gq} {l : Launch} {N : Option Value → Wd → Prop} {X : String → Wd → Prop} {w : Wd} {R : Bool} (hN : N (some (.int (b2i R))) w) (h : fX4_isLabel w = R) : RT (GA q) l 3 yX4_isLabel cX4_isLabel 1 ((some .boolean)) N X 0 [] [(0, .ref 2)] w := by
  unfold fX4_isLabel at h
  refine r_aload_n (pc := 0) dX4_isLabel_0 rfl 0 rfl ?_
  refine r_get (pc := 1) (j := 1) (v := .ref 4) oA2 cf4 flRX4_22 rfl dX4_isLabel_1 rfl ?_
  replace h := lt_e h; obtain ⟨x1, ex1, h⟩ := h
  refine r_cVi (pc := 4) wyX9_kind oA4 rfl mlRX4_96 iyX9_kind syX9_kind ⟨(Nat.le_of_ble_eq_true rfl), (Nat.le_of_ble_eq_true rfl)⟩ rfl rfl (Nat.le_of_ble_eq_true rfl) dX4_isLabel_4 (mX9_kind ex1 (pI.mk ?_))
  refine r_iconst (pc := 7) dX4_isLabel_7 ki_2 ?_
  refine r_icmp_ne (pc := 8) dX4_isLabel_8 rfl (fun hc2 => ?_) (fun hc2 => ?_)
  · replace h := if_f hc2 h
    refine r_iconst (pc := 36) dX4_isLabel_36 ki_0 ?_
    exact rP_z (pc := 37) (x := false) rfl dX4_isLabel_37 h hN
  replace h := if_t hc2 h
  refine r_aload_n (pc := 11) dX4_isLabel_11 rfl 0 rfl ?_
  refine r_get (pc := 12) (j := 1) (v := .ref 4) oA2 cf4 flRX4_22 rfl dX4_isLabel_12 rfl ?_
  refine r_aload_n (pc := 15) dX4_isLabel_15 rfl 0 rfl ?_
  refine r_get (pc := 16) (j := 1) (v := .ref 4) oA2 cf4 flRX4_22 rfl dX4_isLabel_16 rfl ?_
  replace h := lt_e h; obtain ⟨x3, ex3, h⟩ := h
  refine r_cVi (pc := 19) wyX9_at oA4 rfl mlRX4_202 iyX9_at syX9_at ⟨(Nat.le_of_ble_eq_true rfl), (Nat.le_of_ble_eq_true rfl)⟩ rfl rfl (Nat.le_of_ble_eq_true rfl) dX4_isLabel_19 (mX9_at ex3 (pI.mk ?_))
  refine r_iconst (pc := 22) dX4_isLabel_22 ki_1 ?_
  refine r_iadd (pc := 23) dX4_isLabel_23 ?_
  replace h := lt_e h; obtain ⟨x4, ex4, h⟩ := h
  refine r_cVi (pc := 24) wyX9_kindOf oA4 rfl mlRX4_343 iyX9_kindOf syX9_kindOf ⟨(Nat.le_of_ble_eq_true rfl), (Nat.le_of_ble_eq_true rfl)⟩ rfl rfl (Nat.le_of_ble_eq_true rfl) dX4_isLabel_24 (mX9_kindOf ex4 (pI.mk ?_))
  refine r_bipush (pc := 27) dX4_isLabel_27 kb_42 ?_
  refine r_icmp_ne (pc := 29) dX4_isLabel_29 rfl (fun hc5 => ?_) (fun hc5 => ?_)
  · replace h := if_f hc5 h
    refine r_iconst (pc := 36) dX4_isLabel_36 ki_0 ?_
    exact rP_z (pc := 37) (x := false) rfl dX4_isLabel_37 h hN
  replace h := if_t hc5 h
  refine r_iconst (pc := 32) dX4_isLabel_32 ki_1 ?_
  refine r_goto (pc := 33) dX4_isLabel_33 rfl ?_
  exact rP_z (pc := 37) (x := true) rfl dX4_isLabel_37 h hN
theorem mX4_isLabel {q : Gq} {l : Launch} {N : Option Value → Wd → Prop} {X : String → Wd → Prop} {w : Wd} {x : Bool} (h : fX4_isLabel w = x) (hN : N (some (.int (b2i x))) w) : Ct (GA q) l 3 yX4_isLabel cX4_isLabel 1 ((some .boolean)) [.ref 2] w N X := Ct.of (by decide) (Nat.le_of_ble_eq_true rfl) (pX4_isLabel hN h)
/-! AlgolMill$Maker.assignment (I)V: O, 909 -/
theorem dX4_assignment_0 : decode cX4_assignment 0 = .ok (.aload_n 0, 1) := by decide +kernel
theorem dX4_assignment_1 : decode cX4_assignment 1 = .ok (.getfield 48, 3) := by decide +kernel
theorem dX4_assignment_4 : decode cX4_assignment 4 = .ok (.iload_n 1, 1) := by decide +kernel
theorem dX4_assignment_5 : decode cX4_assignment 5 = .ok (.iconst 1, 1) := by decide +kernel
theorem dX4_assignment_6 : decode cX4_assignment 6 = .ok (.invokevirtual 362, 3) := by decide +kernel
theorem dX4_assignment_9 : decode cX4_assignment 9 = .ok (.istore_n 2, 1) := by decide +kernel
theorem dX4_assignment_10 : decode cX4_assignment 10 = .ok (.aload_n 0, 1) := by decide +kernel
theorem dX4_assignment_11 : decode cX4_assignment 11 = .ok (.getfield 22, 3) := by decide +kernel
theorem dX4_assignment_14 : decode cX4_assignment 14 = .ok (.bipush 50, 2) := by decide +kernel
theorem dX4_assignment_16 : decode cX4_assignment 16 = .ok (.invokevirtual 170, 3) := by decide +kernel
theorem dX4_assignment_19 : decode cX4_assignment 19 = .ok (.iconst 1, 1) := by decide +kernel
theorem dX4_assignment_20 : decode cX4_assignment 20 = .ok (.istore_n 3, 1) := by decide +kernel
theorem dX4_assignment_21 : decode cX4_assignment 21 = .ok (.iconst 1, 1) := by decide +kernel
theorem dX4_assignment_22 : decode cX4_assignment 22 = .ok (.istore 4, 2) := by decide +kernel
theorem dX4_assignment_24 : decode cX4_assignment 24 = .ok (.iconst 0, 1) := by decide +kernel
theorem dX4_assignment_25 : decode cX4_assignment 25 = .ok (.istore 5, 2) := by decide +kernel
theorem dX4_assignment_27 : decode cX4_assignment 27 = .ok (.iload 4, 2) := by decide +kernel
theorem dX4_assignment_29 : decode cX4_assignment 29 = .ok (.ifCond .eq 175, 3) := by decide +kernel
theorem dX4_assignment_32 : decode cX4_assignment 32 = .ok (.iload 5, 2) := by decide +kernel
theorem dX4_assignment_34 : decode cX4_assignment 34 = .ok (.sipush 8193, 3) := by decide +kernel
theorem dX4_assignment_37 : decode cX4_assignment 37 = .ok (.if_icmp .ge 167, 3) := by decide +kernel
theorem dX4_assignment_40 : decode cX4_assignment 40 = .ok (.aload_n 0, 1) := by decide +kernel
theorem dX4_assignment_41 : decode cX4_assignment 41 = .ok (.getfield 22, 3) := by decide +kernel
theorem dX4_assignment_44 : decode cX4_assignment 44 = .ok (.invokevirtual 202, 3) := by decide +kernel
theorem dX4_assignment_47 : decode cX4_assignment 47 = .ok (.istore 6, 2) := by decide +kernel
theorem dX4_assignment_49 : decode cX4_assignment 49 = .ok (.aload_n 0, 1) := by decide +kernel
theorem dX4_assignment_50 : decode cX4_assignment 50 = .ok (.getfield 22, 3) := by decide +kernel
theorem dX4_assignment_53 : decode cX4_assignment 53 = .ok (.iload 6, 2) := by decide +kernel
theorem dX4_assignment_55 : decode cX4_assignment 55 = .ok (.invokevirtual 365, 3) := by decide +kernel
theorem dX4_assignment_58 : decode cX4_assignment 58 = .ok (.ifCond .eq 28, 3) := by decide +kernel
theorem dX4_assignment_61 : decode cX4_assignment 61 = .ok (.aload_n 0, 1) := by decide +kernel
theorem dX4_assignment_62 : decode cX4_assignment 62 = .ok (.getfield 22, 3) := by decide +kernel
theorem dX4_assignment_65 : decode cX4_assignment 65 = .ok (.aload_n 0, 1) := by decide +kernel
theorem dX4_assignment_66 : decode cX4_assignment 66 = .ok (.getfield 22, 3) := by decide +kernel
theorem dX4_assignment_69 : decode cX4_assignment 69 = .ok (.iload 6, 2) := by decide +kernel
theorem dX4_assignment_71 : decode cX4_assignment 71 = .ok (.invokevirtual 368, 3) := by decide +kernel
theorem dX4_assignment_74 : decode cX4_assignment 74 = .ok (.invokevirtual 343, 3) := by decide +kernel
theorem dX4_assignment_77 : decode cX4_assignment 77 = .ok (.bipush 50, 2) := by decide +kernel
theorem dX4_assignment_79 : decode cX4_assignment 79 = .ok (.if_icmp .ne 7, 3) := by decide +kernel
theorem dX4_assignment_82 : decode cX4_assignment 82 = .ok (.iconst 1, 1) := by decide +kernel
theorem dX4_assignment_83 : decode cX4_assignment 83 = .ok (.goto 4, 3) := by decide +kernel
theorem dX4_assignment_86 : decode cX4_assignment 86 = .ok (.iconst 0, 1) := by decide +kernel
theorem dX4_assignment_87 : decode cX4_assignment 87 = .ok (.istore 7, 2) := by decide +kernel
theorem dX4_assignment_89 : decode cX4_assignment 89 = .ok (.iload 7, 2) := by decide +kernel
theorem dX4_assignment_91 : decode cX4_assignment 91 = .ok (.ifCond .eq 15, 3) := by decide +kernel
theorem dX4_assignment_94 : decode cX4_assignment 94 = .ok (.aload_n 0, 1) := by decide +kernel
theorem dX4_assignment_95 : decode cX4_assignment 95 = .ok (.getfield 48, 3) := by decide +kernel
theorem dX4_assignment_98 : decode cX4_assignment 98 = .ok (.iload_n 1, 1) := by decide +kernel
theorem dX4_assignment_99 : decode cX4_assignment 99 = .ok (.iconst 1, 1) := by decide +kernel
theorem dX4_assignment_100 : decode cX4_assignment 100 = .ok (.invokevirtual 362, 3) := by decide +kernel
theorem dX4_assignment_103 : decode cX4_assignment 103 = .ok (.goto 11, 3) := by decide +kernel
theorem dX4_assignment_106 : decode cX4_assignment 106 = .ok (.aload_n 0, 1) := by decide +kernel
theorem dX4_assignment_107 : decode cX4_assignment 107 = .ok (.getfield 48, 3) := by decide +kernel
theorem dX4_assignment_110 : decode cX4_assignment 110 = .ok (.iload_n 1, 1) := by decide +kernel
theorem dX4_assignment_111 : decode cX4_assignment 111 = .ok (.invokevirtual 371, 3) := by decide +kernel
theorem dX4_assignment_114 : decode cX4_assignment 114 = .ok (.istore 8, 2) := by decide +kernel
theorem dX4_assignment_116 : decode cX4_assignment 116 = .ok (.aload_n 0, 1) := by decide +kernel
theorem dX4_assignment_117 : decode cX4_assignment 117 = .ok (.getfield 12, 3) := by decide +kernel
theorem dX4_assignment_120 : decode cX4_assignment 120 = .ok (.iload_n 2, 1) := by decide +kernel
theorem dX4_assignment_121 : decode cX4_assignment 121 = .ok (.iload 8, 2) := by decide +kernel
theorem dX4_assignment_123 : decode cX4_assignment 123 = .ok (.iload 6, 2) := by decide +kernel
theorem dX4_assignment_125 : decode cX4_assignment 125 = .ok (.invokevirtual 374, 3) := by decide +kernel
theorem dX4_assignment_128 : decode cX4_assignment 128 = .ok (.iload_n 3, 1) := by decide +kernel
theorem dX4_assignment_129 : decode cX4_assignment 129 = .ok (.iload 7, 2) := by decide +kernel
theorem dX4_assignment_131 : decode cX4_assignment 131 = .ok (.ifCond .eq 7, 3) := by decide +kernel
theorem dX4_assignment_134 : decode cX4_assignment 134 = .ok (.iconst 1, 1) := by decide +kernel
theorem dX4_assignment_135 : decode cX4_assignment 135 = .ok (.goto 4, 3) := by decide +kernel
theorem dX4_assignment_138 : decode cX4_assignment 138 = .ok (.iconst 0, 1) := by decide +kernel
theorem dX4_assignment_139 : decode cX4_assignment 139 = .ok (.iadd, 1) := by decide +kernel
theorem dX4_assignment_140 : decode cX4_assignment 140 = .ok (.istore_n 3, 1) := by decide +kernel
theorem dX4_assignment_141 : decode cX4_assignment 141 = .ok (.iload 7, 2) := by decide +kernel
theorem dX4_assignment_143 : decode cX4_assignment 143 = .ok (.ifCond .eq 19, 3) := by decide +kernel
theorem dX4_assignment_146 : decode cX4_assignment 146 = .ok (.iload_n 3, 1) := by decide +kernel
theorem dX4_assignment_147 : decode cX4_assignment 147 = .ok (.bipush 21, 2) := by decide +kernel
theorem dX4_assignment_149 : decode cX4_assignment 149 = .ok (.if_icmp .ne 13, 3) := by decide +kernel
theorem dX4_assignment_152 : decode cX4_assignment 152 = .ok (.aload_n 0, 1) := by decide +kernel
theorem dX4_assignment_153 : decode cX4_assignment 153 = .ok (.getfield 12, 3) := by decide +kernel
theorem dX4_assignment_156 : decode cX4_assignment 156 = .ok (.iload 6, 2) := by decide +kernel
theorem dX4_assignment_158 : decode cX4_assignment 158 = .ok (.iconst 5, 1) := by decide +kernel
theorem dX4_assignment_159 : decode cX4_assignment 159 = .ok (.invokevirtual 356, 3) := by decide +kernel
theorem dX4_assignment_162 : decode cX4_assignment 162 = .ok (.iload 7, 2) := by decide +kernel
theorem dX4_assignment_164 : decode cX4_assignment 164 = .ok (.ifCond .ne 15, 3) := by decide +kernel
theorem dX4_assignment_167 : decode cX4_assignment 167 = .ok (.aload_n 0, 1) := by decide +kernel
theorem dX4_assignment_168 : decode cX4_assignment 168 = .ok (.getfield 22, 3) := by decide +kernel
theorem dX4_assignment_171 : decode cX4_assignment 171 = .ok (.iload 6, 2) := by decide +kernel
theorem dX4_assignment_173 : decode cX4_assignment 173 = .ok (.invokevirtual 365, 3) := by decide +kernel
theorem dX4_assignment_176 : decode cX4_assignment 176 = .ok (.ifCond .eq 19, 3) := by decide +kernel
theorem dX4_assignment_179 : decode cX4_assignment 179 = .ok (.aload_n 0, 1) := by decide +kernel
theorem dX4_assignment_180 : decode cX4_assignment 180 = .ok (.getfield 22, 3) := by decide +kernel
theorem dX4_assignment_183 : decode cX4_assignment 183 = .ok (.bipush 50, 2) := by decide +kernel
theorem dX4_assignment_185 : decode cX4_assignment 185 = .ok (.invokevirtual 164, 3) := by decide +kernel
theorem dX4_assignment_188 : decode cX4_assignment 188 = .ok (.ifCond .eq 7, 3) := by decide +kernel
theorem dX4_assignment_191 : decode cX4_assignment 191 = .ok (.iconst 1, 1) := by decide +kernel
theorem dX4_assignment_192 : decode cX4_assignment 192 = .ok (.goto 4, 3) := by decide +kernel
theorem dX4_assignment_195 : decode cX4_assignment 195 = .ok (.iconst 0, 1) := by decide +kernel
theorem dX4_assignment_196 : decode cX4_assignment 196 = .ok (.istore 4, 2) := by decide +kernel
theorem dX4_assignment_198 : decode cX4_assignment 198 = .ok (.iinc 5 1, 3) := by decide +kernel
theorem dX4_assignment_201 : decode cX4_assignment 201 = .ok (.goto (-174), 3) := by decide +kernel
theorem dX4_assignment_204 : decode cX4_assignment 204 = .ok (.aload_n 0, 1) := by decide +kernel
theorem dX4_assignment_205 : decode cX4_assignment 205 = .ok (.getfield 42, 3) := by decide +kernel
theorem dX4_assignment_208 : decode cX4_assignment 208 = .ok (.bipush 26, 2) := by decide +kernel
theorem dX4_assignment_210 : decode cX4_assignment 210 = .ok (.iload_n 3, 1) := by decide +kernel
theorem dX4_assignment_211 : decode cX4_assignment 211 = .ok (.invokevirtual 156, 3) := by decide +kernel
theorem dX4_assignment_214 : decode cX4_assignment 214 = .ok (.pop, 1) := by decide +kernel
theorem dX4_assignment_215 : decode cX4_assignment 215 = .ok (.return_, 1) := by decide +kernel
def fX4_assignment_179 (k_27 : Int32 → Int32 → Int32 → Bool → Int32 → Wd → Option Wd) (a1 : Int32) (a2 : Int32) (a3 : Int32) (a5 : Int32) (w : Wd) : Option Wd :=
  lt2 (fX9_take 50 w) fun x1 w2 => if x1 = true then (lt (a5 + 1) fun x4 => k_27 a1 a2 a3 true x4 w2) else (lt (a5 + 1) fun x5 => k_27 a1 a2 a3 false x5 w2)
theorem pX4_assignment_179 {q : Gq} {l : Launch} {N : Option Value → Wd → Prop} {X : String → Wd → Prop} {w : Wd} {R : Wd} (hN : N none R) {k_27 : Int32 → Int32 → Int32 → Bool → Int32 → Wd → Option Wd} (hk_27 : ∀ (a1 : Int32) (a2 : Int32) (a3 : Int32) (a4 : Bool) (a5 : Int32) (w : Wd), k_27 a1 a2 a3 a4 a5 w = some R → RT (GA q) l 909 yX4_assignment cX4_assignment 9 (none) N X 27 [] [(0, .ref 2), (1, .int a1), (2, .int a2), (3, .int a3), (4, .int (b2i a4)), (5, .int a5)] w) {a1 : Int32} {a2 : Int32} {a3 : Int32} {a5 : Int32} (h : fX4_assignment_179 k_27 a1 a2 a3 a5 w = some R) : RT (GA q) l 909 yX4_assignment cX4_assignment 9 (none) N X 179 [] [(0, .ref 2), (1, .int a1), (2, .int a2), (3, .int a3), (5, .int a5)] w := by
  unfold fX4_assignment_179 at h
  refine r_aload_n (pc := 179) dX4_assignment_179 rfl 0 rfl ?_
  refine r_get (pc := 180) (j := 1) (v := .ref 4) oA2 cf4 flRX4_22 rfl dX4_assignment_180 rfl ?_
  refine r_bipush (pc := 183) dX4_assignment_183 kb_50 ?_
  replace h := lt2_e h; obtain ⟨x1, w2, ew2, h⟩ := h
  refine r_cVi (pc := 185) wyX9_take oA4 rfl mlRX4_164 iyX9_take syX9_take ⟨(Nat.le_of_ble_eq_true rfl), (Nat.le_of_ble_eq_true rfl)⟩ rfl rfl (Nat.le_of_ble_eq_true rfl) dX4_assignment_185 (mX9_take ew2 (pI.mk ?_))
  refine r_z_eq (pc := 188) dX4_assignment_188 rfl (fun hc3 => ?_) (fun hc3 => ?_)
  · replace h := if_f hc3 h
    refine r_iconst (pc := 195) dX4_assignment_195 ki_0 ?_
    refine r_istore (pc := 196) (loc' := [(4, .int 0), (0, .ref 2), (1, .int a1), (2, .int a2), (3, .int a3), (5, .int a5)]) dX4_assignment_196 (Nat.le_of_ble_eq_true rfl) rfl ?_
    replace h := lt_e h; obtain ⟨x5, ex5, h⟩ := h
    refine r_inc (pc := 198) (loc' := [(5, .int x5), (4, .int 0), (0, .ref 2), (1, .int a1), (2, .int a2), (3, .int a3)]) dX4_assignment_198 ki_1 ex5 5 rfl (Nat.le_of_ble_eq_true rfl) rfl ?_
    refine r_goto (pc := 201) dX4_assignment_201 rfl ?_
    refine r_drop (loc' := [(0, .ref 2), (1, .int a1), (2, .int a2), (3, .int a3), (4, .int 0), (5, .int x5)]) [2, 3, 4, 5, 1, 0] rfl ?_
    exact hk_27 a1 a2 a3 false x5 w2 h
  replace h := if_t hc3 h
  refine r_iconst (pc := 191) dX4_assignment_191 ki_1 ?_
  refine r_goto (pc := 192) dX4_assignment_192 rfl ?_
  refine r_istore (pc := 196) (loc' := [(4, .int 1), (0, .ref 2), (1, .int a1), (2, .int a2), (3, .int a3), (5, .int a5)]) dX4_assignment_196 (Nat.le_of_ble_eq_true rfl) rfl ?_
  replace h := lt_e h; obtain ⟨x4, ex4, h⟩ := h
  refine r_inc (pc := 198) (loc' := [(5, .int x4), (4, .int 1), (0, .ref 2), (1, .int a1), (2, .int a2), (3, .int a3)]) dX4_assignment_198 ki_1 ex4 5 rfl (Nat.le_of_ble_eq_true rfl) rfl ?_
  refine r_goto (pc := 201) dX4_assignment_201 rfl ?_
  refine r_drop (loc' := [(0, .ref 2), (1, .int a1), (2, .int a2), (3, .int a3), (4, .int 1), (5, .int x4)]) [2, 3, 4, 5, 1, 0] rfl ?_
  exact hk_27 a1 a2 a3 true x4 w2 h
def fX4_assignment_162 (k_27 : Int32 → Int32 → Int32 → Bool → Int32 → Wd → Option Wd) (a1 : Int32) (a2 : Int32) (a3 : Int32) (a5 : Int32) (a6 : Int32) (a7 : Bool) (w : Wd) : Option Wd :=
  if a7 = true then (fX4_assignment_179 k_27 a1 a2 a3 a5 w) else (lt (fX9_isVariable a6 w) fun x2 => if x2 = true then (fX4_assignment_179 k_27 a1 a2 a3 a5 w) else (lt (a5 + 1) fun x4 => k_27 a1 a2 a3 false x4 w))
theorem pX4_assignment_162 {q : Gq} {l : Launch} {N : Option Value → Wd → Prop} {X : String → Wd → Prop} {w : Wd} {R : Wd} (hN : N none R) {k_27 : Int32 → Int32 → Int32 → Bool → Int32 → Wd → Option Wd} (hk_27 : ∀ (a1 : Int32) (a2 : Int32) (a3 : Int32) (a4 : Bool) (a5 : Int32) (w : Wd), k_27 a1 a2 a3 a4 a5 w = some R → RT (GA q) l 909 yX4_assignment cX4_assignment 9 (none) N X 27 [] [(0, .ref 2), (1, .int a1), (2, .int a2), (3, .int a3), (4, .int (b2i a4)), (5, .int a5)] w) {a1 : Int32} {a2 : Int32} {a3 : Int32} {a5 : Int32} {a6 : Int32} {a7 : Bool} (h : fX4_assignment_162 k_27 a1 a2 a3 a5 a6 a7 w = some R) : RT (GA q) l 909 yX4_assignment cX4_assignment 9 (none) N X 162 [] [(0, .ref 2), (1, .int a1), (2, .int a2), (3, .int a3), (5, .int a5), (6, .int a6), (7, .int (b2i a7))] w := by
  unfold fX4_assignment_162 at h
  refine r_iload (pc := 162) dX4_assignment_162 6 rfl ?_
  refine r_z_ne (pc := 164) dX4_assignment_164 rfl (fun hc1 => ?_) (fun hc1 => ?_)
  · replace h := if_t hc1 h
    refine r_drop (loc' := [(0, .ref 2), (1, .int a1), (2, .int a2), (3, .int a3), (5, .int a5)]) [0, 1, 2, 3, 4] rfl ?_
    exact pX4_assignment_179 hN hk_27 h
  replace h := if_f hc1 h
  refine r_aload_n (pc := 167) dX4_assignment_167 rfl 0 rfl ?_
  refine r_get (pc := 168) (j := 1) (v := .ref 4) oA2 cf4 flRX4_22 rfl dX4_assignment_168 rfl ?_
  refine r_iload (pc := 171) dX4_assignment_171 5 rfl ?_
  replace h := lt_e h; obtain ⟨x2, ex2, h⟩ := h
  refine r_cVi (pc := 173) wyX9_isVariable oA4 rfl mlRX4_365 iyX9_isVariable syX9_isVariable ⟨(Nat.le_of_ble_eq_true rfl), (Nat.le_of_ble_eq_true rfl)⟩ rfl rfl (Nat.le_of_ble_eq_true rfl) dX4_assignment_173 (mX9_isVariable ex2 (pI.mk ?_))
  refine r_z_eq (pc := 176) dX4_assignment_176 rfl (fun hc3 => ?_) (fun hc3 => ?_)
  · replace h := if_f hc3 h
    refine r_iconst (pc := 195) dX4_assignment_195 ki_0 ?_
    refine r_istore (pc := 196) (loc' := [(4, .int 0), (0, .ref 2), (1, .int a1), (2, .int a2), (3, .int a3), (5, .int a5), (6, .int a6), (7, .int (b2i a7))]) dX4_assignment_196 (Nat.le_of_ble_eq_true rfl) rfl ?_
    replace h := lt_e h; obtain ⟨x4, ex4, h⟩ := h
    refine r_inc (pc := 198) (loc' := [(5, .int x4), (4, .int 0), (0, .ref 2), (1, .int a1), (2, .int a2), (3, .int a3), (6, .int a6), (7, .int (b2i a7))]) dX4_assignment_198 ki_1 ex4 5 rfl (Nat.le_of_ble_eq_true rfl) rfl ?_
    refine r_goto (pc := 201) dX4_assignment_201 rfl ?_
    refine r_drop (loc' := [(0, .ref 2), (1, .int a1), (2, .int a2), (3, .int a3), (4, .int 0), (5, .int x4)]) [2, 3, 4, 5, 1, 0] rfl ?_
    exact hk_27 a1 a2 a3 false x4 w h
  replace h := if_t hc3 h
  refine r_drop (loc' := [(0, .ref 2), (1, .int a1), (2, .int a2), (3, .int a3), (5, .int a5)]) [0, 1, 2, 3, 4] rfl ?_
  exact pX4_assignment_179 hN hk_27 h
def fX4_assignment_139 (k_27 : Int32 → Int32 → Int32 → Bool → Int32 → Wd → Option Wd) (s0 : Int32) (s1 : Bool) (a1 : Int32) (a2 : Int32) (a5 : Int32) (a6 : Int32) (a7 : Bool) (w : Wd) : Option Wd :=
  lt ((s0 + (b2i s1))) fun x1 => if a7 = true then (if x1 = 21 then (lt (fX1_wrong a6 5 w) fun w4 => fX4_assignment_162 k_27 a1 a2 x1 a5 a6 a7 w4) else (fX4_assignment_162 k_27 a1 a2 x1 a5 a6 a7 w)) else (fX4_assignment_162 k_27 a1 a2 x1 a5 a6 a7 w)
theorem pX4_assignment_139 {q : Gq} {l : Launch} {N : Option Value → Wd → Prop} {X : String → Wd → Prop} {w : Wd} {R : Wd} (hN : N none R) {k_27 : Int32 → Int32 → Int32 → Bool → Int32 → Wd → Option Wd} (hk_27 : ∀ (a1 : Int32) (a2 : Int32) (a3 : Int32) (a4 : Bool) (a5 : Int32) (w : Wd), k_27 a1 a2 a3 a4 a5 w = some R → RT (GA q) l 909 yX4_assignment cX4_assignment 9 (none) N X 27 [] [(0, .ref 2), (1, .int a1), (2, .int a2), (3, .int a3), (4, .int (b2i a4)), (5, .int a5)] w) {s0 : Int32} {s1 : Bool} {a1 : Int32} {a2 : Int32} {a5 : Int32} {a6 : Int32} {a7 : Bool} (h : fX4_assignment_139 k_27 s0 s1 a1 a2 a5 a6 a7 w = some R) : RT (GA q) l 909 yX4_assignment cX4_assignment 9 (none) N X 139 [.int (b2i s1), .int s0] [(0, .ref 2), (1, .int a1), (2, .int a2), (5, .int a5), (6, .int a6), (7, .int (b2i a7))] w := by
  unfold fX4_assignment_139 at h
  refine r_iadd (pc := 139) dX4_assignment_139 ?_
  replace h := lt_e h; obtain ⟨x1, ex1, h⟩ := h
  refine r_topi ex1 ?_
  refine r_istore_n (pc := 140) (loc' := [(3, .int x1), (0, .ref 2), (1, .int a1), (2, .int a2), (5, .int a5), (6, .int a6), (7, .int (b2i a7))]) dX4_assignment_140 rfl (Nat.le_of_ble_eq_true rfl) rfl ?_
  refine r_iload (pc := 141) dX4_assignment_141 6 rfl ?_
  refine r_z_eq (pc := 143) dX4_assignment_143 rfl (fun hc2 => ?_) (fun hc2 => ?_)
  · replace h := if_f hc2 h
    refine r_drop (loc' := [(0, .ref 2), (1, .int a1), (2, .int a2), (3, .int x1), (5, .int a5), (6, .int a6), (7, .int (b2i a7))]) [1, 2, 3, 0, 4, 5, 6] rfl ?_
    exact pX4_assignment_162 hN hk_27 h
  replace h := if_t hc2 h
  refine r_iload_n (pc := 146) dX4_assignment_146 rfl 0 rfl ?_
  refine r_bipush (pc := 147) dX4_assignment_147 kb_21 ?_
  refine r_icmp_ne (pc := 149) dX4_assignment_149 rfl (fun hc3 => ?_) (fun hc3 => ?_)
  · replace h := if_f hc3 h
    refine r_drop (loc' := [(0, .ref 2), (1, .int a1), (2, .int a2), (3, .int x1), (5, .int a5), (6, .int a6), (7, .int (b2i a7))]) [1, 2, 3, 0, 4, 5, 6] rfl ?_
    exact pX4_assignment_162 hN hk_27 h
  replace h := if_t hc3 h
  refine r_aload_n (pc := 152) dX4_assignment_152 rfl 1 rfl ?_
  refine r_get (pc := 153) (j := 0) (v := .ref 3) oA2 cf4 flRX4_12 rfl dX4_assignment_153 rfl ?_
  refine r_iload (pc := 156) dX4_assignment_156 5 rfl ?_
  refine r_iconst (pc := 158) dX4_assignment_158 ki_5 ?_
  replace h := lt_e h; obtain ⟨w4, ew4, h⟩ := h
  refine r_cVv (pc := 159) wyX1_wrong oA3 rfl mlRX4_356 iyX1_wrong syX1_wrong ⟨(Nat.le_of_ble_eq_true rfl), (Nat.le_of_ble_eq_true rfl)⟩ rfl rfl (Nat.le_of_ble_eq_true rfl) dX4_assignment_159 (mX1_wrong ew4 (pV.mk ?_))
  refine r_drop (loc' := [(0, .ref 2), (1, .int a1), (2, .int a2), (3, .int x1), (5, .int a5), (6, .int a6), (7, .int (b2i a7))]) [1, 2, 3, 0, 4, 5, 6] rfl ?_
  exact pX4_assignment_162 hN hk_27 h
def fX4_assignment_114 (k_27 : Int32 → Int32 → Int32 → Bool → Int32 → Wd → Option Wd) (s0 : Int32) (a1 : Int32) (a2 : Int32) (a3 : Int32) (a5 : Int32) (a6 : Int32) (a7 : Bool) (w : Wd) : Option Wd :=
  lt (fX1_check a2 s0 a6 w) fun w1 => if a7 = true then (fX4_assignment_139 k_27 a3 true a1 a2 a5 a6 a7 w1) else (fX4_assignment_139 k_27 a3 false a1 a2 a5 a6 a7 w1)
theorem pX4_assignment_114 {q : Gq} {l : Launch} {N : Option Value → Wd → Prop} {X : String → Wd → Prop} {w : Wd} {R : Wd} (hN : N none R) {k_27 : Int32 → Int32 → Int32 → Bool → Int32 → Wd → Option Wd} (hk_27 : ∀ (a1 : Int32) (a2 : Int32) (a3 : Int32) (a4 : Bool) (a5 : Int32) (w : Wd), k_27 a1 a2 a3 a4 a5 w = some R → RT (GA q) l 909 yX4_assignment cX4_assignment 9 (none) N X 27 [] [(0, .ref 2), (1, .int a1), (2, .int a2), (3, .int a3), (4, .int (b2i a4)), (5, .int a5)] w) {s0 : Int32} {a1 : Int32} {a2 : Int32} {a3 : Int32} {a5 : Int32} {a6 : Int32} {a7 : Bool} (h : fX4_assignment_114 k_27 s0 a1 a2 a3 a5 a6 a7 w = some R) : RT (GA q) l 909 yX4_assignment cX4_assignment 9 (none) N X 114 [.int s0] [(0, .ref 2), (1, .int a1), (2, .int a2), (3, .int a3), (5, .int a5), (6, .int a6), (7, .int (b2i a7))] w := by
  unfold fX4_assignment_114 at h
  refine r_istore (pc := 114) (loc' := [(8, .int s0), (0, .ref 2), (1, .int a1), (2, .int a2), (3, .int a3), (5, .int a5), (6, .int a6), (7, .int (b2i a7))]) dX4_assignment_114 (Nat.le_of_ble_eq_true rfl) rfl ?_
  refine r_aload_n (pc := 116) dX4_assignment_116 rfl 1 rfl ?_
  refine r_get (pc := 117) (j := 0) (v := .ref 3) oA2 cf4 flRX4_12 rfl dX4_assignment_117 rfl ?_
  refine r_iload_n (pc := 120) dX4_assignment_120 rfl 3 rfl ?_
  refine r_iload (pc := 121) dX4_assignment_121 0 rfl ?_
  refine r_iload (pc := 123) dX4_assignment_123 6 rfl ?_
  replace h := lt_e h; obtain ⟨w1, ew1, h⟩ := h
  refine r_cVv (pc := 125) wyX1_check oA3 rfl mlRX4_374 iyX1_check syX1_check ⟨(Nat.le_of_ble_eq_true rfl), (Nat.le_of_ble_eq_true rfl)⟩ rfl rfl (Nat.le_of_ble_eq_true rfl) dX4_assignment_125 (mX1_check ew1 (pV.mk ?_))
  refine r_iload_n (pc := 128) dX4_assignment_128 rfl 4 rfl ?_
  refine r_iload (pc := 129) dX4_assignment_129 7 rfl ?_
  refine r_z_eq (pc := 131) dX4_assignment_131 rfl (fun hc2 => ?_) (fun hc2 => ?_)
  · replace h := if_f hc2 h
    refine r_iconst (pc := 138) dX4_assignment_138 ki_0 ?_
    refine r_drop (loc' := [(0, .ref 2), (1, .int a1), (2, .int a2), (5, .int a5), (6, .int a6), (7, .int (b2i a7))]) [1, 2, 3, 5, 6, 7] rfl ?_
    exact pX4_assignment_139 hN hk_27 h
  replace h := if_t hc2 h
  refine r_iconst (pc := 134) dX4_assignment_134 ki_1 ?_
  refine r_goto (pc := 135) dX4_assignment_135 rfl ?_
  refine r_drop (loc' := [(0, .ref 2), (1, .int a1), (2, .int a2), (5, .int a5), (6, .int a6), (7, .int (b2i a7))]) [1, 2, 3, 5, 6, 7] rfl ?_
  exact pX4_assignment_139 hN hk_27 h
def fX4_assignment_87 (k_27 : Int32 → Int32 → Int32 → Bool → Int32 → Wd → Option Wd) (s0 : Bool) (a1 : Int32) (a2 : Int32) (a3 : Int32) (a5 : Int32) (a6 : Int32) (w : Wd) : Option Wd :=
  if s0 = true then (bn2 (RX2_typed 900 7 a1 1 0 w) fun x2 w3 => fX4_assignment_114 k_27 x2 a1 a2 a3 a5 a6 s0 w3) else (bn2 (RX2_typed 900 2 a1 0 0 w) fun x4 w5 => fX4_assignment_114 k_27 x4 a1 a2 a3 a5 a6 s0 w5)
theorem pX4_assignment_87 {q : Gq} {l : Launch} {N : Option Value → Wd → Prop} {X : String → Wd → Prop} {w : Wd} {R : Wd} (hN : N none R) {k_27 : Int32 → Int32 → Int32 → Bool → Int32 → Wd → Option Wd} (hk_27 : ∀ (a1 : Int32) (a2 : Int32) (a3 : Int32) (a4 : Bool) (a5 : Int32) (w : Wd), k_27 a1 a2 a3 a4 a5 w = some R → RT (GA q) l 909 yX4_assignment cX4_assignment 9 (none) N X 27 [] [(0, .ref 2), (1, .int a1), (2, .int a2), (3, .int a3), (4, .int (b2i a4)), (5, .int a5)] w) {s0 : Bool} {a1 : Int32} {a2 : Int32} {a3 : Int32} {a5 : Int32} {a6 : Int32} (h : fX4_assignment_87 k_27 s0 a1 a2 a3 a5 a6 w = some R) : RT (GA q) l 909 yX4_assignment cX4_assignment 9 (none) N X 87 [.int (b2i s0)] [(0, .ref 2), (1, .int a1), (2, .int a2), (3, .int a3), (5, .int a5), (6, .int a6)] w := by
  unfold fX4_assignment_87 at h
  refine r_istore (pc := 87) (loc' := [(7, .int (b2i s0)), (0, .ref 2), (1, .int a1), (2, .int a2), (3, .int a3), (5, .int a5), (6, .int a6)]) dX4_assignment_87 (Nat.le_of_ble_eq_true rfl) rfl ?_
  refine r_iload (pc := 89) dX4_assignment_89 0 rfl ?_
  refine r_z_eq (pc := 91) dX4_assignment_91 rfl (fun hc1 => ?_) (fun hc1 => ?_)
  · replace h := if_f hc1 h
    refine r_aload_n (pc := 106) dX4_assignment_106 rfl 1 rfl ?_
    refine r_get (pc := 107) (j := 6) (v := .ref 42) oA2 cf4 flRX4_48 rfl dX4_assignment_107 rfl ?_
    refine r_iload_n (pc := 110) dX4_assignment_110 rfl 2 rfl ?_
    replace h := bn2_e h; obtain ⟨x4, w5, ew5, h⟩ := h
    refine r_cVi (pc := 111) wyX2_expression oA42 rfl mlRX4_371 iyX2_expression syX2_expression ⟨(Nat.le_of_ble_eq_true rfl), (Nat.le_of_ble_eq_true rfl)⟩ rfl rfl (Nat.le_of_ble_eq_true rfl) dX4_assignment_111 (mX2_expression ew5 (pI.mk ?_))
    refine r_drop (loc' := [(0, .ref 2), (1, .int a1), (2, .int a2), (3, .int a3), (5, .int a5), (6, .int a6), (7, .int (b2i s0))]) [1, 2, 3, 4, 5, 6, 0] rfl ?_
    exact pX4_assignment_114 hN hk_27 h
  replace h := if_t hc1 h
  refine r_aload_n (pc := 94) dX4_assignment_94 rfl 1 rfl ?_
  refine r_get (pc := 95) (j := 6) (v := .ref 42) oA2 cf4 flRX4_48 rfl dX4_assignment_95 rfl ?_
  refine r_iload_n (pc := 98) dX4_assignment_98 rfl 2 rfl ?_
  refine r_iconst (pc := 99) dX4_assignment_99 ki_1 ?_
  replace h := bn2_e h; obtain ⟨x2, w3, ew3, h⟩ := h
  refine r_cVi (pc := 100) wyX2_place oA42 rfl mlRX4_362 iyX2_place syX2_place ⟨(Nat.le_of_ble_eq_true rfl), (Nat.le_of_ble_eq_true rfl)⟩ rfl rfl (Nat.le_of_ble_eq_true rfl) dX4_assignment_100 (mX2_place ew3 (pI.mk ?_))
  refine r_goto (pc := 103) dX4_assignment_103 rfl ?_
  refine r_drop (loc' := [(0, .ref 2), (1, .int a1), (2, .int a2), (3, .int a3), (5, .int a5), (6, .int a6), (7, .int (b2i s0))]) [1, 2, 3, 4, 5, 6, 0] rfl ?_
  exact pX4_assignment_114 hN hk_27 h
def fX4_assignment_27 (k_27 : Int32 → Int32 → Int32 → Bool → Int32 → Wd → Option Wd) (a1 : Int32) (a2 : Int32) (a3 : Int32) (a4 : Bool) (a5 : Int32) (w : Wd) : Option Wd :=
  if a4 = true then (if 8193 ≤ a5 then (lt2 (fX0_put_ 26 a3 w) fun x3 w4 => some w4) else (lt (fX9_at w) fun x5 => lt (fX9_isVariable x5 w) fun x6 => if x6 = true then (lt (fX9_endOf x5 w) fun x8 => lt (fX9_kindOf x8 w) fun x9 => if x9 = 50 then (fX4_assignment_87 k_27 true a1 a2 a3 a5 x5 w) else (fX4_assignment_87 k_27 false a1 a2 a3 a5 x5 w)) else (fX4_assignment_87 k_27 false a1 a2 a3 a5 x5 w))) else (lt2 (fX0_put_ 26 a3 w) fun x11 w12 => some w12)
theorem pX4_assignment_27 {q : Gq} {l : Launch} {N : Option Value → Wd → Prop} {X : String → Wd → Prop} {w : Wd} {R : Wd} (hN : N none R) {k_27 : Int32 → Int32 → Int32 → Bool → Int32 → Wd → Option Wd} (hk_27 : ∀ (a1 : Int32) (a2 : Int32) (a3 : Int32) (a4 : Bool) (a5 : Int32) (w : Wd), k_27 a1 a2 a3 a4 a5 w = some R → RT (GA q) l 909 yX4_assignment cX4_assignment 9 (none) N X 27 [] [(0, .ref 2), (1, .int a1), (2, .int a2), (3, .int a3), (4, .int (b2i a4)), (5, .int a5)] w) {a1 : Int32} {a2 : Int32} {a3 : Int32} {a4 : Bool} {a5 : Int32} (h : fX4_assignment_27 k_27 a1 a2 a3 a4 a5 w = some R) : RT (GA q) l 909 yX4_assignment cX4_assignment 9 (none) N X 27 [] [(0, .ref 2), (1, .int a1), (2, .int a2), (3, .int a3), (4, .int (b2i a4)), (5, .int a5)] w := by
  unfold fX4_assignment_27 at h
  refine r_iload (pc := 27) dX4_assignment_27 4 rfl ?_
  refine r_z_eq (pc := 29) dX4_assignment_29 rfl (fun hc1 => ?_) (fun hc1 => ?_)
  · replace h := if_f hc1 h
    refine r_aload_n (pc := 204) dX4_assignment_204 rfl 0 rfl ?_
    refine r_get (pc := 205) (j := 5) (v := .ref 40) oA2 cf4 flRX4_42 rfl dX4_assignment_205 rfl ?_
    refine r_bipush (pc := 208) dX4_assignment_208 kb_26 ?_
    refine r_iload_n (pc := 210) dX4_assignment_210 rfl 3 rfl ?_
    replace h := lt2_e h; obtain ⟨x11, w12, ew12, h⟩ := h
    refine r_cVi (pc := 211) wyX0_put_ oA40 rfl mlRX4_156 iyX0_put_ syX0_put_ ⟨(Nat.le_of_ble_eq_true rfl), (Nat.le_of_ble_eq_true rfl)⟩ rfl rfl (Nat.le_of_ble_eq_true rfl) dX4_assignment_211 (mX0_put_ ew12 (pI.mk ?_))
    refine r_pop (pc := 214) dX4_assignment_214 rfl ?_
    exact rO_v (pc := 215) rfl dX4_assignment_215 h hN
  replace h := if_t hc1 h
  refine r_iload (pc := 32) dX4_assignment_32 5 rfl ?_
  refine r_sipush (pc := 34) dX4_assignment_34 ks_8193 ?_
  refine r_icmp_ge (pc := 37) dX4_assignment_37 rfl (fun hc2 => ?_) (fun hc2 => ?_)
  · replace h := if_t hc2 h
    refine r_aload_n (pc := 204) dX4_assignment_204 rfl 0 rfl ?_
    refine r_get (pc := 205) (j := 5) (v := .ref 40) oA2 cf4 flRX4_42 rfl dX4_assignment_205 rfl ?_
    refine r_bipush (pc := 208) dX4_assignment_208 kb_26 ?_
    refine r_iload_n (pc := 210) dX4_assignment_210 rfl 3 rfl ?_
    replace h := lt2_e h; obtain ⟨x3, w4, ew4, h⟩ := h
    refine r_cVi (pc := 211) wyX0_put_ oA40 rfl mlRX4_156 iyX0_put_ syX0_put_ ⟨(Nat.le_of_ble_eq_true rfl), (Nat.le_of_ble_eq_true rfl)⟩ rfl rfl (Nat.le_of_ble_eq_true rfl) dX4_assignment_211 (mX0_put_ ew4 (pI.mk ?_))
    refine r_pop (pc := 214) dX4_assignment_214 rfl ?_
    exact rO_v (pc := 215) rfl dX4_assignment_215 h hN
  replace h := if_f hc2 h
  refine r_aload_n (pc := 40) dX4_assignment_40 rfl 0 rfl ?_
  refine r_get (pc := 41) (j := 1) (v := .ref 4) oA2 cf4 flRX4_22 rfl dX4_assignment_41 rfl ?_
  replace h := lt_e h; obtain ⟨x5, ex5, h⟩ := h
  refine r_cVi (pc := 44) wyX9_at oA4 rfl mlRX4_202 iyX9_at syX9_at ⟨(Nat.le_of_ble_eq_true rfl), (Nat.le_of_ble_eq_true rfl)⟩ rfl rfl (Nat.le_of_ble_eq_true rfl) dX4_assignment_44 (mX9_at ex5 (pI.mk ?_))
  refine r_istore (pc := 47) (loc' := [(6, .int x5), (0, .ref 2), (1, .int a1), (2, .int a2), (3, .int a3), (4, .int (b2i a4)), (5, .int a5)]) dX4_assignment_47 (Nat.le_of_ble_eq_true rfl) rfl ?_
  refine r_aload_n (pc := 49) dX4_assignment_49 rfl 1 rfl ?_
  refine r_get (pc := 50) (j := 1) (v := .ref 4) oA2 cf4 flRX4_22 rfl dX4_assignment_50 rfl ?_
  refine r_iload (pc := 53) dX4_assignment_53 0 rfl ?_
  replace h := lt_e h; obtain ⟨x6, ex6, h⟩ := h
  refine r_cVi (pc := 55) wyX9_isVariable oA4 rfl mlRX4_365 iyX9_isVariable syX9_isVariable ⟨(Nat.le_of_ble_eq_true rfl), (Nat.le_of_ble_eq_true rfl)⟩ rfl rfl (Nat.le_of_ble_eq_true rfl) dX4_assignment_55 (mX9_isVariable ex6 (pI.mk ?_))
  refine r_z_eq (pc := 58) dX4_assignment_58 rfl (fun hc7 => ?_) (fun hc7 => ?_)
  · replace h := if_f hc7 h
    refine r_iconst (pc := 86) dX4_assignment_86 ki_0 ?_
    refine r_drop (loc' := [(0, .ref 2), (1, .int a1), (2, .int a2), (3, .int a3), (5, .int a5), (6, .int x5)]) [1, 2, 3, 4, 6, 0] rfl ?_
    exact pX4_assignment_87 hN hk_27 h
  replace h := if_t hc7 h
  refine r_aload_n (pc := 61) dX4_assignment_61 rfl 1 rfl ?_
  refine r_get (pc := 62) (j := 1) (v := .ref 4) oA2 cf4 flRX4_22 rfl dX4_assignment_62 rfl ?_
  refine r_aload_n (pc := 65) dX4_assignment_65 rfl 1 rfl ?_
  refine r_get (pc := 66) (j := 1) (v := .ref 4) oA2 cf4 flRX4_22 rfl dX4_assignment_66 rfl ?_
  refine r_iload (pc := 69) dX4_assignment_69 0 rfl ?_
  replace h := lt_e h; obtain ⟨x8, ex8, h⟩ := h
  refine r_cVi (pc := 71) wyX9_endOf oA4 rfl mlRX4_368 iyX9_endOf syX9_endOf ⟨(Nat.le_of_ble_eq_true rfl), (Nat.le_of_ble_eq_true rfl)⟩ rfl rfl (Nat.le_of_ble_eq_true rfl) dX4_assignment_71 (mX9_endOf ex8 (pI.mk ?_))
  replace h := lt_e h; obtain ⟨x9, ex9, h⟩ := h
  refine r_cVi (pc := 74) wyX9_kindOf oA4 rfl mlRX4_343 iyX9_kindOf syX9_kindOf ⟨(Nat.le_of_ble_eq_true rfl), (Nat.le_of_ble_eq_true rfl)⟩ rfl rfl (Nat.le_of_ble_eq_true rfl) dX4_assignment_74 (mX9_kindOf ex9 (pI.mk ?_))
  refine r_bipush (pc := 77) dX4_assignment_77 kb_50 ?_
  refine r_icmp_ne (pc := 79) dX4_assignment_79 rfl (fun hc10 => ?_) (fun hc10 => ?_)
  · replace h := if_f hc10 h
    refine r_iconst (pc := 86) dX4_assignment_86 ki_0 ?_
    refine r_drop (loc' := [(0, .ref 2), (1, .int a1), (2, .int a2), (3, .int a3), (5, .int a5), (6, .int x5)]) [1, 2, 3, 4, 6, 0] rfl ?_
    exact pX4_assignment_87 hN hk_27 h
  replace h := if_t hc10 h
  refine r_iconst (pc := 82) dX4_assignment_82 ki_1 ?_
  refine r_goto (pc := 83) dX4_assignment_83 rfl ?_
  refine r_drop (loc' := [(0, .ref 2), (1, .int a1), (2, .int a2), (3, .int a3), (5, .int a5), (6, .int x5)]) [1, 2, 3, 4, 6, 0] rfl ?_
  exact pX4_assignment_87 hN hk_27 h
def oX4_assignment_27 : Nat → Int32 → Int32 → Int32 → Bool → Int32 → Wd → Option Wd
  | 0 => fun _ _ _ _ _ _ => none
  | n + 1 => fX4_assignment_27 (oX4_assignment_27 n)
theorem qX4_assignment_27 {q : Gq} {l : Launch} {N : Option Value → Wd → Prop} {X : String → Wd → Prop} {R : Wd} (hN : N none R) : ∀ (n : Nat) (a1 : Int32) (a2 : Int32) (a3 : Int32) (a4 : Bool) (a5 : Int32) (w : Wd), oX4_assignment_27 n a1 a2 a3 a4 a5 w = some R → RT (GA q) l 909 yX4_assignment cX4_assignment 9 (none) N X 27 [] [(0, .ref 2), (1, .int a1), (2, .int a2), (3, .int a3), (4, .int (b2i a4)), (5, .int a5)] w := by
  intro n
  induction n with
  | zero =>
    intro a1 a2 a3 a4 a5 w h
    exact absurd h (fun q => nomatch q)
  | succ n ih =>
    intro a1 a2 a3 a4 a5 w h
    exact pX4_assignment_27 hN ih h
def fX4_assignment (a1 : Int32) (w : Wd) : Option Wd :=
  bn2 (RX2_typed 900 7 a1 1 0 w) fun x1 w2 => lt (fX9_need 50 w2) fun w3 => oX4_assignment_27 FU a1 x1 1 true 0 w3
theorem pX4_assignment {q : Gq} {l : Launch} {N : Option Value → Wd → Prop} {X : String → Wd → Prop} {w : Wd} {R : Wd} (hN : N none R) {a1 : Int32} (h : fX4_assignment a1 w = some R) : RT (GA q) l 909 yX4_assignment cX4_assignment 9 (none) N X 0 [] [(0, .ref 2), (1, .int a1)] w := by
  unfold fX4_assignment at h
  refine r_aload_n (pc := 0) dX4_assignment_0 rfl 0 rfl ?_
  refine r_get (pc := 1) (j := 6) (v := .ref 42) oA2 cf4 flRX4_48 rfl dX4_assignment_1 rfl ?_
  refine r_iload_n (pc := 4) dX4_assignment_4 rfl 1 rfl ?_
  refine r_iconst (pc := 5) dX4_assignment_5 ki_1 ?_
  replace h := bn2_e h; obtain ⟨x1, w2, ew2, h⟩ := h
  refine r_cVi (pc := 6) wyX2_place oA42 rfl mlRX4_362 iyX2_place syX2_place ⟨(Nat.le_of_ble_eq_true rfl), (Nat.le_of_ble_eq_true rfl)⟩ rfl rfl (Nat.le_of_ble_eq_true rfl) dX4_assignment_6 (mX2_place ew2 (pI.mk ?_))
  refine r_istore_n (pc := 9) (loc' := [(2, .int x1), (0, .ref 2), (1, .int a1)]) dX4_assignment_9 rfl (Nat.le_of_ble_eq_true rfl) rfl ?_
  refine r_aload_n (pc := 10) dX4_assignment_10 rfl 1 rfl ?_
  refine r_get (pc := 11) (j := 1) (v := .ref 4) oA2 cf4 flRX4_22 rfl dX4_assignment_11 rfl ?_
  refine r_bipush (pc := 14) dX4_assignment_14 kb_50 ?_
  replace h := lt_e h; obtain ⟨w3, ew3, h⟩ := h
  refine r_cVv (pc := 16) wyX9_need oA4 rfl mlRX4_170 iyX9_need syX9_need ⟨(Nat.le_of_ble_eq_true rfl), (Nat.le_of_ble_eq_true rfl)⟩ rfl rfl (Nat.le_of_ble_eq_true rfl) dX4_assignment_16 (mX9_need ew3 (pV.mk ?_))
  refine r_iconst (pc := 19) dX4_assignment_19 ki_1 ?_
  refine r_istore_n (pc := 20) (loc' := [(3, .int 1), (2, .int x1), (0, .ref 2), (1, .int a1)]) dX4_assignment_20 rfl (Nat.le_of_ble_eq_true rfl) rfl ?_
  refine r_iconst (pc := 21) dX4_assignment_21 ki_1 ?_
  refine r_istore (pc := 22) (loc' := [(4, .int 1), (3, .int 1), (2, .int x1), (0, .ref 2), (1, .int a1)]) dX4_assignment_22 (Nat.le_of_ble_eq_true rfl) rfl ?_
  refine r_iconst (pc := 24) dX4_assignment_24 ki_0 ?_
  refine r_istore (pc := 25) (loc' := [(5, .int 0), (4, .int 1), (3, .int 1), (2, .int x1), (0, .ref 2), (1, .int a1)]) dX4_assignment_25 (Nat.le_of_ble_eq_true rfl) rfl ?_
  refine r_drop (loc' := [(0, .ref 2), (1, .int a1), (2, .int x1), (3, .int 1), (4, .int 1), (5, .int 0)]) [4, 5, 3, 2, 1, 0] rfl ?_
  exact qX4_assignment_27 hN FU a1 x1 1 true 0 w3 h
theorem mX4_assignment {q : Gq} {l : Launch} {N : Option Value → Wd → Prop} {X : String → Wd → Prop} {a1 : Int32} {w : Wd} {u : Wd} (h : fX4_assignment a1 w = some u) (hN : N none u) : Ct (GA q) l 909 yX4_assignment cX4_assignment 9 (none) [.ref 2, .int a1] w N X := Ct.of (by decide) (Nat.le_of_ble_eq_true rfl) (pX4_assignment hN h)
/-! AlgolMill$Maker.named (I)V: O, 910 -/
theorem dX4_named_0 : decode cX4_named 0 = .ok (.aload_n 0, 1) := by decide +kernel
theorem dX4_named_1 : decode cX4_named 1 = .ok (.getfield 22, 3) := by decide +kernel
theorem dX4_named_4 : decode cX4_named 4 = .ok (.aload_n 0, 1) := by decide +kernel
theorem dX4_named_5 : decode cX4_named 5 = .ok (.getfield 22, 3) := by decide +kernel
theorem dX4_named_8 : decode cX4_named 8 = .ok (.invokevirtual 202, 3) := by decide +kernel
theorem dX4_named_11 : decode cX4_named 11 = .ok (.iconst 1, 1) := by decide +kernel
theorem dX4_named_12 : decode cX4_named 12 = .ok (.iadd, 1) := by decide +kernel
theorem dX4_named_13 : decode cX4_named 13 = .ok (.invokevirtual 343, 3) := by decide +kernel
theorem dX4_named_16 : decode cX4_named 16 = .ok (.istore_n 2, 1) := by decide +kernel
theorem dX4_named_17 : decode cX4_named 17 = .ok (.iload_n 2, 1) := by decide +kernel
theorem dX4_named_18 : decode cX4_named 18 = .ok (.bipush 50, 2) := by decide +kernel
theorem dX4_named_20 : decode cX4_named 20 = .ok (.if_icmp .eq 9, 3) := by decide +kernel
theorem dX4_named_23 : decode cX4_named 23 = .ok (.iload_n 2, 1) := by decide +kernel
theorem dX4_named_24 : decode cX4_named 24 = .ok (.bipush 45, 2) := by decide +kernel
theorem dX4_named_26 : decode cX4_named 26 = .ok (.if_icmp .ne 9, 3) := by decide +kernel
theorem dX4_named_29 : decode cX4_named 29 = .ok (.aload_n 0, 1) := by decide +kernel
theorem dX4_named_30 : decode cX4_named 30 = .ok (.iload_n 1, 1) := by decide +kernel
theorem dX4_named_31 : decode cX4_named 31 = .ok (.invokevirtual 346, 3) := by decide +kernel
theorem dX4_named_34 : decode cX4_named 34 = .ok (.return_, 1) := by decide +kernel
theorem dX4_named_35 : decode cX4_named 35 = .ok (.aload_n 0, 1) := by decide +kernel
theorem dX4_named_36 : decode cX4_named 36 = .ok (.getfield 22, 3) := by decide +kernel
theorem dX4_named_39 : decode cX4_named 39 = .ok (.invokevirtual 202, 3) := by decide +kernel
theorem dX4_named_42 : decode cX4_named 42 = .ok (.istore_n 3, 1) := by decide +kernel
theorem dX4_named_43 : decode cX4_named 43 = .ok (.aload_n 0, 1) := by decide +kernel
theorem dX4_named_44 : decode cX4_named 44 = .ok (.getfield 12, 3) := by decide +kernel
theorem dX4_named_47 : decode cX4_named 47 = .ok (.iload_n 3, 1) := by decide +kernel
theorem dX4_named_48 : decode cX4_named 48 = .ok (.invokevirtual 349, 3) := by decide +kernel
theorem dX4_named_51 : decode cX4_named 51 = .ok (.istore 4, 2) := by decide +kernel
theorem dX4_named_53 : decode cX4_named 53 = .ok (.aload_n 0, 1) := by decide +kernel
theorem dX4_named_54 : decode cX4_named 54 = .ok (.getfield 22, 3) := by decide +kernel
theorem dX4_named_57 : decode cX4_named 57 = .ok (.iconst 2, 1) := by decide +kernel
theorem dX4_named_58 : decode cX4_named 58 = .ok (.invokevirtual 170, 3) := by decide +kernel
theorem dX4_named_61 : decode cX4_named 61 = .ok (.aload_n 0, 1) := by decide +kernel
theorem dX4_named_62 : decode cX4_named 62 = .ok (.getfield 12, 3) := by decide +kernel
theorem dX4_named_65 : decode cX4_named 65 = .ok (.iload 4, 2) := by decide +kernel
theorem dX4_named_67 : decode cX4_named 67 = .ok (.iconst 3, 1) := by decide +kernel
theorem dX4_named_68 : decode cX4_named 68 = .ok (.invokevirtual 352, 3) := by decide +kernel
theorem dX4_named_71 : decode cX4_named 71 = .ok (.ifCond .ne 12, 3) := by decide +kernel
theorem dX4_named_74 : decode cX4_named 74 = .ok (.aload_n 0, 1) := by decide +kernel
theorem dX4_named_75 : decode cX4_named 75 = .ok (.getfield 12, 3) := by decide +kernel
theorem dX4_named_78 : decode cX4_named 78 = .ok (.iload_n 3, 1) := by decide +kernel
theorem dX4_named_79 : decode cX4_named 79 = .ok (.iconst 4, 1) := by decide +kernel
theorem dX4_named_80 : decode cX4_named 80 = .ok (.invokevirtual 356, 3) := by decide +kernel
theorem dX4_named_83 : decode cX4_named 83 = .ok (.aload_n 0, 1) := by decide +kernel
theorem dX4_named_84 : decode cX4_named 84 = .ok (.getfield 48, 3) := by decide +kernel
theorem dX4_named_87 : decode cX4_named 87 = .ok (.iload_n 1, 1) := by decide +kernel
theorem dX4_named_88 : decode cX4_named 88 = .ok (.iload 4, 2) := by decide +kernel
theorem dX4_named_90 : decode cX4_named 90 = .ok (.iload_n 3, 1) := by decide +kernel
theorem dX4_named_91 : decode cX4_named 91 = .ok (.invokevirtual 359, 3) := by decide +kernel
theorem dX4_named_94 : decode cX4_named 94 = .ok (.aload_n 0, 1) := by decide +kernel
theorem dX4_named_95 : decode cX4_named 95 = .ok (.getfield 42, 3) := by decide +kernel
theorem dX4_named_98 : decode cX4_named 98 = .ok (.bipush 27, 2) := by decide +kernel
theorem dX4_named_100 : decode cX4_named 100 = .ok (.iconst 1, 1) := by decide +kernel
theorem dX4_named_101 : decode cX4_named 101 = .ok (.invokevirtual 156, 3) := by decide +kernel
theorem dX4_named_104 : decode cX4_named 104 = .ok (.pop, 1) := by decide +kernel
theorem dX4_named_105 : decode cX4_named 105 = .ok (.return_, 1) := by decide +kernel
def fX4_named_83 (a1 : Int32) (a3 : Int32) (a4 : Int32) (w : Wd) : Option Wd :=
  bn2 (RX2_typed 900 8 a1 a4 a3 w) fun _ w2 => lt2 (fX0_put_ 27 1 w2) fun x3 w4 => some w4
theorem pX4_named_83 {q : Gq} {l : Launch} {N : Option Value → Wd → Prop} {X : String → Wd → Prop} {w : Wd} {R : Wd} (hN : N none R) {a1 : Int32} {a3 : Int32} {a4 : Int32} (h : fX4_named_83 a1 a3 a4 w = some R) : RT (GA q) l 910 yX4_named cX4_named 5 (none) N X 83 [] [(0, .ref 2), (1, .int a1), (3, .int a3), (4, .int a4)] w := by
  unfold fX4_named_83 at h
  refine r_aload_n (pc := 83) dX4_named_83 rfl 0 rfl ?_
  refine r_get (pc := 84) (j := 6) (v := .ref 42) oA2 cf4 flRX4_48 rfl dX4_named_84 rfl ?_
  refine r_iload_n (pc := 87) dX4_named_87 rfl 1 rfl ?_
  refine r_iload (pc := 88) dX4_named_88 3 rfl ?_
  refine r_iload_n (pc := 90) dX4_named_90 rfl 2 rfl ?_
  replace h := bn2_e h; obtain ⟨x1, w2, ew2, h⟩ := h
  refine r_cVv (pc := 91) wyX2_call oA42 rfl mlRX4_359 iyX2_call syX2_call ⟨(Nat.le_of_ble_eq_true rfl), (Nat.le_of_ble_eq_true rfl)⟩ rfl rfl (Nat.le_of_ble_eq_true rfl) dX4_named_91 (mX2_call ew2 (pV.mk ?_))
  refine r_aload_n (pc := 94) dX4_named_94 rfl 0 rfl ?_
  refine r_get (pc := 95) (j := 5) (v := .ref 40) oA2 cf4 flRX4_42 rfl dX4_named_95 rfl ?_
  refine r_bipush (pc := 98) dX4_named_98 kb_27 ?_
  refine r_iconst (pc := 100) dX4_named_100 ki_1 ?_
  replace h := lt2_e h; obtain ⟨x3, w4, ew4, h⟩ := h
  refine r_cVi (pc := 101) wyX0_put_ oA40 rfl mlRX4_156 iyX0_put_ syX0_put_ ⟨(Nat.le_of_ble_eq_true rfl), (Nat.le_of_ble_eq_true rfl)⟩ rfl rfl (Nat.le_of_ble_eq_true rfl) dX4_named_101 (mX0_put_ ew4 (pI.mk ?_))
  refine r_pop (pc := 104) dX4_named_104 rfl ?_
  exact rO_v (pc := 105) rfl dX4_named_105 h hN
def fX4_named (a1 : Int32) (w : Wd) : Option Wd :=
  lt (fX9_at w) fun x1 => lt (fX9_kindOf (x1 + 1) w) fun x2 => if x2 = 50 then (bn (fX4_assignment a1 w) fun w4 => some w4) else (if x2 = 45 then (bn (fX4_assignment a1 w) fun w6 => some w6) else (lt (fX9_at w) fun x7 => lt2 (fX1_find x7 w) fun x8 w9 => lt (fX9_need 2 w9) fun w10 => lt (fX1_isSort x8 3 w10) fun x11 => if x11 = true then (fX4_named_83 a1 x7 x8 w10) else (lt (fX1_wrong x7 4 w10) fun w13 => fX4_named_83 a1 x7 x8 w13)))
theorem pX4_named {q : Gq} {l : Launch} {N : Option Value → Wd → Prop} {X : String → Wd → Prop} {w : Wd} {R : Wd} (hN : N none R) {a1 : Int32} (h : fX4_named a1 w = some R) : RT (GA q) l 910 yX4_named cX4_named 5 (none) N X 0 [] [(0, .ref 2), (1, .int a1)] w := by
  unfold fX4_named at h
  refine r_aload_n (pc := 0) dX4_named_0 rfl 0 rfl ?_
  refine r_get (pc := 1) (j := 1) (v := .ref 4) oA2 cf4 flRX4_22 rfl dX4_named_1 rfl ?_
  refine r_aload_n (pc := 4) dX4_named_4 rfl 0 rfl ?_
  refine r_get (pc := 5) (j := 1) (v := .ref 4) oA2 cf4 flRX4_22 rfl dX4_named_5 rfl ?_
  replace h := lt_e h; obtain ⟨x1, ex1, h⟩ := h
  refine r_cVi (pc := 8) wyX9_at oA4 rfl mlRX4_202 iyX9_at syX9_at ⟨(Nat.le_of_ble_eq_true rfl), (Nat.le_of_ble_eq_true rfl)⟩ rfl rfl (Nat.le_of_ble_eq_true rfl) dX4_named_8 (mX9_at ex1 (pI.mk ?_))
  refine r_iconst (pc := 11) dX4_named_11 ki_1 ?_
  refine r_iadd (pc := 12) dX4_named_12 ?_
  replace h := lt_e h; obtain ⟨x2, ex2, h⟩ := h
  refine r_cVi (pc := 13) wyX9_kindOf oA4 rfl mlRX4_343 iyX9_kindOf syX9_kindOf ⟨(Nat.le_of_ble_eq_true rfl), (Nat.le_of_ble_eq_true rfl)⟩ rfl rfl (Nat.le_of_ble_eq_true rfl) dX4_named_13 (mX9_kindOf ex2 (pI.mk ?_))
  refine r_istore_n (pc := 16) (loc' := [(2, .int x2), (0, .ref 2), (1, .int a1)]) dX4_named_16 rfl (Nat.le_of_ble_eq_true rfl) rfl ?_
  refine r_iload_n (pc := 17) dX4_named_17 rfl 0 rfl ?_
  refine r_bipush (pc := 18) dX4_named_18 kb_50 ?_
  refine r_icmp_eq (pc := 20) dX4_named_20 rfl (fun hc3 => ?_) (fun hc3 => ?_)
  · replace h := if_t hc3 h
    refine r_aload_n (pc := 29) dX4_named_29 rfl 1 rfl ?_
    refine r_iload_n (pc := 30) dX4_named_30 rfl 2 rfl ?_
    replace h := bn_e h; obtain ⟨w4, ew4, h⟩ := h
    refine r_cVv (pc := 31) wyX4_assignment oA2 rfl mlRX4_346 iyX4_assignment syX4_assignment ⟨(Nat.le_of_ble_eq_true rfl), (Nat.le_of_ble_eq_true rfl)⟩ rfl rfl (Nat.le_of_ble_eq_true rfl) dX4_named_31 (mX4_assignment ew4 (pV.mk ?_))
    exact rO_v (pc := 34) rfl dX4_named_34 h hN
  replace h := if_f hc3 h
  refine r_iload_n (pc := 23) dX4_named_23 rfl 0 rfl ?_
  refine r_bipush (pc := 24) dX4_named_24 kb_45 ?_
  refine r_icmp_ne (pc := 26) dX4_named_26 rfl (fun hc5 => ?_) (fun hc5 => ?_)
  · replace h := if_f hc5 h
    refine r_aload_n (pc := 35) dX4_named_35 rfl 1 rfl ?_
    refine r_get (pc := 36) (j := 1) (v := .ref 4) oA2 cf4 flRX4_22 rfl dX4_named_36 rfl ?_
    replace h := lt_e h; obtain ⟨x7, ex7, h⟩ := h
    refine r_cVi (pc := 39) wyX9_at oA4 rfl mlRX4_202 iyX9_at syX9_at ⟨(Nat.le_of_ble_eq_true rfl), (Nat.le_of_ble_eq_true rfl)⟩ rfl rfl (Nat.le_of_ble_eq_true rfl) dX4_named_39 (mX9_at ex7 (pI.mk ?_))
    refine r_istore_n (pc := 42) (loc' := [(3, .int x7), (2, .int x2), (0, .ref 2), (1, .int a1)]) dX4_named_42 rfl (Nat.le_of_ble_eq_true rfl) rfl ?_
    refine r_aload_n (pc := 43) dX4_named_43 rfl 2 rfl ?_
    refine r_get (pc := 44) (j := 0) (v := .ref 3) oA2 cf4 flRX4_12 rfl dX4_named_44 rfl ?_
    refine r_iload_n (pc := 47) dX4_named_47 rfl 0 rfl ?_
    replace h := lt2_e h; obtain ⟨x8, w9, ew9, h⟩ := h
    refine r_cVi (pc := 48) wyX1_find oA3 rfl mlRX4_349 iyX1_find syX1_find ⟨(Nat.le_of_ble_eq_true rfl), (Nat.le_of_ble_eq_true rfl)⟩ rfl rfl (Nat.le_of_ble_eq_true rfl) dX4_named_48 (mX1_find ew9 (pI.mk ?_))
    refine r_istore (pc := 51) (loc' := [(4, .int x8), (3, .int x7), (2, .int x2), (0, .ref 2), (1, .int a1)]) dX4_named_51 (Nat.le_of_ble_eq_true rfl) rfl ?_
    refine r_aload_n (pc := 53) dX4_named_53 rfl 3 rfl ?_
    refine r_get (pc := 54) (j := 1) (v := .ref 4) oA2 cf4 flRX4_22 rfl dX4_named_54 rfl ?_
    refine r_iconst (pc := 57) dX4_named_57 ki_2 ?_
    replace h := lt_e h; obtain ⟨w10, ew10, h⟩ := h
    refine r_cVv (pc := 58) wyX9_need oA4 rfl mlRX4_170 iyX9_need syX9_need ⟨(Nat.le_of_ble_eq_true rfl), (Nat.le_of_ble_eq_true rfl)⟩ rfl rfl (Nat.le_of_ble_eq_true rfl) dX4_named_58 (mX9_need ew10 (pV.mk ?_))
    refine r_aload_n (pc := 61) dX4_named_61 rfl 3 rfl ?_
    refine r_get (pc := 62) (j := 0) (v := .ref 3) oA2 cf4 flRX4_12 rfl dX4_named_62 rfl ?_
    refine r_iload (pc := 65) dX4_named_65 0 rfl ?_
    refine r_iconst (pc := 67) dX4_named_67 ki_3 ?_
    replace h := lt_e h; obtain ⟨x11, ex11, h⟩ := h
    refine r_cVi (pc := 68) wyX1_isSort oA3 rfl mlRX4_352 iyX1_isSort syX1_isSort ⟨(Nat.le_of_ble_eq_true rfl), (Nat.le_of_ble_eq_true rfl)⟩ rfl rfl (Nat.le_of_ble_eq_true rfl) dX4_named_68 (mX1_isSort ex11 (pI.mk ?_))
    refine r_z_ne (pc := 71) dX4_named_71 rfl (fun hc12 => ?_) (fun hc12 => ?_)
    · replace h := if_t hc12 h
      refine r_drop (loc' := [(0, .ref 2), (1, .int a1), (3, .int x7), (4, .int x8)]) [3, 4, 1, 0] rfl ?_
      exact pX4_named_83 hN h
    replace h := if_f hc12 h
    refine r_aload_n (pc := 74) dX4_named_74 rfl 3 rfl ?_
    refine r_get (pc := 75) (j := 0) (v := .ref 3) oA2 cf4 flRX4_12 rfl dX4_named_75 rfl ?_
    refine r_iload_n (pc := 78) dX4_named_78 rfl 1 rfl ?_
    refine r_iconst (pc := 79) dX4_named_79 ki_4 ?_
    replace h := lt_e h; obtain ⟨w13, ew13, h⟩ := h
    refine r_cVv (pc := 80) wyX1_wrong oA3 rfl mlRX4_356 iyX1_wrong syX1_wrong ⟨(Nat.le_of_ble_eq_true rfl), (Nat.le_of_ble_eq_true rfl)⟩ rfl rfl (Nat.le_of_ble_eq_true rfl) dX4_named_80 (mX1_wrong ew13 (pV.mk ?_))
    refine r_drop (loc' := [(0, .ref 2), (1, .int a1), (3, .int x7), (4, .int x8)]) [3, 4, 1, 0] rfl ?_
    exact pX4_named_83 hN h
  replace h := if_t hc5 h
  refine r_aload_n (pc := 29) dX4_named_29 rfl 1 rfl ?_
  refine r_iload_n (pc := 30) dX4_named_30 rfl 2 rfl ?_
  replace h := bn_e h; obtain ⟨w6, ew6, h⟩ := h
  refine r_cVv (pc := 31) wyX4_assignment oA2 rfl mlRX4_346 iyX4_assignment syX4_assignment ⟨(Nat.le_of_ble_eq_true rfl), (Nat.le_of_ble_eq_true rfl)⟩ rfl rfl (Nat.le_of_ble_eq_true rfl) dX4_named_31 (mX4_assignment ew6 (pV.mk ?_))
  exact rO_v (pc := 34) rfl dX4_named_34 h hN
theorem mX4_named {q : Gq} {l : Launch} {N : Option Value → Wd → Prop} {X : String → Wd → Prop} {a1 : Int32} {w : Wd} {u : Wd} (h : fX4_named a1 w = some u) (hN : N none u) : Ct (GA q) l 910 yX4_named cX4_named 5 (none) [.ref 2, .int a1] w N X := Ct.of (by decide) (Nat.le_of_ble_eq_true rfl) (pX4_named hN h)
/-! AlgolMill$Maker.print (I)V: O, 909 -/
theorem dX4_print_0 : decode cX4_print 0 = .ok (.aload_n 0, 1) := by decide +kernel
theorem dX4_print_1 : decode cX4_print 1 = .ok (.getfield 22, 3) := by decide +kernel
theorem dX4_print_4 : decode cX4_print 4 = .ok (.bipush 32, 2) := by decide +kernel
theorem dX4_print_6 : decode cX4_print 6 = .ok (.invokevirtual 170, 3) := by decide +kernel
theorem dX4_print_9 : decode cX4_print 9 = .ok (.aload_n 0, 1) := by decide +kernel
theorem dX4_print_10 : decode cX4_print 10 = .ok (.getfield 22, 3) := by decide +kernel
theorem dX4_print_13 : decode cX4_print 13 = .ok (.invokevirtual 96, 3) := by decide +kernel
theorem dX4_print_16 : decode cX4_print 16 = .ok (.bipush 43, 2) := by decide +kernel
theorem dX4_print_18 : decode cX4_print 18 = .ok (.if_icmp .eq 11, 3) := by decide +kernel
theorem dX4_print_21 : decode cX4_print 21 = .ok (.aload_n 0, 1) := by decide +kernel
theorem dX4_print_22 : decode cX4_print 22 = .ok (.getfield 22, 3) := by decide +kernel
theorem dX4_print_25 : decode cX4_print 25 = .ok (.invokevirtual 103, 3) := by decide +kernel
theorem dX4_print_28 : decode cX4_print 28 = .ok (.return_, 1) := by decide +kernel
theorem dX4_print_29 : decode cX4_print 29 = .ok (.aload_n 0, 1) := by decide +kernel
theorem dX4_print_30 : decode cX4_print 30 = .ok (.getfield 22, 3) := by decide +kernel
theorem dX4_print_33 : decode cX4_print 33 = .ok (.iload_n 1, 1) := by decide +kernel
theorem dX4_print_34 : decode cX4_print 34 = .ok (.invokevirtual 130, 3) := by decide +kernel
theorem dX4_print_37 : decode cX4_print 37 = .ok (.istore_n 2, 1) := by decide +kernel
theorem dX4_print_38 : decode cX4_print 38 = .ok (.aload_n 0, 1) := by decide +kernel
theorem dX4_print_39 : decode cX4_print 39 = .ok (.getfield 48, 3) := by decide +kernel
theorem dX4_print_42 : decode cX4_print 42 = .ok (.iload_n 2, 1) := by decide +kernel
theorem dX4_print_43 : decode cX4_print 43 = .ok (.invokevirtual 371, 3) := by decide +kernel
theorem dX4_print_46 : decode cX4_print 46 = .ok (.pop, 1) := by decide +kernel
theorem dX4_print_47 : decode cX4_print 47 = .ok (.aload_n 0, 1) := by decide +kernel
theorem dX4_print_48 : decode cX4_print 48 = .ok (.getfield 22, 3) := by decide +kernel
theorem dX4_print_51 : decode cX4_print 51 = .ok (.bipush 44, 2) := by decide +kernel
theorem dX4_print_53 : decode cX4_print 53 = .ok (.invokevirtual 170, 3) := by decide +kernel
theorem dX4_print_56 : decode cX4_print 56 = .ok (.aload_n 0, 1) := by decide +kernel
theorem dX4_print_57 : decode cX4_print 57 = .ok (.getfield 42, 3) := by decide +kernel
theorem dX4_print_60 : decode cX4_print 60 = .ok (.bipush 28, 2) := by decide +kernel
theorem dX4_print_62 : decode cX4_print 62 = .ok (.invokevirtual 108, 3) := by decide +kernel
theorem dX4_print_65 : decode cX4_print 65 = .ok (.pop, 1) := by decide +kernel
theorem dX4_print_66 : decode cX4_print 66 = .ok (.return_, 1) := by decide +kernel
def fX4_print (a1 : Int32) (w : Wd) : Option Wd :=
  lt (fX9_need 32 w) fun w1 => lt (fX9_kind w1) fun x2 => if x2 = 43 then (lt2 (fX9_open a1 w1) fun x4 w5 => bn2 (RX2_typed 900 2 x4 0 0 w5) fun x6 w7 => lt (fX9_need 44 w7) fun w8 => lt2 (fX0_put__ 28 w8) fun x9 w10 => some w10) else (lt (fX9_fail w1) fun w11 => some w11)
theorem pX4_print {q : Gq} {l : Launch} {N : Option Value → Wd → Prop} {X : String → Wd → Prop} {w : Wd} {R : Wd} (hN : N none R) {a1 : Int32} (h : fX4_print a1 w = some R) : RT (GA q) l 909 yX4_print cX4_print 3 (none) N X 0 [] [(0, .ref 2), (1, .int a1)] w := by
  unfold fX4_print at h
  refine r_aload_n (pc := 0) dX4_print_0 rfl 0 rfl ?_
  refine r_get (pc := 1) (j := 1) (v := .ref 4) oA2 cf4 flRX4_22 rfl dX4_print_1 rfl ?_
  refine r_bipush (pc := 4) dX4_print_4 kb_32 ?_
  replace h := lt_e h; obtain ⟨w1, ew1, h⟩ := h
  refine r_cVv (pc := 6) wyX9_need oA4 rfl mlRX4_170 iyX9_need syX9_need ⟨(Nat.le_of_ble_eq_true rfl), (Nat.le_of_ble_eq_true rfl)⟩ rfl rfl (Nat.le_of_ble_eq_true rfl) dX4_print_6 (mX9_need ew1 (pV.mk ?_))
  refine r_aload_n (pc := 9) dX4_print_9 rfl 0 rfl ?_
  refine r_get (pc := 10) (j := 1) (v := .ref 4) oA2 cf4 flRX4_22 rfl dX4_print_10 rfl ?_
  replace h := lt_e h; obtain ⟨x2, ex2, h⟩ := h
  refine r_cVi (pc := 13) wyX9_kind oA4 rfl mlRX4_96 iyX9_kind syX9_kind ⟨(Nat.le_of_ble_eq_true rfl), (Nat.le_of_ble_eq_true rfl)⟩ rfl rfl (Nat.le_of_ble_eq_true rfl) dX4_print_13 (mX9_kind ex2 (pI.mk ?_))
  refine r_bipush (pc := 16) dX4_print_16 kb_43 ?_
  refine r_icmp_eq (pc := 18) dX4_print_18 rfl (fun hc3 => ?_) (fun hc3 => ?_)
  · replace h := if_t hc3 h
    refine r_aload_n (pc := 29) dX4_print_29 rfl 0 rfl ?_
    refine r_get (pc := 30) (j := 1) (v := .ref 4) oA2 cf4 flRX4_22 rfl dX4_print_30 rfl ?_
    refine r_iload_n (pc := 33) dX4_print_33 rfl 1 rfl ?_
    replace h := lt2_e h; obtain ⟨x4, w5, ew5, h⟩ := h
    refine r_cVi (pc := 34) wyX9_open oA4 rfl mlRX4_130 iyX9_open syX9_open ⟨(Nat.le_of_ble_eq_true rfl), (Nat.le_of_ble_eq_true rfl)⟩ rfl rfl (Nat.le_of_ble_eq_true rfl) dX4_print_34 (mX9_open ew5 (pI.mk ?_))
    refine r_istore_n (pc := 37) (loc' := [(2, .int x4), (0, .ref 2), (1, .int a1)]) dX4_print_37 rfl (Nat.le_of_ble_eq_true rfl) rfl ?_
    refine r_aload_n (pc := 38) dX4_print_38 rfl 1 rfl ?_
    refine r_get (pc := 39) (j := 6) (v := .ref 42) oA2 cf4 flRX4_48 rfl dX4_print_39 rfl ?_
    refine r_iload_n (pc := 42) dX4_print_42 rfl 0 rfl ?_
    replace h := bn2_e h; obtain ⟨x6, w7, ew7, h⟩ := h
    refine r_cVi (pc := 43) wyX2_expression oA42 rfl mlRX4_371 iyX2_expression syX2_expression ⟨(Nat.le_of_ble_eq_true rfl), (Nat.le_of_ble_eq_true rfl)⟩ rfl rfl (Nat.le_of_ble_eq_true rfl) dX4_print_43 (mX2_expression ew7 (pI.mk ?_))
    refine r_pop (pc := 46) dX4_print_46 rfl ?_
    refine r_aload_n (pc := 47) dX4_print_47 rfl 1 rfl ?_
    refine r_get (pc := 48) (j := 1) (v := .ref 4) oA2 cf4 flRX4_22 rfl dX4_print_48 rfl ?_
    refine r_bipush (pc := 51) dX4_print_51 kb_44 ?_
    replace h := lt_e h; obtain ⟨w8, ew8, h⟩ := h
    refine r_cVv (pc := 53) wyX9_need oA4 rfl mlRX4_170 iyX9_need syX9_need ⟨(Nat.le_of_ble_eq_true rfl), (Nat.le_of_ble_eq_true rfl)⟩ rfl rfl (Nat.le_of_ble_eq_true rfl) dX4_print_53 (mX9_need ew8 (pV.mk ?_))
    refine r_aload_n (pc := 56) dX4_print_56 rfl 1 rfl ?_
    refine r_get (pc := 57) (j := 5) (v := .ref 40) oA2 cf4 flRX4_42 rfl dX4_print_57 rfl ?_
    refine r_bipush (pc := 60) dX4_print_60 kb_28 ?_
    replace h := lt2_e h; obtain ⟨x9, w10, ew10, h⟩ := h
    refine r_cVi (pc := 62) wyX0_put__ oA40 rfl mlRX4_108 iyX0_put__ syX0_put__ ⟨(Nat.le_of_ble_eq_true rfl), (Nat.le_of_ble_eq_true rfl)⟩ rfl rfl (Nat.le_of_ble_eq_true rfl) dX4_print_62 (mX0_put__ ew10 (pI.mk ?_))
    refine r_pop (pc := 65) dX4_print_65 rfl ?_
    exact rO_v (pc := 66) rfl dX4_print_66 h hN
  replace h := if_f hc3 h
  refine r_aload_n (pc := 21) dX4_print_21 rfl 0 rfl ?_
  refine r_get (pc := 22) (j := 1) (v := .ref 4) oA2 cf4 flRX4_22 rfl dX4_print_22 rfl ?_
  replace h := lt_e h; obtain ⟨w11, ew11, h⟩ := h
  refine r_cVv (pc := 25) wyX9_fail oA4 rfl mlRX4_103 iyX9_fail syX9_fail ⟨(Nat.le_of_ble_eq_true rfl), (Nat.le_of_ble_eq_true rfl)⟩ rfl rfl (Nat.le_of_ble_eq_true rfl) dX4_print_25 (mX9_fail ew11 (pV.mk ?_))
  exact rO_v (pc := 28) rfl dX4_print_28 h hN
theorem mX4_print {q : Gq} {l : Launch} {N : Option Value → Wd → Prop} {X : String → Wd → Prop} {a1 : Int32} {w : Wd} {u : Wd} (h : fX4_print a1 w = some u) (hN : N none u) : Ct (GA q) l 909 yX4_print cX4_print 3 (none) [.ref 2, .int a1] w N X := Ct.of (by decide) (Nat.le_of_ble_eq_true rfl) (pX4_print hN h)
/-! AlgolMill$Maker.body (II)I: S, 4 -/
theorem dX4_body_0 : decode cX4_body 0 = .ok (.aload_n 0, 1) := by decide +kernel
theorem dX4_body_1 : decode cX4_body 1 = .ok (.getfield 42, 3) := by decide +kernel
theorem dX4_body_4 : decode cX4_body 4 = .ok (.bipush 37, 2) := by decide +kernel
theorem dX4_body_6 : decode cX4_body 6 = .ok (.iload_n 1, 1) := by decide +kernel
theorem dX4_body_7 : decode cX4_body 7 = .ok (.invokevirtual 156, 3) := by decide +kernel
theorem dX4_body_10 : decode cX4_body 10 = .ok (.pop, 1) := by decide +kernel
theorem dX4_body_11 : decode cX4_body 11 = .ok (.aload_n 0, 1) := by decide +kernel
theorem dX4_body_12 : decode cX4_body 12 = .ok (.getfield 42, 3) := by decide +kernel
theorem dX4_body_15 : decode cX4_body 15 = .ok (.bipush 33, 2) := by decide +kernel
theorem dX4_body_17 : decode cX4_body 17 = .ok (.iload_n 2, 1) := by decide +kernel
theorem dX4_body_18 : decode cX4_body 18 = .ok (.invokevirtual 156, 3) := by decide +kernel
theorem dX4_body_21 : decode cX4_body 21 = .ok (.ireturn, 1) := by decide +kernel
def fX4_body (a1 : Int32) (a2 : Int32) (w : Wd) : Int32 × Wd :=
  lt2 (fX0_put_ 37 a1 w) fun x1 w2 => lt2 (fX0_put_ 33 a2 w2) fun x3 w4 => (x3, w4)
theorem pX4_body {q : Gq} {l : Launch} {N : Option Value → Wd → Prop} {X : String → Wd → Prop} {w : Wd} {R : Int32 × Wd} (hN : N (some (.int R.1)) R.2) {a1 : Int32} {a2 : Int32} (h : fX4_body a1 a2 w = R) : RT (GA q) l 4 yX4_body cX4_body 3 ((some .int)) N X 0 [] [(0, .ref 2), (1, .int a1), (2, .int a2)] w := by
  unfold fX4_body at h
  refine r_aload_n (pc := 0) dX4_body_0 rfl 0 rfl ?_
  refine r_get (pc := 1) (j := 5) (v := .ref 40) oA2 cf4 flRX4_42 rfl dX4_body_1 rfl ?_
  refine r_bipush (pc := 4) dX4_body_4 kb_37 ?_
  refine r_iload_n (pc := 6) dX4_body_6 rfl 1 rfl ?_
  replace h := lt2_e h; obtain ⟨x1, w2, ew2, h⟩ := h
  refine r_cVi (pc := 7) wyX0_put_ oA40 rfl mlRX4_156 iyX0_put_ syX0_put_ ⟨(Nat.le_of_ble_eq_true rfl), (Nat.le_of_ble_eq_true rfl)⟩ rfl rfl (Nat.le_of_ble_eq_true rfl) dX4_body_7 (mX0_put_ ew2 (pI.mk ?_))
  refine r_pop (pc := 10) dX4_body_10 rfl ?_
  refine r_aload_n (pc := 11) dX4_body_11 rfl 0 rfl ?_
  refine r_get (pc := 12) (j := 5) (v := .ref 40) oA2 cf4 flRX4_42 rfl dX4_body_12 rfl ?_
  refine r_bipush (pc := 15) dX4_body_15 kb_33 ?_
  refine r_iload_n (pc := 17) dX4_body_17 rfl 2 rfl ?_
  replace h := lt2_e h; obtain ⟨x3, w4, ew4, h⟩ := h
  refine r_cVi (pc := 18) wyX0_put_ oA40 rfl mlRX4_156 iyX0_put_ syX0_put_ ⟨(Nat.le_of_ble_eq_true rfl), (Nat.le_of_ble_eq_true rfl)⟩ rfl rfl (Nat.le_of_ble_eq_true rfl) dX4_body_18 (mX0_put_ ew4 (pI.mk ?_))
  exact rS_i (pc := 21) rfl dX4_body_21 h hN
theorem mX4_body {q : Gq} {l : Launch} {N : Option Value → Wd → Prop} {X : String → Wd → Prop} {a1 : Int32} {a2 : Int32} {w : Wd} {x : Int32} {u : Wd} (h : fX4_body a1 a2 w = (x, u)) (hN : N (some (.int x)) u) : Ct (GA q) l 4 yX4_body cX4_body 3 ((some .int)) [.ref 2, .int a1, .int a2] w N X := Ct.of (by decide) (Nat.le_of_ble_eq_true rfl) (pX4_body hN h)
/-! AlgolMill$Maker.stepping (IIII)I: O, 909 -/
theorem dX4_stepping_0 : decode cX4_stepping 0 = .ok (.aload_n 0, 1) := by decide +kernel
theorem dX4_stepping_1 : decode cX4_stepping 1 = .ok (.getfield 42, 3) := by decide +kernel
theorem dX4_stepping_4 : decode cX4_stepping 4 = .ok (.bipush 33, 2) := by decide +kernel
theorem dX4_stepping_6 : decode cX4_stepping 6 = .ok (.invokevirtual 108, 3) := by decide +kernel
theorem dX4_stepping_9 : decode cX4_stepping 9 = .ok (.istore 5, 2) := by decide +kernel
theorem dX4_stepping_11 : decode cX4_stepping 11 = .ok (.aload_n 0, 1) := by decide +kernel
theorem dX4_stepping_12 : decode cX4_stepping 12 = .ok (.getfield 42, 3) := by decide +kernel
theorem dX4_stepping_15 : decode cX4_stepping 15 = .ok (.invokevirtual 256, 3) := by decide +kernel
theorem dX4_stepping_18 : decode cX4_stepping 18 = .ok (.istore 6, 2) := by decide +kernel
theorem dX4_stepping_20 : decode cX4_stepping 20 = .ok (.aload_n 0, 1) := by decide +kernel
theorem dX4_stepping_21 : decode cX4_stepping 21 = .ok (.getfield 48, 3) := by decide +kernel
theorem dX4_stepping_24 : decode cX4_stepping 24 = .ok (.iload_n 1, 1) := by decide +kernel
theorem dX4_stepping_25 : decode cX4_stepping 25 = .ok (.iconst 1, 1) := by decide +kernel
theorem dX4_stepping_26 : decode cX4_stepping 26 = .ok (.invokevirtual 247, 3) := by decide +kernel
theorem dX4_stepping_29 : decode cX4_stepping 29 = .ok (.aload_n 0, 1) := by decide +kernel
theorem dX4_stepping_30 : decode cX4_stepping 30 = .ok (.getfield 42, 3) := by decide +kernel
theorem dX4_stepping_33 : decode cX4_stepping 33 = .ok (.bipush 36, 2) := by decide +kernel
theorem dX4_stepping_35 : decode cX4_stepping 35 = .ok (.invokevirtual 108, 3) := by decide +kernel
theorem dX4_stepping_38 : decode cX4_stepping 38 = .ok (.pop, 1) := by decide +kernel
theorem dX4_stepping_39 : decode cX4_stepping 39 = .ok (.aload_n 0, 1) := by decide +kernel
theorem dX4_stepping_40 : decode cX4_stepping 40 = .ok (.getfield 22, 3) := by decide +kernel
theorem dX4_stepping_43 : decode cX4_stepping 43 = .ok (.bipush 21, 2) := by decide +kernel
theorem dX4_stepping_45 : decode cX4_stepping 45 = .ok (.invokevirtual 170, 3) := by decide +kernel
theorem dX4_stepping_48 : decode cX4_stepping 48 = .ok (.aload_n 0, 1) := by decide +kernel
theorem dX4_stepping_49 : decode cX4_stepping 49 = .ok (.getfield 42, 3) := by decide +kernel
theorem dX4_stepping_52 : decode cX4_stepping 52 = .ok (.invokevirtual 256, 3) := by decide +kernel
theorem dX4_stepping_55 : decode cX4_stepping 55 = .ok (.istore 7, 2) := by decide +kernel
theorem dX4_stepping_57 : decode cX4_stepping 57 = .ok (.aload_n 0, 1) := by decide +kernel
theorem dX4_stepping_58 : decode cX4_stepping 58 = .ok (.getfield 42, 3) := by decide +kernel
theorem dX4_stepping_61 : decode cX4_stepping 61 = .ok (.iload 5, 2) := by decide +kernel
theorem dX4_stepping_63 : decode cX4_stepping 63 = .ok (.invokevirtual 259, 3) := by decide +kernel
theorem dX4_stepping_66 : decode cX4_stepping 66 = .ok (.pop, 1) := by decide +kernel
theorem dX4_stepping_67 : decode cX4_stepping 67 = .ok (.aload_n 0, 1) := by decide +kernel
theorem dX4_stepping_68 : decode cX4_stepping 68 = .ok (.getfield 42, 3) := by decide +kernel
theorem dX4_stepping_71 : decode cX4_stepping 71 = .ok (.bipush 35, 2) := by decide +kernel
theorem dX4_stepping_73 : decode cX4_stepping 73 = .ok (.iload 6, 2) := by decide +kernel
theorem dX4_stepping_75 : decode cX4_stepping 75 = .ok (.invokevirtual 156, 3) := by decide +kernel
theorem dX4_stepping_78 : decode cX4_stepping 78 = .ok (.pop, 1) := by decide +kernel
theorem dX4_stepping_79 : decode cX4_stepping 79 = .ok (.aload_n 0, 1) := by decide +kernel
theorem dX4_stepping_80 : decode cX4_stepping 80 = .ok (.getfield 42, 3) := by decide +kernel
theorem dX4_stepping_83 : decode cX4_stepping 83 = .ok (.bipush 35, 2) := by decide +kernel
theorem dX4_stepping_85 : decode cX4_stepping 85 = .ok (.iload_n 2, 1) := by decide +kernel
theorem dX4_stepping_86 : decode cX4_stepping 86 = .ok (.invokevirtual 156, 3) := by decide +kernel
theorem dX4_stepping_89 : decode cX4_stepping 89 = .ok (.pop, 1) := by decide +kernel
theorem dX4_stepping_90 : decode cX4_stepping 90 = .ok (.aload_n 0, 1) := by decide +kernel
theorem dX4_stepping_91 : decode cX4_stepping 91 = .ok (.getfield 42, 3) := by decide +kernel
theorem dX4_stepping_94 : decode cX4_stepping 94 = .ok (.bipush 24, 2) := by decide +kernel
theorem dX4_stepping_96 : decode cX4_stepping 96 = .ok (.invokevirtual 108, 3) := by decide +kernel
theorem dX4_stepping_99 : decode cX4_stepping 99 = .ok (.pop, 1) := by decide +kernel
theorem dX4_stepping_100 : decode cX4_stepping 100 = .ok (.aload_n 0, 1) := by decide +kernel
theorem dX4_stepping_101 : decode cX4_stepping 101 = .ok (.getfield 48, 3) := by decide +kernel
theorem dX4_stepping_104 : decode cX4_stepping 104 = .ok (.iload_n 1, 1) := by decide +kernel
theorem dX4_stepping_105 : decode cX4_stepping 105 = .ok (.iconst 1, 1) := by decide +kernel
theorem dX4_stepping_106 : decode cX4_stepping 106 = .ok (.invokevirtual 247, 3) := by decide +kernel
theorem dX4_stepping_109 : decode cX4_stepping 109 = .ok (.aload_n 0, 1) := by decide +kernel
theorem dX4_stepping_110 : decode cX4_stepping 110 = .ok (.getfield 42, 3) := by decide +kernel
theorem dX4_stepping_113 : decode cX4_stepping 113 = .ok (.bipush 39, 2) := by decide +kernel
theorem dX4_stepping_115 : decode cX4_stepping 115 = .ok (.invokevirtual 108, 3) := by decide +kernel
theorem dX4_stepping_118 : decode cX4_stepping 118 = .ok (.pop, 1) := by decide +kernel
theorem dX4_stepping_119 : decode cX4_stepping 119 = .ok (.aload_n 0, 1) := by decide +kernel
theorem dX4_stepping_120 : decode cX4_stepping 120 = .ok (.getfield 42, 3) := by decide +kernel
theorem dX4_stepping_123 : decode cX4_stepping 123 = .ok (.bipush 34, 2) := by decide +kernel
theorem dX4_stepping_125 : decode cX4_stepping 125 = .ok (.invokevirtual 108, 3) := by decide +kernel
theorem dX4_stepping_128 : decode cX4_stepping 128 = .ok (.istore 8, 2) := by decide +kernel
theorem dX4_stepping_130 : decode cX4_stepping 130 = .ok (.aload_n 0, 1) := by decide +kernel
theorem dX4_stepping_131 : decode cX4_stepping 131 = .ok (.iload_n 3, 1) := by decide +kernel
theorem dX4_stepping_132 : decode cX4_stepping 132 = .ok (.iload 4, 2) := by decide +kernel
theorem dX4_stepping_134 : decode cX4_stepping 134 = .ok (.invokevirtual 390, 3) := by decide +kernel
theorem dX4_stepping_137 : decode cX4_stepping 137 = .ok (.istore 9, 2) := by decide +kernel
theorem dX4_stepping_139 : decode cX4_stepping 139 = .ok (.aload_n 0, 1) := by decide +kernel
theorem dX4_stepping_140 : decode cX4_stepping 140 = .ok (.getfield 42, 3) := by decide +kernel
theorem dX4_stepping_143 : decode cX4_stepping 143 = .ok (.bipush 40, 2) := by decide +kernel
theorem dX4_stepping_145 : decode cX4_stepping 145 = .ok (.invokevirtual 108, 3) := by decide +kernel
theorem dX4_stepping_148 : decode cX4_stepping 148 = .ok (.pop, 1) := by decide +kernel
theorem dX4_stepping_149 : decode cX4_stepping 149 = .ok (.aload_n 0, 1) := by decide +kernel
theorem dX4_stepping_150 : decode cX4_stepping 150 = .ok (.getfield 42, 3) := by decide +kernel
theorem dX4_stepping_153 : decode cX4_stepping 153 = .ok (.bipush 35, 2) := by decide +kernel
theorem dX4_stepping_155 : decode cX4_stepping 155 = .ok (.iload_n 2, 1) := by decide +kernel
theorem dX4_stepping_156 : decode cX4_stepping 156 = .ok (.invokevirtual 156, 3) := by decide +kernel
theorem dX4_stepping_159 : decode cX4_stepping 159 = .ok (.pop, 1) := by decide +kernel
theorem dX4_stepping_160 : decode cX4_stepping 160 = .ok (.aload_n 0, 1) := by decide +kernel
theorem dX4_stepping_161 : decode cX4_stepping 161 = .ok (.getfield 42, 3) := by decide +kernel
theorem dX4_stepping_164 : decode cX4_stepping 164 = .ok (.bipush 35, 2) := by decide +kernel
theorem dX4_stepping_166 : decode cX4_stepping 166 = .ok (.iload_n 2, 1) := by decide +kernel
theorem dX4_stepping_167 : decode cX4_stepping 167 = .ok (.invokevirtual 156, 3) := by decide +kernel
theorem dX4_stepping_170 : decode cX4_stepping 170 = .ok (.pop, 1) := by decide +kernel
theorem dX4_stepping_171 : decode cX4_stepping 171 = .ok (.aload_n 0, 1) := by decide +kernel
theorem dX4_stepping_172 : decode cX4_stepping 172 = .ok (.getfield 42, 3) := by decide +kernel
theorem dX4_stepping_175 : decode cX4_stepping 175 = .ok (.bipush 24, 2) := by decide +kernel
theorem dX4_stepping_177 : decode cX4_stepping 177 = .ok (.invokevirtual 108, 3) := by decide +kernel
theorem dX4_stepping_180 : decode cX4_stepping 180 = .ok (.pop, 1) := by decide +kernel
theorem dX4_stepping_181 : decode cX4_stepping 181 = .ok (.aload_n 0, 1) := by decide +kernel
theorem dX4_stepping_182 : decode cX4_stepping 182 = .ok (.getfield 42, 3) := by decide +kernel
theorem dX4_stepping_185 : decode cX4_stepping 185 = .ok (.bipush 35, 2) := by decide +kernel
theorem dX4_stepping_187 : decode cX4_stepping 187 = .ok (.iload 6, 2) := by decide +kernel
theorem dX4_stepping_189 : decode cX4_stepping 189 = .ok (.invokevirtual 156, 3) := by decide +kernel
theorem dX4_stepping_192 : decode cX4_stepping 192 = .ok (.pop, 1) := by decide +kernel
theorem dX4_stepping_193 : decode cX4_stepping 193 = .ok (.aload_n 0, 1) := by decide +kernel
theorem dX4_stepping_194 : decode cX4_stepping 194 = .ok (.getfield 42, 3) := by decide +kernel
theorem dX4_stepping_197 : decode cX4_stepping 197 = .ok (.iconst 1, 1) := by decide +kernel
theorem dX4_stepping_198 : decode cX4_stepping 198 = .ok (.invokevirtual 108, 3) := by decide +kernel
theorem dX4_stepping_201 : decode cX4_stepping 201 = .ok (.pop, 1) := by decide +kernel
theorem dX4_stepping_202 : decode cX4_stepping 202 = .ok (.aload_n 0, 1) := by decide +kernel
theorem dX4_stepping_203 : decode cX4_stepping 203 = .ok (.getfield 42, 3) := by decide +kernel
theorem dX4_stepping_206 : decode cX4_stepping 206 = .ok (.bipush 26, 2) := by decide +kernel
theorem dX4_stepping_208 : decode cX4_stepping 208 = .ok (.iconst 1, 1) := by decide +kernel
theorem dX4_stepping_209 : decode cX4_stepping 209 = .ok (.invokevirtual 156, 3) := by decide +kernel
theorem dX4_stepping_212 : decode cX4_stepping 212 = .ok (.pop, 1) := by decide +kernel
theorem dX4_stepping_213 : decode cX4_stepping 213 = .ok (.aload_n 0, 1) := by decide +kernel
theorem dX4_stepping_214 : decode cX4_stepping 214 = .ok (.getfield 42, 3) := by decide +kernel
theorem dX4_stepping_217 : decode cX4_stepping 217 = .ok (.bipush 33, 2) := by decide +kernel
theorem dX4_stepping_219 : decode cX4_stepping 219 = .ok (.iload 7, 2) := by decide +kernel
theorem dX4_stepping_221 : decode cX4_stepping 221 = .ok (.invokevirtual 156, 3) := by decide +kernel
theorem dX4_stepping_224 : decode cX4_stepping 224 = .ok (.pop, 1) := by decide +kernel
theorem dX4_stepping_225 : decode cX4_stepping 225 = .ok (.aload_n 0, 1) := by decide +kernel
theorem dX4_stepping_226 : decode cX4_stepping 226 = .ok (.getfield 42, 3) := by decide +kernel
theorem dX4_stepping_229 : decode cX4_stepping 229 = .ok (.iload 8, 2) := by decide +kernel
theorem dX4_stepping_231 : decode cX4_stepping 231 = .ok (.invokevirtual 259, 3) := by decide +kernel
theorem dX4_stepping_234 : decode cX4_stepping 234 = .ok (.pop, 1) := by decide +kernel
theorem dX4_stepping_235 : decode cX4_stepping 235 = .ok (.iload 9, 2) := by decide +kernel
theorem dX4_stepping_237 : decode cX4_stepping 237 = .ok (.ireturn, 1) := by decide +kernel
def fX4_stepping (a1 : Int32) (a2 : Int32) (a3 : Int32) (a4 : Int32) (w : Wd) : Option (Int32 × Wd) :=
  lt2 (fX0_put__ 33 w) fun x1 w2 => lt (fX0_here w2) fun x3 => bn2 (RX2_typed 900 0 a1 1 0 w2) fun _ w5 => lt2 (fX0_put__ 36 w5) fun x6 w7 => lt (fX9_need 21 w7) fun w8 => lt (fX0_here w8) fun x9 => lt2 (fX0_patch x1 w8) fun x10 w11 => lt2 (fX0_put_ 35 x3 w11) fun x12 w13 => lt2 (fX0_put_ 35 a2 w13) fun x14 w15 => lt2 (fX0_put__ 24 w15) fun x16 w17 => bn2 (RX2_typed 900 0 a1 1 0 w17) fun _ w19 => lt2 (fX0_put__ 39 w19) fun x20 w21 => lt2 (fX0_put__ 34 w21) fun x22 w23 => lt2 (fX4_body a3 a4 w23) fun x24 w25 => lt2 (fX0_put__ 40 w25) fun x26 w27 => lt2 (fX0_put_ 35 a2 w27) fun x28 w29 => lt2 (fX0_put_ 35 a2 w29) fun x30 w31 => lt2 (fX0_put__ 24 w31) fun x32 w33 => lt2 (fX0_put_ 35 x3 w33) fun x34 w35 => lt2 (fX0_put__ 1 w35) fun x36 w37 => lt2 (fX0_put_ 26 1 w37) fun x38 w39 => lt2 (fX0_put_ 33 x9 w39) fun x40 w41 => lt2 (fX0_patch x22 w41) fun x42 w43 => some (x24, w43)
set_option maxHeartbeats 16000000 in
theorem pX4_stepping {q : Gq} {l : Launch} {N : Option Value → Wd → Prop} {X : String → Wd → Prop} {w : Wd} {R : Int32 × Wd} (hN : N (some (.int R.1)) R.2) {a1 : Int32} {a2 : Int32} {a3 : Int32} {a4 : Int32} (h : fX4_stepping a1 a2 a3 a4 w = some R) : RT (GA q) l 909 yX4_stepping cX4_stepping 10 ((some .int)) N X 0 [] [(0, .ref 2), (1, .int a1), (2, .int a2), (3, .int a3), (4, .int a4)] w := by
  unfold fX4_stepping at h
  refine r_aload_n (pc := 0) dX4_stepping_0 rfl 0 rfl ?_
  refine r_get (pc := 1) (j := 5) (v := .ref 40) oA2 cf4 flRX4_42 rfl dX4_stepping_1 rfl ?_
  refine r_bipush (pc := 4) dX4_stepping_4 kb_33 ?_
  replace h := lt2_e h; obtain ⟨x1, w2, ew2, h⟩ := h
  refine r_cVi (pc := 6) wyX0_put__ oA40 rfl mlRX4_108 iyX0_put__ syX0_put__ ⟨(Nat.le_of_ble_eq_true rfl), (Nat.le_of_ble_eq_true rfl)⟩ rfl rfl (Nat.le_of_ble_eq_true rfl) dX4_stepping_6 (mX0_put__ ew2 (pI.mk ?_))
  refine r_istore (pc := 9) (loc' := [(5, .int x1), (0, .ref 2), (1, .int a1), (2, .int a2), (3, .int a3), (4, .int a4)]) dX4_stepping_9 (Nat.le_of_ble_eq_true rfl) rfl ?_
  refine r_aload_n (pc := 11) dX4_stepping_11 rfl 1 rfl ?_
  refine r_get (pc := 12) (j := 5) (v := .ref 40) oA2 cf4 flRX4_42 rfl dX4_stepping_12 rfl ?_
  replace h := lt_e h; obtain ⟨x3, ex3, h⟩ := h
  refine r_cVi (pc := 15) wyX0_here oA40 rfl mlRX4_256 iyX0_here syX0_here ⟨(Nat.le_of_ble_eq_true rfl), (Nat.le_of_ble_eq_true rfl)⟩ rfl rfl (Nat.le_of_ble_eq_true rfl) dX4_stepping_15 (mX0_here ex3 (pI.mk ?_))
  refine r_istore (pc := 18) (loc' := [(6, .int x3), (5, .int x1), (0, .ref 2), (1, .int a1), (2, .int a2), (3, .int a3), (4, .int a4)]) dX4_stepping_18 (Nat.le_of_ble_eq_true rfl) rfl ?_
  refine r_aload_n (pc := 20) dX4_stepping_20 rfl 2 rfl ?_
  refine r_get (pc := 21) (j := 6) (v := .ref 42) oA2 cf4 flRX4_48 rfl dX4_stepping_21 rfl ?_
  refine r_iload_n (pc := 24) dX4_stepping_24 rfl 3 rfl ?_
  refine r_iconst (pc := 25) dX4_stepping_25 ki_1 ?_
  replace h := bn2_e h; obtain ⟨x4, w5, ew5, h⟩ := h
  refine r_cVv (pc := 26) wyX2_typed oA42 rfl mlRX4_247 iyX2_typed syX2_typed ⟨(Nat.le_of_ble_eq_true rfl), (Nat.le_of_ble_eq_true rfl)⟩ rfl rfl (Nat.le_of_ble_eq_true rfl) dX4_stepping_26 (mX2_typed ew5 (pV.mk ?_))
  refine r_aload_n (pc := 29) dX4_stepping_29 rfl 2 rfl ?_
  refine r_get (pc := 30) (j := 5) (v := .ref 40) oA2 cf4 flRX4_42 rfl dX4_stepping_30 rfl ?_
  refine r_bipush (pc := 33) dX4_stepping_33 kb_36 ?_
  replace h := lt2_e h; obtain ⟨x6, w7, ew7, h⟩ := h
  refine r_cVi (pc := 35) wyX0_put__ oA40 rfl mlRX4_108 iyX0_put__ syX0_put__ ⟨(Nat.le_of_ble_eq_true rfl), (Nat.le_of_ble_eq_true rfl)⟩ rfl rfl (Nat.le_of_ble_eq_true rfl) dX4_stepping_35 (mX0_put__ ew7 (pI.mk ?_))
  refine r_pop (pc := 38) dX4_stepping_38 rfl ?_
  refine r_aload_n (pc := 39) dX4_stepping_39 rfl 2 rfl ?_
  refine r_get (pc := 40) (j := 1) (v := .ref 4) oA2 cf4 flRX4_22 rfl dX4_stepping_40 rfl ?_
  refine r_bipush (pc := 43) dX4_stepping_43 kb_21 ?_
  replace h := lt_e h; obtain ⟨w8, ew8, h⟩ := h
  refine r_cVv (pc := 45) wyX9_need oA4 rfl mlRX4_170 iyX9_need syX9_need ⟨(Nat.le_of_ble_eq_true rfl), (Nat.le_of_ble_eq_true rfl)⟩ rfl rfl (Nat.le_of_ble_eq_true rfl) dX4_stepping_45 (mX9_need ew8 (pV.mk ?_))
  refine r_aload_n (pc := 48) dX4_stepping_48 rfl 2 rfl ?_
  refine r_get (pc := 49) (j := 5) (v := .ref 40) oA2 cf4 flRX4_42 rfl dX4_stepping_49 rfl ?_
  replace h := lt_e h; obtain ⟨x9, ex9, h⟩ := h
  refine r_cVi (pc := 52) wyX0_here oA40 rfl mlRX4_256 iyX0_here syX0_here ⟨(Nat.le_of_ble_eq_true rfl), (Nat.le_of_ble_eq_true rfl)⟩ rfl rfl (Nat.le_of_ble_eq_true rfl) dX4_stepping_52 (mX0_here ex9 (pI.mk ?_))
  refine r_istore (pc := 55) (loc' := [(7, .int x9), (6, .int x3), (5, .int x1), (0, .ref 2), (1, .int a1), (2, .int a2), (3, .int a3), (4, .int a4)]) dX4_stepping_55 (Nat.le_of_ble_eq_true rfl) rfl ?_
  refine r_aload_n (pc := 57) dX4_stepping_57 rfl 3 rfl ?_
  refine r_get (pc := 58) (j := 5) (v := .ref 40) oA2 cf4 flRX4_42 rfl dX4_stepping_58 rfl ?_
  refine r_iload (pc := 61) dX4_stepping_61 2 rfl ?_
  replace h := lt2_e h; obtain ⟨x10, w11, ew11, h⟩ := h
  refine r_cVi (pc := 63) wyX0_patch oA40 rfl mlRX4_259 iyX0_patch syX0_patch ⟨(Nat.le_of_ble_eq_true rfl), (Nat.le_of_ble_eq_true rfl)⟩ rfl rfl (Nat.le_of_ble_eq_true rfl) dX4_stepping_63 (mX0_patch ew11 (pI.mk ?_))
  refine r_pop (pc := 66) dX4_stepping_66 rfl ?_
  refine r_aload_n (pc := 67) dX4_stepping_67 rfl 3 rfl ?_
  refine r_get (pc := 68) (j := 5) (v := .ref 40) oA2 cf4 flRX4_42 rfl dX4_stepping_68 rfl ?_
  refine r_bipush (pc := 71) dX4_stepping_71 kb_35 ?_
  refine r_iload (pc := 73) dX4_stepping_73 1 rfl ?_
  replace h := lt2_e h; obtain ⟨x12, w13, ew13, h⟩ := h
  refine r_cVi (pc := 75) wyX0_put_ oA40 rfl mlRX4_156 iyX0_put_ syX0_put_ ⟨(Nat.le_of_ble_eq_true rfl), (Nat.le_of_ble_eq_true rfl)⟩ rfl rfl (Nat.le_of_ble_eq_true rfl) dX4_stepping_75 (mX0_put_ ew13 (pI.mk ?_))
  refine r_pop (pc := 78) dX4_stepping_78 rfl ?_
  refine r_aload_n (pc := 79) dX4_stepping_79 rfl 3 rfl ?_
  refine r_get (pc := 80) (j := 5) (v := .ref 40) oA2 cf4 flRX4_42 rfl dX4_stepping_80 rfl ?_
  refine r_bipush (pc := 83) dX4_stepping_83 kb_35 ?_
  refine r_iload_n (pc := 85) dX4_stepping_85 rfl 5 rfl ?_
  replace h := lt2_e h; obtain ⟨x14, w15, ew15, h⟩ := h
  refine r_cVi (pc := 86) wyX0_put_ oA40 rfl mlRX4_156 iyX0_put_ syX0_put_ ⟨(Nat.le_of_ble_eq_true rfl), (Nat.le_of_ble_eq_true rfl)⟩ rfl rfl (Nat.le_of_ble_eq_true rfl) dX4_stepping_86 (mX0_put_ ew15 (pI.mk ?_))
  refine r_pop (pc := 89) dX4_stepping_89 rfl ?_
  refine r_aload_n (pc := 90) dX4_stepping_90 rfl 3 rfl ?_
  refine r_get (pc := 91) (j := 5) (v := .ref 40) oA2 cf4 flRX4_42 rfl dX4_stepping_91 rfl ?_
  refine r_bipush (pc := 94) dX4_stepping_94 kb_24 ?_
  replace h := lt2_e h; obtain ⟨x16, w17, ew17, h⟩ := h
  refine r_cVi (pc := 96) wyX0_put__ oA40 rfl mlRX4_108 iyX0_put__ syX0_put__ ⟨(Nat.le_of_ble_eq_true rfl), (Nat.le_of_ble_eq_true rfl)⟩ rfl rfl (Nat.le_of_ble_eq_true rfl) dX4_stepping_96 (mX0_put__ ew17 (pI.mk ?_))
  refine r_pop (pc := 99) dX4_stepping_99 rfl ?_
  refine r_aload_n (pc := 100) dX4_stepping_100 rfl 3 rfl ?_
  refine r_get (pc := 101) (j := 6) (v := .ref 42) oA2 cf4 flRX4_48 rfl dX4_stepping_101 rfl ?_
  refine r_iload_n (pc := 104) dX4_stepping_104 rfl 4 rfl ?_
  refine r_iconst (pc := 105) dX4_stepping_105 ki_1 ?_
  replace h := bn2_e h; obtain ⟨x18, w19, ew19, h⟩ := h
  refine r_cVv (pc := 106) wyX2_typed oA42 rfl mlRX4_247 iyX2_typed syX2_typed ⟨(Nat.le_of_ble_eq_true rfl), (Nat.le_of_ble_eq_true rfl)⟩ rfl rfl (Nat.le_of_ble_eq_true rfl) dX4_stepping_106 (mX2_typed ew19 (pV.mk ?_))
  refine r_aload_n (pc := 109) dX4_stepping_109 rfl 3 rfl ?_
  refine r_get (pc := 110) (j := 5) (v := .ref 40) oA2 cf4 flRX4_42 rfl dX4_stepping_110 rfl ?_
  refine r_bipush (pc := 113) dX4_stepping_113 kb_39 ?_
  replace h := lt2_e h; obtain ⟨x20, w21, ew21, h⟩ := h
  refine r_cVi (pc := 115) wyX0_put__ oA40 rfl mlRX4_108 iyX0_put__ syX0_put__ ⟨(Nat.le_of_ble_eq_true rfl), (Nat.le_of_ble_eq_true rfl)⟩ rfl rfl (Nat.le_of_ble_eq_true rfl) dX4_stepping_115 (mX0_put__ ew21 (pI.mk ?_))
  refine r_pop (pc := 118) dX4_stepping_118 rfl ?_
  refine r_aload_n (pc := 119) dX4_stepping_119 rfl 3 rfl ?_
  refine r_get (pc := 120) (j := 5) (v := .ref 40) oA2 cf4 flRX4_42 rfl dX4_stepping_120 rfl ?_
  refine r_bipush (pc := 123) dX4_stepping_123 kb_34 ?_
  replace h := lt2_e h; obtain ⟨x22, w23, ew23, h⟩ := h
  refine r_cVi (pc := 125) wyX0_put__ oA40 rfl mlRX4_108 iyX0_put__ syX0_put__ ⟨(Nat.le_of_ble_eq_true rfl), (Nat.le_of_ble_eq_true rfl)⟩ rfl rfl (Nat.le_of_ble_eq_true rfl) dX4_stepping_125 (mX0_put__ ew23 (pI.mk ?_))
  refine r_istore (pc := 128) (loc' := [(8, .int x22), (7, .int x9), (6, .int x3), (5, .int x1), (0, .ref 2), (1, .int a1), (2, .int a2), (3, .int a3), (4, .int a4)]) dX4_stepping_128 (Nat.le_of_ble_eq_true rfl) rfl ?_
  refine r_aload_n (pc := 130) dX4_stepping_130 rfl 4 rfl ?_
  refine r_iload_n (pc := 131) dX4_stepping_131 rfl 7 rfl ?_
  refine r_iload (pc := 132) dX4_stepping_132 8 rfl ?_
  replace h := lt2_e h; obtain ⟨x24, w25, ew25, h⟩ := h
  refine r_cVi (pc := 134) wyX4_body oA2 rfl mlRX4_390 iyX4_body syX4_body ⟨(Nat.le_of_ble_eq_true rfl), (Nat.le_of_ble_eq_true rfl)⟩ rfl rfl (Nat.le_of_ble_eq_true rfl) dX4_stepping_134 (mX4_body ew25 (pI.mk ?_))
  refine r_istore (pc := 137) (loc' := [(9, .int x24), (8, .int x22), (7, .int x9), (6, .int x3), (5, .int x1), (0, .ref 2), (1, .int a1), (2, .int a2), (3, .int a3), (4, .int a4)]) dX4_stepping_137 (Nat.le_of_ble_eq_true rfl) rfl ?_
  refine r_aload_n (pc := 139) dX4_stepping_139 rfl 5 rfl ?_
  refine r_get (pc := 140) (j := 5) (v := .ref 40) oA2 cf4 flRX4_42 rfl dX4_stepping_140 rfl ?_
  refine r_bipush (pc := 143) dX4_stepping_143 kb_40 ?_
  replace h := lt2_e h; obtain ⟨x26, w27, ew27, h⟩ := h
  refine r_cVi (pc := 145) wyX0_put__ oA40 rfl mlRX4_108 iyX0_put__ syX0_put__ ⟨(Nat.le_of_ble_eq_true rfl), (Nat.le_of_ble_eq_true rfl)⟩ rfl rfl (Nat.le_of_ble_eq_true rfl) dX4_stepping_145 (mX0_put__ ew27 (pI.mk ?_))
  refine r_pop (pc := 148) dX4_stepping_148 rfl ?_
  refine r_aload_n (pc := 149) dX4_stepping_149 rfl 5 rfl ?_
  refine r_get (pc := 150) (j := 5) (v := .ref 40) oA2 cf4 flRX4_42 rfl dX4_stepping_150 rfl ?_
  refine r_bipush (pc := 153) dX4_stepping_153 kb_35 ?_
  refine r_iload_n (pc := 155) dX4_stepping_155 rfl 7 rfl ?_
  replace h := lt2_e h; obtain ⟨x28, w29, ew29, h⟩ := h
  refine r_cVi (pc := 156) wyX0_put_ oA40 rfl mlRX4_156 iyX0_put_ syX0_put_ ⟨(Nat.le_of_ble_eq_true rfl), (Nat.le_of_ble_eq_true rfl)⟩ rfl rfl (Nat.le_of_ble_eq_true rfl) dX4_stepping_156 (mX0_put_ ew29 (pI.mk ?_))
  refine r_pop (pc := 159) dX4_stepping_159 rfl ?_
  refine r_aload_n (pc := 160) dX4_stepping_160 rfl 5 rfl ?_
  refine r_get (pc := 161) (j := 5) (v := .ref 40) oA2 cf4 flRX4_42 rfl dX4_stepping_161 rfl ?_
  refine r_bipush (pc := 164) dX4_stepping_164 kb_35 ?_
  refine r_iload_n (pc := 166) dX4_stepping_166 rfl 7 rfl ?_
  replace h := lt2_e h; obtain ⟨x30, w31, ew31, h⟩ := h
  refine r_cVi (pc := 167) wyX0_put_ oA40 rfl mlRX4_156 iyX0_put_ syX0_put_ ⟨(Nat.le_of_ble_eq_true rfl), (Nat.le_of_ble_eq_true rfl)⟩ rfl rfl (Nat.le_of_ble_eq_true rfl) dX4_stepping_167 (mX0_put_ ew31 (pI.mk ?_))
  refine r_pop (pc := 170) dX4_stepping_170 rfl ?_
  refine r_aload_n (pc := 171) dX4_stepping_171 rfl 5 rfl ?_
  refine r_get (pc := 172) (j := 5) (v := .ref 40) oA2 cf4 flRX4_42 rfl dX4_stepping_172 rfl ?_
  refine r_bipush (pc := 175) dX4_stepping_175 kb_24 ?_
  replace h := lt2_e h; obtain ⟨x32, w33, ew33, h⟩ := h
  refine r_cVi (pc := 177) wyX0_put__ oA40 rfl mlRX4_108 iyX0_put__ syX0_put__ ⟨(Nat.le_of_ble_eq_true rfl), (Nat.le_of_ble_eq_true rfl)⟩ rfl rfl (Nat.le_of_ble_eq_true rfl) dX4_stepping_177 (mX0_put__ ew33 (pI.mk ?_))
  refine r_pop (pc := 180) dX4_stepping_180 rfl ?_
  refine r_aload_n (pc := 181) dX4_stepping_181 rfl 5 rfl ?_
  refine r_get (pc := 182) (j := 5) (v := .ref 40) oA2 cf4 flRX4_42 rfl dX4_stepping_182 rfl ?_
  refine r_bipush (pc := 185) dX4_stepping_185 kb_35 ?_
  refine r_iload (pc := 187) dX4_stepping_187 3 rfl ?_
  replace h := lt2_e h; obtain ⟨x34, w35, ew35, h⟩ := h
  refine r_cVi (pc := 189) wyX0_put_ oA40 rfl mlRX4_156 iyX0_put_ syX0_put_ ⟨(Nat.le_of_ble_eq_true rfl), (Nat.le_of_ble_eq_true rfl)⟩ rfl rfl (Nat.le_of_ble_eq_true rfl) dX4_stepping_189 (mX0_put_ ew35 (pI.mk ?_))
  refine r_pop (pc := 192) dX4_stepping_192 rfl ?_
  refine r_aload_n (pc := 193) dX4_stepping_193 rfl 5 rfl ?_
  refine r_get (pc := 194) (j := 5) (v := .ref 40) oA2 cf4 flRX4_42 rfl dX4_stepping_194 rfl ?_
  refine r_iconst (pc := 197) dX4_stepping_197 ki_1 ?_
  replace h := lt2_e h; obtain ⟨x36, w37, ew37, h⟩ := h
  refine r_cVi (pc := 198) wyX0_put__ oA40 rfl mlRX4_108 iyX0_put__ syX0_put__ ⟨(Nat.le_of_ble_eq_true rfl), (Nat.le_of_ble_eq_true rfl)⟩ rfl rfl (Nat.le_of_ble_eq_true rfl) dX4_stepping_198 (mX0_put__ ew37 (pI.mk ?_))
  refine r_pop (pc := 201) dX4_stepping_201 rfl ?_
  refine r_aload_n (pc := 202) dX4_stepping_202 rfl 5 rfl ?_
  refine r_get (pc := 203) (j := 5) (v := .ref 40) oA2 cf4 flRX4_42 rfl dX4_stepping_203 rfl ?_
  refine r_bipush (pc := 206) dX4_stepping_206 kb_26 ?_
  refine r_iconst (pc := 208) dX4_stepping_208 ki_1 ?_
  replace h := lt2_e h; obtain ⟨x38, w39, ew39, h⟩ := h
  refine r_cVi (pc := 209) wyX0_put_ oA40 rfl mlRX4_156 iyX0_put_ syX0_put_ ⟨(Nat.le_of_ble_eq_true rfl), (Nat.le_of_ble_eq_true rfl)⟩ rfl rfl (Nat.le_of_ble_eq_true rfl) dX4_stepping_209 (mX0_put_ ew39 (pI.mk ?_))
  refine r_pop (pc := 212) dX4_stepping_212 rfl ?_
  refine r_aload_n (pc := 213) dX4_stepping_213 rfl 5 rfl ?_
  refine r_get (pc := 214) (j := 5) (v := .ref 40) oA2 cf4 flRX4_42 rfl dX4_stepping_214 rfl ?_
  refine r_bipush (pc := 217) dX4_stepping_217 kb_33 ?_
  refine r_iload (pc := 219) dX4_stepping_219 2 rfl ?_
  replace h := lt2_e h; obtain ⟨x40, w41, ew41, h⟩ := h
  refine r_cVi (pc := 221) wyX0_put_ oA40 rfl mlRX4_156 iyX0_put_ syX0_put_ ⟨(Nat.le_of_ble_eq_true rfl), (Nat.le_of_ble_eq_true rfl)⟩ rfl rfl (Nat.le_of_ble_eq_true rfl) dX4_stepping_221 (mX0_put_ ew41 (pI.mk ?_))
  refine r_pop (pc := 224) dX4_stepping_224 rfl ?_
  refine r_aload_n (pc := 225) dX4_stepping_225 rfl 5 rfl ?_
  refine r_get (pc := 226) (j := 5) (v := .ref 40) oA2 cf4 flRX4_42 rfl dX4_stepping_226 rfl ?_
  refine r_iload (pc := 229) dX4_stepping_229 1 rfl ?_
  replace h := lt2_e h; obtain ⟨x42, w43, ew43, h⟩ := h
  refine r_cVi (pc := 231) wyX0_patch oA40 rfl mlRX4_259 iyX0_patch syX0_patch ⟨(Nat.le_of_ble_eq_true rfl), (Nat.le_of_ble_eq_true rfl)⟩ rfl rfl (Nat.le_of_ble_eq_true rfl) dX4_stepping_231 (mX0_patch ew43 (pI.mk ?_))
  refine r_pop (pc := 234) dX4_stepping_234 rfl ?_
  refine r_iload (pc := 235) dX4_stepping_235 0 rfl ?_
  exact rO_i (pc := 237) rfl dX4_stepping_237 h hN
theorem mX4_stepping {q : Gq} {l : Launch} {N : Option Value → Wd → Prop} {X : String → Wd → Prop} {a1 : Int32} {a2 : Int32} {a3 : Int32} {a4 : Int32} {w : Wd} {x : Int32} {u : Wd} (h : fX4_stepping a1 a2 a3 a4 w = some (x, u)) (hN : N (some (.int x)) u) : Ct (GA q) l 909 yX4_stepping cX4_stepping 10 ((some .int)) [.ref 2, .int a1, .int a2, .int a3, .int a4] w N X := Ct.of (by decide) (Nat.le_of_ble_eq_true rfl) (pX4_stepping hN h)
/-! AlgolMill$Maker.element (IIII)I: O, 910 -/
theorem dX4_element_0 : decode cX4_element 0 = .ok (.aload_n 0, 1) := by decide +kernel
theorem dX4_element_1 : decode cX4_element 1 = .ok (.getfield 42, 3) := by decide +kernel
theorem dX4_element_4 : decode cX4_element 4 = .ok (.invokevirtual 256, 3) := by decide +kernel
theorem dX4_element_7 : decode cX4_element 7 = .ok (.istore 5, 2) := by decide +kernel
theorem dX4_element_9 : decode cX4_element 9 = .ok (.aload_n 0, 1) := by decide +kernel
theorem dX4_element_10 : decode cX4_element 10 = .ok (.getfield 42, 3) := by decide +kernel
theorem dX4_element_13 : decode cX4_element 13 = .ok (.bipush 40, 2) := by decide +kernel
theorem dX4_element_15 : decode cX4_element 15 = .ok (.invokevirtual 108, 3) := by decide +kernel
theorem dX4_element_18 : decode cX4_element 18 = .ok (.pop, 1) := by decide +kernel
theorem dX4_element_19 : decode cX4_element 19 = .ok (.aload_n 0, 1) := by decide +kernel
theorem dX4_element_20 : decode cX4_element 20 = .ok (.getfield 42, 3) := by decide +kernel
theorem dX4_element_23 : decode cX4_element 23 = .ok (.bipush 35, 2) := by decide +kernel
theorem dX4_element_25 : decode cX4_element 25 = .ok (.iload_n 2, 1) := by decide +kernel
theorem dX4_element_26 : decode cX4_element 26 = .ok (.invokevirtual 156, 3) := by decide +kernel
theorem dX4_element_29 : decode cX4_element 29 = .ok (.pop, 1) := by decide +kernel
theorem dX4_element_30 : decode cX4_element 30 = .ok (.aload_n 0, 1) := by decide +kernel
theorem dX4_element_31 : decode cX4_element 31 = .ok (.getfield 48, 3) := by decide +kernel
theorem dX4_element_34 : decode cX4_element 34 = .ok (.iload_n 1, 1) := by decide +kernel
theorem dX4_element_35 : decode cX4_element 35 = .ok (.iconst 1, 1) := by decide +kernel
theorem dX4_element_36 : decode cX4_element 36 = .ok (.invokevirtual 247, 3) := by decide +kernel
theorem dX4_element_39 : decode cX4_element 39 = .ok (.aload_n 0, 1) := by decide +kernel
theorem dX4_element_40 : decode cX4_element 40 = .ok (.getfield 42, 3) := by decide +kernel
theorem dX4_element_43 : decode cX4_element 43 = .ok (.bipush 26, 2) := by decide +kernel
theorem dX4_element_45 : decode cX4_element 45 = .ok (.iconst 1, 1) := by decide +kernel
theorem dX4_element_46 : decode cX4_element 46 = .ok (.invokevirtual 156, 3) := by decide +kernel
theorem dX4_element_49 : decode cX4_element 49 = .ok (.pop, 1) := by decide +kernel
theorem dX4_element_50 : decode cX4_element 50 = .ok (.aload_n 0, 1) := by decide +kernel
theorem dX4_element_51 : decode cX4_element 51 = .ok (.getfield 22, 3) := by decide +kernel
theorem dX4_element_54 : decode cX4_element 54 = .ok (.bipush 20, 2) := by decide +kernel
theorem dX4_element_56 : decode cX4_element 56 = .ok (.invokevirtual 164, 3) := by decide +kernel
theorem dX4_element_59 : decode cX4_element 59 = .ok (.ifCond .eq 13, 3) := by decide +kernel
theorem dX4_element_62 : decode cX4_element 62 = .ok (.aload_n 0, 1) := by decide +kernel
theorem dX4_element_63 : decode cX4_element 63 = .ok (.iload_n 1, 1) := by decide +kernel
theorem dX4_element_64 : decode cX4_element 64 = .ok (.iload_n 2, 1) := by decide +kernel
theorem dX4_element_65 : decode cX4_element 65 = .ok (.iload_n 3, 1) := by decide +kernel
theorem dX4_element_66 : decode cX4_element 66 = .ok (.iload 4, 2) := by decide +kernel
theorem dX4_element_68 : decode cX4_element 68 = .ok (.invokevirtual 387, 3) := by decide +kernel
theorem dX4_element_71 : decode cX4_element 71 = .ok (.ireturn, 1) := by decide +kernel
theorem dX4_element_72 : decode cX4_element 72 = .ok (.aload_n 0, 1) := by decide +kernel
theorem dX4_element_73 : decode cX4_element 73 = .ok (.getfield 22, 3) := by decide +kernel
theorem dX4_element_76 : decode cX4_element 76 = .ok (.bipush 22, 2) := by decide +kernel
theorem dX4_element_78 : decode cX4_element 78 = .ok (.invokevirtual 164, 3) := by decide +kernel
theorem dX4_element_81 : decode cX4_element 81 = .ok (.ifCond .ne 11, 3) := by decide +kernel
theorem dX4_element_84 : decode cX4_element 84 = .ok (.aload_n 0, 1) := by decide +kernel
theorem dX4_element_85 : decode cX4_element 85 = .ok (.iload_n 3, 1) := by decide +kernel
theorem dX4_element_86 : decode cX4_element 86 = .ok (.iload 4, 2) := by decide +kernel
theorem dX4_element_88 : decode cX4_element 88 = .ok (.invokevirtual 390, 3) := by decide +kernel
theorem dX4_element_91 : decode cX4_element 91 = .ok (.ireturn, 1) := by decide +kernel
theorem dX4_element_92 : decode cX4_element 92 = .ok (.aload_n 0, 1) := by decide +kernel
theorem dX4_element_93 : decode cX4_element 93 = .ok (.getfield 48, 3) := by decide +kernel
theorem dX4_element_96 : decode cX4_element 96 = .ok (.iload_n 1, 1) := by decide +kernel
theorem dX4_element_97 : decode cX4_element 97 = .ok (.iconst 2, 1) := by decide +kernel
theorem dX4_element_98 : decode cX4_element 98 = .ok (.invokevirtual 247, 3) := by decide +kernel
theorem dX4_element_101 : decode cX4_element 101 = .ok (.aload_n 0, 1) := by decide +kernel
theorem dX4_element_102 : decode cX4_element 102 = .ok (.getfield 42, 3) := by decide +kernel
theorem dX4_element_105 : decode cX4_element 105 = .ok (.bipush 34, 2) := by decide +kernel
theorem dX4_element_107 : decode cX4_element 107 = .ok (.invokevirtual 108, 3) := by decide +kernel
theorem dX4_element_110 : decode cX4_element 110 = .ok (.istore 6, 2) := by decide +kernel
theorem dX4_element_112 : decode cX4_element 112 = .ok (.aload_n 0, 1) := by decide +kernel
theorem dX4_element_113 : decode cX4_element 113 = .ok (.iload_n 3, 1) := by decide +kernel
theorem dX4_element_114 : decode cX4_element 114 = .ok (.iload 4, 2) := by decide +kernel
theorem dX4_element_116 : decode cX4_element 116 = .ok (.invokevirtual 390, 3) := by decide +kernel
theorem dX4_element_119 : decode cX4_element 119 = .ok (.istore 7, 2) := by decide +kernel
theorem dX4_element_121 : decode cX4_element 121 = .ok (.aload_n 0, 1) := by decide +kernel
theorem dX4_element_122 : decode cX4_element 122 = .ok (.getfield 42, 3) := by decide +kernel
theorem dX4_element_125 : decode cX4_element 125 = .ok (.bipush 33, 2) := by decide +kernel
theorem dX4_element_127 : decode cX4_element 127 = .ok (.iload 5, 2) := by decide +kernel
theorem dX4_element_129 : decode cX4_element 129 = .ok (.invokevirtual 156, 3) := by decide +kernel
theorem dX4_element_132 : decode cX4_element 132 = .ok (.pop, 1) := by decide +kernel
theorem dX4_element_133 : decode cX4_element 133 = .ok (.aload_n 0, 1) := by decide +kernel
theorem dX4_element_134 : decode cX4_element 134 = .ok (.getfield 42, 3) := by decide +kernel
theorem dX4_element_137 : decode cX4_element 137 = .ok (.iload 6, 2) := by decide +kernel
theorem dX4_element_139 : decode cX4_element 139 = .ok (.invokevirtual 259, 3) := by decide +kernel
theorem dX4_element_142 : decode cX4_element 142 = .ok (.pop, 1) := by decide +kernel
theorem dX4_element_143 : decode cX4_element 143 = .ok (.iload 7, 2) := by decide +kernel
theorem dX4_element_145 : decode cX4_element 145 = .ok (.ireturn, 1) := by decide +kernel
def fX4_element (a1 : Int32) (a2 : Int32) (a3 : Int32) (a4 : Int32) (w : Wd) : Option (Int32 × Wd) :=
  lt (fX0_here w) fun x1 => lt2 (fX0_put__ 40 w) fun x2 w3 => lt2 (fX0_put_ 35 a2 w3) fun x4 w5 => bn2 (RX2_typed 900 0 a1 1 0 w5) fun _ w7 => lt2 (fX0_put_ 26 1 w7) fun x8 w9 => lt2 (fX9_take 20 w9) fun x10 w11 => if x10 = true then (bn2 (fX4_stepping a1 a2 a3 a4 w11) fun x13 w14 => some (x13, w14)) else (lt2 (fX9_take 22 w11) fun x15 w16 => if x15 = true then (bn2 (RX2_typed 900 0 a1 2 0 w16) fun _ w19 => lt2 (fX0_put__ 34 w19) fun x20 w21 => lt2 (fX4_body a3 a4 w21) fun x22 w23 => lt2 (fX0_put_ 33 x1 w23) fun x24 w25 => lt2 (fX0_patch x20 w25) fun x26 w27 => some (x22, w27)) else (lt2 (fX4_body a3 a4 w16) fun x28 w29 => some (x28, w29)))
set_option maxHeartbeats 16000000 in
theorem pX4_element {q : Gq} {l : Launch} {N : Option Value → Wd → Prop} {X : String → Wd → Prop} {w : Wd} {R : Int32 × Wd} (hN : N (some (.int R.1)) R.2) {a1 : Int32} {a2 : Int32} {a3 : Int32} {a4 : Int32} (h : fX4_element a1 a2 a3 a4 w = some R) : RT (GA q) l 910 yX4_element cX4_element 8 ((some .int)) N X 0 [] [(0, .ref 2), (1, .int a1), (2, .int a2), (3, .int a3), (4, .int a4)] w := by
  unfold fX4_element at h
  refine r_aload_n (pc := 0) dX4_element_0 rfl 0 rfl ?_
  refine r_get (pc := 1) (j := 5) (v := .ref 40) oA2 cf4 flRX4_42 rfl dX4_element_1 rfl ?_
  replace h := lt_e h; obtain ⟨x1, ex1, h⟩ := h
  refine r_cVi (pc := 4) wyX0_here oA40 rfl mlRX4_256 iyX0_here syX0_here ⟨(Nat.le_of_ble_eq_true rfl), (Nat.le_of_ble_eq_true rfl)⟩ rfl rfl (Nat.le_of_ble_eq_true rfl) dX4_element_4 (mX0_here ex1 (pI.mk ?_))
  refine r_istore (pc := 7) (loc' := [(5, .int x1), (0, .ref 2), (1, .int a1), (2, .int a2), (3, .int a3), (4, .int a4)]) dX4_element_7 (Nat.le_of_ble_eq_true rfl) rfl ?_
  refine r_aload_n (pc := 9) dX4_element_9 rfl 1 rfl ?_
  refine r_get (pc := 10) (j := 5) (v := .ref 40) oA2 cf4 flRX4_42 rfl dX4_element_10 rfl ?_
  refine r_bipush (pc := 13) dX4_element_13 kb_40 ?_
  replace h := lt2_e h; obtain ⟨x2, w3, ew3, h⟩ := h
  refine r_cVi (pc := 15) wyX0_put__ oA40 rfl mlRX4_108 iyX0_put__ syX0_put__ ⟨(Nat.le_of_ble_eq_true rfl), (Nat.le_of_ble_eq_true rfl)⟩ rfl rfl (Nat.le_of_ble_eq_true rfl) dX4_element_15 (mX0_put__ ew3 (pI.mk ?_))
  refine r_pop (pc := 18) dX4_element_18 rfl ?_
  refine r_aload_n (pc := 19) dX4_element_19 rfl 1 rfl ?_
  refine r_get (pc := 20) (j := 5) (v := .ref 40) oA2 cf4 flRX4_42 rfl dX4_element_20 rfl ?_
  refine r_bipush (pc := 23) dX4_element_23 kb_35 ?_
  refine r_iload_n (pc := 25) dX4_element_25 rfl 3 rfl ?_
  replace h := lt2_e h; obtain ⟨x4, w5, ew5, h⟩ := h
  refine r_cVi (pc := 26) wyX0_put_ oA40 rfl mlRX4_156 iyX0_put_ syX0_put_ ⟨(Nat.le_of_ble_eq_true rfl), (Nat.le_of_ble_eq_true rfl)⟩ rfl rfl (Nat.le_of_ble_eq_true rfl) dX4_element_26 (mX0_put_ ew5 (pI.mk ?_))
  refine r_pop (pc := 29) dX4_element_29 rfl ?_
  refine r_aload_n (pc := 30) dX4_element_30 rfl 1 rfl ?_
  refine r_get (pc := 31) (j := 6) (v := .ref 42) oA2 cf4 flRX4_48 rfl dX4_element_31 rfl ?_
  refine r_iload_n (pc := 34) dX4_element_34 rfl 2 rfl ?_
  refine r_iconst (pc := 35) dX4_element_35 ki_1 ?_
  replace h := bn2_e h; obtain ⟨x6, w7, ew7, h⟩ := h
  refine r_cVv (pc := 36) wyX2_typed oA42 rfl mlRX4_247 iyX2_typed syX2_typed ⟨(Nat.le_of_ble_eq_true rfl), (Nat.le_of_ble_eq_true rfl)⟩ rfl rfl (Nat.le_of_ble_eq_true rfl) dX4_element_36 (mX2_typed ew7 (pV.mk ?_))
  refine r_aload_n (pc := 39) dX4_element_39 rfl 1 rfl ?_
  refine r_get (pc := 40) (j := 5) (v := .ref 40) oA2 cf4 flRX4_42 rfl dX4_element_40 rfl ?_
  refine r_bipush (pc := 43) dX4_element_43 kb_26 ?_
  refine r_iconst (pc := 45) dX4_element_45 ki_1 ?_
  replace h := lt2_e h; obtain ⟨x8, w9, ew9, h⟩ := h
  refine r_cVi (pc := 46) wyX0_put_ oA40 rfl mlRX4_156 iyX0_put_ syX0_put_ ⟨(Nat.le_of_ble_eq_true rfl), (Nat.le_of_ble_eq_true rfl)⟩ rfl rfl (Nat.le_of_ble_eq_true rfl) dX4_element_46 (mX0_put_ ew9 (pI.mk ?_))
  refine r_pop (pc := 49) dX4_element_49 rfl ?_
  refine r_aload_n (pc := 50) dX4_element_50 rfl 1 rfl ?_
  refine r_get (pc := 51) (j := 1) (v := .ref 4) oA2 cf4 flRX4_22 rfl dX4_element_51 rfl ?_
  refine r_bipush (pc := 54) dX4_element_54 kb_20 ?_
  replace h := lt2_e h; obtain ⟨x10, w11, ew11, h⟩ := h
  refine r_cVi (pc := 56) wyX9_take oA4 rfl mlRX4_164 iyX9_take syX9_take ⟨(Nat.le_of_ble_eq_true rfl), (Nat.le_of_ble_eq_true rfl)⟩ rfl rfl (Nat.le_of_ble_eq_true rfl) dX4_element_56 (mX9_take ew11 (pI.mk ?_))
  refine r_z_eq (pc := 59) dX4_element_59 rfl (fun hc12 => ?_) (fun hc12 => ?_)
  · replace h := if_f hc12 h
    refine r_aload_n (pc := 72) dX4_element_72 rfl 1 rfl ?_
    refine r_get (pc := 73) (j := 1) (v := .ref 4) oA2 cf4 flRX4_22 rfl dX4_element_73 rfl ?_
    refine r_bipush (pc := 76) dX4_element_76 kb_22 ?_
    replace h := lt2_e h; obtain ⟨x15, w16, ew16, h⟩ := h
    refine r_cVi (pc := 78) wyX9_take oA4 rfl mlRX4_164 iyX9_take syX9_take ⟨(Nat.le_of_ble_eq_true rfl), (Nat.le_of_ble_eq_true rfl)⟩ rfl rfl (Nat.le_of_ble_eq_true rfl) dX4_element_78 (mX9_take ew16 (pI.mk ?_))
    refine r_z_ne (pc := 81) dX4_element_81 rfl (fun hc17 => ?_) (fun hc17 => ?_)
    · replace h := if_t hc17 h
      refine r_aload_n (pc := 92) dX4_element_92 rfl 1 rfl ?_
      refine r_get (pc := 93) (j := 6) (v := .ref 42) oA2 cf4 flRX4_48 rfl dX4_element_93 rfl ?_
      refine r_iload_n (pc := 96) dX4_element_96 rfl 2 rfl ?_
      refine r_iconst (pc := 97) dX4_element_97 ki_2 ?_
      replace h := bn2_e h; obtain ⟨x18, w19, ew19, h⟩ := h
      refine r_cVv (pc := 98) wyX2_typed oA42 rfl mlRX4_247 iyX2_typed syX2_typed ⟨(Nat.le_of_ble_eq_true rfl), (Nat.le_of_ble_eq_true rfl)⟩ rfl rfl (Nat.le_of_ble_eq_true rfl) dX4_element_98 (mX2_typed ew19 (pV.mk ?_))
      refine r_aload_n (pc := 101) dX4_element_101 rfl 1 rfl ?_
      refine r_get (pc := 102) (j := 5) (v := .ref 40) oA2 cf4 flRX4_42 rfl dX4_element_102 rfl ?_
      refine r_bipush (pc := 105) dX4_element_105 kb_34 ?_
      replace h := lt2_e h; obtain ⟨x20, w21, ew21, h⟩ := h
      refine r_cVi (pc := 107) wyX0_put__ oA40 rfl mlRX4_108 iyX0_put__ syX0_put__ ⟨(Nat.le_of_ble_eq_true rfl), (Nat.le_of_ble_eq_true rfl)⟩ rfl rfl (Nat.le_of_ble_eq_true rfl) dX4_element_107 (mX0_put__ ew21 (pI.mk ?_))
      refine r_istore (pc := 110) (loc' := [(6, .int x20), (5, .int x1), (0, .ref 2), (1, .int a1), (2, .int a2), (3, .int a3), (4, .int a4)]) dX4_element_110 (Nat.le_of_ble_eq_true rfl) rfl ?_
      refine r_aload_n (pc := 112) dX4_element_112 rfl 2 rfl ?_
      refine r_iload_n (pc := 113) dX4_element_113 rfl 5 rfl ?_
      refine r_iload (pc := 114) dX4_element_114 6 rfl ?_
      replace h := lt2_e h; obtain ⟨x22, w23, ew23, h⟩ := h
      refine r_cVi (pc := 116) wyX4_body oA2 rfl mlRX4_390 iyX4_body syX4_body ⟨(Nat.le_of_ble_eq_true rfl), (Nat.le_of_ble_eq_true rfl)⟩ rfl rfl (Nat.le_of_ble_eq_true rfl) dX4_element_116 (mX4_body ew23 (pI.mk ?_))
      refine r_istore (pc := 119) (loc' := [(7, .int x22), (6, .int x20), (5, .int x1), (0, .ref 2), (1, .int a1), (2, .int a2), (3, .int a3), (4, .int a4)]) dX4_element_119 (Nat.le_of_ble_eq_true rfl) rfl ?_
      refine r_aload_n (pc := 121) dX4_element_121 rfl 3 rfl ?_
      refine r_get (pc := 122) (j := 5) (v := .ref 40) oA2 cf4 flRX4_42 rfl dX4_element_122 rfl ?_
      refine r_bipush (pc := 125) dX4_element_125 kb_33 ?_
      refine r_iload (pc := 127) dX4_element_127 2 rfl ?_
      replace h := lt2_e h; obtain ⟨x24, w25, ew25, h⟩ := h
      refine r_cVi (pc := 129) wyX0_put_ oA40 rfl mlRX4_156 iyX0_put_ syX0_put_ ⟨(Nat.le_of_ble_eq_true rfl), (Nat.le_of_ble_eq_true rfl)⟩ rfl rfl (Nat.le_of_ble_eq_true rfl) dX4_element_129 (mX0_put_ ew25 (pI.mk ?_))
      refine r_pop (pc := 132) dX4_element_132 rfl ?_
      refine r_aload_n (pc := 133) dX4_element_133 rfl 3 rfl ?_
      refine r_get (pc := 134) (j := 5) (v := .ref 40) oA2 cf4 flRX4_42 rfl dX4_element_134 rfl ?_
      refine r_iload (pc := 137) dX4_element_137 1 rfl ?_
      replace h := lt2_e h; obtain ⟨x26, w27, ew27, h⟩ := h
      refine r_cVi (pc := 139) wyX0_patch oA40 rfl mlRX4_259 iyX0_patch syX0_patch ⟨(Nat.le_of_ble_eq_true rfl), (Nat.le_of_ble_eq_true rfl)⟩ rfl rfl (Nat.le_of_ble_eq_true rfl) dX4_element_139 (mX0_patch ew27 (pI.mk ?_))
      refine r_pop (pc := 142) dX4_element_142 rfl ?_
      refine r_iload (pc := 143) dX4_element_143 0 rfl ?_
      exact rO_i (pc := 145) rfl dX4_element_145 h hN
    replace h := if_f hc17 h
    refine r_aload_n (pc := 84) dX4_element_84 rfl 1 rfl ?_
    refine r_iload_n (pc := 85) dX4_element_85 rfl 4 rfl ?_
    refine r_iload (pc := 86) dX4_element_86 5 rfl ?_
    replace h := lt2_e h; obtain ⟨x28, w29, ew29, h⟩ := h
    refine r_cVi (pc := 88) wyX4_body oA2 rfl mlRX4_390 iyX4_body syX4_body ⟨(Nat.le_of_ble_eq_true rfl), (Nat.le_of_ble_eq_true rfl)⟩ rfl rfl (Nat.le_of_ble_eq_true rfl) dX4_element_88 (mX4_body ew29 (pI.mk ?_))
    exact rO_i (pc := 91) rfl dX4_element_91 h hN
  replace h := if_t hc12 h
  refine r_aload_n (pc := 62) dX4_element_62 rfl 1 rfl ?_
  refine r_iload_n (pc := 63) dX4_element_63 rfl 2 rfl ?_
  refine r_iload_n (pc := 64) dX4_element_64 rfl 3 rfl ?_
  refine r_iload_n (pc := 65) dX4_element_65 rfl 4 rfl ?_
  refine r_iload (pc := 66) dX4_element_66 5 rfl ?_
  replace h := bn2_e h; obtain ⟨x13, w14, ew14, h⟩ := h
  refine r_cVi (pc := 68) wyX4_stepping oA2 rfl mlRX4_387 iyX4_stepping syX4_stepping ⟨(Nat.le_of_ble_eq_true rfl), (Nat.le_of_ble_eq_true rfl)⟩ rfl rfl (Nat.le_of_ble_eq_true rfl) dX4_element_68 (mX4_stepping ew14 (pI.mk ?_))
  exact rO_i (pc := 71) rfl dX4_element_71 h hN
theorem mX4_element {q : Gq} {l : Launch} {N : Option Value → Wd → Prop} {X : String → Wd → Prop} {a1 : Int32} {a2 : Int32} {a3 : Int32} {a4 : Int32} {w : Wd} {x : Int32} {u : Wd} (h : fX4_element a1 a2 a3 a4 w = some (x, u)) (hN : N (some (.int x)) u) : Ct (GA q) l 910 yX4_element cX4_element 8 ((some .int)) [.ref 2, .int a1, .int a2, .int a3, .int a4] w N X := Ct.of (by decide) (Nat.le_of_ble_eq_true rfl) (pX4_element hN h)
