/-! Maker: those that call each other -/
theorem kb_31 : (Int8.ofInt 31).toInt32 = 31 := by decide
/-! X4_block: methods that call each other: 0 X4_block, 1 X4_declarations, 2 X4_declaration, 3 X4_procedure, 4 X4_scoped, 5 X4_statement, 6 X4_choice, 7 X4_loop -/
abbrev TX4_block : Type := Nat → Int32 → Int32 → Int32 → Wd → Option (Int32 × Wd)
def HX4_block (q : Gq) (l : Launch) (rc : TX4_block) (dd : Nat) : Prop := ∀ (a1 : Int32) (w : Wd) (x : Int32) (u : Wd) (N : Option Value → Wd → Prop) (X : String → Wd → Prop), rc 0 a1 0 0 w = some (x, u) → N none u → Ct (GA q) l dd yX4_block cX4_block 7 (none) [.ref 2, .int a1] w N X
def HX4_declarations (q : Gq) (l : Launch) (rc : TX4_block) (dd : Nat) : Prop := ∀ (a1 : Int32) (w : Wd) (x : Int32) (u : Wd) (N : Option Value → Wd → Prop) (X : String → Wd → Prop), rc 1 a1 0 0 w = some (x, u) → N none u → Ct (GA q) l dd yX4_declarations cX4_declarations 3 (none) [.ref 2, .int a1] w N X
def HX4_declaration (q : Gq) (l : Launch) (rc : TX4_block) (dd : Nat) : Prop := ∀ (a1 : Int32) (w : Wd) (x : Int32) (u : Wd) (N : Option Value → Wd → Prop) (X : String → Wd → Prop), rc 2 a1 0 0 w = some (x, u) → N none u → Ct (GA q) l dd yX4_declaration cX4_declaration 4 (none) [.ref 2, .int a1] w N X
def HX4_procedure (q : Gq) (l : Launch) (rc : TX4_block) (dd : Nat) : Prop := ∀ (a1 : Int32) (a2 : Int32) (w : Wd) (x : Int32) (u : Wd) (N : Option Value → Wd → Prop) (X : String → Wd → Prop), rc 3 a1 a2 0 w = some (x, u) → N none u → Ct (GA q) l dd yX4_procedure cX4_procedure 7 (none) [.ref 2, .int a1, .int a2] w N X
def HX4_scoped (q : Gq) (l : Launch) (rc : TX4_block) (dd : Nat) : Prop := ∀ (a1 : Int32) (w : Wd) (x : Int32) (u : Wd) (N : Option Value → Wd → Prop) (X : String → Wd → Prop), rc 4 a1 0 0 w = some (x, u) → N none u → Ct (GA q) l dd yX4_scoped cX4_scoped 2 (none) [.ref 2, .int a1] w N X
def HX4_statement (q : Gq) (l : Launch) (rc : TX4_block) (dd : Nat) : Prop := ∀ (a1 : Int32) (w : Wd) (x : Int32) (u : Wd) (N : Option Value → Wd → Prop) (X : String → Wd → Prop), rc 5 a1 0 0 w = some (x, u) → N none u → Ct (GA q) l dd yX4_statement cX4_statement 3 (none) [.ref 2, .int a1] w N X
def HX4_choice (q : Gq) (l : Launch) (rc : TX4_block) (dd : Nat) : Prop := ∀ (a1 : Int32) (w : Wd) (x : Int32) (u : Wd) (N : Option Value → Wd → Prop) (X : String → Wd → Prop), rc 6 a1 0 0 w = some (x, u) → N none u → Ct (GA q) l dd yX4_choice cX4_choice 4 (none) [.ref 2, .int a1] w N X
def HX4_loop (q : Gq) (l : Launch) (rc : TX4_block) (dd : Nat) : Prop := ∀ (a1 : Int32) (w : Wd) (x : Int32) (u : Wd) (N : Option Value → Wd → Prop) (X : String → Wd → Prop), rc 7 a1 0 0 w = some (x, u) → N none u → Ct (GA q) l dd yX4_loop cX4_loop 9 (none) [.ref 2, .int a1] w N X
def HSX4_block (q : Gq) (l : Launch) (rc : TX4_block) (dd : Nat) : Prop := HX4_block q l rc dd ∧ HX4_declarations q l rc dd ∧ HX4_declaration q l rc dd ∧ HX4_procedure q l rc dd ∧ HX4_scoped q l rc dd ∧ HX4_statement q l rc dd ∧ HX4_choice q l rc dd ∧ HX4_loop q l rc dd
/-! AlgolMill$Maker.choice (I)V: O, 1811 -/
theorem dX4_choice_0 : decode cX4_choice 0 = .ok (.aload_n 0, 1) := by decide +kernel
theorem dX4_choice_1 : decode cX4_choice 1 = .ok (.getfield 48, 3) := by decide +kernel
theorem dX4_choice_4 : decode cX4_choice 4 = .ok (.iload_n 1, 1) := by decide +kernel
theorem dX4_choice_5 : decode cX4_choice 5 = .ok (.invokevirtual 377, 3) := by decide +kernel
theorem dX4_choice_8 : decode cX4_choice 8 = .ok (.istore_n 2, 1) := by decide +kernel
theorem dX4_choice_9 : decode cX4_choice 9 = .ok (.aload_n 0, 1) := by decide +kernel
theorem dX4_choice_10 : decode cX4_choice 10 = .ok (.iload_n 1, 1) := by decide +kernel
theorem dX4_choice_11 : decode cX4_choice 11 = .ok (.iconst 1, 1) := by decide +kernel
theorem dX4_choice_12 : decode cX4_choice 12 = .ok (.iadd, 1) := by decide +kernel
theorem dX4_choice_13 : decode cX4_choice 13 = .ok (.invokevirtual 273, 3) := by decide +kernel
theorem dX4_choice_16 : decode cX4_choice 16 = .ok (.aload_n 0, 1) := by decide +kernel
theorem dX4_choice_17 : decode cX4_choice 17 = .ok (.getfield 22, 3) := by decide +kernel
theorem dX4_choice_20 : decode cX4_choice 20 = .ok (.bipush 17, 2) := by decide +kernel
theorem dX4_choice_22 : decode cX4_choice 22 = .ok (.invokevirtual 164, 3) := by decide +kernel
theorem dX4_choice_25 : decode cX4_choice 25 = .ok (.ifCond .eq 41, 3) := by decide +kernel
theorem dX4_choice_28 : decode cX4_choice 28 = .ok (.aload_n 0, 1) := by decide +kernel
theorem dX4_choice_29 : decode cX4_choice 29 = .ok (.getfield 42, 3) := by decide +kernel
theorem dX4_choice_32 : decode cX4_choice 32 = .ok (.bipush 33, 2) := by decide +kernel
theorem dX4_choice_34 : decode cX4_choice 34 = .ok (.invokevirtual 108, 3) := by decide +kernel
theorem dX4_choice_37 : decode cX4_choice 37 = .ok (.istore_n 3, 1) := by decide +kernel
theorem dX4_choice_38 : decode cX4_choice 38 = .ok (.aload_n 0, 1) := by decide +kernel
theorem dX4_choice_39 : decode cX4_choice 39 = .ok (.getfield 42, 3) := by decide +kernel
theorem dX4_choice_42 : decode cX4_choice 42 = .ok (.iload_n 2, 1) := by decide +kernel
theorem dX4_choice_43 : decode cX4_choice 43 = .ok (.invokevirtual 259, 3) := by decide +kernel
theorem dX4_choice_46 : decode cX4_choice 46 = .ok (.pop, 1) := by decide +kernel
theorem dX4_choice_47 : decode cX4_choice 47 = .ok (.aload_n 0, 1) := by decide +kernel
theorem dX4_choice_48 : decode cX4_choice 48 = .ok (.iload_n 1, 1) := by decide +kernel
theorem dX4_choice_49 : decode cX4_choice 49 = .ok (.iconst 1, 1) := by decide +kernel
theorem dX4_choice_50 : decode cX4_choice 50 = .ok (.iadd, 1) := by decide +kernel
theorem dX4_choice_51 : decode cX4_choice 51 = .ok (.invokevirtual 273, 3) := by decide +kernel
theorem dX4_choice_54 : decode cX4_choice 54 = .ok (.aload_n 0, 1) := by decide +kernel
theorem dX4_choice_55 : decode cX4_choice 55 = .ok (.getfield 42, 3) := by decide +kernel
theorem dX4_choice_58 : decode cX4_choice 58 = .ok (.iload_n 3, 1) := by decide +kernel
theorem dX4_choice_59 : decode cX4_choice 59 = .ok (.invokevirtual 259, 3) := by decide +kernel
theorem dX4_choice_62 : decode cX4_choice 62 = .ok (.pop, 1) := by decide +kernel
theorem dX4_choice_63 : decode cX4_choice 63 = .ok (.goto 12, 3) := by decide +kernel
theorem dX4_choice_66 : decode cX4_choice 66 = .ok (.aload_n 0, 1) := by decide +kernel
theorem dX4_choice_67 : decode cX4_choice 67 = .ok (.getfield 42, 3) := by decide +kernel
theorem dX4_choice_70 : decode cX4_choice 70 = .ok (.iload_n 2, 1) := by decide +kernel
theorem dX4_choice_71 : decode cX4_choice 71 = .ok (.invokevirtual 259, 3) := by decide +kernel
theorem dX4_choice_74 : decode cX4_choice 74 = .ok (.pop, 1) := by decide +kernel
theorem dX4_choice_75 : decode cX4_choice 75 = .ok (.return_, 1) := by decide +kernel
def fX4_choice (rc : TX4_block) (a1 : Int32) (w : Wd) : Option (Int32 × Wd) :=
  bn2 (RX2_typed 900 1 a1 0 0 w) fun x1 w2 => bn2 (rc 4 (a1 + 1) 0 0 w2) fun _ w4 => lt2 (fX9_take 17 w4) fun x5 w6 => if x5 = true then (lt2 (fX0_put__ 33 w6) fun x8 w9 => lt2 (fX0_patch x1 w9) fun x10 w11 => bn2 (rc 4 (a1 + 1) 0 0 w11) fun _ w13 => lt2 (fX0_patch x8 w13) fun x14 w15 => some (0, w15)) else (lt2 (fX0_patch x1 w6) fun x16 w17 => some (0, w17))
theorem pX4_choice {q : Gq} {l : Launch} {N : Option Value → Wd → Prop} {X : String → Wd → Prop} {rc : TX4_block} {dd : Nat} (hS : HSX4_block q l rc dd) (hK : 911 ≤ dd) {w : Wd} {R : Int32 × Wd} (hN : N none R.2) {a1 : Int32} (h : fX4_choice rc a1 w = some R) : RT (GA q) l (dd + 1) yX4_choice cX4_choice 4 (none) N X 0 [] [(0, .ref 2), (1, .int a1)] w := by
  unfold fX4_choice at h
  refine r_aload_n (pc := 0) dX4_choice_0 rfl 0 rfl ?_
  refine r_get (pc := 1) (j := 6) (v := .ref 42) oA2 cf4 flRX4_48 rfl dX4_choice_1 rfl ?_
  refine r_iload_n (pc := 4) dX4_choice_4 rfl 1 rfl ?_
  replace h := bn2_e h; obtain ⟨x1, w2, ew2, h⟩ := h
  refine r_cVi (pc := 5) wyX2_test oA42 rfl mlRX4_377 iyX2_test syX2_test ⟨Nat.succ_le_succ (Nat.le_trans (Nat.le_of_ble_eq_true rfl) hK), (Nat.le_of_ble_eq_true rfl)⟩ rfl rfl (Nat.le_of_ble_eq_true rfl) dX4_choice_5 (mX2_test ew2 (pI.mk ?_))
  refine r_istore_n (pc := 8) (loc' := [(2, .int x1), (0, .ref 2), (1, .int a1)]) dX4_choice_8 rfl (Nat.le_of_ble_eq_true rfl) rfl ?_
  refine r_aload_n (pc := 9) dX4_choice_9 rfl 1 rfl ?_
  refine r_iload_n (pc := 10) dX4_choice_10 rfl 2 rfl ?_
  refine r_iconst (pc := 11) dX4_choice_11 ki_1 ?_
  refine r_iadd (pc := 12) dX4_choice_12 ?_
  replace h := bn2_e h; obtain ⟨x3, w4, ew4, h⟩ := h
  refine r_cVv (pc := 13) wyX4_scoped oA2 rfl mlRX4_273 iyX4_scoped syX4_scoped ⟨Nat.le_refl _, (Nat.le_of_ble_eq_true rfl)⟩ rfl rfl (Nat.le_of_ble_eq_true rfl) dX4_choice_13 ((hS.2.2.2.2.1 _ _ _ _ _ _) ew4 (pV.mk ?_))
  refine r_aload_n (pc := 16) dX4_choice_16 rfl 1 rfl ?_
  refine r_get (pc := 17) (j := 1) (v := .ref 4) oA2 cf4 flRX4_22 rfl dX4_choice_17 rfl ?_
  refine r_bipush (pc := 20) dX4_choice_20 kb_17 ?_
  replace h := lt2_e h; obtain ⟨x5, w6, ew6, h⟩ := h
  refine r_cVi (pc := 22) wyX9_take oA4 rfl mlRX4_164 iyX9_take syX9_take ⟨Nat.succ_le_succ (Nat.le_trans (Nat.le_of_ble_eq_true rfl) hK), (Nat.le_of_ble_eq_true rfl)⟩ rfl rfl (Nat.le_of_ble_eq_true rfl) dX4_choice_22 (mX9_take ew6 (pI.mk ?_))
  refine r_z_eq (pc := 25) dX4_choice_25 rfl (fun hc7 => ?_) (fun hc7 => ?_)
  · replace h := if_f hc7 h
    refine r_aload_n (pc := 66) dX4_choice_66 rfl 1 rfl ?_
    refine r_get (pc := 67) (j := 5) (v := .ref 40) oA2 cf4 flRX4_42 rfl dX4_choice_67 rfl ?_
    refine r_iload_n (pc := 70) dX4_choice_70 rfl 0 rfl ?_
    replace h := lt2_e h; obtain ⟨x16, w17, ew17, h⟩ := h
    refine r_cVi (pc := 71) wyX0_patch oA40 rfl mlRX4_259 iyX0_patch syX0_patch ⟨Nat.succ_le_succ (Nat.le_trans (Nat.le_of_ble_eq_true rfl) hK), (Nat.le_of_ble_eq_true rfl)⟩ rfl rfl (Nat.le_of_ble_eq_true rfl) dX4_choice_71 (mX0_patch ew17 (pI.mk ?_))
    refine r_pop (pc := 74) dX4_choice_74 rfl ?_
    exact rOR_v (pc := 75) rfl dX4_choice_75 h hN
  replace h := if_t hc7 h
  refine r_aload_n (pc := 28) dX4_choice_28 rfl 1 rfl ?_
  refine r_get (pc := 29) (j := 5) (v := .ref 40) oA2 cf4 flRX4_42 rfl dX4_choice_29 rfl ?_
  refine r_bipush (pc := 32) dX4_choice_32 kb_33 ?_
  replace h := lt2_e h; obtain ⟨x8, w9, ew9, h⟩ := h
  refine r_cVi (pc := 34) wyX0_put__ oA40 rfl mlRX4_108 iyX0_put__ syX0_put__ ⟨Nat.succ_le_succ (Nat.le_trans (Nat.le_of_ble_eq_true rfl) hK), (Nat.le_of_ble_eq_true rfl)⟩ rfl rfl (Nat.le_of_ble_eq_true rfl) dX4_choice_34 (mX0_put__ ew9 (pI.mk ?_))
  refine r_istore_n (pc := 37) (loc' := [(3, .int x8), (2, .int x1), (0, .ref 2), (1, .int a1)]) dX4_choice_37 rfl (Nat.le_of_ble_eq_true rfl) rfl ?_
  refine r_aload_n (pc := 38) dX4_choice_38 rfl 2 rfl ?_
  refine r_get (pc := 39) (j := 5) (v := .ref 40) oA2 cf4 flRX4_42 rfl dX4_choice_39 rfl ?_
  refine r_iload_n (pc := 42) dX4_choice_42 rfl 1 rfl ?_
  replace h := lt2_e h; obtain ⟨x10, w11, ew11, h⟩ := h
  refine r_cVi (pc := 43) wyX0_patch oA40 rfl mlRX4_259 iyX0_patch syX0_patch ⟨Nat.succ_le_succ (Nat.le_trans (Nat.le_of_ble_eq_true rfl) hK), (Nat.le_of_ble_eq_true rfl)⟩ rfl rfl (Nat.le_of_ble_eq_true rfl) dX4_choice_43 (mX0_patch ew11 (pI.mk ?_))
  refine r_pop (pc := 46) dX4_choice_46 rfl ?_
  refine r_aload_n (pc := 47) dX4_choice_47 rfl 2 rfl ?_
  refine r_iload_n (pc := 48) dX4_choice_48 rfl 3 rfl ?_
  refine r_iconst (pc := 49) dX4_choice_49 ki_1 ?_
  refine r_iadd (pc := 50) dX4_choice_50 ?_
  replace h := bn2_e h; obtain ⟨x12, w13, ew13, h⟩ := h
  refine r_cVv (pc := 51) wyX4_scoped oA2 rfl mlRX4_273 iyX4_scoped syX4_scoped ⟨Nat.le_refl _, (Nat.le_of_ble_eq_true rfl)⟩ rfl rfl (Nat.le_of_ble_eq_true rfl) dX4_choice_51 ((hS.2.2.2.2.1 _ _ _ _ _ _) ew13 (pV.mk ?_))
  refine r_aload_n (pc := 54) dX4_choice_54 rfl 2 rfl ?_
  refine r_get (pc := 55) (j := 5) (v := .ref 40) oA2 cf4 flRX4_42 rfl dX4_choice_55 rfl ?_
  refine r_iload_n (pc := 58) dX4_choice_58 rfl 0 rfl ?_
  replace h := lt2_e h; obtain ⟨x14, w15, ew15, h⟩ := h
  refine r_cVi (pc := 59) wyX0_patch oA40 rfl mlRX4_259 iyX0_patch syX0_patch ⟨Nat.succ_le_succ (Nat.le_trans (Nat.le_of_ble_eq_true rfl) hK), (Nat.le_of_ble_eq_true rfl)⟩ rfl rfl (Nat.le_of_ble_eq_true rfl) dX4_choice_59 (mX0_patch ew15 (pI.mk ?_))
  refine r_pop (pc := 62) dX4_choice_62 rfl ?_
  refine r_goto (pc := 63) dX4_choice_63 rfl ?_
  exact rOR_v (pc := 75) rfl dX4_choice_75 h hN
/-! AlgolMill$Maker.loop (I)V: O, 1811 -/
theorem dX4_loop_0 : decode cX4_loop 0 = .ok (.aload_n 0, 1) := by decide +kernel
theorem dX4_loop_1 : decode cX4_loop 1 = .ok (.getfield 22, 3) := by decide +kernel
theorem dX4_loop_4 : decode cX4_loop 4 = .ok (.iload_n 1, 1) := by decide +kernel
theorem dX4_loop_5 : decode cX4_loop 5 = .ok (.invokevirtual 130, 3) := by decide +kernel
theorem dX4_loop_8 : decode cX4_loop 8 = .ok (.istore_n 2, 1) := by decide +kernel
theorem dX4_loop_9 : decode cX4_loop 9 = .ok (.aload_n 0, 1) := by decide +kernel
theorem dX4_loop_10 : decode cX4_loop 10 = .ok (.getfield 42, 3) := by decide +kernel
theorem dX4_loop_13 : decode cX4_loop 13 = .ok (.bipush 33, 2) := by decide +kernel
theorem dX4_loop_15 : decode cX4_loop 15 = .ok (.invokevirtual 108, 3) := by decide +kernel
theorem dX4_loop_18 : decode cX4_loop 18 = .ok (.istore_n 3, 1) := by decide +kernel
theorem dX4_loop_19 : decode cX4_loop 19 = .ok (.aload_n 0, 1) := by decide +kernel
theorem dX4_loop_20 : decode cX4_loop 20 = .ok (.getfield 22, 3) := by decide +kernel
theorem dX4_loop_23 : decode cX4_loop 23 = .ok (.invokevirtual 202, 3) := by decide +kernel
theorem dX4_loop_26 : decode cX4_loop 26 = .ok (.istore 4, 2) := by decide +kernel
theorem dX4_loop_28 : decode cX4_loop 28 = .ok (.aload_n 0, 1) := by decide +kernel
theorem dX4_loop_29 : decode cX4_loop 29 = .ok (.getfield 48, 3) := by decide +kernel
theorem dX4_loop_32 : decode cX4_loop 32 = .ok (.iload_n 2, 1) := by decide +kernel
theorem dX4_loop_33 : decode cX4_loop 33 = .ok (.iconst 0, 1) := by decide +kernel
theorem dX4_loop_34 : decode cX4_loop 34 = .ok (.invokevirtual 362, 3) := by decide +kernel
theorem dX4_loop_37 : decode cX4_loop 37 = .ok (.istore 5, 2) := by decide +kernel
theorem dX4_loop_39 : decode cX4_loop 39 = .ok (.aload_n 0, 1) := by decide +kernel
theorem dX4_loop_40 : decode cX4_loop 40 = .ok (.getfield 12, 3) := by decide +kernel
theorem dX4_loop_43 : decode cX4_loop 43 = .ok (.iconst 1, 1) := by decide +kernel
theorem dX4_loop_44 : decode cX4_loop 44 = .ok (.iload 5, 2) := by decide +kernel
theorem dX4_loop_46 : decode cX4_loop 46 = .ok (.iload 4, 2) := by decide +kernel
theorem dX4_loop_48 : decode cX4_loop 48 = .ok (.invokevirtual 374, 3) := by decide +kernel
theorem dX4_loop_51 : decode cX4_loop 51 = .ok (.aload_n 0, 1) := by decide +kernel
theorem dX4_loop_52 : decode cX4_loop 52 = .ok (.getfield 42, 3) := by decide +kernel
theorem dX4_loop_55 : decode cX4_loop 55 = .ok (.bipush 36, 2) := by decide +kernel
theorem dX4_loop_57 : decode cX4_loop 57 = .ok (.invokevirtual 108, 3) := by decide +kernel
theorem dX4_loop_60 : decode cX4_loop 60 = .ok (.pop, 1) := by decide +kernel
theorem dX4_loop_61 : decode cX4_loop 61 = .ok (.aload_n 0, 1) := by decide +kernel
theorem dX4_loop_62 : decode cX4_loop 62 = .ok (.getfield 42, 3) := by decide +kernel
theorem dX4_loop_65 : decode cX4_loop 65 = .ok (.iload_n 3, 1) := by decide +kernel
theorem dX4_loop_66 : decode cX4_loop 66 = .ok (.invokevirtual 259, 3) := by decide +kernel
theorem dX4_loop_69 : decode cX4_loop 69 = .ok (.pop, 1) := by decide +kernel
theorem dX4_loop_70 : decode cX4_loop 70 = .ok (.aload_n 0, 1) := by decide +kernel
theorem dX4_loop_71 : decode cX4_loop 71 = .ok (.getfield 22, 3) := by decide +kernel
theorem dX4_loop_74 : decode cX4_loop 74 = .ok (.bipush 50, 2) := by decide +kernel
theorem dX4_loop_76 : decode cX4_loop 76 = .ok (.invokevirtual 170, 3) := by decide +kernel
theorem dX4_loop_79 : decode cX4_loop 79 = .ok (.aload_n 0, 1) := by decide +kernel
theorem dX4_loop_80 : decode cX4_loop 80 = .ok (.getfield 37, 3) := by decide +kernel
theorem dX4_loop_83 : decode cX4_loop 83 = .ok (.iconst 1, 1) := by decide +kernel
theorem dX4_loop_84 : decode cX4_loop 84 = .ok (.invokevirtual 150, 3) := by decide +kernel
theorem dX4_loop_87 : decode cX4_loop 87 = .ok (.istore 6, 2) := by decide +kernel
theorem dX4_loop_89 : decode cX4_loop 89 = .ok (.iconst 0, 1) := by decide +kernel
theorem dX4_loop_90 : decode cX4_loop 90 = .ok (.istore 7, 2) := by decide +kernel
theorem dX4_loop_92 : decode cX4_loop 92 = .ok (.iconst 0, 1) := by decide +kernel
theorem dX4_loop_93 : decode cX4_loop 93 = .ok (.istore 8, 2) := by decide +kernel
theorem dX4_loop_95 : decode cX4_loop 95 = .ok (.iload 8, 2) := by decide +kernel
theorem dX4_loop_97 : decode cX4_loop 97 = .ok (.sipush 8193, 3) := by decide +kernel
theorem dX4_loop_100 : decode cX4_loop 100 = .ok (.if_icmp .ge 40, 3) := by decide +kernel
theorem dX4_loop_103 : decode cX4_loop 103 = .ok (.iload 8, 2) := by decide +kernel
theorem dX4_loop_105 : decode cX4_loop 105 = .ok (.ifCond .eq 15, 3) := by decide +kernel
theorem dX4_loop_108 : decode cX4_loop 108 = .ok (.aload_n 0, 1) := by decide +kernel
theorem dX4_loop_109 : decode cX4_loop 109 = .ok (.getfield 22, 3) := by decide +kernel
theorem dX4_loop_112 : decode cX4_loop 112 = .ok (.bipush 40, 2) := by decide +kernel
theorem dX4_loop_114 : decode cX4_loop 114 = .ok (.invokevirtual 164, 3) := by decide +kernel
theorem dX4_loop_117 : decode cX4_loop 117 = .ok (.ifCond .eq 23, 3) := by decide +kernel
theorem dX4_loop_120 : decode cX4_loop 120 = .ok (.aload_n 0, 1) := by decide +kernel
theorem dX4_loop_121 : decode cX4_loop 121 = .ok (.iload_n 2, 1) := by decide +kernel
theorem dX4_loop_122 : decode cX4_loop 122 = .ok (.iload_n 3, 1) := by decide +kernel
theorem dX4_loop_123 : decode cX4_loop 123 = .ok (.iconst 1, 1) := by decide +kernel
theorem dX4_loop_124 : decode cX4_loop 124 = .ok (.iadd, 1) := by decide +kernel
theorem dX4_loop_125 : decode cX4_loop 125 = .ok (.iload 6, 2) := by decide +kernel
theorem dX4_loop_127 : decode cX4_loop 127 = .ok (.iload 7, 2) := by decide +kernel
theorem dX4_loop_129 : decode cX4_loop 129 = .ok (.invokevirtual 380, 3) := by decide +kernel
theorem dX4_loop_132 : decode cX4_loop 132 = .ok (.istore 7, 2) := by decide +kernel
theorem dX4_loop_134 : decode cX4_loop 134 = .ok (.iinc 8 1, 3) := by decide +kernel
theorem dX4_loop_137 : decode cX4_loop 137 = .ok (.goto (-42), 3) := by decide +kernel
theorem dX4_loop_140 : decode cX4_loop 140 = .ok (.aload_n 0, 1) := by decide +kernel
theorem dX4_loop_141 : decode cX4_loop 141 = .ok (.getfield 22, 3) := by decide +kernel
theorem dX4_loop_144 : decode cX4_loop 144 = .ok (.bipush 19, 2) := by decide +kernel
theorem dX4_loop_146 : decode cX4_loop 146 = .ok (.invokevirtual 170, 3) := by decide +kernel
theorem dX4_loop_149 : decode cX4_loop 149 = .ok (.aload_n 0, 1) := by decide +kernel
theorem dX4_loop_150 : decode cX4_loop 150 = .ok (.getfield 42, 3) := by decide +kernel
theorem dX4_loop_153 : decode cX4_loop 153 = .ok (.bipush 33, 2) := by decide +kernel
theorem dX4_loop_155 : decode cX4_loop 155 = .ok (.invokevirtual 108, 3) := by decide +kernel
theorem dX4_loop_158 : decode cX4_loop 158 = .ok (.istore 8, 2) := by decide +kernel
theorem dX4_loop_160 : decode cX4_loop 160 = .ok (.aload_n 0, 1) := by decide +kernel
theorem dX4_loop_161 : decode cX4_loop 161 = .ok (.getfield 42, 3) := by decide +kernel
theorem dX4_loop_164 : decode cX4_loop 164 = .ok (.iload 7, 2) := by decide +kernel
theorem dX4_loop_166 : decode cX4_loop 166 = .ok (.invokevirtual 384, 3) := by decide +kernel
theorem dX4_loop_169 : decode cX4_loop 169 = .ok (.aload_n 0, 1) := by decide +kernel
theorem dX4_loop_170 : decode cX4_loop 170 = .ok (.iload_n 2, 1) := by decide +kernel
theorem dX4_loop_171 : decode cX4_loop 171 = .ok (.invokevirtual 273, 3) := by decide +kernel
theorem dX4_loop_174 : decode cX4_loop 174 = .ok (.aload_n 0, 1) := by decide +kernel
theorem dX4_loop_175 : decode cX4_loop 175 = .ok (.getfield 42, 3) := by decide +kernel
theorem dX4_loop_178 : decode cX4_loop 178 = .ok (.bipush 38, 2) := by decide +kernel
theorem dX4_loop_180 : decode cX4_loop 180 = .ok (.iload 6, 2) := by decide +kernel
theorem dX4_loop_182 : decode cX4_loop 182 = .ok (.invokevirtual 156, 3) := by decide +kernel
theorem dX4_loop_185 : decode cX4_loop 185 = .ok (.pop, 1) := by decide +kernel
theorem dX4_loop_186 : decode cX4_loop 186 = .ok (.aload_n 0, 1) := by decide +kernel
theorem dX4_loop_187 : decode cX4_loop 187 = .ok (.getfield 42, 3) := by decide +kernel
theorem dX4_loop_190 : decode cX4_loop 190 = .ok (.iload 8, 2) := by decide +kernel
theorem dX4_loop_192 : decode cX4_loop 192 = .ok (.invokevirtual 259, 3) := by decide +kernel
theorem dX4_loop_195 : decode cX4_loop 195 = .ok (.pop, 1) := by decide +kernel
theorem dX4_loop_196 : decode cX4_loop 196 = .ok (.aload_n 0, 1) := by decide +kernel
theorem dX4_loop_197 : decode cX4_loop 197 = .ok (.getfield 37, 3) := by decide +kernel
theorem dX4_loop_200 : decode cX4_loop 200 = .ok (.iload 6, 2) := by decide +kernel
theorem dX4_loop_202 : decode cX4_loop 202 = .ok (.invokevirtual 176, 3) := by decide +kernel
theorem dX4_loop_205 : decode cX4_loop 205 = .ok (.return_, 1) := by decide +kernel
def fX4_loop_140 (rc : TX4_block) (a2 : Int32) (a6 : Int32) (a7 : Int32) (w : Wd) : Option (Int32 × Wd) :=
  lt (fX9_need 19 w) fun w1 => lt2 (fX0_put__ 33 w1) fun x2 w3 => bn (fX0_patchAll a7 w3) fun w4 => bn2 (rc 4 a2 0 0 w4) fun _ w6 => lt2 (fX0_put_ 38 a6 w6) fun x7 w8 => lt2 (fX0_patch x2 w8) fun x9 w10 => lt (fX5_giveBack a6 w10) fun w11 => some (0, w11)
theorem pX4_loop_140 {q : Gq} {l : Launch} {N : Option Value → Wd → Prop} {X : String → Wd → Prop} {rc : TX4_block} {dd : Nat} (hS : HSX4_block q l rc dd) (hK : 911 ≤ dd) {w : Wd} {R : Int32 × Wd} (hN : N none R.2) {a2 : Int32} {a6 : Int32} {a7 : Int32} (h : fX4_loop_140 rc a2 a6 a7 w = some R) : RT (GA q) l (dd + 1) yX4_loop cX4_loop 9 (none) N X 140 [] [(0, .ref 2), (2, .int a2), (6, .int a6), (7, .int a7)] w := by
  unfold fX4_loop_140 at h
  refine r_aload_n (pc := 140) dX4_loop_140 rfl 0 rfl ?_
  refine r_get (pc := 141) (j := 1) (v := .ref 4) oA2 cf4 flRX4_22 rfl dX4_loop_141 rfl ?_
  refine r_bipush (pc := 144) dX4_loop_144 kb_19 ?_
  replace h := lt_e h; obtain ⟨w1, ew1, h⟩ := h
  refine r_cVv (pc := 146) wyX9_need oA4 rfl mlRX4_170 iyX9_need syX9_need ⟨Nat.succ_le_succ (Nat.le_trans (Nat.le_of_ble_eq_true rfl) hK), (Nat.le_of_ble_eq_true rfl)⟩ rfl rfl (Nat.le_of_ble_eq_true rfl) dX4_loop_146 (mX9_need ew1 (pV.mk ?_))
  refine r_aload_n (pc := 149) dX4_loop_149 rfl 0 rfl ?_
  refine r_get (pc := 150) (j := 5) (v := .ref 40) oA2 cf4 flRX4_42 rfl dX4_loop_150 rfl ?_
  refine r_bipush (pc := 153) dX4_loop_153 kb_33 ?_
  replace h := lt2_e h; obtain ⟨x2, w3, ew3, h⟩ := h
  refine r_cVi (pc := 155) wyX0_put__ oA40 rfl mlRX4_108 iyX0_put__ syX0_put__ ⟨Nat.succ_le_succ (Nat.le_trans (Nat.le_of_ble_eq_true rfl) hK), (Nat.le_of_ble_eq_true rfl)⟩ rfl rfl (Nat.le_of_ble_eq_true rfl) dX4_loop_155 (mX0_put__ ew3 (pI.mk ?_))
  refine r_istore (pc := 158) (loc' := [(8, .int x2), (0, .ref 2), (2, .int a2), (6, .int a6), (7, .int a7)]) dX4_loop_158 (Nat.le_of_ble_eq_true rfl) rfl ?_
  refine r_aload_n (pc := 160) dX4_loop_160 rfl 1 rfl ?_
  refine r_get (pc := 161) (j := 5) (v := .ref 40) oA2 cf4 flRX4_42 rfl dX4_loop_161 rfl ?_
  refine r_iload (pc := 164) dX4_loop_164 4 rfl ?_
  replace h := bn_e h; obtain ⟨w4, ew4, h⟩ := h
  refine r_cVv (pc := 166) wyX0_patchAll oA40 rfl mlRX4_384 iyX0_patchAll syX0_patchAll ⟨Nat.succ_le_succ (Nat.le_trans (Nat.le_of_ble_eq_true rfl) hK), (Nat.le_of_ble_eq_true rfl)⟩ rfl rfl (Nat.le_of_ble_eq_true rfl) dX4_loop_166 (mX0_patchAll ew4 (pV.mk ?_))
  refine r_aload_n (pc := 169) dX4_loop_169 rfl 1 rfl ?_
  refine r_iload_n (pc := 170) dX4_loop_170 rfl 2 rfl ?_
  replace h := bn2_e h; obtain ⟨x5, w6, ew6, h⟩ := h
  refine r_cVv (pc := 171) wyX4_scoped oA2 rfl mlRX4_273 iyX4_scoped syX4_scoped ⟨Nat.le_refl _, (Nat.le_of_ble_eq_true rfl)⟩ rfl rfl (Nat.le_of_ble_eq_true rfl) dX4_loop_171 ((hS.2.2.2.2.1 _ _ _ _ _ _) ew6 (pV.mk ?_))
  refine r_aload_n (pc := 174) dX4_loop_174 rfl 1 rfl ?_
  refine r_get (pc := 175) (j := 5) (v := .ref 40) oA2 cf4 flRX4_42 rfl dX4_loop_175 rfl ?_
  refine r_bipush (pc := 178) dX4_loop_178 kb_38 ?_
  refine r_iload (pc := 180) dX4_loop_180 3 rfl ?_
  replace h := lt2_e h; obtain ⟨x7, w8, ew8, h⟩ := h
  refine r_cVi (pc := 182) wyX0_put_ oA40 rfl mlRX4_156 iyX0_put_ syX0_put_ ⟨Nat.succ_le_succ (Nat.le_trans (Nat.le_of_ble_eq_true rfl) hK), (Nat.le_of_ble_eq_true rfl)⟩ rfl rfl (Nat.le_of_ble_eq_true rfl) dX4_loop_182 (mX0_put_ ew8 (pI.mk ?_))
  refine r_pop (pc := 185) dX4_loop_185 rfl ?_
  refine r_aload_n (pc := 186) dX4_loop_186 rfl 1 rfl ?_
  refine r_get (pc := 187) (j := 5) (v := .ref 40) oA2 cf4 flRX4_42 rfl dX4_loop_187 rfl ?_
  refine r_iload (pc := 190) dX4_loop_190 0 rfl ?_
  replace h := lt2_e h; obtain ⟨x9, w10, ew10, h⟩ := h
  refine r_cVi (pc := 192) wyX0_patch oA40 rfl mlRX4_259 iyX0_patch syX0_patch ⟨Nat.succ_le_succ (Nat.le_trans (Nat.le_of_ble_eq_true rfl) hK), (Nat.le_of_ble_eq_true rfl)⟩ rfl rfl (Nat.le_of_ble_eq_true rfl) dX4_loop_192 (mX0_patch ew10 (pI.mk ?_))
  refine r_pop (pc := 195) dX4_loop_195 rfl ?_
  refine r_aload_n (pc := 196) dX4_loop_196 rfl 1 rfl ?_
  refine r_get (pc := 197) (j := 4) (v := .ref 34) oA2 cf4 flRX4_37 rfl dX4_loop_197 rfl ?_
  refine r_iload (pc := 200) dX4_loop_200 3 rfl ?_
  replace h := lt_e h; obtain ⟨w11, ew11, h⟩ := h
  refine r_cVv (pc := 202) wyX5_giveBack oA34 rfl mlRX4_176 iyX5_giveBack syX5_giveBack ⟨Nat.succ_le_succ (Nat.le_trans (Nat.le_of_ble_eq_true rfl) hK), (Nat.le_of_ble_eq_true rfl)⟩ rfl rfl (Nat.le_of_ble_eq_true rfl) dX4_loop_202 (mX5_giveBack ew11 (pV.mk ?_))
  exact rOR_v (pc := 205) rfl dX4_loop_205 h hN
def fX4_loop_120 (rc : TX4_block) (k_95 : Int32 → Int32 → Int32 → Int32 → Int32 → Wd → Option (Int32 × Wd)) (a2 : Int32) (a3 : Int32) (a6 : Int32) (a7 : Int32) (a8 : Int32) (w : Wd) : Option (Int32 × Wd) :=
  bn2 (fX4_element a2 (a3 + 1) a6 a7 w) fun x1 w2 => lt (a8 + 1) fun x3 => k_95 a2 a3 a6 x1 x3 w2
theorem pX4_loop_120 {q : Gq} {l : Launch} {N : Option Value → Wd → Prop} {X : String → Wd → Prop} {rc : TX4_block} {dd : Nat} (hS : HSX4_block q l rc dd) (hK : 911 ≤ dd) {w : Wd} {R : Int32 × Wd} (hN : N none R.2) {k_95 : Int32 → Int32 → Int32 → Int32 → Int32 → Wd → Option (Int32 × Wd)} (hk_95 : ∀ (a2 : Int32) (a3 : Int32) (a6 : Int32) (a7 : Int32) (a8 : Int32) (w : Wd), k_95 a2 a3 a6 a7 a8 w = some R → RT (GA q) l (dd + 1) yX4_loop cX4_loop 9 (none) N X 95 [] [(0, .ref 2), (2, .int a2), (3, .int a3), (6, .int a6), (7, .int a7), (8, .int a8)] w) {a2 : Int32} {a3 : Int32} {a6 : Int32} {a7 : Int32} {a8 : Int32} (h : fX4_loop_120 rc k_95 a2 a3 a6 a7 a8 w = some R) : RT (GA q) l (dd + 1) yX4_loop cX4_loop 9 (none) N X 120 [] [(0, .ref 2), (2, .int a2), (3, .int a3), (6, .int a6), (7, .int a7), (8, .int a8)] w := by
  unfold fX4_loop_120 at h
  refine r_aload_n (pc := 120) dX4_loop_120 rfl 0 rfl ?_
  refine r_iload_n (pc := 121) dX4_loop_121 rfl 1 rfl ?_
  refine r_iload_n (pc := 122) dX4_loop_122 rfl 2 rfl ?_
  refine r_iconst (pc := 123) dX4_loop_123 ki_1 ?_
  refine r_iadd (pc := 124) dX4_loop_124 ?_
  refine r_iload (pc := 125) dX4_loop_125 3 rfl ?_
  refine r_iload (pc := 127) dX4_loop_127 4 rfl ?_
  replace h := bn2_e h; obtain ⟨x1, w2, ew2, h⟩ := h
  refine r_cVi (pc := 129) wyX4_element oA2 rfl mlRX4_380 iyX4_element syX4_element ⟨Nat.succ_le_succ (Nat.le_trans (Nat.le_of_ble_eq_true rfl) hK), (Nat.le_of_ble_eq_true rfl)⟩ rfl rfl (Nat.le_of_ble_eq_true rfl) dX4_loop_129 (mX4_element ew2 (pI.mk ?_))
  refine r_istore (pc := 132) (loc' := [(7, .int x1), (0, .ref 2), (2, .int a2), (3, .int a3), (6, .int a6), (8, .int a8)]) dX4_loop_132 (Nat.le_of_ble_eq_true rfl) rfl ?_
  replace h := lt_e h; obtain ⟨x3, ex3, h⟩ := h
  refine r_inc (pc := 134) (loc' := [(8, .int x3), (7, .int x1), (0, .ref 2), (2, .int a2), (3, .int a3), (6, .int a6)]) dX4_loop_134 ki_1 ex3 5 rfl (Nat.le_of_ble_eq_true rfl) rfl ?_
  refine r_goto (pc := 137) dX4_loop_137 rfl ?_
  refine r_drop (loc' := [(0, .ref 2), (2, .int a2), (3, .int a3), (6, .int a6), (7, .int x1), (8, .int x3)]) [2, 3, 4, 5, 1, 0] rfl ?_
  exact hk_95 a2 a3 a6 x1 x3 w2 h
def fX4_loop_95 (rc : TX4_block) (k_95 : Int32 → Int32 → Int32 → Int32 → Int32 → Wd → Option (Int32 × Wd)) (a2 : Int32) (a3 : Int32) (a6 : Int32) (a7 : Int32) (a8 : Int32) (w : Wd) : Option (Int32 × Wd) :=
  if 8193 ≤ a8 then (fX4_loop_140 rc a2 a6 a7 w) else (if a8 = 0 then (fX4_loop_120 rc k_95 a2 a3 a6 a7 a8 w) else (lt2 (fX9_take 40 w) fun x3 w4 => if x3 = true then (fX4_loop_120 rc k_95 a2 a3 a6 a7 a8 w4) else (fX4_loop_140 rc a2 a6 a7 w4)))
theorem pX4_loop_95 {q : Gq} {l : Launch} {N : Option Value → Wd → Prop} {X : String → Wd → Prop} {rc : TX4_block} {dd : Nat} (hS : HSX4_block q l rc dd) (hK : 911 ≤ dd) {w : Wd} {R : Int32 × Wd} (hN : N none R.2) {k_95 : Int32 → Int32 → Int32 → Int32 → Int32 → Wd → Option (Int32 × Wd)} (hk_95 : ∀ (a2 : Int32) (a3 : Int32) (a6 : Int32) (a7 : Int32) (a8 : Int32) (w : Wd), k_95 a2 a3 a6 a7 a8 w = some R → RT (GA q) l (dd + 1) yX4_loop cX4_loop 9 (none) N X 95 [] [(0, .ref 2), (2, .int a2), (3, .int a3), (6, .int a6), (7, .int a7), (8, .int a8)] w) {a2 : Int32} {a3 : Int32} {a6 : Int32} {a7 : Int32} {a8 : Int32} (h : fX4_loop_95 rc k_95 a2 a3 a6 a7 a8 w = some R) : RT (GA q) l (dd + 1) yX4_loop cX4_loop 9 (none) N X 95 [] [(0, .ref 2), (2, .int a2), (3, .int a3), (6, .int a6), (7, .int a7), (8, .int a8)] w := by
  unfold fX4_loop_95 at h
  refine r_iload (pc := 95) dX4_loop_95 5 rfl ?_
  refine r_sipush (pc := 97) dX4_loop_97 ks_8193 ?_
  refine r_icmp_ge (pc := 100) dX4_loop_100 rfl (fun hc1 => ?_) (fun hc1 => ?_)
  · replace h := if_t hc1 h
    refine r_drop (loc' := [(0, .ref 2), (2, .int a2), (6, .int a6), (7, .int a7)]) [0, 1, 3, 4] rfl ?_
    exact pX4_loop_140 hS hK hN h
  replace h := if_f hc1 h
  refine r_iload (pc := 103) dX4_loop_103 5 rfl ?_
  refine r_if_eq (pc := 105) dX4_loop_105 rfl (fun hc2 => ?_) (fun hc2 => ?_)
  · replace h := if_t hc2 h
    exact pX4_loop_120 hS hK hN hk_95 h
  replace h := if_f hc2 h
  refine r_aload_n (pc := 108) dX4_loop_108 rfl 0 rfl ?_
  refine r_get (pc := 109) (j := 1) (v := .ref 4) oA2 cf4 flRX4_22 rfl dX4_loop_109 rfl ?_
  refine r_bipush (pc := 112) dX4_loop_112 kb_40 ?_
  replace h := lt2_e h; obtain ⟨x3, w4, ew4, h⟩ := h
  refine r_cVi (pc := 114) wyX9_take oA4 rfl mlRX4_164 iyX9_take syX9_take ⟨Nat.succ_le_succ (Nat.le_trans (Nat.le_of_ble_eq_true rfl) hK), (Nat.le_of_ble_eq_true rfl)⟩ rfl rfl (Nat.le_of_ble_eq_true rfl) dX4_loop_114 (mX9_take ew4 (pI.mk ?_))
  refine r_z_eq (pc := 117) dX4_loop_117 rfl (fun hc5 => ?_) (fun hc5 => ?_)
  · replace h := if_f hc5 h
    refine r_drop (loc' := [(0, .ref 2), (2, .int a2), (6, .int a6), (7, .int a7)]) [0, 1, 3, 4] rfl ?_
    exact pX4_loop_140 hS hK hN h
  replace h := if_t hc5 h
  exact pX4_loop_120 hS hK hN hk_95 h
def oX4_loop_95 (rc : TX4_block) : Nat → Int32 → Int32 → Int32 → Int32 → Int32 → Wd → Option (Int32 × Wd)
  | 0 => fun _ _ _ _ _ _ => none
  | n + 1 => fX4_loop_95 rc (oX4_loop_95 rc n)
theorem qX4_loop_95 {q : Gq} {l : Launch} {N : Option Value → Wd → Prop} {X : String → Wd → Prop} {rc : TX4_block} {dd : Nat} (hS : HSX4_block q l rc dd) (hK : 911 ≤ dd) {R : Int32 × Wd} (hN : N none R.2) : ∀ (n : Nat) (a2 : Int32) (a3 : Int32) (a6 : Int32) (a7 : Int32) (a8 : Int32) (w : Wd), oX4_loop_95 rc n a2 a3 a6 a7 a8 w = some R → RT (GA q) l (dd + 1) yX4_loop cX4_loop 9 (none) N X 95 [] [(0, .ref 2), (2, .int a2), (3, .int a3), (6, .int a6), (7, .int a7), (8, .int a8)] w := by
  intro n
  induction n with
  | zero =>
    intro a2 a3 a6 a7 a8 w h
    exact absurd h (fun q => nomatch q)
  | succ n ih =>
    intro a2 a3 a6 a7 a8 w h
    exact pX4_loop_95 hS hK hN ih h
def fX4_loop (rc : TX4_block) (a1 : Int32) (w : Wd) : Option (Int32 × Wd) :=
  lt2 (fX9_open a1 w) fun x1 w2 => lt2 (fX0_put__ 33 w2) fun x3 w4 => lt (fX9_at w4) fun x5 => bn2 (RX2_typed 900 7 x1 0 0 w4) fun x6 w7 => lt (fX1_check 1 x6 x5 w7) fun w8 => lt2 (fX0_put__ 36 w8) fun x9 w10 => lt2 (fX0_patch x3 w10) fun x11 w12 => lt (fX9_need 50 w12) fun w13 => lt2 (fX5_take 1 w13) fun x14 w15 => oX4_loop_95 rc FU x1 x3 x14 0 0 w15
theorem pX4_loop {q : Gq} {l : Launch} {N : Option Value → Wd → Prop} {X : String → Wd → Prop} {rc : TX4_block} {dd : Nat} (hS : HSX4_block q l rc dd) (hK : 911 ≤ dd) {w : Wd} {R : Int32 × Wd} (hN : N none R.2) {a1 : Int32} (h : fX4_loop rc a1 w = some R) : RT (GA q) l (dd + 1) yX4_loop cX4_loop 9 (none) N X 0 [] [(0, .ref 2), (1, .int a1)] w := by
  unfold fX4_loop at h
  refine r_aload_n (pc := 0) dX4_loop_0 rfl 0 rfl ?_
  refine r_get (pc := 1) (j := 1) (v := .ref 4) oA2 cf4 flRX4_22 rfl dX4_loop_1 rfl ?_
  refine r_iload_n (pc := 4) dX4_loop_4 rfl 1 rfl ?_
  replace h := lt2_e h; obtain ⟨x1, w2, ew2, h⟩ := h
  refine r_cVi (pc := 5) wyX9_open oA4 rfl mlRX4_130 iyX9_open syX9_open ⟨Nat.succ_le_succ (Nat.le_trans (Nat.le_of_ble_eq_true rfl) hK), (Nat.le_of_ble_eq_true rfl)⟩ rfl rfl (Nat.le_of_ble_eq_true rfl) dX4_loop_5 (mX9_open ew2 (pI.mk ?_))
  refine r_istore_n (pc := 8) (loc' := [(2, .int x1), (0, .ref 2), (1, .int a1)]) dX4_loop_8 rfl (Nat.le_of_ble_eq_true rfl) rfl ?_
  refine r_aload_n (pc := 9) dX4_loop_9 rfl 1 rfl ?_
  refine r_get (pc := 10) (j := 5) (v := .ref 40) oA2 cf4 flRX4_42 rfl dX4_loop_10 rfl ?_
  refine r_bipush (pc := 13) dX4_loop_13 kb_33 ?_
  replace h := lt2_e h; obtain ⟨x3, w4, ew4, h⟩ := h
  refine r_cVi (pc := 15) wyX0_put__ oA40 rfl mlRX4_108 iyX0_put__ syX0_put__ ⟨Nat.succ_le_succ (Nat.le_trans (Nat.le_of_ble_eq_true rfl) hK), (Nat.le_of_ble_eq_true rfl)⟩ rfl rfl (Nat.le_of_ble_eq_true rfl) dX4_loop_15 (mX0_put__ ew4 (pI.mk ?_))
  refine r_istore_n (pc := 18) (loc' := [(3, .int x3), (2, .int x1), (0, .ref 2), (1, .int a1)]) dX4_loop_18 rfl (Nat.le_of_ble_eq_true rfl) rfl ?_
  refine r_aload_n (pc := 19) dX4_loop_19 rfl 2 rfl ?_
  refine r_get (pc := 20) (j := 1) (v := .ref 4) oA2 cf4 flRX4_22 rfl dX4_loop_20 rfl ?_
  replace h := lt_e h; obtain ⟨x5, ex5, h⟩ := h
  refine r_cVi (pc := 23) wyX9_at oA4 rfl mlRX4_202 iyX9_at syX9_at ⟨Nat.succ_le_succ (Nat.le_trans (Nat.le_of_ble_eq_true rfl) hK), (Nat.le_of_ble_eq_true rfl)⟩ rfl rfl (Nat.le_of_ble_eq_true rfl) dX4_loop_23 (mX9_at ex5 (pI.mk ?_))
  refine r_istore (pc := 26) (loc' := [(4, .int x5), (3, .int x3), (2, .int x1), (0, .ref 2), (1, .int a1)]) dX4_loop_26 (Nat.le_of_ble_eq_true rfl) rfl ?_
  refine r_aload_n (pc := 28) dX4_loop_28 rfl 3 rfl ?_
  refine r_get (pc := 29) (j := 6) (v := .ref 42) oA2 cf4 flRX4_48 rfl dX4_loop_29 rfl ?_
  refine r_iload_n (pc := 32) dX4_loop_32 rfl 2 rfl ?_
  refine r_iconst (pc := 33) dX4_loop_33 ki_0 ?_
  replace h := bn2_e h; obtain ⟨x6, w7, ew7, h⟩ := h
  refine r_cVi (pc := 34) wyX2_place oA42 rfl mlRX4_362 iyX2_place syX2_place ⟨Nat.succ_le_succ (Nat.le_trans (Nat.le_of_ble_eq_true rfl) hK), (Nat.le_of_ble_eq_true rfl)⟩ rfl rfl (Nat.le_of_ble_eq_true rfl) dX4_loop_34 (mX2_place ew7 (pI.mk ?_))
  refine r_istore (pc := 37) (loc' := [(5, .int x6), (4, .int x5), (3, .int x3), (2, .int x1), (0, .ref 2), (1, .int a1)]) dX4_loop_37 (Nat.le_of_ble_eq_true rfl) rfl ?_
  refine r_aload_n (pc := 39) dX4_loop_39 rfl 4 rfl ?_
  refine r_get (pc := 40) (j := 0) (v := .ref 3) oA2 cf4 flRX4_12 rfl dX4_loop_40 rfl ?_
  refine r_iconst (pc := 43) dX4_loop_43 ki_1 ?_
  refine r_iload (pc := 44) dX4_loop_44 0 rfl ?_
  refine r_iload (pc := 46) dX4_loop_46 1 rfl ?_
  replace h := lt_e h; obtain ⟨w8, ew8, h⟩ := h
  refine r_cVv (pc := 48) wyX1_check oA3 rfl mlRX4_374 iyX1_check syX1_check ⟨Nat.succ_le_succ (Nat.le_trans (Nat.le_of_ble_eq_true rfl) hK), (Nat.le_of_ble_eq_true rfl)⟩ rfl rfl (Nat.le_of_ble_eq_true rfl) dX4_loop_48 (mX1_check ew8 (pV.mk ?_))
  refine r_aload_n (pc := 51) dX4_loop_51 rfl 4 rfl ?_
  refine r_get (pc := 52) (j := 5) (v := .ref 40) oA2 cf4 flRX4_42 rfl dX4_loop_52 rfl ?_
  refine r_bipush (pc := 55) dX4_loop_55 kb_36 ?_
  replace h := lt2_e h; obtain ⟨x9, w10, ew10, h⟩ := h
  refine r_cVi (pc := 57) wyX0_put__ oA40 rfl mlRX4_108 iyX0_put__ syX0_put__ ⟨Nat.succ_le_succ (Nat.le_trans (Nat.le_of_ble_eq_true rfl) hK), (Nat.le_of_ble_eq_true rfl)⟩ rfl rfl (Nat.le_of_ble_eq_true rfl) dX4_loop_57 (mX0_put__ ew10 (pI.mk ?_))
  refine r_pop (pc := 60) dX4_loop_60 rfl ?_
  refine r_aload_n (pc := 61) dX4_loop_61 rfl 4 rfl ?_
  refine r_get (pc := 62) (j := 5) (v := .ref 40) oA2 cf4 flRX4_42 rfl dX4_loop_62 rfl ?_
  refine r_iload_n (pc := 65) dX4_loop_65 rfl 2 rfl ?_
  replace h := lt2_e h; obtain ⟨x11, w12, ew12, h⟩ := h
  refine r_cVi (pc := 66) wyX0_patch oA40 rfl mlRX4_259 iyX0_patch syX0_patch ⟨Nat.succ_le_succ (Nat.le_trans (Nat.le_of_ble_eq_true rfl) hK), (Nat.le_of_ble_eq_true rfl)⟩ rfl rfl (Nat.le_of_ble_eq_true rfl) dX4_loop_66 (mX0_patch ew12 (pI.mk ?_))
  refine r_pop (pc := 69) dX4_loop_69 rfl ?_
  refine r_aload_n (pc := 70) dX4_loop_70 rfl 4 rfl ?_
  refine r_get (pc := 71) (j := 1) (v := .ref 4) oA2 cf4 flRX4_22 rfl dX4_loop_71 rfl ?_
  refine r_bipush (pc := 74) dX4_loop_74 kb_50 ?_
  replace h := lt_e h; obtain ⟨w13, ew13, h⟩ := h
  refine r_cVv (pc := 76) wyX9_need oA4 rfl mlRX4_170 iyX9_need syX9_need ⟨Nat.succ_le_succ (Nat.le_trans (Nat.le_of_ble_eq_true rfl) hK), (Nat.le_of_ble_eq_true rfl)⟩ rfl rfl (Nat.le_of_ble_eq_true rfl) dX4_loop_76 (mX9_need ew13 (pV.mk ?_))
  refine r_aload_n (pc := 79) dX4_loop_79 rfl 4 rfl ?_
  refine r_get (pc := 80) (j := 4) (v := .ref 34) oA2 cf4 flRX4_37 rfl dX4_loop_80 rfl ?_
  refine r_iconst (pc := 83) dX4_loop_83 ki_1 ?_
  replace h := lt2_e h; obtain ⟨x14, w15, ew15, h⟩ := h
  refine r_cVi (pc := 84) wyX5_take oA34 rfl mlRX4_150 iyX5_take syX5_take ⟨Nat.succ_le_succ (Nat.le_trans (Nat.le_of_ble_eq_true rfl) hK), (Nat.le_of_ble_eq_true rfl)⟩ rfl rfl (Nat.le_of_ble_eq_true rfl) dX4_loop_84 (mX5_take ew15 (pI.mk ?_))
  refine r_istore (pc := 87) (loc' := [(6, .int x14), (5, .int x6), (4, .int x5), (3, .int x3), (2, .int x1), (0, .ref 2), (1, .int a1)]) dX4_loop_87 (Nat.le_of_ble_eq_true rfl) rfl ?_
  refine r_iconst (pc := 89) dX4_loop_89 ki_0 ?_
  refine r_istore (pc := 90) (loc' := [(7, .int 0), (6, .int x14), (5, .int x6), (4, .int x5), (3, .int x3), (2, .int x1), (0, .ref 2), (1, .int a1)]) dX4_loop_90 (Nat.le_of_ble_eq_true rfl) rfl ?_
  refine r_iconst (pc := 92) dX4_loop_92 ki_0 ?_
  refine r_istore (pc := 93) (loc' := [(8, .int 0), (7, .int 0), (6, .int x14), (5, .int x6), (4, .int x5), (3, .int x3), (2, .int x1), (0, .ref 2), (1, .int a1)]) dX4_loop_93 (Nat.le_of_ble_eq_true rfl) rfl ?_
  refine r_drop (loc' := [(0, .ref 2), (2, .int x1), (3, .int x3), (6, .int x14), (7, .int 0), (8, .int 0)]) [7, 6, 5, 2, 1, 0] rfl ?_
  exact qX4_loop_95 hS hK hN FU x1 x3 x14 0 0 w15 h
/-! AlgolMill$Maker.statement (I)V: O, 1811 -/
theorem dX4_statement_0 : decode cX4_statement 0 = .ok (.iconst 0, 1) := by decide +kernel
theorem dX4_statement_1 : decode cX4_statement 1 = .ok (.istore_n 2, 1) := by decide +kernel
theorem dX4_statement_2 : decode cX4_statement 2 = .ok (.iload_n 2, 1) := by decide +kernel
theorem dX4_statement_3 : decode cX4_statement 3 = .ok (.sipush 8193, 3) := by decide +kernel
theorem dX4_statement_6 : decode cX4_statement 6 = .ok (.if_icmp .ge 55, 3) := by decide +kernel
theorem dX4_statement_9 : decode cX4_statement 9 = .ok (.aload_n 0, 1) := by decide +kernel
theorem dX4_statement_10 : decode cX4_statement 10 = .ok (.invokevirtual 328, 3) := by decide +kernel
theorem dX4_statement_13 : decode cX4_statement 13 = .ok (.ifCond .eq 48, 3) := by decide +kernel
theorem dX4_statement_16 : decode cX4_statement 16 = .ok (.aload_n 0, 1) := by decide +kernel
theorem dX4_statement_17 : decode cX4_statement 17 = .ok (.getfield 42, 3) := by decide +kernel
theorem dX4_statement_20 : decode cX4_statement 20 = .ok (.aload_n 0, 1) := by decide +kernel
theorem dX4_statement_21 : decode cX4_statement 21 = .ok (.iconst 4, 1) := by decide +kernel
theorem dX4_statement_22 : decode cX4_statement 22 = .ok (.iconst 0, 1) := by decide +kernel
theorem dX4_statement_23 : decode cX4_statement 23 = .ok (.invokevirtual 226, 3) := by decide +kernel
theorem dX4_statement_26 : decode cX4_statement 26 = .ok (.invokevirtual 120, 3) := by decide +kernel
theorem dX4_statement_29 : decode cX4_statement 29 = .ok (.aload_n 0, 1) := by decide +kernel
theorem dX4_statement_30 : decode cX4_statement 30 = .ok (.getfield 22, 3) := by decide +kernel
theorem dX4_statement_33 : decode cX4_statement 33 = .ok (.bipush 42, 2) := by decide +kernel
theorem dX4_statement_35 : decode cX4_statement 35 = .ok (.invokevirtual 170, 3) := by decide +kernel
theorem dX4_statement_38 : decode cX4_statement 38 = .ok (.aload_n 0, 1) := by decide +kernel
theorem dX4_statement_39 : decode cX4_statement 39 = .ok (.getfield 42, 3) := by decide +kernel
theorem dX4_statement_42 : decode cX4_statement 42 = .ok (.bipush 32, 2) := by decide +kernel
theorem dX4_statement_44 : decode cX4_statement 44 = .ok (.aload_n 0, 1) := by decide +kernel
theorem dX4_statement_45 : decode cX4_statement 45 = .ok (.getfield 37, 3) := by decide +kernel
theorem dX4_statement_48 : decode cX4_statement 48 = .ok (.invokevirtual 135, 3) := by decide +kernel
theorem dX4_statement_51 : decode cX4_statement 51 = .ok (.invokevirtual 156, 3) := by decide +kernel
theorem dX4_statement_54 : decode cX4_statement 54 = .ok (.pop, 1) := by decide +kernel
theorem dX4_statement_55 : decode cX4_statement 55 = .ok (.iinc 2 1, 3) := by decide +kernel
theorem dX4_statement_58 : decode cX4_statement 58 = .ok (.goto (-56), 3) := by decide +kernel
theorem dX4_statement_61 : decode cX4_statement 61 = .ok (.aload_n 0, 1) := by decide +kernel
theorem dX4_statement_62 : decode cX4_statement 62 = .ok (.getfield 22, 3) := by decide +kernel
theorem dX4_statement_65 : decode cX4_statement 65 = .ok (.invokevirtual 96, 3) := by decide +kernel
theorem dX4_statement_68 : decode cX4_statement 68 = .ok (.lookupswitch 191 #[(2, 60), (4, 173), (14, 96), (15, 137), (18, 155), (32, 78)], 60) := by decide +kernel
theorem dX4_statement_128 : decode cX4_statement 128 = .ok (.aload_n 0, 1) := by decide +kernel
theorem dX4_statement_129 : decode cX4_statement 129 = .ok (.getfield 42, 3) := by decide +kernel
theorem dX4_statement_132 : decode cX4_statement 132 = .ok (.bipush 40, 2) := by decide +kernel
theorem dX4_statement_134 : decode cX4_statement 134 = .ok (.invokevirtual 108, 3) := by decide +kernel
theorem dX4_statement_137 : decode cX4_statement 137 = .ok (.pop, 1) := by decide +kernel
theorem dX4_statement_138 : decode cX4_statement 138 = .ok (.aload_n 0, 1) := by decide +kernel
theorem dX4_statement_139 : decode cX4_statement 139 = .ok (.iload_n 1, 1) := by decide +kernel
theorem dX4_statement_140 : decode cX4_statement 140 = .ok (.invokevirtual 331, 3) := by decide +kernel
theorem dX4_statement_143 : decode cX4_statement 143 = .ok (.goto 116, 3) := by decide +kernel
theorem dX4_statement_146 : decode cX4_statement 146 = .ok (.aload_n 0, 1) := by decide +kernel
theorem dX4_statement_147 : decode cX4_statement 147 = .ok (.getfield 42, 3) := by decide +kernel
theorem dX4_statement_150 : decode cX4_statement 150 = .ok (.bipush 40, 2) := by decide +kernel
theorem dX4_statement_152 : decode cX4_statement 152 = .ok (.invokevirtual 108, 3) := by decide +kernel
theorem dX4_statement_155 : decode cX4_statement 155 = .ok (.pop, 1) := by decide +kernel
theorem dX4_statement_156 : decode cX4_statement 156 = .ok (.aload_n 0, 1) := by decide +kernel
theorem dX4_statement_157 : decode cX4_statement 157 = .ok (.iload_n 1, 1) := by decide +kernel
theorem dX4_statement_158 : decode cX4_statement 158 = .ok (.invokevirtual 334, 3) := by decide +kernel
theorem dX4_statement_161 : decode cX4_statement 161 = .ok (.goto 98, 3) := by decide +kernel
theorem dX4_statement_164 : decode cX4_statement 164 = .ok (.aload_n 0, 1) := by decide +kernel
theorem dX4_statement_165 : decode cX4_statement 165 = .ok (.getfield 42, 3) := by decide +kernel
theorem dX4_statement_168 : decode cX4_statement 168 = .ok (.bipush 40, 2) := by decide +kernel
theorem dX4_statement_170 : decode cX4_statement 170 = .ok (.invokevirtual 108, 3) := by decide +kernel
theorem dX4_statement_173 : decode cX4_statement 173 = .ok (.pop, 1) := by decide +kernel
theorem dX4_statement_174 : decode cX4_statement 174 = .ok (.aload_n 0, 1) := by decide +kernel
theorem dX4_statement_175 : decode cX4_statement 175 = .ok (.getfield 22, 3) := by decide +kernel
theorem dX4_statement_178 : decode cX4_statement 178 = .ok (.bipush 14, 2) := by decide +kernel
theorem dX4_statement_180 : decode cX4_statement 180 = .ok (.invokevirtual 170, 3) := by decide +kernel
theorem dX4_statement_183 : decode cX4_statement 183 = .ok (.aload_n 0, 1) := by decide +kernel
theorem dX4_statement_184 : decode cX4_statement 184 = .ok (.getfield 48, 3) := by decide +kernel
theorem dX4_statement_187 : decode cX4_statement 187 = .ok (.iload_n 1, 1) := by decide +kernel
theorem dX4_statement_188 : decode cX4_statement 188 = .ok (.iconst 1, 1) := by decide +kernel
theorem dX4_statement_189 : decode cX4_statement 189 = .ok (.invokevirtual 253, 3) := by decide +kernel
theorem dX4_statement_192 : decode cX4_statement 192 = .ok (.aload_n 0, 1) := by decide +kernel
theorem dX4_statement_193 : decode cX4_statement 193 = .ok (.getfield 42, 3) := by decide +kernel
theorem dX4_statement_196 : decode cX4_statement 196 = .ok (.bipush 50, 2) := by decide +kernel
theorem dX4_statement_198 : decode cX4_statement 198 = .ok (.invokevirtual 108, 3) := by decide +kernel
theorem dX4_statement_201 : decode cX4_statement 201 = .ok (.pop, 1) := by decide +kernel
theorem dX4_statement_202 : decode cX4_statement 202 = .ok (.goto 57, 3) := by decide +kernel
theorem dX4_statement_205 : decode cX4_statement 205 = .ok (.aload_n 0, 1) := by decide +kernel
theorem dX4_statement_206 : decode cX4_statement 206 = .ok (.getfield 42, 3) := by decide +kernel
theorem dX4_statement_209 : decode cX4_statement 209 = .ok (.bipush 40, 2) := by decide +kernel
theorem dX4_statement_211 : decode cX4_statement 211 = .ok (.invokevirtual 108, 3) := by decide +kernel
theorem dX4_statement_214 : decode cX4_statement 214 = .ok (.pop, 1) := by decide +kernel
theorem dX4_statement_215 : decode cX4_statement 215 = .ok (.aload_n 0, 1) := by decide +kernel
theorem dX4_statement_216 : decode cX4_statement 216 = .ok (.iload_n 1, 1) := by decide +kernel
theorem dX4_statement_217 : decode cX4_statement 217 = .ok (.invokevirtual 337, 3) := by decide +kernel
theorem dX4_statement_220 : decode cX4_statement 220 = .ok (.goto 39, 3) := by decide +kernel
theorem dX4_statement_223 : decode cX4_statement 223 = .ok (.aload_n 0, 1) := by decide +kernel
theorem dX4_statement_224 : decode cX4_statement 224 = .ok (.getfield 42, 3) := by decide +kernel
theorem dX4_statement_227 : decode cX4_statement 227 = .ok (.bipush 40, 2) := by decide +kernel
theorem dX4_statement_229 : decode cX4_statement 229 = .ok (.invokevirtual 108, 3) := by decide +kernel
theorem dX4_statement_232 : decode cX4_statement 232 = .ok (.pop, 1) := by decide +kernel
theorem dX4_statement_233 : decode cX4_statement 233 = .ok (.aload_n 0, 1) := by decide +kernel
theorem dX4_statement_234 : decode cX4_statement 234 = .ok (.iload_n 1, 1) := by decide +kernel
theorem dX4_statement_235 : decode cX4_statement 235 = .ok (.invokevirtual 340, 3) := by decide +kernel
theorem dX4_statement_238 : decode cX4_statement 238 = .ok (.goto 21, 3) := by decide +kernel
theorem dX4_statement_241 : decode cX4_statement 241 = .ok (.aload_n 0, 1) := by decide +kernel
theorem dX4_statement_242 : decode cX4_statement 242 = .ok (.getfield 42, 3) := by decide +kernel
theorem dX4_statement_245 : decode cX4_statement 245 = .ok (.bipush 40, 2) := by decide +kernel
theorem dX4_statement_247 : decode cX4_statement 247 = .ok (.invokevirtual 108, 3) := by decide +kernel
theorem dX4_statement_250 : decode cX4_statement 250 = .ok (.pop, 1) := by decide +kernel
theorem dX4_statement_251 : decode cX4_statement 251 = .ok (.aload_n 0, 1) := by decide +kernel
theorem dX4_statement_252 : decode cX4_statement 252 = .ok (.iload_n 1, 1) := by decide +kernel
theorem dX4_statement_253 : decode cX4_statement 253 = .ok (.invokevirtual 99, 3) := by decide +kernel
theorem dX4_statement_256 : decode cX4_statement 256 = .ok (.goto 3, 3) := by decide +kernel
theorem dX4_statement_259 : decode cX4_statement 259 = .ok (.return_, 1) := by decide +kernel
def fX4_statement_61 (rc : TX4_block) (a1 : Int32) (w : Wd) : Option (Int32 × Wd) :=
  lt (fX9_kind w) fun x1 => if x1 = 2 then (lt2 (fX0_put__ 40 w) fun x3 w4 => bn (fX4_named a1 w4) fun w5 => some (0, w5)) else if x1 = 4 then (lt2 (fX0_put__ 40 w) fun x7 w8 => bn2 (rc 0 a1 0 0 w8) fun _ w10 => some (0, w10)) else if x1 = 14 then (lt2 (fX0_put__ 40 w) fun x12 w13 => lt (fX9_need 14 w13) fun w14 => bn2 (RX2_typed 900 11 a1 1 0 w14) fun _ w16 => lt2 (fX0_put__ 50 w16) fun x17 w18 => some (0, w18)) else if x1 = 15 then (lt2 (fX0_put__ 40 w) fun x20 w21 => bn2 (rc 6 a1 0 0 w21) fun _ w23 => some (0, w23)) else if x1 = 18 then (lt2 (fX0_put__ 40 w) fun x25 w26 => bn2 (rc 7 a1 0 0 w26) fun _ w28 => some (0, w28)) else if x1 = 32 then (lt2 (fX0_put__ 40 w) fun x30 w31 => bn (fX4_print a1 w31) fun w32 => some (0, w32)) else (some (0, w))
set_option maxHeartbeats 16000000 in
theorem pX4_statement_61 {q : Gq} {l : Launch} {N : Option Value → Wd → Prop} {X : String → Wd → Prop} {rc : TX4_block} {dd : Nat} (hS : HSX4_block q l rc dd) (hK : 911 ≤ dd) {w : Wd} {R : Int32 × Wd} (hN : N none R.2) {a1 : Int32} (h : fX4_statement_61 rc a1 w = some R) : RT (GA q) l (dd + 1) yX4_statement cX4_statement 3 (none) N X 61 [] [(0, .ref 2), (1, .int a1)] w := by
  unfold fX4_statement_61 at h
  refine r_aload_n (pc := 61) dX4_statement_61 rfl 0 rfl ?_
  refine r_get (pc := 62) (j := 1) (v := .ref 4) oA2 cf4 flRX4_22 rfl dX4_statement_62 rfl ?_
  replace h := lt_e h; obtain ⟨x1, ex1, h⟩ := h
  refine r_cVi (pc := 65) wyX9_kind oA4 rfl mlRX4_96 iyX9_kind syX9_kind ⟨Nat.succ_le_succ (Nat.le_trans (Nat.le_of_ble_eq_true rfl) hK), (Nat.le_of_ble_eq_true rfl)⟩ rfl rfl (Nat.le_of_ble_eq_true rfl) dX4_statement_65 (mX9_kind ex1 (pI.mk ?_))
  by_cases hc2 : x1 = 2
  · refine r_lkC (pc := 68) (off := 60) (tgt := 128) (L := [2]) dX4_statement_68 (by decide) hc2 (by decide) rfl ?_
    replace h := if_t hc2 h
    refine r_aload_n (pc := 128) dX4_statement_128 rfl 0 rfl ?_
    refine r_get (pc := 129) (j := 5) (v := .ref 40) oA2 cf4 flRX4_42 rfl dX4_statement_129 rfl ?_
    refine r_bipush (pc := 132) dX4_statement_132 kb_40 ?_
    replace h := lt2_e h; obtain ⟨x3, w4, ew4, h⟩ := h
    refine r_cVi (pc := 134) wyX0_put__ oA40 rfl mlRX4_108 iyX0_put__ syX0_put__ ⟨Nat.succ_le_succ (Nat.le_trans (Nat.le_of_ble_eq_true rfl) hK), (Nat.le_of_ble_eq_true rfl)⟩ rfl rfl (Nat.le_of_ble_eq_true rfl) dX4_statement_134 (mX0_put__ ew4 (pI.mk ?_))
    refine r_pop (pc := 137) dX4_statement_137 rfl ?_
    refine r_aload_n (pc := 138) dX4_statement_138 rfl 0 rfl ?_
    refine r_iload_n (pc := 139) dX4_statement_139 rfl 1 rfl ?_
    replace h := bn_e h; obtain ⟨w5, ew5, h⟩ := h
    refine r_cVv (pc := 140) wyX4_named oA2 rfl mlRX4_331 iyX4_named syX4_named ⟨Nat.succ_le_succ (Nat.le_trans (Nat.le_of_ble_eq_true rfl) hK), (Nat.le_of_ble_eq_true rfl)⟩ rfl rfl (Nat.le_of_ble_eq_true rfl) dX4_statement_140 (mX4_named ew5 (pV.mk ?_))
    refine r_goto (pc := 143) dX4_statement_143 rfl ?_
    exact rOR_v (pc := 259) rfl dX4_statement_259 h hN
  replace h := if_f hc2 h
  by_cases hc6 : x1 = 4
  · refine r_lkC (pc := 68) (off := 173) (tgt := 241) (L := [4]) dX4_statement_68 (by decide) hc6 (by decide) rfl ?_
    replace h := if_t hc6 h
    refine r_aload_n (pc := 241) dX4_statement_241 rfl 0 rfl ?_
    refine r_get (pc := 242) (j := 5) (v := .ref 40) oA2 cf4 flRX4_42 rfl dX4_statement_242 rfl ?_
    refine r_bipush (pc := 245) dX4_statement_245 kb_40 ?_
    replace h := lt2_e h; obtain ⟨x7, w8, ew8, h⟩ := h
    refine r_cVi (pc := 247) wyX0_put__ oA40 rfl mlRX4_108 iyX0_put__ syX0_put__ ⟨Nat.succ_le_succ (Nat.le_trans (Nat.le_of_ble_eq_true rfl) hK), (Nat.le_of_ble_eq_true rfl)⟩ rfl rfl (Nat.le_of_ble_eq_true rfl) dX4_statement_247 (mX0_put__ ew8 (pI.mk ?_))
    refine r_pop (pc := 250) dX4_statement_250 rfl ?_
    refine r_aload_n (pc := 251) dX4_statement_251 rfl 0 rfl ?_
    refine r_iload_n (pc := 252) dX4_statement_252 rfl 1 rfl ?_
    replace h := bn2_e h; obtain ⟨x9, w10, ew10, h⟩ := h
    refine r_cVv (pc := 253) wyX4_block oA2 rfl mlRX4_99 iyX4_block syX4_block ⟨Nat.le_refl _, (Nat.le_of_ble_eq_true rfl)⟩ rfl rfl (Nat.le_of_ble_eq_true rfl) dX4_statement_253 ((hS.1 _ _ _ _ _ _) ew10 (pV.mk ?_))
    refine r_goto (pc := 256) dX4_statement_256 rfl ?_
    exact rOR_v (pc := 259) rfl dX4_statement_259 h hN
  replace h := if_f hc6 h
  by_cases hc11 : x1 = 14
  · refine r_lkC (pc := 68) (off := 96) (tgt := 164) (L := [14]) dX4_statement_68 (by decide) hc11 (by decide) rfl ?_
    replace h := if_t hc11 h
    refine r_aload_n (pc := 164) dX4_statement_164 rfl 0 rfl ?_
    refine r_get (pc := 165) (j := 5) (v := .ref 40) oA2 cf4 flRX4_42 rfl dX4_statement_165 rfl ?_
    refine r_bipush (pc := 168) dX4_statement_168 kb_40 ?_
    replace h := lt2_e h; obtain ⟨x12, w13, ew13, h⟩ := h
    refine r_cVi (pc := 170) wyX0_put__ oA40 rfl mlRX4_108 iyX0_put__ syX0_put__ ⟨Nat.succ_le_succ (Nat.le_trans (Nat.le_of_ble_eq_true rfl) hK), (Nat.le_of_ble_eq_true rfl)⟩ rfl rfl (Nat.le_of_ble_eq_true rfl) dX4_statement_170 (mX0_put__ ew13 (pI.mk ?_))
    refine r_pop (pc := 173) dX4_statement_173 rfl ?_
    refine r_aload_n (pc := 174) dX4_statement_174 rfl 0 rfl ?_
    refine r_get (pc := 175) (j := 1) (v := .ref 4) oA2 cf4 flRX4_22 rfl dX4_statement_175 rfl ?_
    refine r_bipush (pc := 178) dX4_statement_178 kb_14 ?_
    replace h := lt_e h; obtain ⟨w14, ew14, h⟩ := h
    refine r_cVv (pc := 180) wyX9_need oA4 rfl mlRX4_170 iyX9_need syX9_need ⟨Nat.succ_le_succ (Nat.le_trans (Nat.le_of_ble_eq_true rfl) hK), (Nat.le_of_ble_eq_true rfl)⟩ rfl rfl (Nat.le_of_ble_eq_true rfl) dX4_statement_180 (mX9_need ew14 (pV.mk ?_))
    refine r_aload_n (pc := 183) dX4_statement_183 rfl 0 rfl ?_
    refine r_get (pc := 184) (j := 6) (v := .ref 42) oA2 cf4 flRX4_48 rfl dX4_statement_184 rfl ?_
    refine r_iload_n (pc := 187) dX4_statement_187 rfl 1 rfl ?_
    refine r_iconst (pc := 188) dX4_statement_188 ki_1 ?_
    replace h := bn2_e h; obtain ⟨x15, w16, ew16, h⟩ := h
    refine r_cVv (pc := 189) wyX2_aim oA42 rfl mlRX4_253 iyX2_aim syX2_aim ⟨Nat.succ_le_succ (Nat.le_trans (Nat.le_of_ble_eq_true rfl) hK), (Nat.le_of_ble_eq_true rfl)⟩ rfl rfl (Nat.le_of_ble_eq_true rfl) dX4_statement_189 (mX2_aim ew16 (pV.mk ?_))
    refine r_aload_n (pc := 192) dX4_statement_192 rfl 0 rfl ?_
    refine r_get (pc := 193) (j := 5) (v := .ref 40) oA2 cf4 flRX4_42 rfl dX4_statement_193 rfl ?_
    refine r_bipush (pc := 196) dX4_statement_196 kb_50 ?_
    replace h := lt2_e h; obtain ⟨x17, w18, ew18, h⟩ := h
    refine r_cVi (pc := 198) wyX0_put__ oA40 rfl mlRX4_108 iyX0_put__ syX0_put__ ⟨Nat.succ_le_succ (Nat.le_trans (Nat.le_of_ble_eq_true rfl) hK), (Nat.le_of_ble_eq_true rfl)⟩ rfl rfl (Nat.le_of_ble_eq_true rfl) dX4_statement_198 (mX0_put__ ew18 (pI.mk ?_))
    refine r_pop (pc := 201) dX4_statement_201 rfl ?_
    refine r_goto (pc := 202) dX4_statement_202 rfl ?_
    exact rOR_v (pc := 259) rfl dX4_statement_259 h hN
  replace h := if_f hc11 h
  by_cases hc19 : x1 = 15
  · refine r_lkC (pc := 68) (off := 137) (tgt := 205) (L := [15]) dX4_statement_68 (by decide) hc19 (by decide) rfl ?_
    replace h := if_t hc19 h
    refine r_aload_n (pc := 205) dX4_statement_205 rfl 0 rfl ?_
    refine r_get (pc := 206) (j := 5) (v := .ref 40) oA2 cf4 flRX4_42 rfl dX4_statement_206 rfl ?_
    refine r_bipush (pc := 209) dX4_statement_209 kb_40 ?_
    replace h := lt2_e h; obtain ⟨x20, w21, ew21, h⟩ := h
    refine r_cVi (pc := 211) wyX0_put__ oA40 rfl mlRX4_108 iyX0_put__ syX0_put__ ⟨Nat.succ_le_succ (Nat.le_trans (Nat.le_of_ble_eq_true rfl) hK), (Nat.le_of_ble_eq_true rfl)⟩ rfl rfl (Nat.le_of_ble_eq_true rfl) dX4_statement_211 (mX0_put__ ew21 (pI.mk ?_))
    refine r_pop (pc := 214) dX4_statement_214 rfl ?_
    refine r_aload_n (pc := 215) dX4_statement_215 rfl 0 rfl ?_
    refine r_iload_n (pc := 216) dX4_statement_216 rfl 1 rfl ?_
    replace h := bn2_e h; obtain ⟨x22, w23, ew23, h⟩ := h
    refine r_cVv (pc := 217) wyX4_choice oA2 rfl mlRX4_337 iyX4_choice syX4_choice ⟨Nat.le_refl _, (Nat.le_of_ble_eq_true rfl)⟩ rfl rfl (Nat.le_of_ble_eq_true rfl) dX4_statement_217 ((hS.2.2.2.2.2.2.1 _ _ _ _ _ _) ew23 (pV.mk ?_))
    refine r_goto (pc := 220) dX4_statement_220 rfl ?_
    exact rOR_v (pc := 259) rfl dX4_statement_259 h hN
  replace h := if_f hc19 h
  by_cases hc24 : x1 = 18
  · refine r_lkC (pc := 68) (off := 155) (tgt := 223) (L := [18]) dX4_statement_68 (by decide) hc24 (by decide) rfl ?_
    replace h := if_t hc24 h
    refine r_aload_n (pc := 223) dX4_statement_223 rfl 0 rfl ?_
    refine r_get (pc := 224) (j := 5) (v := .ref 40) oA2 cf4 flRX4_42 rfl dX4_statement_224 rfl ?_
    refine r_bipush (pc := 227) dX4_statement_227 kb_40 ?_
    replace h := lt2_e h; obtain ⟨x25, w26, ew26, h⟩ := h
    refine r_cVi (pc := 229) wyX0_put__ oA40 rfl mlRX4_108 iyX0_put__ syX0_put__ ⟨Nat.succ_le_succ (Nat.le_trans (Nat.le_of_ble_eq_true rfl) hK), (Nat.le_of_ble_eq_true rfl)⟩ rfl rfl (Nat.le_of_ble_eq_true rfl) dX4_statement_229 (mX0_put__ ew26 (pI.mk ?_))
    refine r_pop (pc := 232) dX4_statement_232 rfl ?_
    refine r_aload_n (pc := 233) dX4_statement_233 rfl 0 rfl ?_
    refine r_iload_n (pc := 234) dX4_statement_234 rfl 1 rfl ?_
    replace h := bn2_e h; obtain ⟨x27, w28, ew28, h⟩ := h
    refine r_cVv (pc := 235) wyX4_loop oA2 rfl mlRX4_340 iyX4_loop syX4_loop ⟨Nat.le_refl _, (Nat.le_of_ble_eq_true rfl)⟩ rfl rfl (Nat.le_of_ble_eq_true rfl) dX4_statement_235 ((hS.2.2.2.2.2.2.2 _ _ _ _ _ _) ew28 (pV.mk ?_))
    refine r_goto (pc := 238) dX4_statement_238 rfl ?_
    exact rOR_v (pc := 259) rfl dX4_statement_259 h hN
  replace h := if_f hc24 h
  by_cases hc29 : x1 = 32
  · refine r_lkC (pc := 68) (off := 78) (tgt := 146) (L := [32]) dX4_statement_68 (by decide) hc29 (by decide) rfl ?_
    replace h := if_t hc29 h
    refine r_aload_n (pc := 146) dX4_statement_146 rfl 0 rfl ?_
    refine r_get (pc := 147) (j := 5) (v := .ref 40) oA2 cf4 flRX4_42 rfl dX4_statement_147 rfl ?_
    refine r_bipush (pc := 150) dX4_statement_150 kb_40 ?_
    replace h := lt2_e h; obtain ⟨x30, w31, ew31, h⟩ := h
    refine r_cVi (pc := 152) wyX0_put__ oA40 rfl mlRX4_108 iyX0_put__ syX0_put__ ⟨Nat.succ_le_succ (Nat.le_trans (Nat.le_of_ble_eq_true rfl) hK), (Nat.le_of_ble_eq_true rfl)⟩ rfl rfl (Nat.le_of_ble_eq_true rfl) dX4_statement_152 (mX0_put__ ew31 (pI.mk ?_))
    refine r_pop (pc := 155) dX4_statement_155 rfl ?_
    refine r_aload_n (pc := 156) dX4_statement_156 rfl 0 rfl ?_
    refine r_iload_n (pc := 157) dX4_statement_157 rfl 1 rfl ?_
    replace h := bn_e h; obtain ⟨w32, ew32, h⟩ := h
    refine r_cVv (pc := 158) wyX4_print oA2 rfl mlRX4_334 iyX4_print syX4_print ⟨Nat.succ_le_succ (Nat.le_trans (Nat.le_of_ble_eq_true rfl) hK), (Nat.le_of_ble_eq_true rfl)⟩ rfl rfl (Nat.le_of_ble_eq_true rfl) dX4_statement_158 (mX4_print ew32 (pV.mk ?_))
    refine r_goto (pc := 161) dX4_statement_161 rfl ?_
    exact rOR_v (pc := 259) rfl dX4_statement_259 h hN
  replace h := if_f hc29 h
  refine r_lkD (pc := 68) (tgt := 259) (K := [[2], [4], [14], [15], [18], [32]]) dX4_statement_68 (by decide) ⟨hc2, hc6, hc11, hc19, hc24, hc29, trivial⟩ (by decide) rfl ?_
  exact rOR_v (pc := 259) rfl dX4_statement_259 h hN
def fX4_statement_2 (rc : TX4_block) (k_2 : Int32 → Int32 → Wd → Option (Int32 × Wd)) (a1 : Int32) (a2 : Int32) (w : Wd) : Option (Int32 × Wd) :=
  if 8193 ≤ a2 then (fX4_statement_61 rc a1 w) else (lt (fX4_isLabel w) fun x2 => if x2 = true then (lt2 (fX4_declared 4 0 w) fun x4 w5 => lt (fX0_setCell x4 w5) fun w6 => lt (fX9_need 42 w6) fun w7 => lt (fX5_keep w7) fun x8 => lt2 (fX0_put_ 32 x8 w7) fun x9 w10 => lt (a2 + 1) fun x11 => k_2 a1 x11 w10) else (fX4_statement_61 rc a1 w))
theorem pX4_statement_2 {q : Gq} {l : Launch} {N : Option Value → Wd → Prop} {X : String → Wd → Prop} {rc : TX4_block} {dd : Nat} (hS : HSX4_block q l rc dd) (hK : 911 ≤ dd) {w : Wd} {R : Int32 × Wd} (hN : N none R.2) {k_2 : Int32 → Int32 → Wd → Option (Int32 × Wd)} (hk_2 : ∀ (a1 : Int32) (a2 : Int32) (w : Wd), k_2 a1 a2 w = some R → RT (GA q) l (dd + 1) yX4_statement cX4_statement 3 (none) N X 2 [] [(0, .ref 2), (1, .int a1), (2, .int a2)] w) {a1 : Int32} {a2 : Int32} (h : fX4_statement_2 rc k_2 a1 a2 w = some R) : RT (GA q) l (dd + 1) yX4_statement cX4_statement 3 (none) N X 2 [] [(0, .ref 2), (1, .int a1), (2, .int a2)] w := by
  unfold fX4_statement_2 at h
  refine r_iload_n (pc := 2) dX4_statement_2 rfl 2 rfl ?_
  refine r_sipush (pc := 3) dX4_statement_3 ks_8193 ?_
  refine r_icmp_ge (pc := 6) dX4_statement_6 rfl (fun hc1 => ?_) (fun hc1 => ?_)
  · replace h := if_t hc1 h
    refine r_drop (loc' := [(0, .ref 2), (1, .int a1)]) [0, 1] rfl ?_
    exact pX4_statement_61 hS hK hN h
  replace h := if_f hc1 h
  refine r_aload_n (pc := 9) dX4_statement_9 rfl 0 rfl ?_
  replace h := lt_e h; obtain ⟨x2, ex2, h⟩ := h
  refine r_cVi (pc := 10) wyX4_isLabel oA2 rfl mlRX4_328 iyX4_isLabel syX4_isLabel ⟨Nat.succ_le_succ (Nat.le_trans (Nat.le_of_ble_eq_true rfl) hK), (Nat.le_of_ble_eq_true rfl)⟩ rfl rfl (Nat.le_of_ble_eq_true rfl) dX4_statement_10 (mX4_isLabel ex2 (pI.mk ?_))
  refine r_z_eq (pc := 13) dX4_statement_13 rfl (fun hc3 => ?_) (fun hc3 => ?_)
  · replace h := if_f hc3 h
    refine r_drop (loc' := [(0, .ref 2), (1, .int a1)]) [0, 1] rfl ?_
    exact pX4_statement_61 hS hK hN h
  replace h := if_t hc3 h
  refine r_aload_n (pc := 16) dX4_statement_16 rfl 0 rfl ?_
  refine r_get (pc := 17) (j := 5) (v := .ref 40) oA2 cf4 flRX4_42 rfl dX4_statement_17 rfl ?_
  refine r_aload_n (pc := 20) dX4_statement_20 rfl 0 rfl ?_
  refine r_iconst (pc := 21) dX4_statement_21 ki_4 ?_
  refine r_iconst (pc := 22) dX4_statement_22 ki_0 ?_
  replace h := lt2_e h; obtain ⟨x4, w5, ew5, h⟩ := h
  refine r_cVi (pc := 23) wyX4_declared oA2 rfl mlRX4_226 iyX4_declared syX4_declared ⟨Nat.succ_le_succ (Nat.le_trans (Nat.le_of_ble_eq_true rfl) hK), (Nat.le_of_ble_eq_true rfl)⟩ rfl rfl (Nat.le_of_ble_eq_true rfl) dX4_statement_23 (mX4_declared ew5 (pI.mk ?_))
  replace h := lt_e h; obtain ⟨w6, ew6, h⟩ := h
  refine r_cVv (pc := 26) wyX0_setCell oA40 rfl mlRX4_120 iyX0_setCell syX0_setCell ⟨Nat.succ_le_succ (Nat.le_trans (Nat.le_of_ble_eq_true rfl) hK), (Nat.le_of_ble_eq_true rfl)⟩ rfl rfl (Nat.le_of_ble_eq_true rfl) dX4_statement_26 (mX0_setCell ew6 (pV.mk ?_))
  refine r_aload_n (pc := 29) dX4_statement_29 rfl 0 rfl ?_
  refine r_get (pc := 30) (j := 1) (v := .ref 4) oA2 cf4 flRX4_22 rfl dX4_statement_30 rfl ?_
  refine r_bipush (pc := 33) dX4_statement_33 kb_42 ?_
  replace h := lt_e h; obtain ⟨w7, ew7, h⟩ := h
  refine r_cVv (pc := 35) wyX9_need oA4 rfl mlRX4_170 iyX9_need syX9_need ⟨Nat.succ_le_succ (Nat.le_trans (Nat.le_of_ble_eq_true rfl) hK), (Nat.le_of_ble_eq_true rfl)⟩ rfl rfl (Nat.le_of_ble_eq_true rfl) dX4_statement_35 (mX9_need ew7 (pV.mk ?_))
  refine r_aload_n (pc := 38) dX4_statement_38 rfl 0 rfl ?_
  refine r_get (pc := 39) (j := 5) (v := .ref 40) oA2 cf4 flRX4_42 rfl dX4_statement_39 rfl ?_
  refine r_bipush (pc := 42) dX4_statement_42 kb_32 ?_
  refine r_aload_n (pc := 44) dX4_statement_44 rfl 0 rfl ?_
  refine r_get (pc := 45) (j := 4) (v := .ref 34) oA2 cf4 flRX4_37 rfl dX4_statement_45 rfl ?_
  replace h := lt_e h; obtain ⟨x8, ex8, h⟩ := h
  refine r_cVi (pc := 48) wyX5_keep oA34 rfl mlRX4_135 iyX5_keep syX5_keep ⟨Nat.succ_le_succ (Nat.le_trans (Nat.le_of_ble_eq_true rfl) hK), (Nat.le_of_ble_eq_true rfl)⟩ rfl rfl (Nat.le_of_ble_eq_true rfl) dX4_statement_48 (mX5_keep ex8 (pI.mk ?_))
  replace h := lt2_e h; obtain ⟨x9, w10, ew10, h⟩ := h
  refine r_cVi (pc := 51) wyX0_put_ oA40 rfl mlRX4_156 iyX0_put_ syX0_put_ ⟨Nat.succ_le_succ (Nat.le_trans (Nat.le_of_ble_eq_true rfl) hK), (Nat.le_of_ble_eq_true rfl)⟩ rfl rfl (Nat.le_of_ble_eq_true rfl) dX4_statement_51 (mX0_put_ ew10 (pI.mk ?_))
  refine r_pop (pc := 54) dX4_statement_54 rfl ?_
  replace h := lt_e h; obtain ⟨x11, ex11, h⟩ := h
  refine r_inc (pc := 55) (loc' := [(2, .int x11), (0, .ref 2), (1, .int a1)]) dX4_statement_55 ki_1 ex11 2 rfl (Nat.le_of_ble_eq_true rfl) rfl ?_
  refine r_goto (pc := 58) dX4_statement_58 rfl ?_
  refine r_drop (loc' := [(0, .ref 2), (1, .int a1), (2, .int x11)]) [1, 2, 0] rfl ?_
  exact hk_2 a1 x11 w10 h
def oX4_statement_2 (rc : TX4_block) : Nat → Int32 → Int32 → Wd → Option (Int32 × Wd)
  | 0 => fun _ _ _ => none
  | n + 1 => fX4_statement_2 rc (oX4_statement_2 rc n)
theorem qX4_statement_2 {q : Gq} {l : Launch} {N : Option Value → Wd → Prop} {X : String → Wd → Prop} {rc : TX4_block} {dd : Nat} (hS : HSX4_block q l rc dd) (hK : 911 ≤ dd) {R : Int32 × Wd} (hN : N none R.2) : ∀ (n : Nat) (a1 : Int32) (a2 : Int32) (w : Wd), oX4_statement_2 rc n a1 a2 w = some R → RT (GA q) l (dd + 1) yX4_statement cX4_statement 3 (none) N X 2 [] [(0, .ref 2), (1, .int a1), (2, .int a2)] w := by
  intro n
  induction n with
  | zero =>
    intro a1 a2 w h
    exact absurd h (fun q => nomatch q)
  | succ n ih =>
    intro a1 a2 w h
    exact pX4_statement_2 hS hK hN ih h
def fX4_statement (rc : TX4_block) (a1 : Int32) (w : Wd) : Option (Int32 × Wd) :=
  oX4_statement_2 rc FU a1 0 w
theorem pX4_statement {q : Gq} {l : Launch} {N : Option Value → Wd → Prop} {X : String → Wd → Prop} {rc : TX4_block} {dd : Nat} (hS : HSX4_block q l rc dd) (hK : 911 ≤ dd) {w : Wd} {R : Int32 × Wd} (hN : N none R.2) {a1 : Int32} (h : fX4_statement rc a1 w = some R) : RT (GA q) l (dd + 1) yX4_statement cX4_statement 3 (none) N X 0 [] [(0, .ref 2), (1, .int a1)] w := by
  unfold fX4_statement at h
  refine r_iconst (pc := 0) dX4_statement_0 ki_0 ?_
  refine r_istore_n (pc := 1) (loc' := [(2, .int 0), (0, .ref 2), (1, .int a1)]) dX4_statement_1 rfl (Nat.le_of_ble_eq_true rfl) rfl ?_
  refine r_drop (loc' := [(0, .ref 2), (1, .int a1), (2, .int 0)]) [1, 2, 0] rfl ?_
  exact qX4_statement_2 hS hK hN FU a1 0 w h
/-! AlgolMill$Maker.scoped (I)V: O, 1811 -/
theorem dX4_scoped_0 : decode cX4_scoped 0 = .ok (.aload_n 0, 1) := by decide +kernel
theorem dX4_scoped_1 : decode cX4_scoped 1 = .ok (.getfield 32, 3) := by decide +kernel
theorem dX4_scoped_4 : decode cX4_scoped 4 = .ok (.invokevirtual 138, 3) := by decide +kernel
theorem dX4_scoped_7 : decode cX4_scoped 7 = .ok (.aload_n 0, 1) := by decide +kernel
theorem dX4_scoped_8 : decode cX4_scoped 8 = .ok (.iload_n 1, 1) := by decide +kernel
theorem dX4_scoped_9 : decode cX4_scoped 9 = .ok (.invokevirtual 167, 3) := by decide +kernel
theorem dX4_scoped_12 : decode cX4_scoped 12 = .ok (.aload_n 0, 1) := by decide +kernel
theorem dX4_scoped_13 : decode cX4_scoped 13 = .ok (.getfield 32, 3) := by decide +kernel
theorem dX4_scoped_16 : decode cX4_scoped 16 = .ok (.invokevirtual 173, 3) := by decide +kernel
theorem dX4_scoped_19 : decode cX4_scoped 19 = .ok (.return_, 1) := by decide +kernel
def fX4_scoped (rc : TX4_block) (a1 : Int32) (w : Wd) : Option (Int32 × Wd) :=
  bn (fX7_enter w) fun w1 => bn2 (rc 5 a1 0 0 w1) fun _ w3 => bn (fX7_leave w3) fun w4 => some (0, w4)
theorem pX4_scoped {q : Gq} {l : Launch} {N : Option Value → Wd → Prop} {X : String → Wd → Prop} {rc : TX4_block} {dd : Nat} (hS : HSX4_block q l rc dd) (hK : 911 ≤ dd) {w : Wd} {R : Int32 × Wd} (hN : N none R.2) {a1 : Int32} (h : fX4_scoped rc a1 w = some R) : RT (GA q) l (dd + 1) yX4_scoped cX4_scoped 2 (none) N X 0 [] [(0, .ref 2), (1, .int a1)] w := by
  unfold fX4_scoped at h
  refine r_aload_n (pc := 0) dX4_scoped_0 rfl 0 rfl ?_
  refine r_get (pc := 1) (j := 3) (v := .ref 26) oA2 cf4 flRX4_32 rfl dX4_scoped_1 rfl ?_
  replace h := bn_e h; obtain ⟨w1, ew1, h⟩ := h
  refine r_cVv (pc := 4) wyX7_enter oA26 rfl mlRX4_138 iyX7_enter syX7_enter ⟨Nat.succ_le_succ (Nat.le_trans (Nat.le_of_ble_eq_true rfl) hK), (Nat.le_of_ble_eq_true rfl)⟩ rfl rfl (Nat.le_of_ble_eq_true rfl) dX4_scoped_4 (mX7_enter ew1 (pV.mk ?_))
  refine r_aload_n (pc := 7) dX4_scoped_7 rfl 0 rfl ?_
  refine r_iload_n (pc := 8) dX4_scoped_8 rfl 1 rfl ?_
  replace h := bn2_e h; obtain ⟨x2, w3, ew3, h⟩ := h
  refine r_cVv (pc := 9) wyX4_statement oA2 rfl mlRX4_167 iyX4_statement syX4_statement ⟨Nat.le_refl _, (Nat.le_of_ble_eq_true rfl)⟩ rfl rfl (Nat.le_of_ble_eq_true rfl) dX4_scoped_9 ((hS.2.2.2.2.2.1 _ _ _ _ _ _) ew3 (pV.mk ?_))
  refine r_aload_n (pc := 12) dX4_scoped_12 rfl 0 rfl ?_
  refine r_get (pc := 13) (j := 3) (v := .ref 26) oA2 cf4 flRX4_32 rfl dX4_scoped_13 rfl ?_
  replace h := bn_e h; obtain ⟨w4, ew4, h⟩ := h
  refine r_cVv (pc := 16) wyX7_leave oA26 rfl mlRX4_173 iyX7_leave syX7_leave ⟨Nat.succ_le_succ (Nat.le_trans (Nat.le_of_ble_eq_true rfl) hK), (Nat.le_of_ble_eq_true rfl)⟩ rfl rfl (Nat.le_of_ble_eq_true rfl) dX4_scoped_16 (mX7_leave ew4 (pV.mk ?_))
  exact rOR_v (pc := 19) rfl dX4_scoped_19 h hN
/-! AlgolMill$Maker.procedure (II)V: O, 1811 -/
theorem dX4_procedure_0 : decode cX4_procedure 0 = .ok (.aload_n 0, 1) := by decide +kernel
theorem dX4_procedure_1 : decode cX4_procedure 1 = .ok (.getfield 22, 3) := by decide +kernel
theorem dX4_procedure_4 : decode cX4_procedure 4 = .ok (.iload_n 1, 1) := by decide +kernel
theorem dX4_procedure_5 : decode cX4_procedure 5 = .ok (.invokevirtual 130, 3) := by decide +kernel
theorem dX4_procedure_8 : decode cX4_procedure 8 = .ok (.istore_n 3, 1) := by decide +kernel
theorem dX4_procedure_9 : decode cX4_procedure 9 = .ok (.aload_n 0, 1) := by decide +kernel
theorem dX4_procedure_10 : decode cX4_procedure 10 = .ok (.iconst 3, 1) := by decide +kernel
theorem dX4_procedure_11 : decode cX4_procedure 11 = .ok (.iload_n 2, 1) := by decide +kernel
theorem dX4_procedure_12 : decode cX4_procedure 12 = .ok (.invokevirtual 226, 3) := by decide +kernel
theorem dX4_procedure_15 : decode cX4_procedure 15 = .ok (.istore 4, 2) := by decide +kernel
theorem dX4_procedure_17 : decode cX4_procedure 17 = .ok (.aload_n 0, 1) := by decide +kernel
theorem dX4_procedure_18 : decode cX4_procedure 18 = .ok (.getfield 42, 3) := by decide +kernel
theorem dX4_procedure_21 : decode cX4_procedure 21 = .ok (.bipush 33, 2) := by decide +kernel
theorem dX4_procedure_23 : decode cX4_procedure 23 = .ok (.invokevirtual 108, 3) := by decide +kernel
theorem dX4_procedure_26 : decode cX4_procedure 26 = .ok (.istore 5, 2) := by decide +kernel
theorem dX4_procedure_28 : decode cX4_procedure 28 = .ok (.aload_n 0, 1) := by decide +kernel
theorem dX4_procedure_29 : decode cX4_procedure 29 = .ok (.getfield 37, 3) := by decide +kernel
theorem dX4_procedure_32 : decode cX4_procedure 32 = .ok (.iload 4, 2) := by decide +kernel
theorem dX4_procedure_34 : decode cX4_procedure 34 = .ok (.invokevirtual 262, 3) := by decide +kernel
theorem dX4_procedure_37 : decode cX4_procedure 37 = .ok (.aload_n 0, 1) := by decide +kernel
theorem dX4_procedure_38 : decode cX4_procedure 38 = .ok (.getfield 32, 3) := by decide +kernel
theorem dX4_procedure_41 : decode cX4_procedure 41 = .ok (.invokevirtual 138, 3) := by decide +kernel
theorem dX4_procedure_44 : decode cX4_procedure 44 = .ok (.aload_n 0, 1) := by decide +kernel
theorem dX4_procedure_45 : decode cX4_procedure 45 = .ok (.getfield 12, 3) := by decide +kernel
theorem dX4_procedure_48 : decode cX4_procedure 48 = .ok (.getfield 143, 3) := by decide +kernel
theorem dX4_procedure_51 : decode cX4_procedure 51 = .ok (.ifCond .eq 39, 3) := by decide +kernel
theorem dX4_procedure_54 : decode cX4_procedure 54 = .ok (.aload_n 0, 1) := by decide +kernel
theorem dX4_procedure_55 : decode cX4_procedure 55 = .ok (.getfield 22, 3) := by decide +kernel
theorem dX4_procedure_58 : decode cX4_procedure 58 = .ok (.aload_n 0, 1) := by decide +kernel
theorem dX4_procedure_59 : decode cX4_procedure 59 = .ok (.getfield 27, 3) := by decide +kernel
theorem dX4_procedure_62 : decode cX4_procedure 62 = .ok (.iload 4, 2) := by decide +kernel
theorem dX4_procedure_64 : decode cX4_procedure 64 = .ok (.invokevirtual 264, 3) := by decide +kernel
theorem dX4_procedure_67 : decode cX4_procedure 67 = .ok (.invokevirtual 267, 3) := by decide +kernel
theorem dX4_procedure_70 : decode cX4_procedure 70 = .ok (.aload_n 0, 1) := by decide +kernel
theorem dX4_procedure_71 : decode cX4_procedure 71 = .ok (.getfield 37, 3) := by decide +kernel
theorem dX4_procedure_74 : decode cX4_procedure 74 = .ok (.aload_n 0, 1) := by decide +kernel
theorem dX4_procedure_75 : decode cX4_procedure 75 = .ok (.getfield 27, 3) := by decide +kernel
theorem dX4_procedure_78 : decode cX4_procedure 78 = .ok (.iload 4, 2) := by decide +kernel
theorem dX4_procedure_80 : decode cX4_procedure 80 = .ok (.invokevirtual 123, 3) := by decide +kernel
theorem dX4_procedure_83 : decode cX4_procedure 83 = .ok (.invokevirtual 150, 3) := by decide +kernel
theorem dX4_procedure_86 : decode cX4_procedure 86 = .ok (.pop, 1) := by decide +kernel
theorem dX4_procedure_87 : decode cX4_procedure 87 = .ok (.goto 10, 3) := by decide +kernel
theorem dX4_procedure_90 : decode cX4_procedure 90 = .ok (.aload_n 0, 1) := by decide +kernel
theorem dX4_procedure_91 : decode cX4_procedure 91 = .ok (.iload_n 3, 1) := by decide +kernel
theorem dX4_procedure_92 : decode cX4_procedure 92 = .ok (.iload 4, 2) := by decide +kernel
theorem dX4_procedure_94 : decode cX4_procedure 94 = .ok (.invokevirtual 270, 3) := by decide +kernel
theorem dX4_procedure_97 : decode cX4_procedure 97 = .ok (.aload_n 0, 1) := by decide +kernel
theorem dX4_procedure_98 : decode cX4_procedure 98 = .ok (.iload 4, 2) := by decide +kernel
theorem dX4_procedure_100 : decode cX4_procedure 100 = .ok (.invokevirtual 92, 3) := by decide +kernel
theorem dX4_procedure_103 : decode cX4_procedure 103 = .ok (.istore 6, 2) := by decide +kernel
theorem dX4_procedure_105 : decode cX4_procedure 105 = .ok (.aload_n 0, 1) := by decide +kernel
theorem dX4_procedure_106 : decode cX4_procedure 106 = .ok (.iload_n 3, 1) := by decide +kernel
theorem dX4_procedure_107 : decode cX4_procedure 107 = .ok (.invokevirtual 273, 3) := by decide +kernel
theorem dX4_procedure_110 : decode cX4_procedure 110 = .ok (.aload_n 0, 1) := by decide +kernel
theorem dX4_procedure_111 : decode cX4_procedure 111 = .ok (.getfield 42, 3) := by decide +kernel
theorem dX4_procedure_114 : decode cX4_procedure 114 = .ok (.bipush 43, 2) := by decide +kernel
theorem dX4_procedure_116 : decode cX4_procedure 116 = .ok (.invokevirtual 108, 3) := by decide +kernel
theorem dX4_procedure_119 : decode cX4_procedure 119 = .ok (.pop, 1) := by decide +kernel
theorem dX4_procedure_120 : decode cX4_procedure 120 = .ok (.aload_n 0, 1) := by decide +kernel
theorem dX4_procedure_121 : decode cX4_procedure 121 = .ok (.getfield 42, 3) := by decide +kernel
theorem dX4_procedure_124 : decode cX4_procedure 124 = .ok (.iload 6, 2) := by decide +kernel
theorem dX4_procedure_126 : decode cX4_procedure 126 = .ok (.iconst 1, 1) := by decide +kernel
theorem dX4_procedure_127 : decode cX4_procedure 127 = .ok (.iadd, 1) := by decide +kernel
theorem dX4_procedure_128 : decode cX4_procedure 128 = .ok (.aload_n 0, 1) := by decide +kernel
theorem dX4_procedure_129 : decode cX4_procedure 129 = .ok (.getfield 37, 3) := by decide +kernel
theorem dX4_procedure_132 : decode cX4_procedure 132 = .ok (.invokevirtual 111, 3) := by decide +kernel
theorem dX4_procedure_135 : decode cX4_procedure 135 = .ok (.i2l, 1) := by decide +kernel
theorem dX4_procedure_136 : decode cX4_procedure 136 = .ok (.invokevirtual 116, 3) := by decide +kernel
theorem dX4_procedure_139 : decode cX4_procedure 139 = .ok (.aload_n 0, 1) := by decide +kernel
theorem dX4_procedure_140 : decode cX4_procedure 140 = .ok (.getfield 42, 3) := by decide +kernel
theorem dX4_procedure_143 : decode cX4_procedure 143 = .ok (.iload 5, 2) := by decide +kernel
theorem dX4_procedure_145 : decode cX4_procedure 145 = .ok (.invokevirtual 259, 3) := by decide +kernel
theorem dX4_procedure_148 : decode cX4_procedure 148 = .ok (.pop, 1) := by decide +kernel
theorem dX4_procedure_149 : decode cX4_procedure 149 = .ok (.aload_n 0, 1) := by decide +kernel
theorem dX4_procedure_150 : decode cX4_procedure 150 = .ok (.getfield 32, 3) := by decide +kernel
theorem dX4_procedure_153 : decode cX4_procedure 153 = .ok (.invokevirtual 173, 3) := by decide +kernel
theorem dX4_procedure_156 : decode cX4_procedure 156 = .ok (.aload_n 0, 1) := by decide +kernel
theorem dX4_procedure_157 : decode cX4_procedure 157 = .ok (.getfield 37, 3) := by decide +kernel
theorem dX4_procedure_160 : decode cX4_procedure 160 = .ok (.invokevirtual 276, 3) := by decide +kernel
theorem dX4_procedure_163 : decode cX4_procedure 163 = .ok (.return_, 1) := by decide +kernel
def fX4_procedure_97 (rc : TX4_block) (a3 : Int32) (a4 : Int32) (a5 : Int32) (w : Wd) : Option (Int32 × Wd) :=
  lt2 (fX4_head a4 w) fun x1 w2 => bn2 (rc 4 a3 0 0 w2) fun _ w4 => lt2 (fX0_put__ 43 w4) fun x5 w6 => lt (fX5_size w6) fun x7 => lt (fX0_set (x1 + 1) (Int32.toInt64 x7) w6) fun w8 => lt2 (fX0_patch a5 w8) fun x9 w10 => bn (fX7_leave w10) fun w11 => lt (fX5_leave w11) fun w12 => some (0, w12)
theorem pX4_procedure_97 {q : Gq} {l : Launch} {N : Option Value → Wd → Prop} {X : String → Wd → Prop} {rc : TX4_block} {dd : Nat} (hS : HSX4_block q l rc dd) (hK : 911 ≤ dd) {w : Wd} {R : Int32 × Wd} (hN : N none R.2) {a3 : Int32} {a4 : Int32} {a5 : Int32} (h : fX4_procedure_97 rc a3 a4 a5 w = some R) : RT (GA q) l (dd + 1) yX4_procedure cX4_procedure 7 (none) N X 97 [] [(0, .ref 2), (3, .int a3), (4, .int a4), (5, .int a5)] w := by
  unfold fX4_procedure_97 at h
  refine r_aload_n (pc := 97) dX4_procedure_97 rfl 0 rfl ?_
  refine r_iload (pc := 98) dX4_procedure_98 2 rfl ?_
  replace h := lt2_e h; obtain ⟨x1, w2, ew2, h⟩ := h
  refine r_cVi (pc := 100) wyX4_head oA2 rfl mlRX4_92 iyX4_head syX4_head ⟨Nat.succ_le_succ (Nat.le_trans (Nat.le_of_ble_eq_true rfl) hK), (Nat.le_of_ble_eq_true rfl)⟩ rfl rfl (Nat.le_of_ble_eq_true rfl) dX4_procedure_100 (mX4_head ew2 (pI.mk ?_))
  refine r_istore (pc := 103) (loc' := [(6, .int x1), (0, .ref 2), (3, .int a3), (4, .int a4), (5, .int a5)]) dX4_procedure_103 (Nat.le_of_ble_eq_true rfl) rfl ?_
  refine r_aload_n (pc := 105) dX4_procedure_105 rfl 1 rfl ?_
  refine r_iload_n (pc := 106) dX4_procedure_106 rfl 2 rfl ?_
  replace h := bn2_e h; obtain ⟨x3, w4, ew4, h⟩ := h
  refine r_cVv (pc := 107) wyX4_scoped oA2 rfl mlRX4_273 iyX4_scoped syX4_scoped ⟨Nat.le_refl _, (Nat.le_of_ble_eq_true rfl)⟩ rfl rfl (Nat.le_of_ble_eq_true rfl) dX4_procedure_107 ((hS.2.2.2.2.1 _ _ _ _ _ _) ew4 (pV.mk ?_))
  refine r_aload_n (pc := 110) dX4_procedure_110 rfl 1 rfl ?_
  refine r_get (pc := 111) (j := 5) (v := .ref 40) oA2 cf4 flRX4_42 rfl dX4_procedure_111 rfl ?_
  refine r_bipush (pc := 114) dX4_procedure_114 kb_43 ?_
  replace h := lt2_e h; obtain ⟨x5, w6, ew6, h⟩ := h
  refine r_cVi (pc := 116) wyX0_put__ oA40 rfl mlRX4_108 iyX0_put__ syX0_put__ ⟨Nat.succ_le_succ (Nat.le_trans (Nat.le_of_ble_eq_true rfl) hK), (Nat.le_of_ble_eq_true rfl)⟩ rfl rfl (Nat.le_of_ble_eq_true rfl) dX4_procedure_116 (mX0_put__ ew6 (pI.mk ?_))
  refine r_pop (pc := 119) dX4_procedure_119 rfl ?_
  refine r_aload_n (pc := 120) dX4_procedure_120 rfl 1 rfl ?_
  refine r_get (pc := 121) (j := 5) (v := .ref 40) oA2 cf4 flRX4_42 rfl dX4_procedure_121 rfl ?_
  refine r_iload (pc := 124) dX4_procedure_124 0 rfl ?_
  refine r_iconst (pc := 126) dX4_procedure_126 ki_1 ?_
  refine r_iadd (pc := 127) dX4_procedure_127 ?_
  refine r_aload_n (pc := 128) dX4_procedure_128 rfl 1 rfl ?_
  refine r_get (pc := 129) (j := 4) (v := .ref 34) oA2 cf4 flRX4_37 rfl dX4_procedure_129 rfl ?_
  replace h := lt_e h; obtain ⟨x7, ex7, h⟩ := h
  refine r_cVi (pc := 132) wyX5_size oA34 rfl mlRX4_111 iyX5_size syX5_size ⟨Nat.succ_le_succ (Nat.le_trans (Nat.le_of_ble_eq_true rfl) hK), (Nat.le_of_ble_eq_true rfl)⟩ rfl rfl (Nat.le_of_ble_eq_true rfl) dX4_procedure_132 (mX5_size ex7 (pI.mk ?_))
  refine r_i2l (pc := 135) dX4_procedure_135 ?_
  replace h := lt_e h; obtain ⟨w8, ew8, h⟩ := h
  refine r_cVv (pc := 136) wyX0_set oA40 rfl mlRX4_116 iyX0_set syX0_set ⟨Nat.succ_le_succ (Nat.le_trans (Nat.le_of_ble_eq_true rfl) hK), (Nat.le_of_ble_eq_true rfl)⟩ rfl rfl (Nat.le_of_ble_eq_true rfl) dX4_procedure_136 (mX0_set ew8 (pV.mk ?_))
  refine r_aload_n (pc := 139) dX4_procedure_139 rfl 1 rfl ?_
  refine r_get (pc := 140) (j := 5) (v := .ref 40) oA2 cf4 flRX4_42 rfl dX4_procedure_140 rfl ?_
  refine r_iload (pc := 143) dX4_procedure_143 4 rfl ?_
  replace h := lt2_e h; obtain ⟨x9, w10, ew10, h⟩ := h
  refine r_cVi (pc := 145) wyX0_patch oA40 rfl mlRX4_259 iyX0_patch syX0_patch ⟨Nat.succ_le_succ (Nat.le_trans (Nat.le_of_ble_eq_true rfl) hK), (Nat.le_of_ble_eq_true rfl)⟩ rfl rfl (Nat.le_of_ble_eq_true rfl) dX4_procedure_145 (mX0_patch ew10 (pI.mk ?_))
  refine r_pop (pc := 148) dX4_procedure_148 rfl ?_
  refine r_aload_n (pc := 149) dX4_procedure_149 rfl 1 rfl ?_
  refine r_get (pc := 150) (j := 3) (v := .ref 26) oA2 cf4 flRX4_32 rfl dX4_procedure_150 rfl ?_
  replace h := bn_e h; obtain ⟨w11, ew11, h⟩ := h
  refine r_cVv (pc := 153) wyX7_leave oA26 rfl mlRX4_173 iyX7_leave syX7_leave ⟨Nat.succ_le_succ (Nat.le_trans (Nat.le_of_ble_eq_true rfl) hK), (Nat.le_of_ble_eq_true rfl)⟩ rfl rfl (Nat.le_of_ble_eq_true rfl) dX4_procedure_153 (mX7_leave ew11 (pV.mk ?_))
  refine r_aload_n (pc := 156) dX4_procedure_156 rfl 1 rfl ?_
  refine r_get (pc := 157) (j := 4) (v := .ref 34) oA2 cf4 flRX4_37 rfl dX4_procedure_157 rfl ?_
  replace h := lt_e h; obtain ⟨w12, ew12, h⟩ := h
  refine r_cVv (pc := 160) wyX5_leave oA34 rfl mlRX4_276 iyX5_leave syX5_leave ⟨Nat.succ_le_succ (Nat.le_trans (Nat.le_of_ble_eq_true rfl) hK), (Nat.le_of_ble_eq_true rfl)⟩ rfl rfl (Nat.le_of_ble_eq_true rfl) dX4_procedure_160 (mX5_leave ew12 (pV.mk ?_))
  exact rOR_v (pc := 163) rfl dX4_procedure_163 h hN
def fX4_procedure (rc : TX4_block) (a1 : Int32) (a2 : Int32) (w : Wd) : Option (Int32 × Wd) :=
  lt2 (fX9_open a1 w) fun x1 w2 => lt2 (fX4_declared 3 a2 w2) fun x3 w4 => lt2 (fX0_put__ 33 w4) fun x5 w6 => lt (fX5_enter x3 w6) fun w7 => bn (fX7_enter w7) fun w8 => if (gi w8 3 5) = 0 then (bn (fX4_heading x1 x3 w8) fun w10 => fX4_procedure_97 rc x1 x3 x5 w10) else (lt (fX8_body x3 w8) fun x11 => lt (fX9_goTo x11 w8) fun w12 => lt (fX8_slot x3 w12) fun x13 => lt2 (fX5_take x13 w12) fun x14 w15 => fX4_procedure_97 rc x1 x3 x5 w15)
theorem pX4_procedure {q : Gq} {l : Launch} {N : Option Value → Wd → Prop} {X : String → Wd → Prop} {rc : TX4_block} {dd : Nat} (hS : HSX4_block q l rc dd) (hK : 911 ≤ dd) {w : Wd} {R : Int32 × Wd} (hN : N none R.2) {a1 : Int32} {a2 : Int32} (h : fX4_procedure rc a1 a2 w = some R) : RT (GA q) l (dd + 1) yX4_procedure cX4_procedure 7 (none) N X 0 [] [(0, .ref 2), (1, .int a1), (2, .int a2)] w := by
  unfold fX4_procedure at h
  refine r_aload_n (pc := 0) dX4_procedure_0 rfl 0 rfl ?_
  refine r_get (pc := 1) (j := 1) (v := .ref 4) oA2 cf4 flRX4_22 rfl dX4_procedure_1 rfl ?_
  refine r_iload_n (pc := 4) dX4_procedure_4 rfl 1 rfl ?_
  replace h := lt2_e h; obtain ⟨x1, w2, ew2, h⟩ := h
  refine r_cVi (pc := 5) wyX9_open oA4 rfl mlRX4_130 iyX9_open syX9_open ⟨Nat.succ_le_succ (Nat.le_trans (Nat.le_of_ble_eq_true rfl) hK), (Nat.le_of_ble_eq_true rfl)⟩ rfl rfl (Nat.le_of_ble_eq_true rfl) dX4_procedure_5 (mX9_open ew2 (pI.mk ?_))
  refine r_istore_n (pc := 8) (loc' := [(3, .int x1), (0, .ref 2), (1, .int a1), (2, .int a2)]) dX4_procedure_8 rfl (Nat.le_of_ble_eq_true rfl) rfl ?_
  refine r_aload_n (pc := 9) dX4_procedure_9 rfl 1 rfl ?_
  refine r_iconst (pc := 10) dX4_procedure_10 ki_3 ?_
  refine r_iload_n (pc := 11) dX4_procedure_11 rfl 3 rfl ?_
  replace h := lt2_e h; obtain ⟨x3, w4, ew4, h⟩ := h
  refine r_cVi (pc := 12) wyX4_declared oA2 rfl mlRX4_226 iyX4_declared syX4_declared ⟨Nat.succ_le_succ (Nat.le_trans (Nat.le_of_ble_eq_true rfl) hK), (Nat.le_of_ble_eq_true rfl)⟩ rfl rfl (Nat.le_of_ble_eq_true rfl) dX4_procedure_12 (mX4_declared ew4 (pI.mk ?_))
  refine r_istore (pc := 15) (loc' := [(4, .int x3), (3, .int x1), (0, .ref 2), (1, .int a1), (2, .int a2)]) dX4_procedure_15 (Nat.le_of_ble_eq_true rfl) rfl ?_
  refine r_aload_n (pc := 17) dX4_procedure_17 rfl 2 rfl ?_
  refine r_get (pc := 18) (j := 5) (v := .ref 40) oA2 cf4 flRX4_42 rfl dX4_procedure_18 rfl ?_
  refine r_bipush (pc := 21) dX4_procedure_21 kb_33 ?_
  replace h := lt2_e h; obtain ⟨x5, w6, ew6, h⟩ := h
  refine r_cVi (pc := 23) wyX0_put__ oA40 rfl mlRX4_108 iyX0_put__ syX0_put__ ⟨Nat.succ_le_succ (Nat.le_trans (Nat.le_of_ble_eq_true rfl) hK), (Nat.le_of_ble_eq_true rfl)⟩ rfl rfl (Nat.le_of_ble_eq_true rfl) dX4_procedure_23 (mX0_put__ ew6 (pI.mk ?_))
  refine r_istore (pc := 26) (loc' := [(5, .int x5), (4, .int x3), (3, .int x1), (0, .ref 2), (1, .int a1), (2, .int a2)]) dX4_procedure_26 (Nat.le_of_ble_eq_true rfl) rfl ?_
  refine r_aload_n (pc := 28) dX4_procedure_28 rfl 3 rfl ?_
  refine r_get (pc := 29) (j := 4) (v := .ref 34) oA2 cf4 flRX4_37 rfl dX4_procedure_29 rfl ?_
  refine r_iload (pc := 32) dX4_procedure_32 1 rfl ?_
  replace h := lt_e h; obtain ⟨w7, ew7, h⟩ := h
  refine r_cVv (pc := 34) wyX5_enter oA34 rfl mlRX4_262 iyX5_enter syX5_enter ⟨Nat.succ_le_succ (Nat.le_trans (Nat.le_of_ble_eq_true rfl) hK), (Nat.le_of_ble_eq_true rfl)⟩ rfl rfl (Nat.le_of_ble_eq_true rfl) dX4_procedure_34 (mX5_enter ew7 (pV.mk ?_))
  refine r_aload_n (pc := 37) dX4_procedure_37 rfl 3 rfl ?_
  refine r_get (pc := 38) (j := 3) (v := .ref 26) oA2 cf4 flRX4_32 rfl dX4_procedure_38 rfl ?_
  replace h := bn_e h; obtain ⟨w8, ew8, h⟩ := h
  refine r_cVv (pc := 41) wyX7_enter oA26 rfl mlRX4_138 iyX7_enter syX7_enter ⟨Nat.succ_le_succ (Nat.le_trans (Nat.le_of_ble_eq_true rfl) hK), (Nat.le_of_ble_eq_true rfl)⟩ rfl rfl (Nat.le_of_ble_eq_true rfl) dX4_procedure_41 (mX7_enter ew8 (pV.mk ?_))
  refine r_aload_n (pc := 44) dX4_procedure_44 rfl 3 rfl ?_
  refine r_get (pc := 45) (j := 0) (v := .ref 3) oA2 cf4 flRX4_12 rfl dX4_procedure_45 rfl ?_
  refine r_get (pc := 48) (j := 5) (v := .int (gi w8 3 5)) oA3 cf1 flRX4_143 rfl dX4_procedure_48 rfl ?_
  refine r_if_eq (pc := 51) dX4_procedure_51 rfl (fun hc9 => ?_) (fun hc9 => ?_)
  · replace h := if_t hc9 h
    refine r_aload_n (pc := 90) dX4_procedure_90 rfl 3 rfl ?_
    refine r_iload_n (pc := 91) dX4_procedure_91 rfl 2 rfl ?_
    refine r_iload (pc := 92) dX4_procedure_92 1 rfl ?_
    replace h := bn_e h; obtain ⟨w10, ew10, h⟩ := h
    refine r_cVv (pc := 94) wyX4_heading oA2 rfl mlRX4_270 iyX4_heading syX4_heading ⟨Nat.succ_le_succ (Nat.le_trans (Nat.le_of_ble_eq_true rfl) hK), (Nat.le_of_ble_eq_true rfl)⟩ rfl rfl (Nat.le_of_ble_eq_true rfl) dX4_procedure_94 (mX4_heading ew10 (pV.mk ?_))
    refine r_drop (loc' := [(0, .ref 2), (3, .int x1), (4, .int x3), (5, .int x5)]) [3, 2, 1, 0] rfl ?_
    exact pX4_procedure_97 hS hK hN h
  replace h := if_f hc9 h
  refine r_aload_n (pc := 54) dX4_procedure_54 rfl 3 rfl ?_
  refine r_get (pc := 55) (j := 1) (v := .ref 4) oA2 cf4 flRX4_22 rfl dX4_procedure_55 rfl ?_
  refine r_aload_n (pc := 58) dX4_procedure_58 rfl 3 rfl ?_
  refine r_get (pc := 59) (j := 2) (v := .ref 13) oA2 cf4 flRX4_27 rfl dX4_procedure_59 rfl ?_
  refine r_iload (pc := 62) dX4_procedure_62 1 rfl ?_
  replace h := lt_e h; obtain ⟨x11, ex11, h⟩ := h
  refine r_cVi (pc := 64) wyX8_body oA13 rfl mlRX4_264 iyX8_body syX8_body ⟨Nat.succ_le_succ (Nat.le_trans (Nat.le_of_ble_eq_true rfl) hK), (Nat.le_of_ble_eq_true rfl)⟩ rfl rfl (Nat.le_of_ble_eq_true rfl) dX4_procedure_64 (mX8_body ex11 (pI.mk ?_))
  replace h := lt_e h; obtain ⟨w12, ew12, h⟩ := h
  refine r_cVv (pc := 67) wyX9_goTo oA4 rfl mlRX4_267 iyX9_goTo syX9_goTo ⟨Nat.succ_le_succ (Nat.le_trans (Nat.le_of_ble_eq_true rfl) hK), (Nat.le_of_ble_eq_true rfl)⟩ rfl rfl (Nat.le_of_ble_eq_true rfl) dX4_procedure_67 (mX9_goTo ew12 (pV.mk ?_))
  refine r_aload_n (pc := 70) dX4_procedure_70 rfl 3 rfl ?_
  refine r_get (pc := 71) (j := 4) (v := .ref 34) oA2 cf4 flRX4_37 rfl dX4_procedure_71 rfl ?_
  refine r_aload_n (pc := 74) dX4_procedure_74 rfl 3 rfl ?_
  refine r_get (pc := 75) (j := 2) (v := .ref 13) oA2 cf4 flRX4_27 rfl dX4_procedure_75 rfl ?_
  refine r_iload (pc := 78) dX4_procedure_78 1 rfl ?_
  replace h := lt_e h; obtain ⟨x13, ex13, h⟩ := h
  refine r_cVi (pc := 80) wyX8_slot oA13 rfl mlRX4_123 iyX8_slot syX8_slot ⟨Nat.succ_le_succ (Nat.le_trans (Nat.le_of_ble_eq_true rfl) hK), (Nat.le_of_ble_eq_true rfl)⟩ rfl rfl (Nat.le_of_ble_eq_true rfl) dX4_procedure_80 (mX8_slot ex13 (pI.mk ?_))
  replace h := lt2_e h; obtain ⟨x14, w15, ew15, h⟩ := h
  refine r_cVi (pc := 83) wyX5_take oA34 rfl mlRX4_150 iyX5_take syX5_take ⟨Nat.succ_le_succ (Nat.le_trans (Nat.le_of_ble_eq_true rfl) hK), (Nat.le_of_ble_eq_true rfl)⟩ rfl rfl (Nat.le_of_ble_eq_true rfl) dX4_procedure_83 (mX5_take ew15 (pI.mk ?_))
  refine r_pop (pc := 86) dX4_procedure_86 rfl ?_
  refine r_goto (pc := 87) dX4_procedure_87 rfl ?_
  refine r_drop (loc' := [(0, .ref 2), (3, .int x1), (4, .int x3), (5, .int x5)]) [3, 2, 1, 0] rfl ?_
  exact pX4_procedure_97 hS hK hN h
/-! AlgolMill$Maker.declaration (I)V: O, 1811 -/
theorem dX4_declaration_0 : decode cX4_declaration 0 = .ok (.aload_n 0, 1) := by decide +kernel
theorem dX4_declaration_1 : decode cX4_declaration 1 = .ok (.getfield 22, 3) := by decide +kernel
theorem dX4_declaration_4 : decode cX4_declaration 4 = .ok (.bipush 6, 2) := by decide +kernel
theorem dX4_declaration_6 : decode cX4_declaration 6 = .ok (.invokevirtual 164, 3) := by decide +kernel
theorem dX4_declaration_9 : decode cX4_declaration 9 = .ok (.istore_n 2, 1) := by decide +kernel
theorem dX4_declaration_10 : decode cX4_declaration 10 = .ok (.aload_n 0, 1) := by decide +kernel
theorem dX4_declaration_11 : decode cX4_declaration 11 = .ok (.invokevirtual 185, 3) := by decide +kernel
theorem dX4_declaration_14 : decode cX4_declaration 14 = .ok (.istore_n 3, 1) := by decide +kernel
theorem dX4_declaration_15 : decode cX4_declaration 15 = .ok (.iload_n 2, 1) := by decide +kernel
theorem dX4_declaration_16 : decode cX4_declaration 16 = .ok (.ifCond .eq 17, 3) := by decide +kernel
theorem dX4_declaration_19 : decode cX4_declaration 19 = .ok (.iload_n 3, 1) := by decide +kernel
theorem dX4_declaration_20 : decode cX4_declaration 20 = .ok (.ifCond .ne 13, 3) := by decide +kernel
theorem dX4_declaration_23 : decode cX4_declaration 23 = .ok (.aload_n 0, 1) := by decide +kernel
theorem dX4_declaration_24 : decode cX4_declaration 24 = .ok (.getfield 22, 3) := by decide +kernel
theorem dX4_declaration_27 : decode cX4_declaration 27 = .ok (.invokevirtual 103, 3) := by decide +kernel
theorem dX4_declaration_30 : decode cX4_declaration 30 = .ok (.goto 86, 3) := by decide +kernel
theorem dX4_declaration_33 : decode cX4_declaration 33 = .ok (.iload_n 2, 1) := by decide +kernel
theorem dX4_declaration_34 : decode cX4_declaration 34 = .ok (.ifCond .ne 14, 3) := by decide +kernel
theorem dX4_declaration_37 : decode cX4_declaration 37 = .ok (.aload_n 0, 1) := by decide +kernel
theorem dX4_declaration_38 : decode cX4_declaration 38 = .ok (.getfield 22, 3) := by decide +kernel
theorem dX4_declaration_41 : decode cX4_declaration 41 = .ok (.invokevirtual 96, 3) := by decide +kernel
theorem dX4_declaration_44 : decode cX4_declaration 44 = .ok (.iconst 2, 1) := by decide +kernel
theorem dX4_declaration_45 : decode cX4_declaration 45 = .ok (.if_icmp .ne 12, 3) := by decide +kernel
theorem dX4_declaration_48 : decode cX4_declaration 48 = .ok (.aload_n 0, 1) := by decide +kernel
theorem dX4_declaration_49 : decode cX4_declaration 49 = .ok (.iload_n 3, 1) := by decide +kernel
theorem dX4_declaration_50 : decode cX4_declaration 50 = .ok (.iload_n 2, 1) := by decide +kernel
theorem dX4_declaration_51 : decode cX4_declaration 51 = .ok (.invokevirtual 188, 3) := by decide +kernel
theorem dX4_declaration_54 : decode cX4_declaration 54 = .ok (.goto 62, 3) := by decide +kernel
theorem dX4_declaration_57 : decode cX4_declaration 57 = .ok (.aload_n 0, 1) := by decide +kernel
theorem dX4_declaration_58 : decode cX4_declaration 58 = .ok (.getfield 22, 3) := by decide +kernel
theorem dX4_declaration_61 : decode cX4_declaration 61 = .ok (.invokevirtual 96, 3) := by decide +kernel
theorem dX4_declaration_64 : decode cX4_declaration 64 = .ok (.bipush 10, 2) := by decide +kernel
theorem dX4_declaration_66 : decode cX4_declaration 66 = .ok (.if_icmp .ne 12, 3) := by decide +kernel
theorem dX4_declaration_69 : decode cX4_declaration 69 = .ok (.aload_n 0, 1) := by decide +kernel
theorem dX4_declaration_70 : decode cX4_declaration 70 = .ok (.iload_n 1, 1) := by decide +kernel
theorem dX4_declaration_71 : decode cX4_declaration 71 = .ok (.iload_n 3, 1) := by decide +kernel
theorem dX4_declaration_72 : decode cX4_declaration 72 = .ok (.invokevirtual 192, 3) := by decide +kernel
theorem dX4_declaration_75 : decode cX4_declaration 75 = .ok (.goto 41, 3) := by decide +kernel
theorem dX4_declaration_78 : decode cX4_declaration 78 = .ok (.aload_n 0, 1) := by decide +kernel
theorem dX4_declaration_79 : decode cX4_declaration 79 = .ok (.getfield 22, 3) := by decide +kernel
theorem dX4_declaration_82 : decode cX4_declaration 82 = .ok (.invokevirtual 96, 3) := by decide +kernel
theorem dX4_declaration_85 : decode cX4_declaration 85 = .ok (.bipush 13, 2) := by decide +kernel
theorem dX4_declaration_87 : decode cX4_declaration 87 = .ok (.if_icmp .ne 15, 3) := by decide +kernel
theorem dX4_declaration_90 : decode cX4_declaration 90 = .ok (.iload_n 3, 1) := by decide +kernel
theorem dX4_declaration_91 : decode cX4_declaration 91 = .ok (.ifCond .ne 11, 3) := by decide +kernel
theorem dX4_declaration_94 : decode cX4_declaration 94 = .ok (.aload_n 0, 1) := by decide +kernel
theorem dX4_declaration_95 : decode cX4_declaration 95 = .ok (.iload_n 1, 1) := by decide +kernel
theorem dX4_declaration_96 : decode cX4_declaration 96 = .ok (.invokevirtual 196, 3) := by decide +kernel
theorem dX4_declaration_99 : decode cX4_declaration 99 = .ok (.goto 17, 3) := by decide +kernel
theorem dX4_declaration_102 : decode cX4_declaration 102 = .ok (.aload_n 0, 1) := by decide +kernel
theorem dX4_declaration_103 : decode cX4_declaration 103 = .ok (.iload_n 1, 1) := by decide +kernel
theorem dX4_declaration_104 : decode cX4_declaration 104 = .ok (.iload_n 3, 1) := by decide +kernel
theorem dX4_declaration_105 : decode cX4_declaration 105 = .ok (.ifCond .ne 7, 3) := by decide +kernel
theorem dX4_declaration_108 : decode cX4_declaration 108 = .ok (.iconst 1, 1) := by decide +kernel
theorem dX4_declaration_109 : decode cX4_declaration 109 = .ok (.goto 4, 3) := by decide +kernel
theorem dX4_declaration_112 : decode cX4_declaration 112 = .ok (.iload_n 3, 1) := by decide +kernel
theorem dX4_declaration_113 : decode cX4_declaration 113 = .ok (.invokevirtual 199, 3) := by decide +kernel
theorem dX4_declaration_116 : decode cX4_declaration 116 = .ok (.return_, 1) := by decide +kernel
def fX4_declaration_102 (rc : TX4_block) (a1 : Int32) (a3 : Int32) (w : Wd) : Option (Int32 × Wd) :=
  if a3 = 0 then (bn (fX4_arrays a1 1 w) fun w2 => some (0, w2)) else (bn (fX4_arrays a1 a3 w) fun w3 => some (0, w3))
theorem pX4_declaration_102 {q : Gq} {l : Launch} {N : Option Value → Wd → Prop} {X : String → Wd → Prop} {rc : TX4_block} {dd : Nat} (hS : HSX4_block q l rc dd) (hK : 911 ≤ dd) {w : Wd} {R : Int32 × Wd} (hN : N none R.2) {a1 : Int32} {a3 : Int32} (h : fX4_declaration_102 rc a1 a3 w = some R) : RT (GA q) l (dd + 1) yX4_declaration cX4_declaration 4 (none) N X 102 [] [(0, .ref 2), (1, .int a1), (3, .int a3)] w := by
  unfold fX4_declaration_102 at h
  refine r_aload_n (pc := 102) dX4_declaration_102 rfl 0 rfl ?_
  refine r_iload_n (pc := 103) dX4_declaration_103 rfl 1 rfl ?_
  refine r_iload_n (pc := 104) dX4_declaration_104 rfl 2 rfl ?_
  refine r_if_ne (pc := 105) dX4_declaration_105 rfl (fun hc1 => ?_) (fun hc1 => ?_)
  · replace h := if_f hc1 h
    refine r_iload_n (pc := 112) dX4_declaration_112 rfl 2 rfl ?_
    replace h := bn_e h; obtain ⟨w3, ew3, h⟩ := h
    refine r_cVv (pc := 113) wyX4_arrays oA2 rfl mlRX4_199 iyX4_arrays syX4_arrays ⟨Nat.succ_le_succ (Nat.le_trans (Nat.le_of_ble_eq_true rfl) hK), (Nat.le_of_ble_eq_true rfl)⟩ rfl rfl (Nat.le_of_ble_eq_true rfl) dX4_declaration_113 (mX4_arrays ew3 (pV.mk ?_))
    exact rOR_v (pc := 116) rfl dX4_declaration_116 h hN
  replace h := if_t hc1 h
  refine r_iconst (pc := 108) dX4_declaration_108 ki_1 ?_
  refine r_goto (pc := 109) dX4_declaration_109 rfl ?_
  replace h := bn_e h; obtain ⟨w2, ew2, h⟩ := h
  refine r_cVv (pc := 113) wyX4_arrays oA2 rfl mlRX4_199 iyX4_arrays syX4_arrays ⟨Nat.succ_le_succ (Nat.le_trans (Nat.le_of_ble_eq_true rfl) hK), (Nat.le_of_ble_eq_true rfl)⟩ rfl rfl (Nat.le_of_ble_eq_true rfl) dX4_declaration_113 (mX4_arrays ew2 (pV.mk ?_))
  exact rOR_v (pc := 116) rfl dX4_declaration_116 h hN
def fX4_declaration_33 (rc : TX4_block) (a1 : Int32) (a2 : Bool) (a3 : Int32) (w : Wd) : Option (Int32 × Wd) :=
  if a2 = true then (bn (fX4_variables a3 a2 w) fun w2 => some (0, w2)) else (lt (fX9_kind w) fun x3 => if x3 = 2 then (bn (fX4_variables a3 a2 w) fun w5 => some (0, w5)) else (lt (fX9_kind w) fun x6 => if x6 = 10 then (bn2 (rc 3 a1 a3 0 w) fun _ w9 => some (0, w9)) else (lt (fX9_kind w) fun x10 => if x10 = 13 then (if a3 = 0 then (bn (fX4_aims a1 w) fun w13 => some (0, w13)) else (fX4_declaration_102 rc a1 a3 w)) else (fX4_declaration_102 rc a1 a3 w))))
theorem pX4_declaration_33 {q : Gq} {l : Launch} {N : Option Value → Wd → Prop} {X : String → Wd → Prop} {rc : TX4_block} {dd : Nat} (hS : HSX4_block q l rc dd) (hK : 911 ≤ dd) {w : Wd} {R : Int32 × Wd} (hN : N none R.2) {a1 : Int32} {a2 : Bool} {a3 : Int32} (h : fX4_declaration_33 rc a1 a2 a3 w = some R) : RT (GA q) l (dd + 1) yX4_declaration cX4_declaration 4 (none) N X 33 [] [(0, .ref 2), (1, .int a1), (2, .int (b2i a2)), (3, .int a3)] w := by
  unfold fX4_declaration_33 at h
  refine r_iload_n (pc := 33) dX4_declaration_33 rfl 2 rfl ?_
  refine r_z_ne (pc := 34) dX4_declaration_34 rfl (fun hc1 => ?_) (fun hc1 => ?_)
  · replace h := if_t hc1 h
    refine r_aload_n (pc := 48) dX4_declaration_48 rfl 0 rfl ?_
    refine r_iload_n (pc := 49) dX4_declaration_49 rfl 3 rfl ?_
    refine r_iload_n (pc := 50) dX4_declaration_50 rfl 2 rfl ?_
    replace h := bn_e h; obtain ⟨w2, ew2, h⟩ := h
    refine r_cVv (pc := 51) wyX4_variables oA2 rfl mlRX4_188 iyX4_variables syX4_variables ⟨Nat.succ_le_succ (Nat.le_trans (Nat.le_of_ble_eq_true rfl) hK), (Nat.le_of_ble_eq_true rfl)⟩ rfl rfl (Nat.le_of_ble_eq_true rfl) dX4_declaration_51 (mX4_variables ew2 (pV.mk ?_))
    refine r_goto (pc := 54) dX4_declaration_54 rfl ?_
    exact rOR_v (pc := 116) rfl dX4_declaration_116 h hN
  replace h := if_f hc1 h
  refine r_aload_n (pc := 37) dX4_declaration_37 rfl 0 rfl ?_
  refine r_get (pc := 38) (j := 1) (v := .ref 4) oA2 cf4 flRX4_22 rfl dX4_declaration_38 rfl ?_
  replace h := lt_e h; obtain ⟨x3, ex3, h⟩ := h
  refine r_cVi (pc := 41) wyX9_kind oA4 rfl mlRX4_96 iyX9_kind syX9_kind ⟨Nat.succ_le_succ (Nat.le_trans (Nat.le_of_ble_eq_true rfl) hK), (Nat.le_of_ble_eq_true rfl)⟩ rfl rfl (Nat.le_of_ble_eq_true rfl) dX4_declaration_41 (mX9_kind ex3 (pI.mk ?_))
  refine r_iconst (pc := 44) dX4_declaration_44 ki_2 ?_
  refine r_icmp_ne (pc := 45) dX4_declaration_45 rfl (fun hc4 => ?_) (fun hc4 => ?_)
  · replace h := if_f hc4 h
    refine r_aload_n (pc := 57) dX4_declaration_57 rfl 0 rfl ?_
    refine r_get (pc := 58) (j := 1) (v := .ref 4) oA2 cf4 flRX4_22 rfl dX4_declaration_58 rfl ?_
    replace h := lt_e h; obtain ⟨x6, ex6, h⟩ := h
    refine r_cVi (pc := 61) wyX9_kind oA4 rfl mlRX4_96 iyX9_kind syX9_kind ⟨Nat.succ_le_succ (Nat.le_trans (Nat.le_of_ble_eq_true rfl) hK), (Nat.le_of_ble_eq_true rfl)⟩ rfl rfl (Nat.le_of_ble_eq_true rfl) dX4_declaration_61 (mX9_kind ex6 (pI.mk ?_))
    refine r_bipush (pc := 64) dX4_declaration_64 kb_10 ?_
    refine r_icmp_ne (pc := 66) dX4_declaration_66 rfl (fun hc7 => ?_) (fun hc7 => ?_)
    · replace h := if_f hc7 h
      refine r_aload_n (pc := 78) dX4_declaration_78 rfl 0 rfl ?_
      refine r_get (pc := 79) (j := 1) (v := .ref 4) oA2 cf4 flRX4_22 rfl dX4_declaration_79 rfl ?_
      replace h := lt_e h; obtain ⟨x10, ex10, h⟩ := h
      refine r_cVi (pc := 82) wyX9_kind oA4 rfl mlRX4_96 iyX9_kind syX9_kind ⟨Nat.succ_le_succ (Nat.le_trans (Nat.le_of_ble_eq_true rfl) hK), (Nat.le_of_ble_eq_true rfl)⟩ rfl rfl (Nat.le_of_ble_eq_true rfl) dX4_declaration_82 (mX9_kind ex10 (pI.mk ?_))
      refine r_bipush (pc := 85) dX4_declaration_85 kb_13 ?_
      refine r_icmp_ne (pc := 87) dX4_declaration_87 rfl (fun hc11 => ?_) (fun hc11 => ?_)
      · replace h := if_f hc11 h
        refine r_drop (loc' := [(0, .ref 2), (1, .int a1), (3, .int a3)]) [0, 1, 3] rfl ?_
        exact pX4_declaration_102 hS hK hN h
      replace h := if_t hc11 h
      refine r_iload_n (pc := 90) dX4_declaration_90 rfl 3 rfl ?_
      refine r_if_ne (pc := 91) dX4_declaration_91 rfl (fun hc12 => ?_) (fun hc12 => ?_)
      · replace h := if_f hc12 h
        refine r_drop (loc' := [(0, .ref 2), (1, .int a1), (3, .int a3)]) [0, 1, 3] rfl ?_
        exact pX4_declaration_102 hS hK hN h
      replace h := if_t hc12 h
      refine r_aload_n (pc := 94) dX4_declaration_94 rfl 0 rfl ?_
      refine r_iload_n (pc := 95) dX4_declaration_95 rfl 1 rfl ?_
      replace h := bn_e h; obtain ⟨w13, ew13, h⟩ := h
      refine r_cVv (pc := 96) wyX4_aims oA2 rfl mlRX4_196 iyX4_aims syX4_aims ⟨Nat.succ_le_succ (Nat.le_trans (Nat.le_of_ble_eq_true rfl) hK), (Nat.le_of_ble_eq_true rfl)⟩ rfl rfl (Nat.le_of_ble_eq_true rfl) dX4_declaration_96 (mX4_aims ew13 (pV.mk ?_))
      refine r_goto (pc := 99) dX4_declaration_99 rfl ?_
      exact rOR_v (pc := 116) rfl dX4_declaration_116 h hN
    replace h := if_t hc7 h
    refine r_aload_n (pc := 69) dX4_declaration_69 rfl 0 rfl ?_
    refine r_iload_n (pc := 70) dX4_declaration_70 rfl 1 rfl ?_
    refine r_iload_n (pc := 71) dX4_declaration_71 rfl 3 rfl ?_
    replace h := bn2_e h; obtain ⟨x8, w9, ew9, h⟩ := h
    refine r_cVv (pc := 72) wyX4_procedure oA2 rfl mlRX4_192 iyX4_procedure syX4_procedure ⟨Nat.le_refl _, (Nat.le_of_ble_eq_true rfl)⟩ rfl rfl (Nat.le_of_ble_eq_true rfl) dX4_declaration_72 ((hS.2.2.2.1 _ _ _ _ _ _ _) ew9 (pV.mk ?_))
    refine r_goto (pc := 75) dX4_declaration_75 rfl ?_
    exact rOR_v (pc := 116) rfl dX4_declaration_116 h hN
  replace h := if_t hc4 h
  refine r_aload_n (pc := 48) dX4_declaration_48 rfl 0 rfl ?_
  refine r_iload_n (pc := 49) dX4_declaration_49 rfl 3 rfl ?_
  refine r_iload_n (pc := 50) dX4_declaration_50 rfl 2 rfl ?_
  replace h := bn_e h; obtain ⟨w5, ew5, h⟩ := h
  refine r_cVv (pc := 51) wyX4_variables oA2 rfl mlRX4_188 iyX4_variables syX4_variables ⟨Nat.succ_le_succ (Nat.le_trans (Nat.le_of_ble_eq_true rfl) hK), (Nat.le_of_ble_eq_true rfl)⟩ rfl rfl (Nat.le_of_ble_eq_true rfl) dX4_declaration_51 (mX4_variables ew5 (pV.mk ?_))
  refine r_goto (pc := 54) dX4_declaration_54 rfl ?_
  exact rOR_v (pc := 116) rfl dX4_declaration_116 h hN
def fX4_declaration (rc : TX4_block) (a1 : Int32) (w : Wd) : Option (Int32 × Wd) :=
  lt2 (fX9_take 6 w) fun x1 w2 => lt2 (fX4_type w2) fun x3 w4 => if x1 = true then (if x3 = 0 then (lt (fX9_fail w4) fun w7 => some (0, w7)) else (fX4_declaration_33 rc a1 x1 x3 w4)) else (fX4_declaration_33 rc a1 x1 x3 w4)
theorem pX4_declaration {q : Gq} {l : Launch} {N : Option Value → Wd → Prop} {X : String → Wd → Prop} {rc : TX4_block} {dd : Nat} (hS : HSX4_block q l rc dd) (hK : 911 ≤ dd) {w : Wd} {R : Int32 × Wd} (hN : N none R.2) {a1 : Int32} (h : fX4_declaration rc a1 w = some R) : RT (GA q) l (dd + 1) yX4_declaration cX4_declaration 4 (none) N X 0 [] [(0, .ref 2), (1, .int a1)] w := by
  unfold fX4_declaration at h
  refine r_aload_n (pc := 0) dX4_declaration_0 rfl 0 rfl ?_
  refine r_get (pc := 1) (j := 1) (v := .ref 4) oA2 cf4 flRX4_22 rfl dX4_declaration_1 rfl ?_
  refine r_bipush (pc := 4) dX4_declaration_4 kb_6 ?_
  replace h := lt2_e h; obtain ⟨x1, w2, ew2, h⟩ := h
  refine r_cVi (pc := 6) wyX9_take oA4 rfl mlRX4_164 iyX9_take syX9_take ⟨Nat.succ_le_succ (Nat.le_trans (Nat.le_of_ble_eq_true rfl) hK), (Nat.le_of_ble_eq_true rfl)⟩ rfl rfl (Nat.le_of_ble_eq_true rfl) dX4_declaration_6 (mX9_take ew2 (pI.mk ?_))
  refine r_istore_n (pc := 9) (loc' := [(2, .int (b2i x1)), (0, .ref 2), (1, .int a1)]) dX4_declaration_9 rfl (Nat.le_of_ble_eq_true rfl) rfl ?_
  refine r_aload_n (pc := 10) dX4_declaration_10 rfl 1 rfl ?_
  replace h := lt2_e h; obtain ⟨x3, w4, ew4, h⟩ := h
  refine r_cVi (pc := 11) wyX4_type oA2 rfl mlRX4_185 iyX4_type syX4_type ⟨Nat.succ_le_succ (Nat.le_trans (Nat.le_of_ble_eq_true rfl) hK), (Nat.le_of_ble_eq_true rfl)⟩ rfl rfl (Nat.le_of_ble_eq_true rfl) dX4_declaration_11 (mX4_type ew4 (pI.mk ?_))
  refine r_istore_n (pc := 14) (loc' := [(3, .int x3), (2, .int (b2i x1)), (0, .ref 2), (1, .int a1)]) dX4_declaration_14 rfl (Nat.le_of_ble_eq_true rfl) rfl ?_
  refine r_iload_n (pc := 15) dX4_declaration_15 rfl 1 rfl ?_
  refine r_z_eq (pc := 16) dX4_declaration_16 rfl (fun hc5 => ?_) (fun hc5 => ?_)
  · replace h := if_f hc5 h
    refine r_drop (loc' := [(0, .ref 2), (1, .int a1), (2, .int (b2i x1)), (3, .int x3)]) [2, 3, 1, 0] rfl ?_
    exact pX4_declaration_33 hS hK hN h
  replace h := if_t hc5 h
  refine r_iload_n (pc := 19) dX4_declaration_19 rfl 0 rfl ?_
  refine r_if_ne (pc := 20) dX4_declaration_20 rfl (fun hc6 => ?_) (fun hc6 => ?_)
  · replace h := if_f hc6 h
    refine r_drop (loc' := [(0, .ref 2), (1, .int a1), (2, .int (b2i x1)), (3, .int x3)]) [2, 3, 1, 0] rfl ?_
    exact pX4_declaration_33 hS hK hN h
  replace h := if_t hc6 h
  refine r_aload_n (pc := 23) dX4_declaration_23 rfl 2 rfl ?_
  refine r_get (pc := 24) (j := 1) (v := .ref 4) oA2 cf4 flRX4_22 rfl dX4_declaration_24 rfl ?_
  replace h := lt_e h; obtain ⟨w7, ew7, h⟩ := h
  refine r_cVv (pc := 27) wyX9_fail oA4 rfl mlRX4_103 iyX9_fail syX9_fail ⟨Nat.succ_le_succ (Nat.le_trans (Nat.le_of_ble_eq_true rfl) hK), (Nat.le_of_ble_eq_true rfl)⟩ rfl rfl (Nat.le_of_ble_eq_true rfl) dX4_declaration_27 (mX9_fail ew7 (pV.mk ?_))
  refine r_goto (pc := 30) dX4_declaration_30 rfl ?_
  exact rOR_v (pc := 116) rfl dX4_declaration_116 h hN
/-! AlgolMill$Maker.declarations (I)V: O, 1811 -/
theorem dX4_declarations_0 : decode cX4_declarations 0 = .ok (.iconst 0, 1) := by decide +kernel
theorem dX4_declarations_1 : decode cX4_declarations 1 = .ok (.istore_n 2, 1) := by decide +kernel
theorem dX4_declarations_2 : decode cX4_declarations 2 = .ok (.iload_n 2, 1) := by decide +kernel
theorem dX4_declarations_3 : decode cX4_declarations 3 = .ok (.sipush 8193, 3) := by decide +kernel
theorem dX4_declarations_6 : decode cX4_declarations 6 = .ok (.if_icmp .ge 30, 3) := by decide +kernel
theorem dX4_declarations_9 : decode cX4_declarations 9 = .ok (.aload_n 0, 1) := by decide +kernel
theorem dX4_declarations_10 : decode cX4_declarations 10 = .ok (.invokevirtual 179, 3) := by decide +kernel
theorem dX4_declarations_13 : decode cX4_declarations 13 = .ok (.ifCond .eq 23, 3) := by decide +kernel
theorem dX4_declarations_16 : decode cX4_declarations 16 = .ok (.aload_n 0, 1) := by decide +kernel
theorem dX4_declarations_17 : decode cX4_declarations 17 = .ok (.iload_n 1, 1) := by decide +kernel
theorem dX4_declarations_18 : decode cX4_declarations 18 = .ok (.invokevirtual 182, 3) := by decide +kernel
theorem dX4_declarations_21 : decode cX4_declarations 21 = .ok (.aload_n 0, 1) := by decide +kernel
theorem dX4_declarations_22 : decode cX4_declarations 22 = .ok (.getfield 22, 3) := by decide +kernel
theorem dX4_declarations_25 : decode cX4_declarations 25 = .ok (.bipush 41, 2) := by decide +kernel
theorem dX4_declarations_27 : decode cX4_declarations 27 = .ok (.invokevirtual 170, 3) := by decide +kernel
theorem dX4_declarations_30 : decode cX4_declarations 30 = .ok (.iinc 2 1, 3) := by decide +kernel
theorem dX4_declarations_33 : decode cX4_declarations 33 = .ok (.goto (-31), 3) := by decide +kernel
theorem dX4_declarations_36 : decode cX4_declarations 36 = .ok (.return_, 1) := by decide +kernel
def fX4_declarations_2 (rc : TX4_block) (k_2 : Int32 → Int32 → Wd → Option (Int32 × Wd)) (a1 : Int32) (a2 : Int32) (w : Wd) : Option (Int32 × Wd) :=
  if 8193 ≤ a2 then (some (0, w)) else (lt (fX4_isDeclaration w) fun x2 => if x2 = true then (bn2 (rc 2 a1 0 0 w) fun _ w5 => lt (fX9_need 41 w5) fun w6 => lt (a2 + 1) fun x7 => k_2 a1 x7 w6) else (some (0, w)))
theorem pX4_declarations_2 {q : Gq} {l : Launch} {N : Option Value → Wd → Prop} {X : String → Wd → Prop} {rc : TX4_block} {dd : Nat} (hS : HSX4_block q l rc dd) (hK : 911 ≤ dd) {w : Wd} {R : Int32 × Wd} (hN : N none R.2) {k_2 : Int32 → Int32 → Wd → Option (Int32 × Wd)} (hk_2 : ∀ (a1 : Int32) (a2 : Int32) (w : Wd), k_2 a1 a2 w = some R → RT (GA q) l (dd + 1) yX4_declarations cX4_declarations 3 (none) N X 2 [] [(0, .ref 2), (1, .int a1), (2, .int a2)] w) {a1 : Int32} {a2 : Int32} (h : fX4_declarations_2 rc k_2 a1 a2 w = some R) : RT (GA q) l (dd + 1) yX4_declarations cX4_declarations 3 (none) N X 2 [] [(0, .ref 2), (1, .int a1), (2, .int a2)] w := by
  unfold fX4_declarations_2 at h
  refine r_iload_n (pc := 2) dX4_declarations_2 rfl 2 rfl ?_
  refine r_sipush (pc := 3) dX4_declarations_3 ks_8193 ?_
  refine r_icmp_ge (pc := 6) dX4_declarations_6 rfl (fun hc1 => ?_) (fun hc1 => ?_)
  · replace h := if_t hc1 h
    exact rOR_v (pc := 36) rfl dX4_declarations_36 h hN
  replace h := if_f hc1 h
  refine r_aload_n (pc := 9) dX4_declarations_9 rfl 0 rfl ?_
  replace h := lt_e h; obtain ⟨x2, ex2, h⟩ := h
  refine r_cVi (pc := 10) wyX4_isDeclaration oA2 rfl mlRX4_179 iyX4_isDeclaration syX4_isDeclaration ⟨Nat.succ_le_succ (Nat.le_trans (Nat.le_of_ble_eq_true rfl) hK), (Nat.le_of_ble_eq_true rfl)⟩ rfl rfl (Nat.le_of_ble_eq_true rfl) dX4_declarations_10 (mX4_isDeclaration ex2 (pI.mk ?_))
  refine r_z_eq (pc := 13) dX4_declarations_13 rfl (fun hc3 => ?_) (fun hc3 => ?_)
  · replace h := if_f hc3 h
    exact rOR_v (pc := 36) rfl dX4_declarations_36 h hN
  replace h := if_t hc3 h
  refine r_aload_n (pc := 16) dX4_declarations_16 rfl 0 rfl ?_
  refine r_iload_n (pc := 17) dX4_declarations_17 rfl 1 rfl ?_
  replace h := bn2_e h; obtain ⟨x4, w5, ew5, h⟩ := h
  refine r_cVv (pc := 18) wyX4_declaration oA2 rfl mlRX4_182 iyX4_declaration syX4_declaration ⟨Nat.le_refl _, (Nat.le_of_ble_eq_true rfl)⟩ rfl rfl (Nat.le_of_ble_eq_true rfl) dX4_declarations_18 ((hS.2.2.1 _ _ _ _ _ _) ew5 (pV.mk ?_))
  refine r_aload_n (pc := 21) dX4_declarations_21 rfl 0 rfl ?_
  refine r_get (pc := 22) (j := 1) (v := .ref 4) oA2 cf4 flRX4_22 rfl dX4_declarations_22 rfl ?_
  refine r_bipush (pc := 25) dX4_declarations_25 kb_41 ?_
  replace h := lt_e h; obtain ⟨w6, ew6, h⟩ := h
  refine r_cVv (pc := 27) wyX9_need oA4 rfl mlRX4_170 iyX9_need syX9_need ⟨Nat.succ_le_succ (Nat.le_trans (Nat.le_of_ble_eq_true rfl) hK), (Nat.le_of_ble_eq_true rfl)⟩ rfl rfl (Nat.le_of_ble_eq_true rfl) dX4_declarations_27 (mX9_need ew6 (pV.mk ?_))
  replace h := lt_e h; obtain ⟨x7, ex7, h⟩ := h
  refine r_inc (pc := 30) (loc' := [(2, .int x7), (0, .ref 2), (1, .int a1)]) dX4_declarations_30 ki_1 ex7 2 rfl (Nat.le_of_ble_eq_true rfl) rfl ?_
  refine r_goto (pc := 33) dX4_declarations_33 rfl ?_
  refine r_drop (loc' := [(0, .ref 2), (1, .int a1), (2, .int x7)]) [1, 2, 0] rfl ?_
  exact hk_2 a1 x7 w6 h
def oX4_declarations_2 (rc : TX4_block) : Nat → Int32 → Int32 → Wd → Option (Int32 × Wd)
  | 0 => fun _ _ _ => none
  | n + 1 => fX4_declarations_2 rc (oX4_declarations_2 rc n)
theorem qX4_declarations_2 {q : Gq} {l : Launch} {N : Option Value → Wd → Prop} {X : String → Wd → Prop} {rc : TX4_block} {dd : Nat} (hS : HSX4_block q l rc dd) (hK : 911 ≤ dd) {R : Int32 × Wd} (hN : N none R.2) : ∀ (n : Nat) (a1 : Int32) (a2 : Int32) (w : Wd), oX4_declarations_2 rc n a1 a2 w = some R → RT (GA q) l (dd + 1) yX4_declarations cX4_declarations 3 (none) N X 2 [] [(0, .ref 2), (1, .int a1), (2, .int a2)] w := by
  intro n
  induction n with
  | zero =>
    intro a1 a2 w h
    exact absurd h (fun q => nomatch q)
  | succ n ih =>
    intro a1 a2 w h
    exact pX4_declarations_2 hS hK hN ih h
def fX4_declarations (rc : TX4_block) (a1 : Int32) (w : Wd) : Option (Int32 × Wd) :=
  oX4_declarations_2 rc FU a1 0 w
theorem pX4_declarations {q : Gq} {l : Launch} {N : Option Value → Wd → Prop} {X : String → Wd → Prop} {rc : TX4_block} {dd : Nat} (hS : HSX4_block q l rc dd) (hK : 911 ≤ dd) {w : Wd} {R : Int32 × Wd} (hN : N none R.2) {a1 : Int32} (h : fX4_declarations rc a1 w = some R) : RT (GA q) l (dd + 1) yX4_declarations cX4_declarations 3 (none) N X 0 [] [(0, .ref 2), (1, .int a1)] w := by
  unfold fX4_declarations at h
  refine r_iconst (pc := 0) dX4_declarations_0 ki_0 ?_
  refine r_istore_n (pc := 1) (loc' := [(2, .int 0), (0, .ref 2), (1, .int a1)]) dX4_declarations_1 rfl (Nat.le_of_ble_eq_true rfl) rfl ?_
  refine r_drop (loc' := [(0, .ref 2), (1, .int a1), (2, .int 0)]) [1, 2, 0] rfl ?_
  exact qX4_declarations_2 hS hK hN FU a1 0 w h
/-! AlgolMill$Maker.block (I)V: O, 1811 -/
theorem dX4_block_0 : decode cX4_block 0 = .ok (.aload_n 0, 1) := by decide +kernel
theorem dX4_block_1 : decode cX4_block 1 = .ok (.getfield 22, 3) := by decide +kernel
theorem dX4_block_4 : decode cX4_block 4 = .ok (.iload_n 1, 1) := by decide +kernel
theorem dX4_block_5 : decode cX4_block 5 = .ok (.invokevirtual 130, 3) := by decide +kernel
theorem dX4_block_8 : decode cX4_block 8 = .ok (.istore_n 2, 1) := by decide +kernel
theorem dX4_block_9 : decode cX4_block 9 = .ok (.aload_n 0, 1) := by decide +kernel
theorem dX4_block_10 : decode cX4_block 10 = .ok (.getfield 37, 3) := by decide +kernel
theorem dX4_block_13 : decode cX4_block 13 = .ok (.invokevirtual 133, 3) := by decide +kernel
theorem dX4_block_16 : decode cX4_block 16 = .ok (.istore_n 3, 1) := by decide +kernel
theorem dX4_block_17 : decode cX4_block 17 = .ok (.aload_n 0, 1) := by decide +kernel
theorem dX4_block_18 : decode cX4_block 18 = .ok (.getfield 37, 3) := by decide +kernel
theorem dX4_block_21 : decode cX4_block 21 = .ok (.invokevirtual 135, 3) := by decide +kernel
theorem dX4_block_24 : decode cX4_block 24 = .ok (.istore 4, 2) := by decide +kernel
theorem dX4_block_26 : decode cX4_block 26 = .ok (.aload_n 0, 1) := by decide +kernel
theorem dX4_block_27 : decode cX4_block 27 = .ok (.getfield 32, 3) := by decide +kernel
theorem dX4_block_30 : decode cX4_block 30 = .ok (.invokevirtual 138, 3) := by decide +kernel
theorem dX4_block_33 : decode cX4_block 33 = .ok (.aload_n 0, 1) := by decide +kernel
theorem dX4_block_34 : decode cX4_block 34 = .ok (.getfield 12, 3) := by decide +kernel
theorem dX4_block_37 : decode cX4_block 37 = .ok (.getfield 143, 3) := by decide +kernel
theorem dX4_block_40 : decode cX4_block 40 = .ok (.ifCond .eq 13, 3) := by decide +kernel
theorem dX4_block_43 : decode cX4_block 43 = .ok (.aload_n 0, 1) := by decide +kernel
theorem dX4_block_44 : decode cX4_block 44 = .ok (.getfield 32, 3) := by decide +kernel
theorem dX4_block_47 : decode cX4_block 47 = .ok (.invokevirtual 147, 3) := by decide +kernel
theorem dX4_block_50 : decode cX4_block 50 = .ok (.goto 4, 3) := by decide +kernel
theorem dX4_block_53 : decode cX4_block 53 = .ok (.iconst 1, 1) := by decide +kernel
theorem dX4_block_54 : decode cX4_block 54 = .ok (.istore 5, 2) := by decide +kernel
theorem dX4_block_56 : decode cX4_block 56 = .ok (.aload_n 0, 1) := by decide +kernel
theorem dX4_block_57 : decode cX4_block 57 = .ok (.getfield 37, 3) := by decide +kernel
theorem dX4_block_60 : decode cX4_block 60 = .ok (.aload_n 0, 1) := by decide +kernel
theorem dX4_block_61 : decode cX4_block 61 = .ok (.getfield 37, 3) := by decide +kernel
theorem dX4_block_64 : decode cX4_block 64 = .ok (.iload 5, 2) := by decide +kernel
theorem dX4_block_66 : decode cX4_block 66 = .ok (.invokevirtual 150, 3) := by decide +kernel
theorem dX4_block_69 : decode cX4_block 69 = .ok (.invokevirtual 153, 3) := by decide +kernel
theorem dX4_block_72 : decode cX4_block 72 = .ok (.iload 5, 2) := by decide +kernel
theorem dX4_block_74 : decode cX4_block 74 = .ok (.iconst 1, 1) := by decide +kernel
theorem dX4_block_75 : decode cX4_block 75 = .ok (.if_icmp .le 20, 3) := by decide +kernel
theorem dX4_block_78 : decode cX4_block 78 = .ok (.aload_n 0, 1) := by decide +kernel
theorem dX4_block_79 : decode cX4_block 79 = .ok (.getfield 42, 3) := by decide +kernel
theorem dX4_block_82 : decode cX4_block 82 = .ok (.bipush 29, 2) := by decide +kernel
theorem dX4_block_84 : decode cX4_block 84 = .ok (.iload_n 3, 1) := by decide +kernel
theorem dX4_block_85 : decode cX4_block 85 = .ok (.bipush 11, 2) := by decide +kernel
theorem dX4_block_87 : decode cX4_block 87 = .ok (.ishl, 1) := by decide +kernel
theorem dX4_block_88 : decode cX4_block 88 = .ok (.iload 5, 2) := by decide +kernel
theorem dX4_block_90 : decode cX4_block 90 = .ok (.ior, 1) := by decide +kernel
theorem dX4_block_91 : decode cX4_block 91 = .ok (.invokevirtual 156, 3) := by decide +kernel
theorem dX4_block_94 : decode cX4_block 94 = .ok (.pop, 1) := by decide +kernel
theorem dX4_block_95 : decode cX4_block 95 = .ok (.aload_n 0, 1) := by decide +kernel
theorem dX4_block_96 : decode cX4_block 96 = .ok (.iload_n 2, 1) := by decide +kernel
theorem dX4_block_97 : decode cX4_block 97 = .ok (.invokevirtual 159, 3) := by decide +kernel
theorem dX4_block_100 : decode cX4_block 100 = .ok (.aload_n 0, 1) := by decide +kernel
theorem dX4_block_101 : decode cX4_block 101 = .ok (.getfield 42, 3) := by decide +kernel
theorem dX4_block_104 : decode cX4_block 104 = .ok (.bipush 31, 2) := by decide +kernel
theorem dX4_block_106 : decode cX4_block 106 = .ok (.iload_n 3, 1) := by decide +kernel
theorem dX4_block_107 : decode cX4_block 107 = .ok (.invokevirtual 156, 3) := by decide +kernel
theorem dX4_block_110 : decode cX4_block 110 = .ok (.pop, 1) := by decide +kernel
theorem dX4_block_111 : decode cX4_block 111 = .ok (.aload_n 0, 1) := by decide +kernel
theorem dX4_block_112 : decode cX4_block 112 = .ok (.getfield 12, 3) := by decide +kernel
theorem dX4_block_115 : decode cX4_block 115 = .ok (.getfield 143, 3) := by decide +kernel
theorem dX4_block_118 : decode cX4_block 118 = .ok (.ifCond .ne 19, 3) := by decide +kernel
theorem dX4_block_121 : decode cX4_block 121 = .ok (.aload_n 0, 1) := by decide +kernel
theorem dX4_block_122 : decode cX4_block 122 = .ok (.getfield 32, 3) := by decide +kernel
theorem dX4_block_125 : decode cX4_block 125 = .ok (.aload_n 0, 1) := by decide +kernel
theorem dX4_block_126 : decode cX4_block 126 = .ok (.getfield 37, 3) := by decide +kernel
theorem dX4_block_129 : decode cX4_block 129 = .ok (.invokevirtual 133, 3) := by decide +kernel
theorem dX4_block_132 : decode cX4_block 132 = .ok (.iload_n 3, 1) := by decide +kernel
theorem dX4_block_133 : decode cX4_block 133 = .ok (.isub, 1) := by decide +kernel
theorem dX4_block_134 : decode cX4_block 134 = .ok (.invokevirtual 162, 3) := by decide +kernel
theorem dX4_block_137 : decode cX4_block 137 = .ok (.iconst 0, 1) := by decide +kernel
theorem dX4_block_138 : decode cX4_block 138 = .ok (.istore 6, 2) := by decide +kernel
theorem dX4_block_140 : decode cX4_block 140 = .ok (.iload 6, 2) := by decide +kernel
theorem dX4_block_142 : decode cX4_block 142 = .ok (.sipush 8193, 3) := by decide +kernel
theorem dX4_block_145 : decode cX4_block 145 = .ok (.if_icmp .ge 31, 3) := by decide +kernel
theorem dX4_block_148 : decode cX4_block 148 = .ok (.iload 6, 2) := by decide +kernel
theorem dX4_block_150 : decode cX4_block 150 = .ok (.ifCond .eq 15, 3) := by decide +kernel
theorem dX4_block_153 : decode cX4_block 153 = .ok (.aload_n 0, 1) := by decide +kernel
theorem dX4_block_154 : decode cX4_block 154 = .ok (.getfield 22, 3) := by decide +kernel
theorem dX4_block_157 : decode cX4_block 157 = .ok (.bipush 41, 2) := by decide +kernel
theorem dX4_block_159 : decode cX4_block 159 = .ok (.invokevirtual 164, 3) := by decide +kernel
theorem dX4_block_162 : decode cX4_block 162 = .ok (.ifCond .eq 14, 3) := by decide +kernel
theorem dX4_block_165 : decode cX4_block 165 = .ok (.aload_n 0, 1) := by decide +kernel
theorem dX4_block_166 : decode cX4_block 166 = .ok (.iload_n 2, 1) := by decide +kernel
theorem dX4_block_167 : decode cX4_block 167 = .ok (.invokevirtual 167, 3) := by decide +kernel
theorem dX4_block_170 : decode cX4_block 170 = .ok (.iinc 6 1, 3) := by decide +kernel
theorem dX4_block_173 : decode cX4_block 173 = .ok (.goto (-33), 3) := by decide +kernel
theorem dX4_block_176 : decode cX4_block 176 = .ok (.aload_n 0, 1) := by decide +kernel
theorem dX4_block_177 : decode cX4_block 177 = .ok (.getfield 22, 3) := by decide +kernel
theorem dX4_block_180 : decode cX4_block 180 = .ok (.iconst 5, 1) := by decide +kernel
theorem dX4_block_181 : decode cX4_block 181 = .ok (.invokevirtual 170, 3) := by decide +kernel
theorem dX4_block_184 : decode cX4_block 184 = .ok (.aload_n 0, 1) := by decide +kernel
theorem dX4_block_185 : decode cX4_block 185 = .ok (.getfield 32, 3) := by decide +kernel
theorem dX4_block_188 : decode cX4_block 188 = .ok (.invokevirtual 173, 3) := by decide +kernel
theorem dX4_block_191 : decode cX4_block 191 = .ok (.aload_n 0, 1) := by decide +kernel
theorem dX4_block_192 : decode cX4_block 192 = .ok (.getfield 37, 3) := by decide +kernel
theorem dX4_block_195 : decode cX4_block 195 = .ok (.iload_n 3, 1) := by decide +kernel
theorem dX4_block_196 : decode cX4_block 196 = .ok (.invokevirtual 176, 3) := by decide +kernel
theorem dX4_block_199 : decode cX4_block 199 = .ok (.aload_n 0, 1) := by decide +kernel
theorem dX4_block_200 : decode cX4_block 200 = .ok (.getfield 37, 3) := by decide +kernel
theorem dX4_block_203 : decode cX4_block 203 = .ok (.iload 4, 2) := by decide +kernel
theorem dX4_block_205 : decode cX4_block 205 = .ok (.invokevirtual 153, 3) := by decide +kernel
theorem dX4_block_208 : decode cX4_block 208 = .ok (.aload_n 0, 1) := by decide +kernel
theorem dX4_block_209 : decode cX4_block 209 = .ok (.getfield 42, 3) := by decide +kernel
theorem dX4_block_212 : decode cX4_block 212 = .ok (.bipush 32, 2) := by decide +kernel
theorem dX4_block_214 : decode cX4_block 214 = .ok (.iload 4, 2) := by decide +kernel
theorem dX4_block_216 : decode cX4_block 216 = .ok (.invokevirtual 156, 3) := by decide +kernel
theorem dX4_block_219 : decode cX4_block 219 = .ok (.pop, 1) := by decide +kernel
theorem dX4_block_220 : decode cX4_block 220 = .ok (.return_, 1) := by decide +kernel
def fX4_block_176 (rc : TX4_block) (a3 : Int32) (a4 : Int32) (w : Wd) : Option (Int32 × Wd) :=
  lt (fX9_need 5 w) fun w1 => bn (fX7_leave w1) fun w2 => lt (fX5_giveBack a3 w2) fun w3 => lt (fX5_keepAt a4 w3) fun w4 => lt2 (fX0_put_ 32 a4 w4) fun x5 w6 => some (0, w6)
theorem pX4_block_176 {q : Gq} {l : Launch} {N : Option Value → Wd → Prop} {X : String → Wd → Prop} {rc : TX4_block} {dd : Nat} (hS : HSX4_block q l rc dd) (hK : 911 ≤ dd) {w : Wd} {R : Int32 × Wd} (hN : N none R.2) {a3 : Int32} {a4 : Int32} (h : fX4_block_176 rc a3 a4 w = some R) : RT (GA q) l (dd + 1) yX4_block cX4_block 7 (none) N X 176 [] [(0, .ref 2), (3, .int a3), (4, .int a4)] w := by
  unfold fX4_block_176 at h
  refine r_aload_n (pc := 176) dX4_block_176 rfl 0 rfl ?_
  refine r_get (pc := 177) (j := 1) (v := .ref 4) oA2 cf4 flRX4_22 rfl dX4_block_177 rfl ?_
  refine r_iconst (pc := 180) dX4_block_180 ki_5 ?_
  replace h := lt_e h; obtain ⟨w1, ew1, h⟩ := h
  refine r_cVv (pc := 181) wyX9_need oA4 rfl mlRX4_170 iyX9_need syX9_need ⟨Nat.succ_le_succ (Nat.le_trans (Nat.le_of_ble_eq_true rfl) hK), (Nat.le_of_ble_eq_true rfl)⟩ rfl rfl (Nat.le_of_ble_eq_true rfl) dX4_block_181 (mX9_need ew1 (pV.mk ?_))
  refine r_aload_n (pc := 184) dX4_block_184 rfl 0 rfl ?_
  refine r_get (pc := 185) (j := 3) (v := .ref 26) oA2 cf4 flRX4_32 rfl dX4_block_185 rfl ?_
  replace h := bn_e h; obtain ⟨w2, ew2, h⟩ := h
  refine r_cVv (pc := 188) wyX7_leave oA26 rfl mlRX4_173 iyX7_leave syX7_leave ⟨Nat.succ_le_succ (Nat.le_trans (Nat.le_of_ble_eq_true rfl) hK), (Nat.le_of_ble_eq_true rfl)⟩ rfl rfl (Nat.le_of_ble_eq_true rfl) dX4_block_188 (mX7_leave ew2 (pV.mk ?_))
  refine r_aload_n (pc := 191) dX4_block_191 rfl 0 rfl ?_
  refine r_get (pc := 192) (j := 4) (v := .ref 34) oA2 cf4 flRX4_37 rfl dX4_block_192 rfl ?_
  refine r_iload_n (pc := 195) dX4_block_195 rfl 1 rfl ?_
  replace h := lt_e h; obtain ⟨w3, ew3, h⟩ := h
  refine r_cVv (pc := 196) wyX5_giveBack oA34 rfl mlRX4_176 iyX5_giveBack syX5_giveBack ⟨Nat.succ_le_succ (Nat.le_trans (Nat.le_of_ble_eq_true rfl) hK), (Nat.le_of_ble_eq_true rfl)⟩ rfl rfl (Nat.le_of_ble_eq_true rfl) dX4_block_196 (mX5_giveBack ew3 (pV.mk ?_))
  refine r_aload_n (pc := 199) dX4_block_199 rfl 0 rfl ?_
  refine r_get (pc := 200) (j := 4) (v := .ref 34) oA2 cf4 flRX4_37 rfl dX4_block_200 rfl ?_
  refine r_iload (pc := 203) dX4_block_203 2 rfl ?_
  replace h := lt_e h; obtain ⟨w4, ew4, h⟩ := h
  refine r_cVv (pc := 205) wyX5_keepAt oA34 rfl mlRX4_153 iyX5_keepAt syX5_keepAt ⟨Nat.succ_le_succ (Nat.le_trans (Nat.le_of_ble_eq_true rfl) hK), (Nat.le_of_ble_eq_true rfl)⟩ rfl rfl (Nat.le_of_ble_eq_true rfl) dX4_block_205 (mX5_keepAt ew4 (pV.mk ?_))
  refine r_aload_n (pc := 208) dX4_block_208 rfl 0 rfl ?_
  refine r_get (pc := 209) (j := 5) (v := .ref 40) oA2 cf4 flRX4_42 rfl dX4_block_209 rfl ?_
  refine r_bipush (pc := 212) dX4_block_212 kb_32 ?_
  refine r_iload (pc := 214) dX4_block_214 2 rfl ?_
  replace h := lt2_e h; obtain ⟨x5, w6, ew6, h⟩ := h
  refine r_cVi (pc := 216) wyX0_put_ oA40 rfl mlRX4_156 iyX0_put_ syX0_put_ ⟨Nat.succ_le_succ (Nat.le_trans (Nat.le_of_ble_eq_true rfl) hK), (Nat.le_of_ble_eq_true rfl)⟩ rfl rfl (Nat.le_of_ble_eq_true rfl) dX4_block_216 (mX0_put_ ew6 (pI.mk ?_))
  refine r_pop (pc := 219) dX4_block_219 rfl ?_
  exact rOR_v (pc := 220) rfl dX4_block_220 h hN
def fX4_block_140 (rc : TX4_block) (k_140 : Int32 → Int32 → Int32 → Int32 → Wd → Option (Int32 × Wd)) (a2 : Int32) (a3 : Int32) (a4 : Int32) (a6 : Int32) (w : Wd) : Option (Int32 × Wd) :=
  if 8193 ≤ a6 then (fX4_block_176 rc a3 a4 w) else (if a6 = 0 then (bn2 (rc 5 a2 0 0 w) fun _ w4 => lt (a6 + 1) fun x5 => k_140 a2 a3 a4 x5 w4) else (lt2 (fX9_take 41 w) fun x6 w7 => if x6 = true then (bn2 (rc 5 a2 0 0 w7) fun _ w10 => lt (a6 + 1) fun x11 => k_140 a2 a3 a4 x11 w10) else (fX4_block_176 rc a3 a4 w7)))
theorem pX4_block_140 {q : Gq} {l : Launch} {N : Option Value → Wd → Prop} {X : String → Wd → Prop} {rc : TX4_block} {dd : Nat} (hS : HSX4_block q l rc dd) (hK : 911 ≤ dd) {w : Wd} {R : Int32 × Wd} (hN : N none R.2) {k_140 : Int32 → Int32 → Int32 → Int32 → Wd → Option (Int32 × Wd)} (hk_140 : ∀ (a2 : Int32) (a3 : Int32) (a4 : Int32) (a6 : Int32) (w : Wd), k_140 a2 a3 a4 a6 w = some R → RT (GA q) l (dd + 1) yX4_block cX4_block 7 (none) N X 140 [] [(0, .ref 2), (2, .int a2), (3, .int a3), (4, .int a4), (6, .int a6)] w) {a2 : Int32} {a3 : Int32} {a4 : Int32} {a6 : Int32} (h : fX4_block_140 rc k_140 a2 a3 a4 a6 w = some R) : RT (GA q) l (dd + 1) yX4_block cX4_block 7 (none) N X 140 [] [(0, .ref 2), (2, .int a2), (3, .int a3), (4, .int a4), (6, .int a6)] w := by
  unfold fX4_block_140 at h
  refine r_iload (pc := 140) dX4_block_140 4 rfl ?_
  refine r_sipush (pc := 142) dX4_block_142 ks_8193 ?_
  refine r_icmp_ge (pc := 145) dX4_block_145 rfl (fun hc1 => ?_) (fun hc1 => ?_)
  · replace h := if_t hc1 h
    refine r_drop (loc' := [(0, .ref 2), (3, .int a3), (4, .int a4)]) [0, 2, 3] rfl ?_
    exact pX4_block_176 hS hK hN h
  replace h := if_f hc1 h
  refine r_iload (pc := 148) dX4_block_148 4 rfl ?_
  refine r_if_eq (pc := 150) dX4_block_150 rfl (fun hc2 => ?_) (fun hc2 => ?_)
  · replace h := if_t hc2 h
    refine r_aload_n (pc := 165) dX4_block_165 rfl 0 rfl ?_
    refine r_iload_n (pc := 166) dX4_block_166 rfl 1 rfl ?_
    replace h := bn2_e h; obtain ⟨x3, w4, ew4, h⟩ := h
    refine r_cVv (pc := 167) wyX4_statement oA2 rfl mlRX4_167 iyX4_statement syX4_statement ⟨Nat.le_refl _, (Nat.le_of_ble_eq_true rfl)⟩ rfl rfl (Nat.le_of_ble_eq_true rfl) dX4_block_167 ((hS.2.2.2.2.2.1 _ _ _ _ _ _) ew4 (pV.mk ?_))
    replace h := lt_e h; obtain ⟨x5, ex5, h⟩ := h
    refine r_inc (pc := 170) (loc' := [(6, .int x5), (0, .ref 2), (2, .int a2), (3, .int a3), (4, .int a4)]) dX4_block_170 ki_1 ex5 4 rfl (Nat.le_of_ble_eq_true rfl) rfl ?_
    refine r_goto (pc := 173) dX4_block_173 rfl ?_
    refine r_drop (loc' := [(0, .ref 2), (2, .int a2), (3, .int a3), (4, .int a4), (6, .int x5)]) [1, 2, 3, 4, 0] rfl ?_
    exact hk_140 a2 a3 a4 x5 w4 h
  replace h := if_f hc2 h
  refine r_aload_n (pc := 153) dX4_block_153 rfl 0 rfl ?_
  refine r_get (pc := 154) (j := 1) (v := .ref 4) oA2 cf4 flRX4_22 rfl dX4_block_154 rfl ?_
  refine r_bipush (pc := 157) dX4_block_157 kb_41 ?_
  replace h := lt2_e h; obtain ⟨x6, w7, ew7, h⟩ := h
  refine r_cVi (pc := 159) wyX9_take oA4 rfl mlRX4_164 iyX9_take syX9_take ⟨Nat.succ_le_succ (Nat.le_trans (Nat.le_of_ble_eq_true rfl) hK), (Nat.le_of_ble_eq_true rfl)⟩ rfl rfl (Nat.le_of_ble_eq_true rfl) dX4_block_159 (mX9_take ew7 (pI.mk ?_))
  refine r_z_eq (pc := 162) dX4_block_162 rfl (fun hc8 => ?_) (fun hc8 => ?_)
  · replace h := if_f hc8 h
    refine r_drop (loc' := [(0, .ref 2), (3, .int a3), (4, .int a4)]) [0, 2, 3] rfl ?_
    exact pX4_block_176 hS hK hN h
  replace h := if_t hc8 h
  refine r_aload_n (pc := 165) dX4_block_165 rfl 0 rfl ?_
  refine r_iload_n (pc := 166) dX4_block_166 rfl 1 rfl ?_
  replace h := bn2_e h; obtain ⟨x9, w10, ew10, h⟩ := h
  refine r_cVv (pc := 167) wyX4_statement oA2 rfl mlRX4_167 iyX4_statement syX4_statement ⟨Nat.le_refl _, (Nat.le_of_ble_eq_true rfl)⟩ rfl rfl (Nat.le_of_ble_eq_true rfl) dX4_block_167 ((hS.2.2.2.2.2.1 _ _ _ _ _ _) ew10 (pV.mk ?_))
  replace h := lt_e h; obtain ⟨x11, ex11, h⟩ := h
  refine r_inc (pc := 170) (loc' := [(6, .int x11), (0, .ref 2), (2, .int a2), (3, .int a3), (4, .int a4)]) dX4_block_170 ki_1 ex11 4 rfl (Nat.le_of_ble_eq_true rfl) rfl ?_
  refine r_goto (pc := 173) dX4_block_173 rfl ?_
  refine r_drop (loc' := [(0, .ref 2), (2, .int a2), (3, .int a3), (4, .int a4), (6, .int x11)]) [1, 2, 3, 4, 0] rfl ?_
  exact hk_140 a2 a3 a4 x11 w10 h
def oX4_block_140 (rc : TX4_block) : Nat → Int32 → Int32 → Int32 → Int32 → Wd → Option (Int32 × Wd)
  | 0 => fun _ _ _ _ _ => none
  | n + 1 => fX4_block_140 rc (oX4_block_140 rc n)
theorem qX4_block_140 {q : Gq} {l : Launch} {N : Option Value → Wd → Prop} {X : String → Wd → Prop} {rc : TX4_block} {dd : Nat} (hS : HSX4_block q l rc dd) (hK : 911 ≤ dd) {R : Int32 × Wd} (hN : N none R.2) : ∀ (n : Nat) (a2 : Int32) (a3 : Int32) (a4 : Int32) (a6 : Int32) (w : Wd), oX4_block_140 rc n a2 a3 a4 a6 w = some R → RT (GA q) l (dd + 1) yX4_block cX4_block 7 (none) N X 140 [] [(0, .ref 2), (2, .int a2), (3, .int a3), (4, .int a4), (6, .int a6)] w := by
  intro n
  induction n with
  | zero =>
    intro a2 a3 a4 a6 w h
    exact absurd h (fun q => nomatch q)
  | succ n ih =>
    intro a2 a3 a4 a6 w h
    exact pX4_block_140 hS hK hN ih h
def fX4_block_95 (rc : TX4_block) (a2 : Int32) (a3 : Int32) (a4 : Int32) (w : Wd) : Option (Int32 × Wd) :=
  bn2 (rc 1 a2 0 0 w) fun _ w2 => lt2 (fX0_put_ 31 a3 w2) fun x3 w4 => if (gi w4 3 5) = 0 then (lt (fX5_slot w4) fun x6 => lt (fX7_words (x6 - a3) w4) fun w7 => oX4_block_140 rc FU a2 a3 a4 0 w7) else (oX4_block_140 rc FU a2 a3 a4 0 w4)
theorem pX4_block_95 {q : Gq} {l : Launch} {N : Option Value → Wd → Prop} {X : String → Wd → Prop} {rc : TX4_block} {dd : Nat} (hS : HSX4_block q l rc dd) (hK : 911 ≤ dd) {w : Wd} {R : Int32 × Wd} (hN : N none R.2) {a2 : Int32} {a3 : Int32} {a4 : Int32} (h : fX4_block_95 rc a2 a3 a4 w = some R) : RT (GA q) l (dd + 1) yX4_block cX4_block 7 (none) N X 95 [] [(0, .ref 2), (2, .int a2), (3, .int a3), (4, .int a4)] w := by
  unfold fX4_block_95 at h
  refine r_aload_n (pc := 95) dX4_block_95 rfl 0 rfl ?_
  refine r_iload_n (pc := 96) dX4_block_96 rfl 1 rfl ?_
  replace h := bn2_e h; obtain ⟨x1, w2, ew2, h⟩ := h
  refine r_cVv (pc := 97) wyX4_declarations oA2 rfl mlRX4_159 iyX4_declarations syX4_declarations ⟨Nat.le_refl _, (Nat.le_of_ble_eq_true rfl)⟩ rfl rfl (Nat.le_of_ble_eq_true rfl) dX4_block_97 ((hS.2.1 _ _ _ _ _ _) ew2 (pV.mk ?_))
  refine r_aload_n (pc := 100) dX4_block_100 rfl 0 rfl ?_
  refine r_get (pc := 101) (j := 5) (v := .ref 40) oA2 cf4 flRX4_42 rfl dX4_block_101 rfl ?_
  refine r_bipush (pc := 104) dX4_block_104 kb_31 ?_
  refine r_iload_n (pc := 106) dX4_block_106 rfl 2 rfl ?_
  replace h := lt2_e h; obtain ⟨x3, w4, ew4, h⟩ := h
  refine r_cVi (pc := 107) wyX0_put_ oA40 rfl mlRX4_156 iyX0_put_ syX0_put_ ⟨Nat.succ_le_succ (Nat.le_trans (Nat.le_of_ble_eq_true rfl) hK), (Nat.le_of_ble_eq_true rfl)⟩ rfl rfl (Nat.le_of_ble_eq_true rfl) dX4_block_107 (mX0_put_ ew4 (pI.mk ?_))
  refine r_pop (pc := 110) dX4_block_110 rfl ?_
  refine r_aload_n (pc := 111) dX4_block_111 rfl 0 rfl ?_
  refine r_get (pc := 112) (j := 0) (v := .ref 3) oA2 cf4 flRX4_12 rfl dX4_block_112 rfl ?_
  refine r_get (pc := 115) (j := 5) (v := .int (gi w4 3 5)) oA3 cf1 flRX4_143 rfl dX4_block_115 rfl ?_
  refine r_if_ne (pc := 118) dX4_block_118 rfl (fun hc5 => ?_) (fun hc5 => ?_)
  · replace h := if_f hc5 h
    refine r_iconst (pc := 137) dX4_block_137 ki_0 ?_
    refine r_istore (pc := 138) (loc' := [(6, .int 0), (0, .ref 2), (2, .int a2), (3, .int a3), (4, .int a4)]) dX4_block_138 (Nat.le_of_ble_eq_true rfl) rfl ?_
    refine r_drop (loc' := [(0, .ref 2), (2, .int a2), (3, .int a3), (4, .int a4), (6, .int 0)]) [1, 2, 3, 4, 0] rfl ?_
    exact qX4_block_140 hS hK hN FU a2 a3 a4 0 w4 h
  replace h := if_t hc5 h
  refine r_aload_n (pc := 121) dX4_block_121 rfl 0 rfl ?_
  refine r_get (pc := 122) (j := 3) (v := .ref 26) oA2 cf4 flRX4_32 rfl dX4_block_122 rfl ?_
  refine r_aload_n (pc := 125) dX4_block_125 rfl 0 rfl ?_
  refine r_get (pc := 126) (j := 4) (v := .ref 34) oA2 cf4 flRX4_37 rfl dX4_block_126 rfl ?_
  replace h := lt_e h; obtain ⟨x6, ex6, h⟩ := h
  refine r_cVi (pc := 129) wyX5_slot oA34 rfl mlRX4_133 iyX5_slot syX5_slot ⟨Nat.succ_le_succ (Nat.le_trans (Nat.le_of_ble_eq_true rfl) hK), (Nat.le_of_ble_eq_true rfl)⟩ rfl rfl (Nat.le_of_ble_eq_true rfl) dX4_block_129 (mX5_slot ex6 (pI.mk ?_))
  refine r_iload_n (pc := 132) dX4_block_132 rfl 2 rfl ?_
  refine r_isub (pc := 133) dX4_block_133 ?_
  replace h := lt_e h; obtain ⟨w7, ew7, h⟩ := h
  refine r_cVv (pc := 134) wyX7_words oA26 rfl mlRX4_162 iyX7_words syX7_words ⟨Nat.succ_le_succ (Nat.le_trans (Nat.le_of_ble_eq_true rfl) hK), (Nat.le_of_ble_eq_true rfl)⟩ rfl rfl (Nat.le_of_ble_eq_true rfl) dX4_block_134 (mX7_words ew7 (pV.mk ?_))
  refine r_iconst (pc := 137) dX4_block_137 ki_0 ?_
  refine r_istore (pc := 138) (loc' := [(6, .int 0), (0, .ref 2), (2, .int a2), (3, .int a3), (4, .int a4)]) dX4_block_138 (Nat.le_of_ble_eq_true rfl) rfl ?_
  refine r_drop (loc' := [(0, .ref 2), (2, .int a2), (3, .int a3), (4, .int a4), (6, .int 0)]) [1, 2, 3, 4, 0] rfl ?_
  exact qX4_block_140 hS hK hN FU a2 a3 a4 0 w7 h
def fX4_block_54 (rc : TX4_block) (s0 : Int32) (a2 : Int32) (a3 : Int32) (a4 : Int32) (w : Wd) : Option (Int32 × Wd) :=
  lt2 (fX5_take s0 w) fun x1 w2 => lt (fX5_keepAt x1 w2) fun w3 => if s0 ≤ 1 then (fX4_block_95 rc a2 a3 a4 w3) else (lt2 (fX0_put_ 29 ((a3 <<< (11 &&& 31)) ||| s0) w3) fun x5 w6 => fX4_block_95 rc a2 a3 a4 w6)
theorem pX4_block_54 {q : Gq} {l : Launch} {N : Option Value → Wd → Prop} {X : String → Wd → Prop} {rc : TX4_block} {dd : Nat} (hS : HSX4_block q l rc dd) (hK : 911 ≤ dd) {w : Wd} {R : Int32 × Wd} (hN : N none R.2) {s0 : Int32} {a2 : Int32} {a3 : Int32} {a4 : Int32} (h : fX4_block_54 rc s0 a2 a3 a4 w = some R) : RT (GA q) l (dd + 1) yX4_block cX4_block 7 (none) N X 54 [.int s0] [(0, .ref 2), (2, .int a2), (3, .int a3), (4, .int a4)] w := by
  unfold fX4_block_54 at h
  refine r_istore (pc := 54) (loc' := [(5, .int s0), (0, .ref 2), (2, .int a2), (3, .int a3), (4, .int a4)]) dX4_block_54 (Nat.le_of_ble_eq_true rfl) rfl ?_
  refine r_aload_n (pc := 56) dX4_block_56 rfl 1 rfl ?_
  refine r_get (pc := 57) (j := 4) (v := .ref 34) oA2 cf4 flRX4_37 rfl dX4_block_57 rfl ?_
  refine r_aload_n (pc := 60) dX4_block_60 rfl 1 rfl ?_
  refine r_get (pc := 61) (j := 4) (v := .ref 34) oA2 cf4 flRX4_37 rfl dX4_block_61 rfl ?_
  refine r_iload (pc := 64) dX4_block_64 0 rfl ?_
  replace h := lt2_e h; obtain ⟨x1, w2, ew2, h⟩ := h
  refine r_cVi (pc := 66) wyX5_take oA34 rfl mlRX4_150 iyX5_take syX5_take ⟨Nat.succ_le_succ (Nat.le_trans (Nat.le_of_ble_eq_true rfl) hK), (Nat.le_of_ble_eq_true rfl)⟩ rfl rfl (Nat.le_of_ble_eq_true rfl) dX4_block_66 (mX5_take ew2 (pI.mk ?_))
  replace h := lt_e h; obtain ⟨w3, ew3, h⟩ := h
  refine r_cVv (pc := 69) wyX5_keepAt oA34 rfl mlRX4_153 iyX5_keepAt syX5_keepAt ⟨Nat.succ_le_succ (Nat.le_trans (Nat.le_of_ble_eq_true rfl) hK), (Nat.le_of_ble_eq_true rfl)⟩ rfl rfl (Nat.le_of_ble_eq_true rfl) dX4_block_69 (mX5_keepAt ew3 (pV.mk ?_))
  refine r_iload (pc := 72) dX4_block_72 0 rfl ?_
  refine r_iconst (pc := 74) dX4_block_74 ki_1 ?_
  refine r_icmp_le (pc := 75) dX4_block_75 rfl (fun hc4 => ?_) (fun hc4 => ?_)
  · replace h := if_t hc4 h
    refine r_drop (loc' := [(0, .ref 2), (2, .int a2), (3, .int a3), (4, .int a4)]) [1, 2, 3, 4] rfl ?_
    exact pX4_block_95 hS hK hN h
  replace h := if_f hc4 h
  refine r_aload_n (pc := 78) dX4_block_78 rfl 1 rfl ?_
  refine r_get (pc := 79) (j := 5) (v := .ref 40) oA2 cf4 flRX4_42 rfl dX4_block_79 rfl ?_
  refine r_bipush (pc := 82) dX4_block_82 kb_29 ?_
  refine r_iload_n (pc := 84) dX4_block_84 rfl 3 rfl ?_
  refine r_bipush (pc := 85) dX4_block_85 kb_11 ?_
  refine r_ishl (pc := 87) dX4_block_87 ?_
  refine r_iload (pc := 88) dX4_block_88 0 rfl ?_
  refine r_ior (pc := 90) dX4_block_90 ?_
  replace h := lt2_e h; obtain ⟨x5, w6, ew6, h⟩ := h
  refine r_cVi (pc := 91) wyX0_put_ oA40 rfl mlRX4_156 iyX0_put_ syX0_put_ ⟨Nat.succ_le_succ (Nat.le_trans (Nat.le_of_ble_eq_true rfl) hK), (Nat.le_of_ble_eq_true rfl)⟩ rfl rfl (Nat.le_of_ble_eq_true rfl) dX4_block_91 (mX0_put_ ew6 (pI.mk ?_))
  refine r_pop (pc := 94) dX4_block_94 rfl ?_
  refine r_drop (loc' := [(0, .ref 2), (2, .int a2), (3, .int a3), (4, .int a4)]) [1, 2, 3, 4] rfl ?_
  exact pX4_block_95 hS hK hN h
def fX4_block (rc : TX4_block) (a1 : Int32) (w : Wd) : Option (Int32 × Wd) :=
  lt2 (fX9_open a1 w) fun x1 w2 => lt (fX5_slot w2) fun x3 => lt (fX5_keep w2) fun x4 => bn (fX7_enter w2) fun w5 => if (gi w5 3 5) = 0 then (fX4_block_54 rc 1 x1 x3 x4 w5) else (lt (fX7_words_ w5) fun x7 => fX4_block_54 rc x7 x1 x3 x4 w5)
theorem pX4_block {q : Gq} {l : Launch} {N : Option Value → Wd → Prop} {X : String → Wd → Prop} {rc : TX4_block} {dd : Nat} (hS : HSX4_block q l rc dd) (hK : 911 ≤ dd) {w : Wd} {R : Int32 × Wd} (hN : N none R.2) {a1 : Int32} (h : fX4_block rc a1 w = some R) : RT (GA q) l (dd + 1) yX4_block cX4_block 7 (none) N X 0 [] [(0, .ref 2), (1, .int a1)] w := by
  unfold fX4_block at h
  refine r_aload_n (pc := 0) dX4_block_0 rfl 0 rfl ?_
  refine r_get (pc := 1) (j := 1) (v := .ref 4) oA2 cf4 flRX4_22 rfl dX4_block_1 rfl ?_
  refine r_iload_n (pc := 4) dX4_block_4 rfl 1 rfl ?_
  replace h := lt2_e h; obtain ⟨x1, w2, ew2, h⟩ := h
  refine r_cVi (pc := 5) wyX9_open oA4 rfl mlRX4_130 iyX9_open syX9_open ⟨Nat.succ_le_succ (Nat.le_trans (Nat.le_of_ble_eq_true rfl) hK), (Nat.le_of_ble_eq_true rfl)⟩ rfl rfl (Nat.le_of_ble_eq_true rfl) dX4_block_5 (mX9_open ew2 (pI.mk ?_))
  refine r_istore_n (pc := 8) (loc' := [(2, .int x1), (0, .ref 2), (1, .int a1)]) dX4_block_8 rfl (Nat.le_of_ble_eq_true rfl) rfl ?_
  refine r_aload_n (pc := 9) dX4_block_9 rfl 1 rfl ?_
  refine r_get (pc := 10) (j := 4) (v := .ref 34) oA2 cf4 flRX4_37 rfl dX4_block_10 rfl ?_
  replace h := lt_e h; obtain ⟨x3, ex3, h⟩ := h
  refine r_cVi (pc := 13) wyX5_slot oA34 rfl mlRX4_133 iyX5_slot syX5_slot ⟨Nat.succ_le_succ (Nat.le_trans (Nat.le_of_ble_eq_true rfl) hK), (Nat.le_of_ble_eq_true rfl)⟩ rfl rfl (Nat.le_of_ble_eq_true rfl) dX4_block_13 (mX5_slot ex3 (pI.mk ?_))
  refine r_istore_n (pc := 16) (loc' := [(3, .int x3), (2, .int x1), (0, .ref 2), (1, .int a1)]) dX4_block_16 rfl (Nat.le_of_ble_eq_true rfl) rfl ?_
  refine r_aload_n (pc := 17) dX4_block_17 rfl 2 rfl ?_
  refine r_get (pc := 18) (j := 4) (v := .ref 34) oA2 cf4 flRX4_37 rfl dX4_block_18 rfl ?_
  replace h := lt_e h; obtain ⟨x4, ex4, h⟩ := h
  refine r_cVi (pc := 21) wyX5_keep oA34 rfl mlRX4_135 iyX5_keep syX5_keep ⟨Nat.succ_le_succ (Nat.le_trans (Nat.le_of_ble_eq_true rfl) hK), (Nat.le_of_ble_eq_true rfl)⟩ rfl rfl (Nat.le_of_ble_eq_true rfl) dX4_block_21 (mX5_keep ex4 (pI.mk ?_))
  refine r_istore (pc := 24) (loc' := [(4, .int x4), (3, .int x3), (2, .int x1), (0, .ref 2), (1, .int a1)]) dX4_block_24 (Nat.le_of_ble_eq_true rfl) rfl ?_
  refine r_aload_n (pc := 26) dX4_block_26 rfl 3 rfl ?_
  refine r_get (pc := 27) (j := 3) (v := .ref 26) oA2 cf4 flRX4_32 rfl dX4_block_27 rfl ?_
  replace h := bn_e h; obtain ⟨w5, ew5, h⟩ := h
  refine r_cVv (pc := 30) wyX7_enter oA26 rfl mlRX4_138 iyX7_enter syX7_enter ⟨Nat.succ_le_succ (Nat.le_trans (Nat.le_of_ble_eq_true rfl) hK), (Nat.le_of_ble_eq_true rfl)⟩ rfl rfl (Nat.le_of_ble_eq_true rfl) dX4_block_30 (mX7_enter ew5 (pV.mk ?_))
  refine r_aload_n (pc := 33) dX4_block_33 rfl 3 rfl ?_
  refine r_get (pc := 34) (j := 0) (v := .ref 3) oA2 cf4 flRX4_12 rfl dX4_block_34 rfl ?_
  refine r_get (pc := 37) (j := 5) (v := .int (gi w5 3 5)) oA3 cf1 flRX4_143 rfl dX4_block_37 rfl ?_
  refine r_if_eq (pc := 40) dX4_block_40 rfl (fun hc6 => ?_) (fun hc6 => ?_)
  · replace h := if_t hc6 h
    refine r_iconst (pc := 53) dX4_block_53 ki_1 ?_
    refine r_drop (loc' := [(0, .ref 2), (2, .int x1), (3, .int x3), (4, .int x4)]) [3, 2, 1, 0] rfl ?_
    exact pX4_block_54 hS hK hN h
  replace h := if_f hc6 h
  refine r_aload_n (pc := 43) dX4_block_43 rfl 3 rfl ?_
  refine r_get (pc := 44) (j := 3) (v := .ref 26) oA2 cf4 flRX4_32 rfl dX4_block_44 rfl ?_
  replace h := lt_e h; obtain ⟨x7, ex7, h⟩ := h
  refine r_cVi (pc := 47) wyX7_words_ oA26 rfl mlRX4_147 iyX7_words_ syX7_words_ ⟨Nat.succ_le_succ (Nat.le_trans (Nat.le_of_ble_eq_true rfl) hK), (Nat.le_of_ble_eq_true rfl)⟩ rfl rfl (Nat.le_of_ble_eq_true rfl) dX4_block_47 (mX7_words_ ex7 (pI.mk ?_))
  refine r_goto (pc := 50) dX4_block_50 rfl ?_
  refine r_drop (loc' := [(0, .ref 2), (2, .int x1), (3, .int x3), (4, .int x4)]) [3, 2, 1, 0] rfl ?_
  exact pX4_block_54 hS hK hN h
def BX4_block (rc : TX4_block) : TX4_block := fun i a b c w => match i with
  | 0 => fX4_block rc a w
  | 1 => fX4_declarations rc a w
  | 2 => fX4_declaration rc a w
  | 3 => fX4_procedure rc a b w
  | 4 => fX4_scoped rc a w
  | 5 => fX4_statement rc a w
  | 6 => fX4_choice rc a w
  | 7 => fX4_loop rc a w
  | _ => none
def RX4_block : Nat → TX4_block
  | 0 => fun _ _ _ _ _ => none
  | n + 1 => BX4_block (RX4_block n)
theorem hzX4_block {q : Gq} {l : Launch} (dd : Nat) : HSX4_block q l (RX4_block 0) dd :=
  ⟨fun _ _ _ _ _ _ h => absurd h (fun q => nomatch q),
    fun _ _ _ _ _ _ h => absurd h (fun q => nomatch q),
    fun _ _ _ _ _ _ h => absurd h (fun q => nomatch q),
    fun _ _ _ _ _ _ _ h => absurd h (fun q => nomatch q),
    fun _ _ _ _ _ _ h => absurd h (fun q => nomatch q),
    fun _ _ _ _ _ _ h => absurd h (fun q => nomatch q),
    fun _ _ _ _ _ _ h => absurd h (fun q => nomatch q),
    fun _ _ _ _ _ _ h => absurd h (fun q => nomatch q)⟩
theorem hnX4_block {q : Gq} {l : Launch} {rc : TX4_block} {dd : Nat} (ih : HSX4_block q l rc dd) (hK : 911 ≤ dd) : HSX4_block q l (BX4_block rc) (dd + 1) :=
  ⟨fun _ _ _ _ _ _ h hN => Ct.of (by decide) (Nat.le_of_ble_eq_true rfl) (pX4_block ih hK hN h),
    fun _ _ _ _ _ _ h hN => Ct.of (by decide) (Nat.le_of_ble_eq_true rfl) (pX4_declarations ih hK hN h),
    fun _ _ _ _ _ _ h hN => Ct.of (by decide) (Nat.le_of_ble_eq_true rfl) (pX4_declaration ih hK hN h),
    fun _ _ _ _ _ _ _ h hN => Ct.of (by decide) (Nat.le_of_ble_eq_true rfl) (pX4_procedure ih hK hN h),
    fun _ _ _ _ _ _ h hN => Ct.of (by decide) (Nat.le_of_ble_eq_true rfl) (pX4_scoped ih hK hN h),
    fun _ _ _ _ _ _ h hN => Ct.of (by decide) (Nat.le_of_ble_eq_true rfl) (pX4_statement ih hK hN h),
    fun _ _ _ _ _ _ h hN => Ct.of (by decide) (Nat.le_of_ble_eq_true rfl) (pX4_choice ih hK hN h),
    fun _ _ _ _ _ _ h hN => Ct.of (by decide) (Nat.le_of_ble_eq_true rfl) (pX4_loop ih hK hN h)⟩
theorem hsX4_block {q : Gq} {l : Launch} (b9 : Nat) (hb : 911 ≤ b9) : ∀ n : Nat, HSX4_block q l (RX4_block n) (b9 + n) := by
  intro n
  induction n with
  | zero => exact hzX4_block (b9 + 0)
  | succ n ih => exact hnX4_block (rc := RX4_block n) (dd := b9 + n) ih (Nat.le_trans hb (Nat.le_add_right _ _))
theorem mX4_block {q : Gq} {l : Launch} {N : Option Value → Wd → Prop} {X : String → Wd → Prop} {a1 : Int32} {w : Wd} {x : Int32} {u : Wd} (h : RX4_block 900 0 a1 0 0 w = some (x, u)) (hN : N none u) : Ct (GA q) l 1811 yX4_block cX4_block 7 (none) [.ref 2, .int a1] w N X := (hsX4_block 911 (Nat.le_refl _) 900).1 _ _ _ _ _ _ h hN
theorem mX4_declarations {q : Gq} {l : Launch} {N : Option Value → Wd → Prop} {X : String → Wd → Prop} {a1 : Int32} {w : Wd} {x : Int32} {u : Wd} (h : RX4_block 900 1 a1 0 0 w = some (x, u)) (hN : N none u) : Ct (GA q) l 1811 yX4_declarations cX4_declarations 3 (none) [.ref 2, .int a1] w N X := (hsX4_block 911 (Nat.le_refl _) 900).2.1 _ _ _ _ _ _ h hN
theorem mX4_declaration {q : Gq} {l : Launch} {N : Option Value → Wd → Prop} {X : String → Wd → Prop} {a1 : Int32} {w : Wd} {x : Int32} {u : Wd} (h : RX4_block 900 2 a1 0 0 w = some (x, u)) (hN : N none u) : Ct (GA q) l 1811 yX4_declaration cX4_declaration 4 (none) [.ref 2, .int a1] w N X := (hsX4_block 911 (Nat.le_refl _) 900).2.2.1 _ _ _ _ _ _ h hN
theorem mX4_procedure {q : Gq} {l : Launch} {N : Option Value → Wd → Prop} {X : String → Wd → Prop} {a1 : Int32} {a2 : Int32} {w : Wd} {x : Int32} {u : Wd} (h : RX4_block 900 3 a1 a2 0 w = some (x, u)) (hN : N none u) : Ct (GA q) l 1811 yX4_procedure cX4_procedure 7 (none) [.ref 2, .int a1, .int a2] w N X := (hsX4_block 911 (Nat.le_refl _) 900).2.2.2.1 _ _ _ _ _ _ _ h hN
theorem mX4_scoped {q : Gq} {l : Launch} {N : Option Value → Wd → Prop} {X : String → Wd → Prop} {a1 : Int32} {w : Wd} {x : Int32} {u : Wd} (h : RX4_block 900 4 a1 0 0 w = some (x, u)) (hN : N none u) : Ct (GA q) l 1811 yX4_scoped cX4_scoped 2 (none) [.ref 2, .int a1] w N X := (hsX4_block 911 (Nat.le_refl _) 900).2.2.2.2.1 _ _ _ _ _ _ h hN
theorem mX4_statement {q : Gq} {l : Launch} {N : Option Value → Wd → Prop} {X : String → Wd → Prop} {a1 : Int32} {w : Wd} {x : Int32} {u : Wd} (h : RX4_block 900 5 a1 0 0 w = some (x, u)) (hN : N none u) : Ct (GA q) l 1811 yX4_statement cX4_statement 3 (none) [.ref 2, .int a1] w N X := (hsX4_block 911 (Nat.le_refl _) 900).2.2.2.2.2.1 _ _ _ _ _ _ h hN
theorem mX4_choice {q : Gq} {l : Launch} {N : Option Value → Wd → Prop} {X : String → Wd → Prop} {a1 : Int32} {w : Wd} {x : Int32} {u : Wd} (h : RX4_block 900 6 a1 0 0 w = some (x, u)) (hN : N none u) : Ct (GA q) l 1811 yX4_choice cX4_choice 4 (none) [.ref 2, .int a1] w N X := (hsX4_block 911 (Nat.le_refl _) 900).2.2.2.2.2.2.1 _ _ _ _ _ _ h hN
theorem mX4_loop {q : Gq} {l : Launch} {N : Option Value → Wd → Prop} {X : String → Wd → Prop} {a1 : Int32} {w : Wd} {x : Int32} {u : Wd} (h : RX4_block 900 7 a1 0 0 w = some (x, u)) (hN : N none u) : Ct (GA q) l 1811 yX4_loop cX4_loop 9 (none) [.ref 2, .int a1] w N X := (hsX4_block 911 (Nat.le_refl _) 900).2.2.2.2.2.2.2 _ _ _ _ _ _ h hN
