/-! Expressions that call each other -/
theorem kb_18 : (Int8.ofInt 18).toInt32 = 18 := by decide
theorem kb_24 : (Int8.ofInt 24).toInt32 = 24 := by decide
theorem kb_25 : (Int8.ofInt 25).toInt32 = 25 := by decide
theorem kb_41 : (Int8.ofInt 41).toInt32 = 41 := by decide
theorem kb_42 : (Int8.ofInt 42).toInt32 = 42 := by decide
theorem kb_43 : (Int8.ofInt 43).toInt32 = 43 := by decide
theorem kb_45 : (Int8.ofInt 45).toInt32 = 45 := by decide
theorem kb_46 : (Int8.ofInt 46).toInt32 = 46 := by decide
/-! X2_typed: methods that call each other: 0 X2_typed, 1 X2_test, 2 X2_expression, 3 X2_simple, 4 X2_unnamed, 5 X2_named, 6 X2_element, 7 X2_place, 8 X2_call, 9 X2_actual, 10 X2_thunk, 11 X2_aim, 12 X2_designated -/
abbrev TX2_typed : Type := Nat → Int32 → Int32 → Int32 → Wd → Option (Int32 × Wd)
def HX2_typed (q : Gq) (l : Launch) (rc : TX2_typed) (dd : Nat) : Prop := ∀ (a1 : Int32) (a2 : Int32) (w : Wd) (x : Int32) (u : Wd) (N : Option Value → Wd → Prop) (X : String → Wd → Prop), rc 0 a1 a2 0 w = some (x, u) → N none u → Ct (GA q) l dd yX2_typed cX2_typed 4 (none) [.ref 42, .int a1, .int a2] w N X
def HX2_test (q : Gq) (l : Launch) (rc : TX2_typed) (dd : Nat) : Prop := ∀ (a1 : Int32) (w : Wd) (x : Int32) (u : Wd) (N : Option Value → Wd → Prop) (X : String → Wd → Prop), rc 1 a1 0 0 w = some (x, u) → N (some (.int x)) u → Ct (GA q) l dd yX2_test cX2_test 3 ((some .int)) [.ref 42, .int a1] w N X
def HX2_expression (q : Gq) (l : Launch) (rc : TX2_typed) (dd : Nat) : Prop := ∀ (a1 : Int32) (w : Wd) (x : Int32) (u : Wd) (N : Option Value → Wd → Prop) (X : String → Wd → Prop), rc 2 a1 0 0 w = some (x, u) → N (some (.int x)) u → Ct (GA q) l dd yX2_expression cX2_expression 9 ((some .int)) [.ref 42, .int a1] w N X
def HX2_simple (q : Gq) (l : Launch) (rc : TX2_typed) (dd : Nat) : Prop := ∀ (a1 : Int32) (w : Wd) (x : Int32) (u : Wd) (N : Option Value → Wd → Prop) (X : String → Wd → Prop), rc 3 a1 0 0 w = some (x, u) → N (some (.int x)) u → Ct (GA q) l dd yX2_simple cX2_simple 10 ((some .int)) [.ref 42, .int a1] w N X
def HX2_unnamed (q : Gq) (l : Launch) (rc : TX2_typed) (dd : Nat) : Prop := ∀ (a1 : Int32) (w : Wd) (x : Int32) (u : Wd) (N : Option Value → Wd → Prop) (X : String → Wd → Prop), rc 4 a1 0 0 w = some (x, u) → N (some (.int x)) u → Ct (GA q) l dd yX2_unnamed cX2_unnamed 6 ((some .int)) [.ref 42, .int a1] w N X
def HX2_named (q : Gq) (l : Launch) (rc : TX2_typed) (dd : Nat) : Prop := ∀ (a1 : Int32) (w : Wd) (x : Int32) (u : Wd) (N : Option Value → Wd → Prop) (X : String → Wd → Prop), rc 5 a1 0 0 w = some (x, u) → N (some (.int x)) u → Ct (GA q) l dd yX2_named cX2_named 6 ((some .int)) [.ref 42, .int a1] w N X
def HX2_element (q : Gq) (l : Launch) (rc : TX2_typed) (dd : Nat) : Prop := ∀ (a1 : Int32) (a2 : Int32) (a3 : Int32) (w : Wd) (x : Int32) (u : Wd) (N : Option Value → Wd → Prop) (X : String → Wd → Prop), rc 6 a1 a2 a3 w = some (x, u) → N (some (.int x)) u → Ct (GA q) l dd yX2_element cX2_element 7 ((some .int)) [.ref 42, .int a1, .int a2, .int a3] w N X
def HX2_place (q : Gq) (l : Launch) (rc : TX2_typed) (dd : Nat) : Prop := ∀ (a1 : Int32) (a2 : Int32) (w : Wd) (x : Int32) (u : Wd) (N : Option Value → Wd → Prop) (X : String → Wd → Prop), rc 7 a1 a2 0 w = some (x, u) → N (some (.int x)) u → Ct (GA q) l dd yX2_place cX2_place 5 ((some .int)) [.ref 42, .int a1, .int a2] w N X
def HX2_call (q : Gq) (l : Launch) (rc : TX2_typed) (dd : Nat) : Prop := ∀ (a1 : Int32) (a2 : Int32) (a3 : Int32) (w : Wd) (x : Int32) (u : Wd) (N : Option Value → Wd → Prop) (X : String → Wd → Prop), rc 8 a1 a2 a3 w = some (x, u) → N none u → Ct (GA q) l dd yX2_call cX2_call 7 (none) [.ref 42, .int a1, .int a2, .int a3] w N X
def HX2_actual (q : Gq) (l : Launch) (rc : TX2_typed) (dd : Nat) : Prop := ∀ (a1 : Int32) (a2 : Int32) (w : Wd) (x : Int32) (u : Wd) (N : Option Value → Wd → Prop) (X : String → Wd → Prop), rc 9 a1 a2 0 w = some (x, u) → N none u → Ct (GA q) l dd yX2_actual cX2_actual 5 (none) [.ref 42, .int a1, .int a2] w N X
def HX2_thunk (q : Gq) (l : Launch) (rc : TX2_typed) (dd : Nat) : Prop := ∀ (a1 : Int32) (a2 : Int32) (w : Wd) (x : Int32) (u : Wd) (N : Option Value → Wd → Prop) (X : String → Wd → Prop), rc 10 a1 a2 0 w = some (x, u) → N none u → Ct (GA q) l dd yX2_thunk cX2_thunk 8 (none) [.ref 42, .int a1, .int a2] w N X
def HX2_aim (q : Gq) (l : Launch) (rc : TX2_typed) (dd : Nat) : Prop := ∀ (a1 : Int32) (a2 : Int32) (w : Wd) (x : Int32) (u : Wd) (N : Option Value → Wd → Prop) (X : String → Wd → Prop), rc 11 a1 a2 0 w = some (x, u) → N none u → Ct (GA q) l dd yX2_aim cX2_aim 8 (none) [.ref 42, .int a1, .int a2] w N X
def HX2_designated (q : Gq) (l : Launch) (rc : TX2_typed) (dd : Nat) : Prop := ∀ (a1 : Int32) (a2 : Int32) (w : Wd) (x : Int32) (u : Wd) (N : Option Value → Wd → Prop) (X : String → Wd → Prop), rc 12 a1 a2 0 w = some (x, u) → N none u → Ct (GA q) l dd yX2_designated cX2_designated 7 (none) [.ref 42, .int a1, .int a2] w N X
def HSX2_typed (q : Gq) (l : Launch) (rc : TX2_typed) (dd : Nat) : Prop := HX2_typed q l rc dd ∧ HX2_test q l rc dd ∧ HX2_expression q l rc dd ∧ HX2_simple q l rc dd ∧ HX2_unnamed q l rc dd ∧ HX2_named q l rc dd ∧ HX2_element q l rc dd ∧ HX2_place q l rc dd ∧ HX2_call q l rc dd ∧ HX2_actual q l rc dd ∧ HX2_thunk q l rc dd ∧ HX2_aim q l rc dd ∧ HX2_designated q l rc dd
/-! AlgolMill$Expressions.designated (IZ)V: O, 908 -/
theorem dX2_designated_0 : decode cX2_designated 0 = .ok (.aload_n 0, 1) := by decide +kernel
theorem dX2_designated_1 : decode cX2_designated 1 = .ok (.getfield 26, 3) := by decide +kernel
theorem dX2_designated_4 : decode cX2_designated 4 = .ok (.invokevirtual 40, 3) := by decide +kernel
theorem dX2_designated_7 : decode cX2_designated 7 = .ok (.istore_n 3, 1) := by decide +kernel
theorem dX2_designated_8 : decode cX2_designated 8 = .ok (.aload_n 0, 1) := by decide +kernel
theorem dX2_designated_9 : decode cX2_designated 9 = .ok (.getfield 16, 3) := by decide +kernel
theorem dX2_designated_12 : decode cX2_designated 12 = .ok (.iload_n 3, 1) := by decide +kernel
theorem dX2_designated_13 : decode cX2_designated 13 = .ok (.invokevirtual 170, 3) := by decide +kernel
theorem dX2_designated_16 : decode cX2_designated 16 = .ok (.istore 4, 2) := by decide +kernel
theorem dX2_designated_18 : decode cX2_designated 18 = .ok (.aload_n 0, 1) := by decide +kernel
theorem dX2_designated_19 : decode cX2_designated 19 = .ok (.getfield 26, 3) := by decide +kernel
theorem dX2_designated_22 : decode cX2_designated 22 = .ok (.iconst 2, 1) := by decide +kernel
theorem dX2_designated_23 : decode cX2_designated 23 = .ok (.invokevirtual 123, 3) := by decide +kernel
theorem dX2_designated_26 : decode cX2_designated 26 = .ok (.pop, 1) := by decide +kernel
theorem dX2_designated_27 : decode cX2_designated 27 = .ok (.aload_n 0, 1) := by decide +kernel
theorem dX2_designated_28 : decode cX2_designated 28 = .ok (.getfield 26, 3) := by decide +kernel
theorem dX2_designated_31 : decode cX2_designated 31 = .ok (.invokevirtual 75, 3) := by decide +kernel
theorem dX2_designated_34 : decode cX2_designated 34 = .ok (.bipush 45, 2) := by decide +kernel
theorem dX2_designated_36 : decode cX2_designated 36 = .ok (.if_icmp .ne 7, 3) := by decide +kernel
theorem dX2_designated_39 : decode cX2_designated 39 = .ok (.iconst 1, 1) := by decide +kernel
theorem dX2_designated_40 : decode cX2_designated 40 = .ok (.goto 4, 3) := by decide +kernel
theorem dX2_designated_43 : decode cX2_designated 43 = .ok (.iconst 0, 1) := by decide +kernel
theorem dX2_designated_44 : decode cX2_designated 44 = .ok (.istore 5, 2) := by decide +kernel
theorem dX2_designated_46 : decode cX2_designated 46 = .ok (.iload 5, 2) := by decide +kernel
theorem dX2_designated_48 : decode cX2_designated 48 = .ok (.ifCond .eq 29, 3) := by decide +kernel
theorem dX2_designated_51 : decode cX2_designated 51 = .ok (.aload_n 0, 1) := by decide +kernel
theorem dX2_designated_52 : decode cX2_designated 52 = .ok (.getfield 26, 3) := by decide +kernel
theorem dX2_designated_55 : decode cX2_designated 55 = .ok (.iload_n 1, 1) := by decide +kernel
theorem dX2_designated_56 : decode cX2_designated 56 = .ok (.invokevirtual 54, 3) := by decide +kernel
theorem dX2_designated_59 : decode cX2_designated 59 = .ok (.istore 6, 2) := by decide +kernel
theorem dX2_designated_61 : decode cX2_designated 61 = .ok (.aload_n 0, 1) := by decide +kernel
theorem dX2_designated_62 : decode cX2_designated 62 = .ok (.iload 6, 2) := by decide +kernel
theorem dX2_designated_64 : decode cX2_designated 64 = .ok (.iconst 1, 1) := by decide +kernel
theorem dX2_designated_65 : decode cX2_designated 65 = .ok (.invokevirtual 59, 3) := by decide +kernel
theorem dX2_designated_68 : decode cX2_designated 68 = .ok (.aload_n 0, 1) := by decide +kernel
theorem dX2_designated_69 : decode cX2_designated 69 = .ok (.getfield 26, 3) := by decide +kernel
theorem dX2_designated_72 : decode cX2_designated 72 = .ok (.bipush 46, 2) := by decide +kernel
theorem dX2_designated_74 : decode cX2_designated 74 = .ok (.invokevirtual 63, 3) := by decide +kernel
theorem dX2_designated_77 : decode cX2_designated 77 = .ok (.iload_n 2, 1) := by decide +kernel
theorem dX2_designated_78 : decode cX2_designated 78 = .ok (.ifCond .eq 34, 3) := by decide +kernel
theorem dX2_designated_81 : decode cX2_designated 81 = .ok (.aload_n 0, 1) := by decide +kernel
theorem dX2_designated_82 : decode cX2_designated 82 = .ok (.getfield 16, 3) := by decide +kernel
theorem dX2_designated_85 : decode cX2_designated 85 = .ok (.iload 4, 2) := by decide +kernel
theorem dX2_designated_87 : decode cX2_designated 87 = .ok (.iload 5, 2) := by decide +kernel
theorem dX2_designated_89 : decode cX2_designated 89 = .ok (.ifCond .eq 7, 3) := by decide +kernel
theorem dX2_designated_92 : decode cX2_designated 92 = .ok (.iconst 5, 1) := by decide +kernel
theorem dX2_designated_93 : decode cX2_designated 93 = .ok (.goto 4, 3) := by decide +kernel
theorem dX2_designated_96 : decode cX2_designated 96 = .ok (.iconst 4, 1) := by decide +kernel
theorem dX2_designated_97 : decode cX2_designated 97 = .ok (.invokevirtual 193, 3) := by decide +kernel
theorem dX2_designated_100 : decode cX2_designated 100 = .ok (.ifCond .ne 12, 3) := by decide +kernel
theorem dX2_designated_103 : decode cX2_designated 103 = .ok (.aload_n 0, 1) := by decide +kernel
theorem dX2_designated_104 : decode cX2_designated 104 = .ok (.getfield 16, 3) := by decide +kernel
theorem dX2_designated_107 : decode cX2_designated 107 = .ok (.iload_n 3, 1) := by decide +kernel
theorem dX2_designated_108 : decode cX2_designated 108 = .ok (.iconst 4, 1) := by decide +kernel
theorem dX2_designated_109 : decode cX2_designated 109 = .ok (.invokevirtual 184, 3) := by decide +kernel
theorem dX2_designated_112 : decode cX2_designated 112 = .ok (.aload_n 0, 1) := by decide +kernel
theorem dX2_designated_113 : decode cX2_designated 113 = .ok (.getfield 16, 3) := by decide +kernel
theorem dX2_designated_116 : decode cX2_designated 116 = .ok (.iload 4, 2) := by decide +kernel
theorem dX2_designated_118 : decode cX2_designated 118 = .ok (.invokevirtual 213, 3) := by decide +kernel
theorem dX2_designated_121 : decode cX2_designated 121 = .ok (.iload 5, 2) := by decide +kernel
theorem dX2_designated_123 : decode cX2_designated 123 = .ok (.ifCond .eq 16, 3) := by decide +kernel
theorem dX2_designated_126 : decode cX2_designated 126 = .ok (.aload_n 0, 1) := by decide +kernel
theorem dX2_designated_127 : decode cX2_designated 127 = .ok (.getfield 36, 3) := by decide +kernel
theorem dX2_designated_130 : decode cX2_designated 130 = .ok (.bipush 49, 2) := by decide +kernel
theorem dX2_designated_132 : decode cX2_designated 132 = .ok (.invokevirtual 69, 3) := by decide +kernel
theorem dX2_designated_135 : decode cX2_designated 135 = .ok (.pop, 1) := by decide +kernel
theorem dX2_designated_136 : decode cX2_designated 136 = .ok (.goto 26, 3) := by decide +kernel
theorem dX2_designated_139 : decode cX2_designated 139 = .ok (.aload_n 0, 1) := by decide +kernel
theorem dX2_designated_140 : decode cX2_designated 140 = .ok (.getfield 31, 3) := by decide +kernel
theorem dX2_designated_143 : decode cX2_designated 143 = .ok (.iload 4, 2) := by decide +kernel
theorem dX2_designated_145 : decode cX2_designated 145 = .ok (.invokevirtual 197, 3) := by decide +kernel
theorem dX2_designated_148 : decode cX2_designated 148 = .ok (.ifCond .eq 14, 3) := by decide +kernel
theorem dX2_designated_151 : decode cX2_designated 151 = .ok (.aload_n 0, 1) := by decide +kernel
theorem dX2_designated_152 : decode cX2_designated 152 = .ok (.getfield 36, 3) := by decide +kernel
theorem dX2_designated_155 : decode cX2_designated 155 = .ok (.bipush 44, 2) := by decide +kernel
theorem dX2_designated_157 : decode cX2_designated 157 = .ok (.iconst 2, 1) := by decide +kernel
theorem dX2_designated_158 : decode cX2_designated 158 = .ok (.invokevirtual 211, 3) := by decide +kernel
theorem dX2_designated_161 : decode cX2_designated 161 = .ok (.pop, 1) := by decide +kernel
theorem dX2_designated_162 : decode cX2_designated 162 = .ok (.return_, 1) := by decide +kernel
def fX2_designated_112 (rc : TX2_typed) (a4 : Int32) (a5 : Bool) (w : Wd) : Option (Int32 × Wd) :=
  lt (fX1_putSymbol a4 w) fun w1 => if a5 = true then (lt2 (fX0_put__ 49 w1) fun x3 w4 => some (0, w4)) else (lt (fX8_isFormal a4 w1) fun x5 => if x5 = true then (lt2 (fX0_put_ 44 2 w1) fun x7 w8 => some (0, w8)) else (some (0, w1)))
theorem pX2_designated_112 {q : Gq} {l : Launch} {N : Option Value → Wd → Prop} {X : String → Wd → Prop} {rc : TX2_typed} {dd : Nat} (hS : HSX2_typed q l rc dd) (hK : 8 ≤ dd) {w : Wd} {R : Int32 × Wd} (hN : N none R.2) {a4 : Int32} {a5 : Bool} (h : fX2_designated_112 rc a4 a5 w = some R) : RT (GA q) l (dd + 1) yX2_designated cX2_designated 7 (none) N X 112 [] [(0, .ref 42), (4, .int a4), (5, .int (b2i a5))] w := by
  unfold fX2_designated_112 at h
  refine r_aload_n (pc := 112) dX2_designated_112 rfl 0 rfl ?_
  refine r_get (pc := 113) (j := 0) (v := .ref 3) oA42 cf2 flRX2_16 rfl dX2_designated_113 rfl ?_
  refine r_iload (pc := 116) dX2_designated_116 1 rfl ?_
  replace h := lt_e h; obtain ⟨w1, ew1, h⟩ := h
  refine r_cVv (pc := 118) wyX1_putSymbol oA3 rfl mlRX2_213 iyX1_putSymbol syX1_putSymbol ⟨Nat.succ_le_succ (Nat.le_trans (Nat.le_of_ble_eq_true rfl) hK), (Nat.le_of_ble_eq_true rfl)⟩ rfl rfl (Nat.le_of_ble_eq_true rfl) dX2_designated_118 (mX1_putSymbol ew1 (pV.mk ?_))
  refine r_iload (pc := 121) dX2_designated_121 2 rfl ?_
  refine r_z_eq (pc := 123) dX2_designated_123 rfl (fun hc2 => ?_) (fun hc2 => ?_)
  · replace h := if_f hc2 h
    refine r_aload_n (pc := 139) dX2_designated_139 rfl 0 rfl ?_
    refine r_get (pc := 140) (j := 2) (v := .ref 13) oA42 cf2 flRX2_31 rfl dX2_designated_140 rfl ?_
    refine r_iload (pc := 143) dX2_designated_143 1 rfl ?_
    replace h := lt_e h; obtain ⟨x5, ex5, h⟩ := h
    refine r_cVi (pc := 145) wyX8_isFormal oA13 rfl mlRX2_197 iyX8_isFormal syX8_isFormal ⟨Nat.succ_le_succ (Nat.le_trans (Nat.le_of_ble_eq_true rfl) hK), (Nat.le_of_ble_eq_true rfl)⟩ rfl rfl (Nat.le_of_ble_eq_true rfl) dX2_designated_145 (mX8_isFormal ex5 (pI.mk ?_))
    refine r_z_eq (pc := 148) dX2_designated_148 rfl (fun hc6 => ?_) (fun hc6 => ?_)
    · replace h := if_f hc6 h
      exact rOR_v (pc := 162) rfl dX2_designated_162 h hN
    replace h := if_t hc6 h
    refine r_aload_n (pc := 151) dX2_designated_151 rfl 0 rfl ?_
    refine r_get (pc := 152) (j := 3) (v := .ref 40) oA42 cf2 flRX2_36 rfl dX2_designated_152 rfl ?_
    refine r_bipush (pc := 155) dX2_designated_155 kb_44 ?_
    refine r_iconst (pc := 157) dX2_designated_157 ki_2 ?_
    replace h := lt2_e h; obtain ⟨x7, w8, ew8, h⟩ := h
    refine r_cVi (pc := 158) wyX0_put_ oA40 rfl mlRX2_211 iyX0_put_ syX0_put_ ⟨Nat.succ_le_succ (Nat.le_trans (Nat.le_of_ble_eq_true rfl) hK), (Nat.le_of_ble_eq_true rfl)⟩ rfl rfl (Nat.le_of_ble_eq_true rfl) dX2_designated_158 (mX0_put_ ew8 (pI.mk ?_))
    refine r_pop (pc := 161) dX2_designated_161 rfl ?_
    exact rOR_v (pc := 162) rfl dX2_designated_162 h hN
  replace h := if_t hc2 h
  refine r_aload_n (pc := 126) dX2_designated_126 rfl 0 rfl ?_
  refine r_get (pc := 127) (j := 3) (v := .ref 40) oA42 cf2 flRX2_36 rfl dX2_designated_127 rfl ?_
  refine r_bipush (pc := 130) dX2_designated_130 kb_49 ?_
  replace h := lt2_e h; obtain ⟨x3, w4, ew4, h⟩ := h
  refine r_cVi (pc := 132) wyX0_put__ oA40 rfl mlRX2_69 iyX0_put__ syX0_put__ ⟨Nat.succ_le_succ (Nat.le_trans (Nat.le_of_ble_eq_true rfl) hK), (Nat.le_of_ble_eq_true rfl)⟩ rfl rfl (Nat.le_of_ble_eq_true rfl) dX2_designated_132 (mX0_put__ ew4 (pI.mk ?_))
  refine r_pop (pc := 135) dX2_designated_135 rfl ?_
  refine r_goto (pc := 136) dX2_designated_136 rfl ?_
  exact rOR_v (pc := 162) rfl dX2_designated_162 h hN
def fX2_designated_97 (rc : TX2_typed) (s1 : Int32) (s2 : Int32) (a3 : Int32) (a4 : Int32) (a5 : Bool) (w : Wd) : Option (Int32 × Wd) :=
  lt (fX1_isSort s1 s2 w) fun x1 => if x1 = true then (fX2_designated_112 rc a4 a5 w) else (lt (fX1_wrong a3 4 w) fun w3 => fX2_designated_112 rc a4 a5 w3)
theorem pX2_designated_97 {q : Gq} {l : Launch} {N : Option Value → Wd → Prop} {X : String → Wd → Prop} {rc : TX2_typed} {dd : Nat} (hS : HSX2_typed q l rc dd) (hK : 8 ≤ dd) {w : Wd} {R : Int32 × Wd} (hN : N none R.2) {s1 : Int32} {s2 : Int32} {a3 : Int32} {a4 : Int32} {a5 : Bool} (h : fX2_designated_97 rc s1 s2 a3 a4 a5 w = some R) : RT (GA q) l (dd + 1) yX2_designated cX2_designated 7 (none) N X 97 [.int s2, .int s1, .ref 3] [(0, .ref 42), (3, .int a3), (4, .int a4), (5, .int (b2i a5))] w := by
  unfold fX2_designated_97 at h
  replace h := lt_e h; obtain ⟨x1, ex1, h⟩ := h
  refine r_cVi (pc := 97) wyX1_isSort oA3 rfl mlRX2_193 iyX1_isSort syX1_isSort ⟨Nat.succ_le_succ (Nat.le_trans (Nat.le_of_ble_eq_true rfl) hK), (Nat.le_of_ble_eq_true rfl)⟩ rfl rfl (Nat.le_of_ble_eq_true rfl) dX2_designated_97 (mX1_isSort ex1 (pI.mk ?_))
  refine r_z_ne (pc := 100) dX2_designated_100 rfl (fun hc2 => ?_) (fun hc2 => ?_)
  · replace h := if_t hc2 h
    refine r_drop (loc' := [(0, .ref 42), (4, .int a4), (5, .int (b2i a5))]) [0, 2, 3] rfl ?_
    exact pX2_designated_112 hS hK hN h
  replace h := if_f hc2 h
  refine r_aload_n (pc := 103) dX2_designated_103 rfl 0 rfl ?_
  refine r_get (pc := 104) (j := 0) (v := .ref 3) oA42 cf2 flRX2_16 rfl dX2_designated_104 rfl ?_
  refine r_iload_n (pc := 107) dX2_designated_107 rfl 1 rfl ?_
  refine r_iconst (pc := 108) dX2_designated_108 ki_4 ?_
  replace h := lt_e h; obtain ⟨w3, ew3, h⟩ := h
  refine r_cVv (pc := 109) wyX1_wrong oA3 rfl mlRX2_184 iyX1_wrong syX1_wrong ⟨Nat.succ_le_succ (Nat.le_trans (Nat.le_of_ble_eq_true rfl) hK), (Nat.le_of_ble_eq_true rfl)⟩ rfl rfl (Nat.le_of_ble_eq_true rfl) dX2_designated_109 (mX1_wrong ew3 (pV.mk ?_))
  refine r_drop (loc' := [(0, .ref 42), (4, .int a4), (5, .int (b2i a5))]) [0, 2, 3] rfl ?_
  exact pX2_designated_112 hS hK hN h
def fX2_designated_77 (rc : TX2_typed) (a2 : Int32) (a3 : Int32) (a4 : Int32) (a5 : Bool) (w : Wd) : Option (Int32 × Wd) :=
  if a2 = 0 then (fX2_designated_112 rc a4 a5 w) else (if a5 = true then (fX2_designated_97 rc a4 5 a3 a4 a5 w) else (fX2_designated_97 rc a4 4 a3 a4 a5 w))
theorem pX2_designated_77 {q : Gq} {l : Launch} {N : Option Value → Wd → Prop} {X : String → Wd → Prop} {rc : TX2_typed} {dd : Nat} (hS : HSX2_typed q l rc dd) (hK : 8 ≤ dd) {w : Wd} {R : Int32 × Wd} (hN : N none R.2) {a2 : Int32} {a3 : Int32} {a4 : Int32} {a5 : Bool} (h : fX2_designated_77 rc a2 a3 a4 a5 w = some R) : RT (GA q) l (dd + 1) yX2_designated cX2_designated 7 (none) N X 77 [] [(0, .ref 42), (2, .int a2), (3, .int a3), (4, .int a4), (5, .int (b2i a5))] w := by
  unfold fX2_designated_77 at h
  refine r_iload_n (pc := 77) dX2_designated_77 rfl 1 rfl ?_
  refine r_if_eq (pc := 78) dX2_designated_78 rfl (fun hc1 => ?_) (fun hc1 => ?_)
  · replace h := if_t hc1 h
    refine r_drop (loc' := [(0, .ref 42), (4, .int a4), (5, .int (b2i a5))]) [0, 3, 4] rfl ?_
    exact pX2_designated_112 hS hK hN h
  replace h := if_f hc1 h
  refine r_aload_n (pc := 81) dX2_designated_81 rfl 0 rfl ?_
  refine r_get (pc := 82) (j := 0) (v := .ref 3) oA42 cf2 flRX2_16 rfl dX2_designated_82 rfl ?_
  refine r_iload (pc := 85) dX2_designated_85 3 rfl ?_
  refine r_iload (pc := 87) dX2_designated_87 4 rfl ?_
  refine r_z_eq (pc := 89) dX2_designated_89 rfl (fun hc2 => ?_) (fun hc2 => ?_)
  · replace h := if_f hc2 h
    refine r_iconst (pc := 96) dX2_designated_96 ki_4 ?_
    refine r_drop (loc' := [(0, .ref 42), (3, .int a3), (4, .int a4), (5, .int (b2i a5))]) [0, 2, 3, 4] rfl ?_
    exact pX2_designated_97 hS hK hN h
  replace h := if_t hc2 h
  refine r_iconst (pc := 92) dX2_designated_92 ki_5 ?_
  refine r_goto (pc := 93) dX2_designated_93 rfl ?_
  refine r_drop (loc' := [(0, .ref 42), (3, .int a3), (4, .int a4), (5, .int (b2i a5))]) [0, 2, 3, 4] rfl ?_
  exact pX2_designated_97 hS hK hN h
def fX2_designated_44 (rc : TX2_typed) (s0 : Bool) (a1 : Int32) (a2 : Int32) (a3 : Int32) (a4 : Int32) (w : Wd) : Option (Int32 × Wd) :=
  if s0 = true then (lt2 (fX9_open a1 w) fun x2 w3 => bn2 (rc 0 x2 1 0 w3) fun _ w5 => lt (fX9_need 46 w5) fun w6 => fX2_designated_77 rc a2 a3 a4 s0 w6) else (fX2_designated_77 rc a2 a3 a4 s0 w)
theorem pX2_designated_44 {q : Gq} {l : Launch} {N : Option Value → Wd → Prop} {X : String → Wd → Prop} {rc : TX2_typed} {dd : Nat} (hS : HSX2_typed q l rc dd) (hK : 8 ≤ dd) {w : Wd} {R : Int32 × Wd} (hN : N none R.2) {s0 : Bool} {a1 : Int32} {a2 : Int32} {a3 : Int32} {a4 : Int32} (h : fX2_designated_44 rc s0 a1 a2 a3 a4 w = some R) : RT (GA q) l (dd + 1) yX2_designated cX2_designated 7 (none) N X 44 [.int (b2i s0)] [(0, .ref 42), (1, .int a1), (2, .int a2), (3, .int a3), (4, .int a4)] w := by
  unfold fX2_designated_44 at h
  refine r_istore (pc := 44) (loc' := [(5, .int (b2i s0)), (0, .ref 42), (1, .int a1), (2, .int a2), (3, .int a3), (4, .int a4)]) dX2_designated_44 (Nat.le_of_ble_eq_true rfl) rfl ?_
  refine r_iload (pc := 46) dX2_designated_46 0 rfl ?_
  refine r_z_eq (pc := 48) dX2_designated_48 rfl (fun hc1 => ?_) (fun hc1 => ?_)
  · replace h := if_f hc1 h
    refine r_drop (loc' := [(0, .ref 42), (2, .int a2), (3, .int a3), (4, .int a4), (5, .int (b2i s0))]) [1, 3, 4, 5, 0] rfl ?_
    exact pX2_designated_77 hS hK hN h
  replace h := if_t hc1 h
  refine r_aload_n (pc := 51) dX2_designated_51 rfl 1 rfl ?_
  refine r_get (pc := 52) (j := 1) (v := .ref 4) oA42 cf2 flRX2_26 rfl dX2_designated_52 rfl ?_
  refine r_iload_n (pc := 55) dX2_designated_55 rfl 2 rfl ?_
  replace h := lt2_e h; obtain ⟨x2, w3, ew3, h⟩ := h
  refine r_cVi (pc := 56) wyX9_open oA4 rfl mlRX2_54 iyX9_open syX9_open ⟨Nat.succ_le_succ (Nat.le_trans (Nat.le_of_ble_eq_true rfl) hK), (Nat.le_of_ble_eq_true rfl)⟩ rfl rfl (Nat.le_of_ble_eq_true rfl) dX2_designated_56 (mX9_open ew3 (pI.mk ?_))
  refine r_istore (pc := 59) (loc' := [(6, .int x2), (5, .int (b2i s0)), (0, .ref 42), (1, .int a1), (2, .int a2), (3, .int a3), (4, .int a4)]) dX2_designated_59 (Nat.le_of_ble_eq_true rfl) rfl ?_
  refine r_aload_n (pc := 61) dX2_designated_61 rfl 2 rfl ?_
  refine r_iload (pc := 62) dX2_designated_62 0 rfl ?_
  refine r_iconst (pc := 64) dX2_designated_64 ki_1 ?_
  replace h := bn2_e h; obtain ⟨x4, w5, ew5, h⟩ := h
  refine r_cVv (pc := 65) wyX2_typed oA42 rfl mlRX2_59 iyX2_typed syX2_typed ⟨Nat.le_refl _, (Nat.le_of_ble_eq_true rfl)⟩ rfl rfl (Nat.le_of_ble_eq_true rfl) dX2_designated_65 ((hS.1 _ _ _ _ _ _ _) ew5 (pV.mk ?_))
  refine r_aload_n (pc := 68) dX2_designated_68 rfl 2 rfl ?_
  refine r_get (pc := 69) (j := 1) (v := .ref 4) oA42 cf2 flRX2_26 rfl dX2_designated_69 rfl ?_
  refine r_bipush (pc := 72) dX2_designated_72 kb_46 ?_
  replace h := lt_e h; obtain ⟨w6, ew6, h⟩ := h
  refine r_cVv (pc := 74) wyX9_need oA4 rfl mlRX2_63 iyX9_need syX9_need ⟨Nat.succ_le_succ (Nat.le_trans (Nat.le_of_ble_eq_true rfl) hK), (Nat.le_of_ble_eq_true rfl)⟩ rfl rfl (Nat.le_of_ble_eq_true rfl) dX2_designated_74 (mX9_need ew6 (pV.mk ?_))
  refine r_drop (loc' := [(0, .ref 42), (2, .int a2), (3, .int a3), (4, .int a4), (5, .int (b2i s0))]) [2, 4, 5, 6, 1] rfl ?_
  exact pX2_designated_77 hS hK hN h
def fX2_designated (rc : TX2_typed) (a1 : Int32) (a2 : Int32) (w : Wd) : Option (Int32 × Wd) :=
  lt (fX9_at w) fun x1 => lt2 (fX1_find x1 w) fun x2 w3 => lt2 (fX9_take 2 w3) fun x4 w5 => lt (fX9_kind w5) fun x6 => if x6 = 45 then (fX2_designated_44 rc true a1 a2 x1 x2 w5) else (fX2_designated_44 rc false a1 a2 x1 x2 w5)
theorem pX2_designated {q : Gq} {l : Launch} {N : Option Value → Wd → Prop} {X : String → Wd → Prop} {rc : TX2_typed} {dd : Nat} (hS : HSX2_typed q l rc dd) (hK : 8 ≤ dd) {w : Wd} {R : Int32 × Wd} (hN : N none R.2) {a1 : Int32} {a2 : Int32} (h : fX2_designated rc a1 a2 w = some R) : RT (GA q) l (dd + 1) yX2_designated cX2_designated 7 (none) N X 0 [] [(0, .ref 42), (1, .int a1), (2, .int a2)] w := by
  unfold fX2_designated at h
  refine r_aload_n (pc := 0) dX2_designated_0 rfl 0 rfl ?_
  refine r_get (pc := 1) (j := 1) (v := .ref 4) oA42 cf2 flRX2_26 rfl dX2_designated_1 rfl ?_
  replace h := lt_e h; obtain ⟨x1, ex1, h⟩ := h
  refine r_cVi (pc := 4) wyX9_at oA4 rfl mlRX2_40 iyX9_at syX9_at ⟨Nat.succ_le_succ (Nat.le_trans (Nat.le_of_ble_eq_true rfl) hK), (Nat.le_of_ble_eq_true rfl)⟩ rfl rfl (Nat.le_of_ble_eq_true rfl) dX2_designated_4 (mX9_at ex1 (pI.mk ?_))
  refine r_istore_n (pc := 7) (loc' := [(3, .int x1), (0, .ref 42), (1, .int a1), (2, .int a2)]) dX2_designated_7 rfl (Nat.le_of_ble_eq_true rfl) rfl ?_
  refine r_aload_n (pc := 8) dX2_designated_8 rfl 1 rfl ?_
  refine r_get (pc := 9) (j := 0) (v := .ref 3) oA42 cf2 flRX2_16 rfl dX2_designated_9 rfl ?_
  refine r_iload_n (pc := 12) dX2_designated_12 rfl 0 rfl ?_
  replace h := lt2_e h; obtain ⟨x2, w3, ew3, h⟩ := h
  refine r_cVi (pc := 13) wyX1_find oA3 rfl mlRX2_170 iyX1_find syX1_find ⟨Nat.succ_le_succ (Nat.le_trans (Nat.le_of_ble_eq_true rfl) hK), (Nat.le_of_ble_eq_true rfl)⟩ rfl rfl (Nat.le_of_ble_eq_true rfl) dX2_designated_13 (mX1_find ew3 (pI.mk ?_))
  refine r_istore (pc := 16) (loc' := [(4, .int x2), (3, .int x1), (0, .ref 42), (1, .int a1), (2, .int a2)]) dX2_designated_16 (Nat.le_of_ble_eq_true rfl) rfl ?_
  refine r_aload_n (pc := 18) dX2_designated_18 rfl 2 rfl ?_
  refine r_get (pc := 19) (j := 1) (v := .ref 4) oA42 cf2 flRX2_26 rfl dX2_designated_19 rfl ?_
  refine r_iconst (pc := 22) dX2_designated_22 ki_2 ?_
  replace h := lt2_e h; obtain ⟨x4, w5, ew5, h⟩ := h
  refine r_cVi (pc := 23) wyX9_take oA4 rfl mlRX2_123 iyX9_take syX9_take ⟨Nat.succ_le_succ (Nat.le_trans (Nat.le_of_ble_eq_true rfl) hK), (Nat.le_of_ble_eq_true rfl)⟩ rfl rfl (Nat.le_of_ble_eq_true rfl) dX2_designated_23 (mX9_take ew5 (pI.mk ?_))
  refine r_pop (pc := 26) dX2_designated_26 rfl ?_
  refine r_aload_n (pc := 27) dX2_designated_27 rfl 2 rfl ?_
  refine r_get (pc := 28) (j := 1) (v := .ref 4) oA42 cf2 flRX2_26 rfl dX2_designated_28 rfl ?_
  replace h := lt_e h; obtain ⟨x6, ex6, h⟩ := h
  refine r_cVi (pc := 31) wyX9_kind oA4 rfl mlRX2_75 iyX9_kind syX9_kind ⟨Nat.succ_le_succ (Nat.le_trans (Nat.le_of_ble_eq_true rfl) hK), (Nat.le_of_ble_eq_true rfl)⟩ rfl rfl (Nat.le_of_ble_eq_true rfl) dX2_designated_31 (mX9_kind ex6 (pI.mk ?_))
  refine r_bipush (pc := 34) dX2_designated_34 kb_45 ?_
  refine r_icmp_ne (pc := 36) dX2_designated_36 rfl (fun hc7 => ?_) (fun hc7 => ?_)
  · replace h := if_f hc7 h
    refine r_iconst (pc := 43) dX2_designated_43 ki_0 ?_
    refine r_drop (loc' := [(0, .ref 42), (1, .int a1), (2, .int a2), (3, .int x1), (4, .int x2)]) [2, 3, 4, 1, 0] rfl ?_
    exact pX2_designated_44 hS hK hN h
  replace h := if_t hc7 h
  refine r_iconst (pc := 39) dX2_designated_39 ki_1 ?_
  refine r_goto (pc := 40) dX2_designated_40 rfl ?_
  refine r_drop (loc' := [(0, .ref 42), (1, .int a1), (2, .int a2), (3, .int x1), (4, .int x2)]) [2, 3, 4, 1, 0] rfl ?_
  exact pX2_designated_44 hS hK hN h
/-! AlgolMill$Expressions.test (I)I: O, 908 -/
theorem dX2_test_0 : decode cX2_test 0 = .ok (.aload_n 0, 1) := by decide +kernel
theorem dX2_test_1 : decode cX2_test 1 = .ok (.getfield 26, 3) := by decide +kernel
theorem dX2_test_4 : decode cX2_test 4 = .ok (.iload_n 1, 1) := by decide +kernel
theorem dX2_test_5 : decode cX2_test 5 = .ok (.invokevirtual 54, 3) := by decide +kernel
theorem dX2_test_8 : decode cX2_test 8 = .ok (.istore_n 2, 1) := by decide +kernel
theorem dX2_test_9 : decode cX2_test 9 = .ok (.aload_n 0, 1) := by decide +kernel
theorem dX2_test_10 : decode cX2_test 10 = .ok (.iload_n 2, 1) := by decide +kernel
theorem dX2_test_11 : decode cX2_test 11 = .ok (.iconst 2, 1) := by decide +kernel
theorem dX2_test_12 : decode cX2_test 12 = .ok (.invokevirtual 59, 3) := by decide +kernel
theorem dX2_test_15 : decode cX2_test 15 = .ok (.aload_n 0, 1) := by decide +kernel
theorem dX2_test_16 : decode cX2_test 16 = .ok (.getfield 26, 3) := by decide +kernel
theorem dX2_test_19 : decode cX2_test 19 = .ok (.bipush 16, 2) := by decide +kernel
theorem dX2_test_21 : decode cX2_test 21 = .ok (.invokevirtual 63, 3) := by decide +kernel
theorem dX2_test_24 : decode cX2_test 24 = .ok (.aload_n 0, 1) := by decide +kernel
theorem dX2_test_25 : decode cX2_test 25 = .ok (.getfield 36, 3) := by decide +kernel
theorem dX2_test_28 : decode cX2_test 28 = .ok (.bipush 34, 2) := by decide +kernel
theorem dX2_test_30 : decode cX2_test 30 = .ok (.invokevirtual 69, 3) := by decide +kernel
theorem dX2_test_33 : decode cX2_test 33 = .ok (.ireturn, 1) := by decide +kernel
def fX2_test (rc : TX2_typed) (a1 : Int32) (w : Wd) : Option (Int32 × Wd) :=
  lt2 (fX9_open a1 w) fun x1 w2 => bn2 (rc 0 x1 2 0 w2) fun _ w4 => lt (fX9_need 16 w4) fun w5 => lt2 (fX0_put__ 34 w5) fun x6 w7 => some (x6, w7)
theorem pX2_test {q : Gq} {l : Launch} {N : Option Value → Wd → Prop} {X : String → Wd → Prop} {rc : TX2_typed} {dd : Nat} (hS : HSX2_typed q l rc dd) (hK : 8 ≤ dd) {w : Wd} {R : Int32 × Wd} (hN : N (some (.int R.1)) R.2) {a1 : Int32} (h : fX2_test rc a1 w = some R) : RT (GA q) l (dd + 1) yX2_test cX2_test 3 ((some .int)) N X 0 [] [(0, .ref 42), (1, .int a1)] w := by
  unfold fX2_test at h
  refine r_aload_n (pc := 0) dX2_test_0 rfl 0 rfl ?_
  refine r_get (pc := 1) (j := 1) (v := .ref 4) oA42 cf2 flRX2_26 rfl dX2_test_1 rfl ?_
  refine r_iload_n (pc := 4) dX2_test_4 rfl 1 rfl ?_
  replace h := lt2_e h; obtain ⟨x1, w2, ew2, h⟩ := h
  refine r_cVi (pc := 5) wyX9_open oA4 rfl mlRX2_54 iyX9_open syX9_open ⟨Nat.succ_le_succ (Nat.le_trans (Nat.le_of_ble_eq_true rfl) hK), (Nat.le_of_ble_eq_true rfl)⟩ rfl rfl (Nat.le_of_ble_eq_true rfl) dX2_test_5 (mX9_open ew2 (pI.mk ?_))
  refine r_istore_n (pc := 8) (loc' := [(2, .int x1), (0, .ref 42), (1, .int a1)]) dX2_test_8 rfl (Nat.le_of_ble_eq_true rfl) rfl ?_
  refine r_aload_n (pc := 9) dX2_test_9 rfl 1 rfl ?_
  refine r_iload_n (pc := 10) dX2_test_10 rfl 0 rfl ?_
  refine r_iconst (pc := 11) dX2_test_11 ki_2 ?_
  replace h := bn2_e h; obtain ⟨x3, w4, ew4, h⟩ := h
  refine r_cVv (pc := 12) wyX2_typed oA42 rfl mlRX2_59 iyX2_typed syX2_typed ⟨Nat.le_refl _, (Nat.le_of_ble_eq_true rfl)⟩ rfl rfl (Nat.le_of_ble_eq_true rfl) dX2_test_12 ((hS.1 _ _ _ _ _ _ _) ew4 (pV.mk ?_))
  refine r_aload_n (pc := 15) dX2_test_15 rfl 1 rfl ?_
  refine r_get (pc := 16) (j := 1) (v := .ref 4) oA42 cf2 flRX2_26 rfl dX2_test_16 rfl ?_
  refine r_bipush (pc := 19) dX2_test_19 kb_16 ?_
  replace h := lt_e h; obtain ⟨w5, ew5, h⟩ := h
  refine r_cVv (pc := 21) wyX9_need oA4 rfl mlRX2_63 iyX9_need syX9_need ⟨Nat.succ_le_succ (Nat.le_trans (Nat.le_of_ble_eq_true rfl) hK), (Nat.le_of_ble_eq_true rfl)⟩ rfl rfl (Nat.le_of_ble_eq_true rfl) dX2_test_21 (mX9_need ew5 (pV.mk ?_))
  refine r_aload_n (pc := 24) dX2_test_24 rfl 1 rfl ?_
  refine r_get (pc := 25) (j := 3) (v := .ref 40) oA42 cf2 flRX2_36 rfl dX2_test_25 rfl ?_
  refine r_bipush (pc := 28) dX2_test_28 kb_34 ?_
  replace h := lt2_e h; obtain ⟨x6, w7, ew7, h⟩ := h
  refine r_cVi (pc := 30) wyX0_put__ oA40 rfl mlRX2_69 iyX0_put__ syX0_put__ ⟨Nat.succ_le_succ (Nat.le_trans (Nat.le_of_ble_eq_true rfl) hK), (Nat.le_of_ble_eq_true rfl)⟩ rfl rfl (Nat.le_of_ble_eq_true rfl) dX2_test_30 (mX0_put__ ew7 (pI.mk ?_))
  exact rO_i (pc := 33) rfl dX2_test_33 h hN
/-! AlgolMill$Expressions.aim (IZ)V: O, 908 -/
theorem dX2_aim_0 : decode cX2_aim 0 = .ok (.aload_n 0, 1) := by decide +kernel
theorem dX2_aim_1 : decode cX2_aim 1 = .ok (.getfield 26, 3) := by decide +kernel
theorem dX2_aim_4 : decode cX2_aim 4 = .ok (.invokevirtual 40, 3) := by decide +kernel
theorem dX2_aim_7 : decode cX2_aim 7 = .ok (.istore_n 3, 1) := by decide +kernel
theorem dX2_aim_8 : decode cX2_aim 8 = .ok (.aload_n 0, 1) := by decide +kernel
theorem dX2_aim_9 : decode cX2_aim 9 = .ok (.getfield 26, 3) := by decide +kernel
theorem dX2_aim_12 : decode cX2_aim 12 = .ok (.iload_n 3, 1) := by decide +kernel
theorem dX2_aim_13 : decode cX2_aim 13 = .ok (.invokevirtual 259, 3) := by decide +kernel
theorem dX2_aim_16 : decode cX2_aim 16 = .ok (.istore 4, 2) := by decide +kernel
theorem dX2_aim_18 : decode cX2_aim 18 = .ok (.aload_n 0, 1) := by decide +kernel
theorem dX2_aim_19 : decode cX2_aim 19 = .ok (.getfield 26, 3) := by decide +kernel
theorem dX2_aim_22 : decode cX2_aim 22 = .ok (.invokevirtual 75, 3) := by decide +kernel
theorem dX2_aim_25 : decode cX2_aim 25 = .ok (.istore 5, 2) := by decide +kernel
theorem dX2_aim_27 : decode cX2_aim 27 = .ok (.iload 5, 2) := by decide +kernel
theorem dX2_aim_29 : decode cX2_aim 29 = .ok (.bipush 15, 2) := by decide +kernel
theorem dX2_aim_31 : decode cX2_aim 31 = .ok (.if_icmp .ne 47, 3) := by decide +kernel
theorem dX2_aim_34 : decode cX2_aim 34 = .ok (.aload_n 0, 1) := by decide +kernel
theorem dX2_aim_35 : decode cX2_aim 35 = .ok (.iload_n 1, 1) := by decide +kernel
theorem dX2_aim_36 : decode cX2_aim 36 = .ok (.invokevirtual 81, 3) := by decide +kernel
theorem dX2_aim_39 : decode cX2_aim 39 = .ok (.istore 6, 2) := by decide +kernel
theorem dX2_aim_41 : decode cX2_aim 41 = .ok (.aload_n 0, 1) := by decide +kernel
theorem dX2_aim_42 : decode cX2_aim 42 = .ok (.iload_n 1, 1) := by decide +kernel
theorem dX2_aim_43 : decode cX2_aim 43 = .ok (.iconst 1, 1) := by decide +kernel
theorem dX2_aim_44 : decode cX2_aim 44 = .ok (.iadd, 1) := by decide +kernel
theorem dX2_aim_45 : decode cX2_aim 45 = .ok (.iload_n 2, 1) := by decide +kernel
theorem dX2_aim_46 : decode cX2_aim 46 = .ok (.invokevirtual 246, 3) := by decide +kernel
theorem dX2_aim_49 : decode cX2_aim 49 = .ok (.aload_n 0, 1) := by decide +kernel
theorem dX2_aim_50 : decode cX2_aim 50 = .ok (.iload 6, 2) := by decide +kernel
theorem dX2_aim_52 : decode cX2_aim 52 = .ok (.invokevirtual 84, 3) := by decide +kernel
theorem dX2_aim_55 : decode cX2_aim 55 = .ok (.istore 7, 2) := by decide +kernel
theorem dX2_aim_57 : decode cX2_aim 57 = .ok (.aload_n 0, 1) := by decide +kernel
theorem dX2_aim_58 : decode cX2_aim 58 = .ok (.iload_n 1, 1) := by decide +kernel
theorem dX2_aim_59 : decode cX2_aim 59 = .ok (.iconst 1, 1) := by decide +kernel
theorem dX2_aim_60 : decode cX2_aim 60 = .ok (.iadd, 1) := by decide +kernel
theorem dX2_aim_61 : decode cX2_aim 61 = .ok (.iload_n 2, 1) := by decide +kernel
theorem dX2_aim_62 : decode cX2_aim 62 = .ok (.invokevirtual 246, 3) := by decide +kernel
theorem dX2_aim_65 : decode cX2_aim 65 = .ok (.aload_n 0, 1) := by decide +kernel
theorem dX2_aim_66 : decode cX2_aim 66 = .ok (.getfield 36, 3) := by decide +kernel
theorem dX2_aim_69 : decode cX2_aim 69 = .ok (.iload 7, 2) := by decide +kernel
theorem dX2_aim_71 : decode cX2_aim 71 = .ok (.invokevirtual 72, 3) := by decide +kernel
theorem dX2_aim_74 : decode cX2_aim 74 = .ok (.pop, 1) := by decide +kernel
theorem dX2_aim_75 : decode cX2_aim 75 = .ok (.goto 94, 3) := by decide +kernel
theorem dX2_aim_78 : decode cX2_aim 78 = .ok (.iload 5, 2) := by decide +kernel
theorem dX2_aim_80 : decode cX2_aim 80 = .ok (.bipush 43, 2) := by decide +kernel
theorem dX2_aim_82 : decode cX2_aim 82 = .ok (.if_icmp .ne 39, 3) := by decide +kernel
theorem dX2_aim_85 : decode cX2_aim 85 = .ok (.iload 4, 2) := by decide +kernel
theorem dX2_aim_87 : decode cX2_aim 87 = .ok (.bipush 6, 2) := by decide +kernel
theorem dX2_aim_89 : decode cX2_aim 89 = .ok (.if_icmp .eq 32, 3) := by decide +kernel
theorem dX2_aim_92 : decode cX2_aim 92 = .ok (.aload_n 0, 1) := by decide +kernel
theorem dX2_aim_93 : decode cX2_aim 93 = .ok (.getfield 26, 3) := by decide +kernel
theorem dX2_aim_96 : decode cX2_aim 96 = .ok (.iload_n 1, 1) := by decide +kernel
theorem dX2_aim_97 : decode cX2_aim 97 = .ok (.invokevirtual 54, 3) := by decide +kernel
theorem dX2_aim_100 : decode cX2_aim 100 = .ok (.istore 6, 2) := by decide +kernel
theorem dX2_aim_102 : decode cX2_aim 102 = .ok (.aload_n 0, 1) := by decide +kernel
theorem dX2_aim_103 : decode cX2_aim 103 = .ok (.iload 6, 2) := by decide +kernel
theorem dX2_aim_105 : decode cX2_aim 105 = .ok (.iload_n 2, 1) := by decide +kernel
theorem dX2_aim_106 : decode cX2_aim 106 = .ok (.invokevirtual 246, 3) := by decide +kernel
theorem dX2_aim_109 : decode cX2_aim 109 = .ok (.aload_n 0, 1) := by decide +kernel
theorem dX2_aim_110 : decode cX2_aim 110 = .ok (.getfield 26, 3) := by decide +kernel
theorem dX2_aim_113 : decode cX2_aim 113 = .ok (.bipush 44, 2) := by decide +kernel
theorem dX2_aim_115 : decode cX2_aim 115 = .ok (.invokevirtual 63, 3) := by decide +kernel
theorem dX2_aim_118 : decode cX2_aim 118 = .ok (.goto 51, 3) := by decide +kernel
theorem dX2_aim_121 : decode cX2_aim 121 = .ok (.iload 5, 2) := by decide +kernel
theorem dX2_aim_123 : decode cX2_aim 123 = .ok (.iconst 2, 1) := by decide +kernel
theorem dX2_aim_124 : decode cX2_aim 124 = .ok (.if_icmp .ne 25, 3) := by decide +kernel
theorem dX2_aim_127 : decode cX2_aim 127 = .ok (.iload 4, 2) := by decide +kernel
theorem dX2_aim_129 : decode cX2_aim 129 = .ok (.bipush 6, 2) := by decide +kernel
theorem dX2_aim_131 : decode cX2_aim 131 = .ok (.if_icmp .eq 18, 3) := by decide +kernel
theorem dX2_aim_134 : decode cX2_aim 134 = .ok (.iload 4, 2) := by decide +kernel
theorem dX2_aim_136 : decode cX2_aim 136 = .ok (.iconst 3, 1) := by decide +kernel
theorem dX2_aim_137 : decode cX2_aim 137 = .ok (.if_icmp .eq 12, 3) := by decide +kernel
theorem dX2_aim_140 : decode cX2_aim 140 = .ok (.aload_n 0, 1) := by decide +kernel
theorem dX2_aim_141 : decode cX2_aim 141 = .ok (.iload_n 1, 1) := by decide +kernel
theorem dX2_aim_142 : decode cX2_aim 142 = .ok (.iload_n 2, 1) := by decide +kernel
theorem dX2_aim_143 : decode cX2_aim 143 = .ok (.invokevirtual 278, 3) := by decide +kernel
theorem dX2_aim_146 : decode cX2_aim 146 = .ok (.goto 23, 3) := by decide +kernel
theorem dX2_aim_149 : decode cX2_aim 149 = .ok (.iload 4, 2) := by decide +kernel
theorem dX2_aim_151 : decode cX2_aim 151 = .ok (.ifCond .ne 13, 3) := by decide +kernel
theorem dX2_aim_154 : decode cX2_aim 154 = .ok (.aload_n 0, 1) := by decide +kernel
theorem dX2_aim_155 : decode cX2_aim 155 = .ok (.getfield 26, 3) := by decide +kernel
theorem dX2_aim_158 : decode cX2_aim 158 = .ok (.invokevirtual 167, 3) := by decide +kernel
theorem dX2_aim_161 : decode cX2_aim 161 = .ok (.goto 8, 3) := by decide +kernel
theorem dX2_aim_164 : decode cX2_aim 164 = .ok (.aload_n 0, 1) := by decide +kernel
theorem dX2_aim_165 : decode cX2_aim 165 = .ok (.iload_n 3, 1) := by decide +kernel
theorem dX2_aim_166 : decode cX2_aim 166 = .ok (.invokevirtual 266, 3) := by decide +kernel
theorem dX2_aim_169 : decode cX2_aim 169 = .ok (.return_, 1) := by decide +kernel
def fX2_aim_149 (rc : TX2_typed) (a3 : Int32) (a4 : Int32) (w : Wd) : Option (Int32 × Wd) :=
  if a4 = 0 then (lt (fX9_fail w) fun w2 => some (0, w2)) else (lt (fX2_misfit a3 w) fun w3 => some (0, w3))
theorem pX2_aim_149 {q : Gq} {l : Launch} {N : Option Value → Wd → Prop} {X : String → Wd → Prop} {rc : TX2_typed} {dd : Nat} (hS : HSX2_typed q l rc dd) (hK : 8 ≤ dd) {w : Wd} {R : Int32 × Wd} (hN : N none R.2) {a3 : Int32} {a4 : Int32} (h : fX2_aim_149 rc a3 a4 w = some R) : RT (GA q) l (dd + 1) yX2_aim cX2_aim 8 (none) N X 149 [] [(0, .ref 42), (3, .int a3), (4, .int a4)] w := by
  unfold fX2_aim_149 at h
  refine r_iload (pc := 149) dX2_aim_149 2 rfl ?_
  refine r_if_ne (pc := 151) dX2_aim_151 rfl (fun hc1 => ?_) (fun hc1 => ?_)
  · replace h := if_f hc1 h
    refine r_aload_n (pc := 164) dX2_aim_164 rfl 0 rfl ?_
    refine r_iload_n (pc := 165) dX2_aim_165 rfl 1 rfl ?_
    replace h := lt_e h; obtain ⟨w3, ew3, h⟩ := h
    refine r_cVv (pc := 166) wyX2_misfit oA42 rfl mlRX2_266 iyX2_misfit syX2_misfit ⟨Nat.succ_le_succ (Nat.le_trans (Nat.le_of_ble_eq_true rfl) hK), (Nat.le_of_ble_eq_true rfl)⟩ rfl rfl (Nat.le_of_ble_eq_true rfl) dX2_aim_166 (mX2_misfit ew3 (pV.mk ?_))
    exact rOR_v (pc := 169) rfl dX2_aim_169 h hN
  replace h := if_t hc1 h
  refine r_aload_n (pc := 154) dX2_aim_154 rfl 0 rfl ?_
  refine r_get (pc := 155) (j := 1) (v := .ref 4) oA42 cf2 flRX2_26 rfl dX2_aim_155 rfl ?_
  replace h := lt_e h; obtain ⟨w2, ew2, h⟩ := h
  refine r_cVv (pc := 158) wyX9_fail oA4 rfl mlRX2_167 iyX9_fail syX9_fail ⟨Nat.succ_le_succ (Nat.le_trans (Nat.le_of_ble_eq_true rfl) hK), (Nat.le_of_ble_eq_true rfl)⟩ rfl rfl (Nat.le_of_ble_eq_true rfl) dX2_aim_158 (mX9_fail ew2 (pV.mk ?_))
  refine r_goto (pc := 161) dX2_aim_161 rfl ?_
  exact rOR_v (pc := 169) rfl dX2_aim_169 h hN
def fX2_aim_121 (rc : TX2_typed) (a1 : Int32) (a2 : Int32) (a3 : Int32) (a4 : Int32) (a5 : Int32) (w : Wd) : Option (Int32 × Wd) :=
  if a5 = 2 then (if a4 = 6 then (fX2_aim_149 rc a3 a4 w) else (if a4 = 3 then (fX2_aim_149 rc a3 a4 w) else (bn2 (rc 12 a1 a2 0 w) fun _ w5 => some (0, w5)))) else (fX2_aim_149 rc a3 a4 w)
theorem pX2_aim_121 {q : Gq} {l : Launch} {N : Option Value → Wd → Prop} {X : String → Wd → Prop} {rc : TX2_typed} {dd : Nat} (hS : HSX2_typed q l rc dd) (hK : 8 ≤ dd) {w : Wd} {R : Int32 × Wd} (hN : N none R.2) {a1 : Int32} {a2 : Int32} {a3 : Int32} {a4 : Int32} {a5 : Int32} (h : fX2_aim_121 rc a1 a2 a3 a4 a5 w = some R) : RT (GA q) l (dd + 1) yX2_aim cX2_aim 8 (none) N X 121 [] [(0, .ref 42), (1, .int a1), (2, .int a2), (3, .int a3), (4, .int a4), (5, .int a5)] w := by
  unfold fX2_aim_121 at h
  refine r_iload (pc := 121) dX2_aim_121 5 rfl ?_
  refine r_iconst (pc := 123) dX2_aim_123 ki_2 ?_
  refine r_icmp_ne (pc := 124) dX2_aim_124 rfl (fun hc1 => ?_) (fun hc1 => ?_)
  · replace h := if_f hc1 h
    refine r_drop (loc' := [(0, .ref 42), (3, .int a3), (4, .int a4)]) [0, 3, 4] rfl ?_
    exact pX2_aim_149 hS hK hN h
  replace h := if_t hc1 h
  refine r_iload (pc := 127) dX2_aim_127 4 rfl ?_
  refine r_bipush (pc := 129) dX2_aim_129 kb_6 ?_
  refine r_icmp_eq (pc := 131) dX2_aim_131 rfl (fun hc2 => ?_) (fun hc2 => ?_)
  · replace h := if_t hc2 h
    refine r_drop (loc' := [(0, .ref 42), (3, .int a3), (4, .int a4)]) [0, 3, 4] rfl ?_
    exact pX2_aim_149 hS hK hN h
  replace h := if_f hc2 h
  refine r_iload (pc := 134) dX2_aim_134 4 rfl ?_
  refine r_iconst (pc := 136) dX2_aim_136 ki_3 ?_
  refine r_icmp_eq (pc := 137) dX2_aim_137 rfl (fun hc3 => ?_) (fun hc3 => ?_)
  · replace h := if_t hc3 h
    refine r_drop (loc' := [(0, .ref 42), (3, .int a3), (4, .int a4)]) [0, 3, 4] rfl ?_
    exact pX2_aim_149 hS hK hN h
  replace h := if_f hc3 h
  refine r_aload_n (pc := 140) dX2_aim_140 rfl 0 rfl ?_
  refine r_iload_n (pc := 141) dX2_aim_141 rfl 1 rfl ?_
  refine r_iload_n (pc := 142) dX2_aim_142 rfl 2 rfl ?_
  replace h := bn2_e h; obtain ⟨x4, w5, ew5, h⟩ := h
  refine r_cVv (pc := 143) wyX2_designated oA42 rfl mlRX2_278 iyX2_designated syX2_designated ⟨Nat.le_refl _, (Nat.le_of_ble_eq_true rfl)⟩ rfl rfl (Nat.le_of_ble_eq_true rfl) dX2_aim_143 ((hS.2.2.2.2.2.2.2.2.2.2.2.2 _ _ _ _ _ _ _) ew5 (pV.mk ?_))
  refine r_goto (pc := 146) dX2_aim_146 rfl ?_
  exact rOR_v (pc := 169) rfl dX2_aim_169 h hN
def fX2_aim (rc : TX2_typed) (a1 : Int32) (a2 : Int32) (w : Wd) : Option (Int32 × Wd) :=
  lt (fX9_at w) fun x1 => lt (fX9_formAt x1 w) fun x2 => lt (fX9_kind w) fun x3 => if x3 = 15 then (bn2 (rc 1 a1 0 0 w) fun x5 w6 => bn2 (rc 11 (a1 + 1) a2 0 w6) fun _ w8 => lt2 (fX2_otherwise x5 w8) fun x9 w10 => bn2 (rc 11 (a1 + 1) a2 0 w10) fun _ w12 => lt2 (fX0_patch x9 w12) fun x13 w14 => some (0, w14)) else (if x3 = 43 then (if x2 = 6 then (fX2_aim_121 rc a1 a2 x1 x2 x3 w) else (lt2 (fX9_open a1 w) fun x17 w18 => bn2 (rc 11 x17 a2 0 w18) fun _ w20 => lt (fX9_need 44 w20) fun w21 => some (0, w21))) else (fX2_aim_121 rc a1 a2 x1 x2 x3 w))
theorem pX2_aim {q : Gq} {l : Launch} {N : Option Value → Wd → Prop} {X : String → Wd → Prop} {rc : TX2_typed} {dd : Nat} (hS : HSX2_typed q l rc dd) (hK : 8 ≤ dd) {w : Wd} {R : Int32 × Wd} (hN : N none R.2) {a1 : Int32} {a2 : Int32} (h : fX2_aim rc a1 a2 w = some R) : RT (GA q) l (dd + 1) yX2_aim cX2_aim 8 (none) N X 0 [] [(0, .ref 42), (1, .int a1), (2, .int a2)] w := by
  unfold fX2_aim at h
  refine r_aload_n (pc := 0) dX2_aim_0 rfl 0 rfl ?_
  refine r_get (pc := 1) (j := 1) (v := .ref 4) oA42 cf2 flRX2_26 rfl dX2_aim_1 rfl ?_
  replace h := lt_e h; obtain ⟨x1, ex1, h⟩ := h
  refine r_cVi (pc := 4) wyX9_at oA4 rfl mlRX2_40 iyX9_at syX9_at ⟨Nat.succ_le_succ (Nat.le_trans (Nat.le_of_ble_eq_true rfl) hK), (Nat.le_of_ble_eq_true rfl)⟩ rfl rfl (Nat.le_of_ble_eq_true rfl) dX2_aim_4 (mX9_at ex1 (pI.mk ?_))
  refine r_istore_n (pc := 7) (loc' := [(3, .int x1), (0, .ref 42), (1, .int a1), (2, .int a2)]) dX2_aim_7 rfl (Nat.le_of_ble_eq_true rfl) rfl ?_
  refine r_aload_n (pc := 8) dX2_aim_8 rfl 1 rfl ?_
  refine r_get (pc := 9) (j := 1) (v := .ref 4) oA42 cf2 flRX2_26 rfl dX2_aim_9 rfl ?_
  refine r_iload_n (pc := 12) dX2_aim_12 rfl 0 rfl ?_
  replace h := lt_e h; obtain ⟨x2, ex2, h⟩ := h
  refine r_cVi (pc := 13) wyX9_formAt oA4 rfl mlRX2_259 iyX9_formAt syX9_formAt ⟨Nat.succ_le_succ (Nat.le_trans (Nat.le_of_ble_eq_true rfl) hK), (Nat.le_of_ble_eq_true rfl)⟩ rfl rfl (Nat.le_of_ble_eq_true rfl) dX2_aim_13 (mX9_formAt ex2 (pI.mk ?_))
  refine r_istore (pc := 16) (loc' := [(4, .int x2), (3, .int x1), (0, .ref 42), (1, .int a1), (2, .int a2)]) dX2_aim_16 (Nat.le_of_ble_eq_true rfl) rfl ?_
  refine r_aload_n (pc := 18) dX2_aim_18 rfl 2 rfl ?_
  refine r_get (pc := 19) (j := 1) (v := .ref 4) oA42 cf2 flRX2_26 rfl dX2_aim_19 rfl ?_
  replace h := lt_e h; obtain ⟨x3, ex3, h⟩ := h
  refine r_cVi (pc := 22) wyX9_kind oA4 rfl mlRX2_75 iyX9_kind syX9_kind ⟨Nat.succ_le_succ (Nat.le_trans (Nat.le_of_ble_eq_true rfl) hK), (Nat.le_of_ble_eq_true rfl)⟩ rfl rfl (Nat.le_of_ble_eq_true rfl) dX2_aim_22 (mX9_kind ex3 (pI.mk ?_))
  refine r_istore (pc := 25) (loc' := [(5, .int x3), (4, .int x2), (3, .int x1), (0, .ref 42), (1, .int a1), (2, .int a2)]) dX2_aim_25 (Nat.le_of_ble_eq_true rfl) rfl ?_
  refine r_iload (pc := 27) dX2_aim_27 0 rfl ?_
  refine r_bipush (pc := 29) dX2_aim_29 kb_15 ?_
  refine r_icmp_ne (pc := 31) dX2_aim_31 rfl (fun hc4 => ?_) (fun hc4 => ?_)
  · replace h := if_f hc4 h
    refine r_iload (pc := 78) dX2_aim_78 0 rfl ?_
    refine r_bipush (pc := 80) dX2_aim_80 kb_43 ?_
    refine r_icmp_ne (pc := 82) dX2_aim_82 rfl (fun hc15 => ?_) (fun hc15 => ?_)
    · replace h := if_f hc15 h
      refine r_drop (loc' := [(0, .ref 42), (1, .int a1), (2, .int a2), (3, .int x1), (4, .int x2), (5, .int x3)]) [3, 4, 5, 2, 1, 0] rfl ?_
      exact pX2_aim_121 hS hK hN h
    replace h := if_t hc15 h
    refine r_iload (pc := 85) dX2_aim_85 1 rfl ?_
    refine r_bipush (pc := 87) dX2_aim_87 kb_6 ?_
    refine r_icmp_eq (pc := 89) dX2_aim_89 rfl (fun hc16 => ?_) (fun hc16 => ?_)
    · replace h := if_t hc16 h
      refine r_drop (loc' := [(0, .ref 42), (1, .int a1), (2, .int a2), (3, .int x1), (4, .int x2), (5, .int x3)]) [3, 4, 5, 2, 1, 0] rfl ?_
      exact pX2_aim_121 hS hK hN h
    replace h := if_f hc16 h
    refine r_aload_n (pc := 92) dX2_aim_92 rfl 3 rfl ?_
    refine r_get (pc := 93) (j := 1) (v := .ref 4) oA42 cf2 flRX2_26 rfl dX2_aim_93 rfl ?_
    refine r_iload_n (pc := 96) dX2_aim_96 rfl 4 rfl ?_
    replace h := lt2_e h; obtain ⟨x17, w18, ew18, h⟩ := h
    refine r_cVi (pc := 97) wyX9_open oA4 rfl mlRX2_54 iyX9_open syX9_open ⟨Nat.succ_le_succ (Nat.le_trans (Nat.le_of_ble_eq_true rfl) hK), (Nat.le_of_ble_eq_true rfl)⟩ rfl rfl (Nat.le_of_ble_eq_true rfl) dX2_aim_97 (mX9_open ew18 (pI.mk ?_))
    refine r_istore (pc := 100) (loc' := [(6, .int x17), (5, .int x3), (4, .int x2), (3, .int x1), (0, .ref 42), (1, .int a1), (2, .int a2)]) dX2_aim_100 (Nat.le_of_ble_eq_true rfl) rfl ?_
    refine r_aload_n (pc := 102) dX2_aim_102 rfl 4 rfl ?_
    refine r_iload (pc := 103) dX2_aim_103 0 rfl ?_
    refine r_iload_n (pc := 105) dX2_aim_105 rfl 6 rfl ?_
    replace h := bn2_e h; obtain ⟨x19, w20, ew20, h⟩ := h
    refine r_cVv (pc := 106) wyX2_aim oA42 rfl mlRX2_246 iyX2_aim syX2_aim ⟨Nat.le_refl _, (Nat.le_of_ble_eq_true rfl)⟩ rfl rfl (Nat.le_of_ble_eq_true rfl) dX2_aim_106 ((hS.2.2.2.2.2.2.2.2.2.2.2.1 _ _ _ _ _ _ _) ew20 (pV.mk ?_))
    refine r_aload_n (pc := 109) dX2_aim_109 rfl 4 rfl ?_
    refine r_get (pc := 110) (j := 1) (v := .ref 4) oA42 cf2 flRX2_26 rfl dX2_aim_110 rfl ?_
    refine r_bipush (pc := 113) dX2_aim_113 kb_44 ?_
    replace h := lt_e h; obtain ⟨w21, ew21, h⟩ := h
    refine r_cVv (pc := 115) wyX9_need oA4 rfl mlRX2_63 iyX9_need syX9_need ⟨Nat.succ_le_succ (Nat.le_trans (Nat.le_of_ble_eq_true rfl) hK), (Nat.le_of_ble_eq_true rfl)⟩ rfl rfl (Nat.le_of_ble_eq_true rfl) dX2_aim_115 (mX9_need ew21 (pV.mk ?_))
    refine r_goto (pc := 118) dX2_aim_118 rfl ?_
    exact rOR_v (pc := 169) rfl dX2_aim_169 h hN
  replace h := if_t hc4 h
  refine r_aload_n (pc := 34) dX2_aim_34 rfl 3 rfl ?_
  refine r_iload_n (pc := 35) dX2_aim_35 rfl 4 rfl ?_
  replace h := bn2_e h; obtain ⟨x5, w6, ew6, h⟩ := h
  refine r_cVi (pc := 36) wyX2_test oA42 rfl mlRX2_81 iyX2_test syX2_test ⟨Nat.le_refl _, (Nat.le_of_ble_eq_true rfl)⟩ rfl rfl (Nat.le_of_ble_eq_true rfl) dX2_aim_36 ((hS.2.1 _ _ _ _ _ _) ew6 (pI.mk ?_))
  refine r_istore (pc := 39) (loc' := [(6, .int x5), (5, .int x3), (4, .int x2), (3, .int x1), (0, .ref 42), (1, .int a1), (2, .int a2)]) dX2_aim_39 (Nat.le_of_ble_eq_true rfl) rfl ?_
  refine r_aload_n (pc := 41) dX2_aim_41 rfl 4 rfl ?_
  refine r_iload_n (pc := 42) dX2_aim_42 rfl 5 rfl ?_
  refine r_iconst (pc := 43) dX2_aim_43 ki_1 ?_
  refine r_iadd (pc := 44) dX2_aim_44 ?_
  refine r_iload_n (pc := 45) dX2_aim_45 rfl 6 rfl ?_
  replace h := bn2_e h; obtain ⟨x7, w8, ew8, h⟩ := h
  refine r_cVv (pc := 46) wyX2_aim oA42 rfl mlRX2_246 iyX2_aim syX2_aim ⟨Nat.le_refl _, (Nat.le_of_ble_eq_true rfl)⟩ rfl rfl (Nat.le_of_ble_eq_true rfl) dX2_aim_46 ((hS.2.2.2.2.2.2.2.2.2.2.2.1 _ _ _ _ _ _ _) ew8 (pV.mk ?_))
  refine r_aload_n (pc := 49) dX2_aim_49 rfl 4 rfl ?_
  refine r_iload (pc := 50) dX2_aim_50 0 rfl ?_
  replace h := lt2_e h; obtain ⟨x9, w10, ew10, h⟩ := h
  refine r_cVi (pc := 52) wyX2_otherwise oA42 rfl mlRX2_84 iyX2_otherwise syX2_otherwise ⟨Nat.succ_le_succ (Nat.le_trans (Nat.le_of_ble_eq_true rfl) hK), (Nat.le_of_ble_eq_true rfl)⟩ rfl rfl (Nat.le_of_ble_eq_true rfl) dX2_aim_52 (mX2_otherwise ew10 (pI.mk ?_))
  refine r_istore (pc := 55) (loc' := [(7, .int x9), (6, .int x5), (5, .int x3), (4, .int x2), (3, .int x1), (0, .ref 42), (1, .int a1), (2, .int a2)]) dX2_aim_55 (Nat.le_of_ble_eq_true rfl) rfl ?_
  refine r_aload_n (pc := 57) dX2_aim_57 rfl 5 rfl ?_
  refine r_iload_n (pc := 58) dX2_aim_58 rfl 6 rfl ?_
  refine r_iconst (pc := 59) dX2_aim_59 ki_1 ?_
  refine r_iadd (pc := 60) dX2_aim_60 ?_
  refine r_iload_n (pc := 61) dX2_aim_61 rfl 7 rfl ?_
  replace h := bn2_e h; obtain ⟨x11, w12, ew12, h⟩ := h
  refine r_cVv (pc := 62) wyX2_aim oA42 rfl mlRX2_246 iyX2_aim syX2_aim ⟨Nat.le_refl _, (Nat.le_of_ble_eq_true rfl)⟩ rfl rfl (Nat.le_of_ble_eq_true rfl) dX2_aim_62 ((hS.2.2.2.2.2.2.2.2.2.2.2.1 _ _ _ _ _ _ _) ew12 (pV.mk ?_))
  refine r_aload_n (pc := 65) dX2_aim_65 rfl 5 rfl ?_
  refine r_get (pc := 66) (j := 3) (v := .ref 40) oA42 cf2 flRX2_36 rfl dX2_aim_66 rfl ?_
  refine r_iload (pc := 69) dX2_aim_69 0 rfl ?_
  replace h := lt2_e h; obtain ⟨x13, w14, ew14, h⟩ := h
  refine r_cVi (pc := 71) wyX0_patch oA40 rfl mlRX2_72 iyX0_patch syX0_patch ⟨Nat.succ_le_succ (Nat.le_trans (Nat.le_of_ble_eq_true rfl) hK), (Nat.le_of_ble_eq_true rfl)⟩ rfl rfl (Nat.le_of_ble_eq_true rfl) dX2_aim_71 (mX0_patch ew14 (pI.mk ?_))
  refine r_pop (pc := 74) dX2_aim_74 rfl ?_
  refine r_goto (pc := 75) dX2_aim_75 rfl ?_
  exact rOR_v (pc := 169) rfl dX2_aim_169 h hN
/-! AlgolMill$Expressions.actual (II)V: O, 908 -/
theorem dX2_actual_0 : decode cX2_actual 0 = .ok (.aload_n 0, 1) := by decide +kernel
theorem dX2_actual_1 : decode cX2_actual 1 = .ok (.getfield 26, 3) := by decide +kernel
theorem dX2_actual_4 : decode cX2_actual 4 = .ok (.invokevirtual 40, 3) := by decide +kernel
theorem dX2_actual_7 : decode cX2_actual 7 = .ok (.istore_n 3, 1) := by decide +kernel
theorem dX2_actual_8 : decode cX2_actual 8 = .ok (.aload_n 0, 1) := by decide +kernel
theorem dX2_actual_9 : decode cX2_actual 9 = .ok (.getfield 31, 3) := by decide +kernel
theorem dX2_actual_12 : decode cX2_actual 12 = .ok (.iload_n 2, 1) := by decide +kernel
theorem dX2_actual_13 : decode cX2_actual 13 = .ok (.invokevirtual 180, 3) := by decide +kernel
theorem dX2_actual_16 : decode cX2_actual 16 = .ok (.tableswitch 125 0 4 #[96, 36, 125, 125, 60], 36) := by decide +kernel
theorem dX2_actual_52 : decode cX2_actual 52 = .ok (.aload_n 0, 1) := by decide +kernel
theorem dX2_actual_53 : decode cX2_actual 53 = .ok (.getfield 16, 3) := by decide +kernel
theorem dX2_actual_56 : decode cX2_actual 56 = .ok (.aload_n 0, 1) := by decide +kernel
theorem dX2_actual_57 : decode cX2_actual 57 = .ok (.getfield 31, 3) := by decide +kernel
theorem dX2_actual_60 : decode cX2_actual 60 = .ok (.iload_n 2, 1) := by decide +kernel
theorem dX2_actual_61 : decode cX2_actual 61 = .ok (.invokevirtual 183, 3) := by decide +kernel
theorem dX2_actual_64 : decode cX2_actual 64 = .ok (.aload_n 0, 1) := by decide +kernel
theorem dX2_actual_65 : decode cX2_actual 65 = .ok (.iload_n 1, 1) := by decide +kernel
theorem dX2_actual_66 : decode cX2_actual 66 = .ok (.invokevirtual 46, 3) := by decide +kernel
theorem dX2_actual_69 : decode cX2_actual 69 = .ok (.iload_n 3, 1) := by decide +kernel
theorem dX2_actual_70 : decode cX2_actual 70 = .ok (.invokevirtual 50, 3) := by decide +kernel
theorem dX2_actual_73 : decode cX2_actual 73 = .ok (.goto 73, 3) := by decide +kernel
theorem dX2_actual_76 : decode cX2_actual 76 = .ok (.aload_n 0, 1) := by decide +kernel
theorem dX2_actual_77 : decode cX2_actual 77 = .ok (.getfield 36, 3) := by decide +kernel
theorem dX2_actual_80 : decode cX2_actual 80 = .ok (.bipush 33, 2) := by decide +kernel
theorem dX2_actual_82 : decode cX2_actual 82 = .ok (.invokevirtual 69, 3) := by decide +kernel
theorem dX2_actual_85 : decode cX2_actual 85 = .ok (.istore 4, 2) := by decide +kernel
theorem dX2_actual_87 : decode cX2_actual 87 = .ok (.aload_n 0, 1) := by decide +kernel
theorem dX2_actual_88 : decode cX2_actual 88 = .ok (.iload_n 1, 1) := by decide +kernel
theorem dX2_actual_89 : decode cX2_actual 89 = .ok (.iconst 1, 1) := by decide +kernel
theorem dX2_actual_90 : decode cX2_actual 90 = .ok (.invokevirtual 246, 3) := by decide +kernel
theorem dX2_actual_93 : decode cX2_actual 93 = .ok (.aload_n 0, 1) := by decide +kernel
theorem dX2_actual_94 : decode cX2_actual 94 = .ok (.getfield 36, 3) := by decide +kernel
theorem dX2_actual_97 : decode cX2_actual 97 = .ok (.bipush 46, 2) := by decide +kernel
theorem dX2_actual_99 : decode cX2_actual 99 = .ok (.invokevirtual 69, 3) := by decide +kernel
theorem dX2_actual_102 : decode cX2_actual 102 = .ok (.pop, 1) := by decide +kernel
theorem dX2_actual_103 : decode cX2_actual 103 = .ok (.aload_n 0, 1) := by decide +kernel
theorem dX2_actual_104 : decode cX2_actual 104 = .ok (.iload 4, 2) := by decide +kernel
theorem dX2_actual_106 : decode cX2_actual 106 = .ok (.invokevirtual 250, 3) := by decide +kernel
theorem dX2_actual_109 : decode cX2_actual 109 = .ok (.goto 37, 3) := by decide +kernel
theorem dX2_actual_112 : decode cX2_actual 112 = .ok (.aload_n 0, 1) := by decide +kernel
theorem dX2_actual_113 : decode cX2_actual 113 = .ok (.getfield 26, 3) := by decide +kernel
theorem dX2_actual_116 : decode cX2_actual 116 = .ok (.iload_n 3, 1) := by decide +kernel
theorem dX2_actual_117 : decode cX2_actual 117 = .ok (.invokevirtual 87, 3) := by decide +kernel
theorem dX2_actual_120 : decode cX2_actual 120 = .ok (.ifCond .eq 12, 3) := by decide +kernel
theorem dX2_actual_123 : decode cX2_actual 123 = .ok (.aload_n 0, 1) := by decide +kernel
theorem dX2_actual_124 : decode cX2_actual 124 = .ok (.iload_n 1, 1) := by decide +kernel
theorem dX2_actual_125 : decode cX2_actual 125 = .ok (.iconst 0, 1) := by decide +kernel
theorem dX2_actual_126 : decode cX2_actual 126 = .ok (.invokevirtual 246, 3) := by decide +kernel
theorem dX2_actual_129 : decode cX2_actual 129 = .ok (.goto 17, 3) := by decide +kernel
theorem dX2_actual_132 : decode cX2_actual 132 = .ok (.aload_n 0, 1) := by decide +kernel
theorem dX2_actual_133 : decode cX2_actual 133 = .ok (.iload_n 1, 1) := by decide +kernel
theorem dX2_actual_134 : decode cX2_actual 134 = .ok (.invokevirtual 46, 3) := by decide +kernel
theorem dX2_actual_137 : decode cX2_actual 137 = .ok (.pop, 1) := by decide +kernel
theorem dX2_actual_138 : decode cX2_actual 138 = .ok (.goto 8, 3) := by decide +kernel
theorem dX2_actual_141 : decode cX2_actual 141 = .ok (.aload_n 0, 1) := by decide +kernel
theorem dX2_actual_142 : decode cX2_actual 142 = .ok (.iload_n 2, 1) := by decide +kernel
theorem dX2_actual_143 : decode cX2_actual 143 = .ok (.invokevirtual 253, 3) := by decide +kernel
theorem dX2_actual_146 : decode cX2_actual 146 = .ok (.return_, 1) := by decide +kernel
def fX2_actual (rc : TX2_typed) (a1 : Int32) (a2 : Int32) (w : Wd) : Option (Int32 × Wd) :=
  lt (fX9_at w) fun x1 => lt (fX8_sort a2 w) fun x2 => if x2 = 0 then (lt (fX9_isAim x1 w) fun x4 => if x4 = true then (bn2 (rc 11 a1 0 0 w) fun _ w7 => some (0, w7)) else (bn2 (rc 2 a1 0 0 w) fun x8 w9 => some (0, w9))) else if x2 = 1 then (lt (fX8_type a2 w) fun x11 => bn2 (rc 2 a1 0 0 w) fun x12 w13 => lt (fX1_check x11 x12 x1 w13) fun w14 => some (0, w14)) else if x2 = 4 then (lt2 (fX0_put__ 33 w) fun x16 w17 => bn2 (rc 11 a1 1 0 w17) fun _ w19 => lt2 (fX0_put__ 46 w19) fun x20 w21 => lt (fX2_endThunk x16 w21) fun w22 => some (0, w22)) else (lt (fX2_alone a2 w) fun w23 => some (0, w23))
theorem pX2_actual {q : Gq} {l : Launch} {N : Option Value → Wd → Prop} {X : String → Wd → Prop} {rc : TX2_typed} {dd : Nat} (hS : HSX2_typed q l rc dd) (hK : 8 ≤ dd) {w : Wd} {R : Int32 × Wd} (hN : N none R.2) {a1 : Int32} {a2 : Int32} (h : fX2_actual rc a1 a2 w = some R) : RT (GA q) l (dd + 1) yX2_actual cX2_actual 5 (none) N X 0 [] [(0, .ref 42), (1, .int a1), (2, .int a2)] w := by
  unfold fX2_actual at h
  refine r_aload_n (pc := 0) dX2_actual_0 rfl 0 rfl ?_
  refine r_get (pc := 1) (j := 1) (v := .ref 4) oA42 cf2 flRX2_26 rfl dX2_actual_1 rfl ?_
  replace h := lt_e h; obtain ⟨x1, ex1, h⟩ := h
  refine r_cVi (pc := 4) wyX9_at oA4 rfl mlRX2_40 iyX9_at syX9_at ⟨Nat.succ_le_succ (Nat.le_trans (Nat.le_of_ble_eq_true rfl) hK), (Nat.le_of_ble_eq_true rfl)⟩ rfl rfl (Nat.le_of_ble_eq_true rfl) dX2_actual_4 (mX9_at ex1 (pI.mk ?_))
  refine r_istore_n (pc := 7) (loc' := [(3, .int x1), (0, .ref 42), (1, .int a1), (2, .int a2)]) dX2_actual_7 rfl (Nat.le_of_ble_eq_true rfl) rfl ?_
  refine r_aload_n (pc := 8) dX2_actual_8 rfl 1 rfl ?_
  refine r_get (pc := 9) (j := 2) (v := .ref 13) oA42 cf2 flRX2_31 rfl dX2_actual_9 rfl ?_
  refine r_iload_n (pc := 12) dX2_actual_12 rfl 3 rfl ?_
  replace h := lt_e h; obtain ⟨x2, ex2, h⟩ := h
  refine r_cVi (pc := 13) wyX8_sort oA13 rfl mlRX2_180 iyX8_sort syX8_sort ⟨Nat.succ_le_succ (Nat.le_trans (Nat.le_of_ble_eq_true rfl) hK), (Nat.le_of_ble_eq_true rfl)⟩ rfl rfl (Nat.le_of_ble_eq_true rfl) dX2_actual_13 (mX8_sort ex2 (pI.mk ?_))
  by_cases hc3 : x2 = 0
  · refine r_tabC (pc := 16) (off := 96) (tgt := 112) (L := [0]) dX2_actual_16 hc3 (by decide) rfl ?_
    replace h := if_t hc3 h
    refine r_aload_n (pc := 112) dX2_actual_112 rfl 1 rfl ?_
    refine r_get (pc := 113) (j := 1) (v := .ref 4) oA42 cf2 flRX2_26 rfl dX2_actual_113 rfl ?_
    refine r_iload_n (pc := 116) dX2_actual_116 rfl 0 rfl ?_
    replace h := lt_e h; obtain ⟨x4, ex4, h⟩ := h
    refine r_cVi (pc := 117) wyX9_isAim oA4 rfl mlRX2_87 iyX9_isAim syX9_isAim ⟨Nat.succ_le_succ (Nat.le_trans (Nat.le_of_ble_eq_true rfl) hK), (Nat.le_of_ble_eq_true rfl)⟩ rfl rfl (Nat.le_of_ble_eq_true rfl) dX2_actual_117 (mX9_isAim ex4 (pI.mk ?_))
    refine r_z_eq (pc := 120) dX2_actual_120 rfl (fun hc5 => ?_) (fun hc5 => ?_)
    · replace h := if_f hc5 h
      refine r_aload_n (pc := 132) dX2_actual_132 rfl 1 rfl ?_
      refine r_iload_n (pc := 133) dX2_actual_133 rfl 2 rfl ?_
      replace h := bn2_e h; obtain ⟨x8, w9, ew9, h⟩ := h
      refine r_cVi (pc := 134) wyX2_expression oA42 rfl mlRX2_46 iyX2_expression syX2_expression ⟨Nat.le_refl _, (Nat.le_of_ble_eq_true rfl)⟩ rfl rfl (Nat.le_of_ble_eq_true rfl) dX2_actual_134 ((hS.2.2.1 _ _ _ _ _ _) ew9 (pI.mk ?_))
      refine r_pop (pc := 137) dX2_actual_137 rfl ?_
      refine r_goto (pc := 138) dX2_actual_138 rfl ?_
      exact rOR_v (pc := 146) rfl dX2_actual_146 h hN
    replace h := if_t hc5 h
    refine r_aload_n (pc := 123) dX2_actual_123 rfl 1 rfl ?_
    refine r_iload_n (pc := 124) dX2_actual_124 rfl 2 rfl ?_
    refine r_iconst (pc := 125) dX2_actual_125 ki_0 ?_
    replace h := bn2_e h; obtain ⟨x6, w7, ew7, h⟩ := h
    refine r_cVv (pc := 126) wyX2_aim oA42 rfl mlRX2_246 iyX2_aim syX2_aim ⟨Nat.le_refl _, (Nat.le_of_ble_eq_true rfl)⟩ rfl rfl (Nat.le_of_ble_eq_true rfl) dX2_actual_126 ((hS.2.2.2.2.2.2.2.2.2.2.2.1 _ _ _ _ _ _ _) ew7 (pV.mk ?_))
    refine r_goto (pc := 129) dX2_actual_129 rfl ?_
    exact rOR_v (pc := 146) rfl dX2_actual_146 h hN
  replace h := if_f hc3 h
  by_cases hc10 : x2 = 1
  · refine r_tabC (pc := 16) (off := 36) (tgt := 52) (L := [1]) dX2_actual_16 hc10 (by decide) rfl ?_
    replace h := if_t hc10 h
    refine r_aload_n (pc := 52) dX2_actual_52 rfl 1 rfl ?_
    refine r_get (pc := 53) (j := 0) (v := .ref 3) oA42 cf2 flRX2_16 rfl dX2_actual_53 rfl ?_
    refine r_aload_n (pc := 56) dX2_actual_56 rfl 1 rfl ?_
    refine r_get (pc := 57) (j := 2) (v := .ref 13) oA42 cf2 flRX2_31 rfl dX2_actual_57 rfl ?_
    refine r_iload_n (pc := 60) dX2_actual_60 rfl 3 rfl ?_
    replace h := lt_e h; obtain ⟨x11, ex11, h⟩ := h
    refine r_cVi (pc := 61) wyX8_type oA13 rfl mlRX2_183 iyX8_type syX8_type ⟨Nat.succ_le_succ (Nat.le_trans (Nat.le_of_ble_eq_true rfl) hK), (Nat.le_of_ble_eq_true rfl)⟩ rfl rfl (Nat.le_of_ble_eq_true rfl) dX2_actual_61 (mX8_type ex11 (pI.mk ?_))
    refine r_aload_n (pc := 64) dX2_actual_64 rfl 1 rfl ?_
    refine r_iload_n (pc := 65) dX2_actual_65 rfl 2 rfl ?_
    replace h := bn2_e h; obtain ⟨x12, w13, ew13, h⟩ := h
    refine r_cVi (pc := 66) wyX2_expression oA42 rfl mlRX2_46 iyX2_expression syX2_expression ⟨Nat.le_refl _, (Nat.le_of_ble_eq_true rfl)⟩ rfl rfl (Nat.le_of_ble_eq_true rfl) dX2_actual_66 ((hS.2.2.1 _ _ _ _ _ _) ew13 (pI.mk ?_))
    refine r_iload_n (pc := 69) dX2_actual_69 rfl 0 rfl ?_
    replace h := lt_e h; obtain ⟨w14, ew14, h⟩ := h
    refine r_cVv (pc := 70) wyX1_check oA3 rfl mlRX2_50 iyX1_check syX1_check ⟨Nat.succ_le_succ (Nat.le_trans (Nat.le_of_ble_eq_true rfl) hK), (Nat.le_of_ble_eq_true rfl)⟩ rfl rfl (Nat.le_of_ble_eq_true rfl) dX2_actual_70 (mX1_check ew14 (pV.mk ?_))
    refine r_goto (pc := 73) dX2_actual_73 rfl ?_
    exact rOR_v (pc := 146) rfl dX2_actual_146 h hN
  replace h := if_f hc10 h
  by_cases hc15 : x2 = 4
  · refine r_tabC (pc := 16) (off := 60) (tgt := 76) (L := [4]) dX2_actual_16 hc15 (by decide) rfl ?_
    replace h := if_t hc15 h
    refine r_aload_n (pc := 76) dX2_actual_76 rfl 1 rfl ?_
    refine r_get (pc := 77) (j := 3) (v := .ref 40) oA42 cf2 flRX2_36 rfl dX2_actual_77 rfl ?_
    refine r_bipush (pc := 80) dX2_actual_80 kb_33 ?_
    replace h := lt2_e h; obtain ⟨x16, w17, ew17, h⟩ := h
    refine r_cVi (pc := 82) wyX0_put__ oA40 rfl mlRX2_69 iyX0_put__ syX0_put__ ⟨Nat.succ_le_succ (Nat.le_trans (Nat.le_of_ble_eq_true rfl) hK), (Nat.le_of_ble_eq_true rfl)⟩ rfl rfl (Nat.le_of_ble_eq_true rfl) dX2_actual_82 (mX0_put__ ew17 (pI.mk ?_))
    refine r_istore (pc := 85) (loc' := [(4, .int x16), (3, .int x1), (0, .ref 42), (1, .int a1), (2, .int a2)]) dX2_actual_85 (Nat.le_of_ble_eq_true rfl) rfl ?_
    refine r_aload_n (pc := 87) dX2_actual_87 rfl 2 rfl ?_
    refine r_iload_n (pc := 88) dX2_actual_88 rfl 3 rfl ?_
    refine r_iconst (pc := 89) dX2_actual_89 ki_1 ?_
    replace h := bn2_e h; obtain ⟨x18, w19, ew19, h⟩ := h
    refine r_cVv (pc := 90) wyX2_aim oA42 rfl mlRX2_246 iyX2_aim syX2_aim ⟨Nat.le_refl _, (Nat.le_of_ble_eq_true rfl)⟩ rfl rfl (Nat.le_of_ble_eq_true rfl) dX2_actual_90 ((hS.2.2.2.2.2.2.2.2.2.2.2.1 _ _ _ _ _ _ _) ew19 (pV.mk ?_))
    refine r_aload_n (pc := 93) dX2_actual_93 rfl 2 rfl ?_
    refine r_get (pc := 94) (j := 3) (v := .ref 40) oA42 cf2 flRX2_36 rfl dX2_actual_94 rfl ?_
    refine r_bipush (pc := 97) dX2_actual_97 kb_46 ?_
    replace h := lt2_e h; obtain ⟨x20, w21, ew21, h⟩ := h
    refine r_cVi (pc := 99) wyX0_put__ oA40 rfl mlRX2_69 iyX0_put__ syX0_put__ ⟨Nat.succ_le_succ (Nat.le_trans (Nat.le_of_ble_eq_true rfl) hK), (Nat.le_of_ble_eq_true rfl)⟩ rfl rfl (Nat.le_of_ble_eq_true rfl) dX2_actual_99 (mX0_put__ ew21 (pI.mk ?_))
    refine r_pop (pc := 102) dX2_actual_102 rfl ?_
    refine r_aload_n (pc := 103) dX2_actual_103 rfl 2 rfl ?_
    refine r_iload (pc := 104) dX2_actual_104 0 rfl ?_
    replace h := lt_e h; obtain ⟨w22, ew22, h⟩ := h
    refine r_cVv (pc := 106) wyX2_endThunk oA42 rfl mlRX2_250 iyX2_endThunk syX2_endThunk ⟨Nat.succ_le_succ (Nat.le_trans (Nat.le_of_ble_eq_true rfl) hK), (Nat.le_of_ble_eq_true rfl)⟩ rfl rfl (Nat.le_of_ble_eq_true rfl) dX2_actual_106 (mX2_endThunk ew22 (pV.mk ?_))
    refine r_goto (pc := 109) dX2_actual_109 rfl ?_
    exact rOR_v (pc := 146) rfl dX2_actual_146 h hN
  replace h := if_f hc15 h
  refine r_tabD (pc := 16) (tgt := 141) (K := [[0], [1], [4]]) dX2_actual_16 ⟨hc3, hc10, hc15, trivial⟩ (by decide) (by decide) rfl ?_
  refine r_aload_n (pc := 141) dX2_actual_141 rfl 1 rfl ?_
  refine r_iload_n (pc := 142) dX2_actual_142 rfl 3 rfl ?_
  replace h := lt_e h; obtain ⟨w23, ew23, h⟩ := h
  refine r_cVv (pc := 143) wyX2_alone oA42 rfl mlRX2_253 iyX2_alone syX2_alone ⟨Nat.succ_le_succ (Nat.le_trans (Nat.le_of_ble_eq_true rfl) hK), (Nat.le_of_ble_eq_true rfl)⟩ rfl rfl (Nat.le_of_ble_eq_true rfl) dX2_actual_143 (mX2_alone ew23 (pV.mk ?_))
  exact rOR_v (pc := 146) rfl dX2_actual_146 h hN
/-! AlgolMill$Expressions.element (III)I: O, 908 -/
theorem dX2_element_0 : decode cX2_element 0 = .ok (.aload_n 0, 1) := by decide +kernel
theorem dX2_element_1 : decode cX2_element 1 = .ok (.getfield 16, 3) := by decide +kernel
theorem dX2_element_4 : decode cX2_element 4 = .ok (.iload_n 2, 1) := by decide +kernel
theorem dX2_element_5 : decode cX2_element 5 = .ok (.iconst 2, 1) := by decide +kernel
theorem dX2_element_6 : decode cX2_element 6 = .ok (.invokevirtual 193, 3) := by decide +kernel
theorem dX2_element_9 : decode cX2_element 9 = .ok (.ifCond .ne 12, 3) := by decide +kernel
theorem dX2_element_12 : decode cX2_element 12 = .ok (.aload_n 0, 1) := by decide +kernel
theorem dX2_element_13 : decode cX2_element 13 = .ok (.getfield 16, 3) := by decide +kernel
theorem dX2_element_16 : decode cX2_element 16 = .ok (.iload_n 3, 1) := by decide +kernel
theorem dX2_element_17 : decode cX2_element 17 = .ok (.iconst 4, 1) := by decide +kernel
theorem dX2_element_18 : decode cX2_element 18 = .ok (.invokevirtual 184, 3) := by decide +kernel
theorem dX2_element_21 : decode cX2_element 21 = .ok (.aload_n 0, 1) := by decide +kernel
theorem dX2_element_22 : decode cX2_element 22 = .ok (.getfield 16, 3) := by decide +kernel
theorem dX2_element_25 : decode cX2_element 25 = .ok (.iload_n 2, 1) := by decide +kernel
theorem dX2_element_26 : decode cX2_element 26 = .ok (.invokevirtual 213, 3) := by decide +kernel
theorem dX2_element_29 : decode cX2_element 29 = .ok (.aload_n 0, 1) := by decide +kernel
theorem dX2_element_30 : decode cX2_element 30 = .ok (.getfield 26, 3) := by decide +kernel
theorem dX2_element_33 : decode cX2_element 33 = .ok (.iload_n 1, 1) := by decide +kernel
theorem dX2_element_34 : decode cX2_element 34 = .ok (.invokevirtual 54, 3) := by decide +kernel
theorem dX2_element_37 : decode cX2_element 37 = .ok (.istore 4, 2) := by decide +kernel
theorem dX2_element_39 : decode cX2_element 39 = .ok (.iconst 0, 1) := by decide +kernel
theorem dX2_element_40 : decode cX2_element 40 = .ok (.istore 5, 2) := by decide +kernel
theorem dX2_element_42 : decode cX2_element 42 = .ok (.iload 5, 2) := by decide +kernel
theorem dX2_element_44 : decode cX2_element 44 = .ok (.sipush 8193, 3) := by decide +kernel
theorem dX2_element_47 : decode cX2_element 47 = .ok (.if_icmp .ge 33, 3) := by decide +kernel
theorem dX2_element_50 : decode cX2_element 50 = .ok (.iload 5, 2) := by decide +kernel
theorem dX2_element_52 : decode cX2_element 52 = .ok (.ifCond .eq 15, 3) := by decide +kernel
theorem dX2_element_55 : decode cX2_element 55 = .ok (.aload_n 0, 1) := by decide +kernel
theorem dX2_element_56 : decode cX2_element 56 = .ok (.getfield 26, 3) := by decide +kernel
theorem dX2_element_59 : decode cX2_element 59 = .ok (.bipush 40, 2) := by decide +kernel
theorem dX2_element_61 : decode cX2_element 61 = .ok (.invokevirtual 123, 3) := by decide +kernel
theorem dX2_element_64 : decode cX2_element 64 = .ok (.ifCond .eq 16, 3) := by decide +kernel
theorem dX2_element_67 : decode cX2_element 67 = .ok (.aload_n 0, 1) := by decide +kernel
theorem dX2_element_68 : decode cX2_element 68 = .ok (.iload 4, 2) := by decide +kernel
theorem dX2_element_70 : decode cX2_element 70 = .ok (.iconst 1, 1) := by decide +kernel
theorem dX2_element_71 : decode cX2_element 71 = .ok (.invokevirtual 59, 3) := by decide +kernel
theorem dX2_element_74 : decode cX2_element 74 = .ok (.iinc 5 1, 3) := by decide +kernel
theorem dX2_element_77 : decode cX2_element 77 = .ok (.goto (-35), 3) := by decide +kernel
theorem dX2_element_80 : decode cX2_element 80 = .ok (.aload_n 0, 1) := by decide +kernel
theorem dX2_element_81 : decode cX2_element 81 = .ok (.getfield 26, 3) := by decide +kernel
theorem dX2_element_84 : decode cX2_element 84 = .ok (.bipush 46, 2) := by decide +kernel
theorem dX2_element_86 : decode cX2_element 86 = .ok (.invokevirtual 63, 3) := by decide +kernel
theorem dX2_element_89 : decode cX2_element 89 = .ok (.aload_n 0, 1) := by decide +kernel
theorem dX2_element_90 : decode cX2_element 90 = .ok (.getfield 31, 3) := by decide +kernel
theorem dX2_element_93 : decode cX2_element 93 = .ok (.iload_n 2, 1) := by decide +kernel
theorem dX2_element_94 : decode cX2_element 94 = .ok (.invokevirtual 180, 3) := by decide +kernel
theorem dX2_element_97 : decode cX2_element 97 = .ok (.iconst 2, 1) := by decide +kernel
theorem dX2_element_98 : decode cX2_element 98 = .ok (.if_icmp .ne 62, 3) := by decide +kernel
theorem dX2_element_101 : decode cX2_element 101 = .ok (.aload_n 0, 1) := by decide +kernel
theorem dX2_element_102 : decode cX2_element 102 = .ok (.getfield 31, 3) := by decide +kernel
theorem dX2_element_105 : decode cX2_element 105 = .ok (.iload_n 2, 1) := by decide +kernel
theorem dX2_element_106 : decode cX2_element 106 = .ok (.invokevirtual 197, 3) := by decide +kernel
theorem dX2_element_109 : decode cX2_element 109 = .ok (.ifCond .eq 17, 3) := by decide +kernel
theorem dX2_element_112 : decode cX2_element 112 = .ok (.iload 5, 2) := by decide +kernel
theorem dX2_element_114 : decode cX2_element 114 = .ok (.iconst 3, 1) := by decide +kernel
theorem dX2_element_115 : decode cX2_element 115 = .ok (.if_icmp .gt 7, 3) := by decide +kernel
theorem dX2_element_118 : decode cX2_element 118 = .ok (.iconst 1, 1) := by decide +kernel
theorem dX2_element_119 : decode cX2_element 119 = .ok (.goto 25, 3) := by decide +kernel
theorem dX2_element_122 : decode cX2_element 122 = .ok (.iconst 0, 1) := by decide +kernel
theorem dX2_element_123 : decode cX2_element 123 = .ok (.goto 21, 3) := by decide +kernel
theorem dX2_element_126 : decode cX2_element 126 = .ok (.iload 5, 2) := by decide +kernel
theorem dX2_element_128 : decode cX2_element 128 = .ok (.aload_n 0, 1) := by decide +kernel
theorem dX2_element_129 : decode cX2_element 129 = .ok (.getfield 31, 3) := by decide +kernel
theorem dX2_element_132 : decode cX2_element 132 = .ok (.iload_n 2, 1) := by decide +kernel
theorem dX2_element_133 : decode cX2_element 133 = .ok (.invokevirtual 216, 3) := by decide +kernel
theorem dX2_element_136 : decode cX2_element 136 = .ok (.if_icmp .ne 7, 3) := by decide +kernel
theorem dX2_element_139 : decode cX2_element 139 = .ok (.iconst 1, 1) := by decide +kernel
theorem dX2_element_140 : decode cX2_element 140 = .ok (.goto 4, 3) := by decide +kernel
theorem dX2_element_143 : decode cX2_element 143 = .ok (.iconst 0, 1) := by decide +kernel
theorem dX2_element_144 : decode cX2_element 144 = .ok (.istore 6, 2) := by decide +kernel
theorem dX2_element_146 : decode cX2_element 146 = .ok (.iload 6, 2) := by decide +kernel
theorem dX2_element_148 : decode cX2_element 148 = .ok (.ifCond .ne 12, 3) := by decide +kernel
theorem dX2_element_151 : decode cX2_element 151 = .ok (.aload_n 0, 1) := by decide +kernel
theorem dX2_element_152 : decode cX2_element 152 = .ok (.getfield 16, 3) := by decide +kernel
theorem dX2_element_155 : decode cX2_element 155 = .ok (.iload_n 3, 1) := by decide +kernel
theorem dX2_element_156 : decode cX2_element 156 = .ok (.iconst 5, 1) := by decide +kernel
theorem dX2_element_157 : decode cX2_element 157 = .ok (.invokevirtual 184, 3) := by decide +kernel
theorem dX2_element_160 : decode cX2_element 160 = .ok (.aload_n 0, 1) := by decide +kernel
theorem dX2_element_161 : decode cX2_element 161 = .ok (.getfield 36, 3) := by decide +kernel
theorem dX2_element_164 : decode cX2_element 164 = .ok (.bipush 25, 2) := by decide +kernel
theorem dX2_element_166 : decode cX2_element 166 = .ok (.iload 5, 2) := by decide +kernel
theorem dX2_element_168 : decode cX2_element 168 = .ok (.invokevirtual 211, 3) := by decide +kernel
theorem dX2_element_171 : decode cX2_element 171 = .ok (.pop, 1) := by decide +kernel
theorem dX2_element_172 : decode cX2_element 172 = .ok (.iload 5, 2) := by decide +kernel
theorem dX2_element_174 : decode cX2_element 174 = .ok (.ireturn, 1) := by decide +kernel
def fX2_element_144 (rc : TX2_typed) (s0 : Bool) (a3 : Int32) (a5 : Int32) (w : Wd) : Option (Int32 × Wd) :=
  if s0 = true then (lt2 (fX0_put_ 25 a5 w) fun x2 w3 => some (a5, w3)) else (lt (fX1_wrong a3 5 w) fun w4 => lt2 (fX0_put_ 25 a5 w4) fun x5 w6 => some (a5, w6))
theorem pX2_element_144 {q : Gq} {l : Launch} {N : Option Value → Wd → Prop} {X : String → Wd → Prop} {rc : TX2_typed} {dd : Nat} (hS : HSX2_typed q l rc dd) (hK : 8 ≤ dd) {w : Wd} {R : Int32 × Wd} (hN : N (some (.int R.1)) R.2) {s0 : Bool} {a3 : Int32} {a5 : Int32} (h : fX2_element_144 rc s0 a3 a5 w = some R) : RT (GA q) l (dd + 1) yX2_element cX2_element 7 ((some .int)) N X 144 [.int (b2i s0)] [(0, .ref 42), (3, .int a3), (5, .int a5)] w := by
  unfold fX2_element_144 at h
  refine r_istore (pc := 144) (loc' := [(6, .int (b2i s0)), (0, .ref 42), (3, .int a3), (5, .int a5)]) dX2_element_144 (Nat.le_of_ble_eq_true rfl) rfl ?_
  refine r_iload (pc := 146) dX2_element_146 0 rfl ?_
  refine r_z_ne (pc := 148) dX2_element_148 rfl (fun hc1 => ?_) (fun hc1 => ?_)
  · replace h := if_t hc1 h
    refine r_aload_n (pc := 160) dX2_element_160 rfl 1 rfl ?_
    refine r_get (pc := 161) (j := 3) (v := .ref 40) oA42 cf2 flRX2_36 rfl dX2_element_161 rfl ?_
    refine r_bipush (pc := 164) dX2_element_164 kb_25 ?_
    refine r_iload (pc := 166) dX2_element_166 3 rfl ?_
    replace h := lt2_e h; obtain ⟨x2, w3, ew3, h⟩ := h
    refine r_cVi (pc := 168) wyX0_put_ oA40 rfl mlRX2_211 iyX0_put_ syX0_put_ ⟨Nat.succ_le_succ (Nat.le_trans (Nat.le_of_ble_eq_true rfl) hK), (Nat.le_of_ble_eq_true rfl)⟩ rfl rfl (Nat.le_of_ble_eq_true rfl) dX2_element_168 (mX0_put_ ew3 (pI.mk ?_))
    refine r_pop (pc := 171) dX2_element_171 rfl ?_
    refine r_iload (pc := 172) dX2_element_172 3 rfl ?_
    exact rO_i (pc := 174) rfl dX2_element_174 h hN
  replace h := if_f hc1 h
  refine r_aload_n (pc := 151) dX2_element_151 rfl 1 rfl ?_
  refine r_get (pc := 152) (j := 0) (v := .ref 3) oA42 cf2 flRX2_16 rfl dX2_element_152 rfl ?_
  refine r_iload_n (pc := 155) dX2_element_155 rfl 2 rfl ?_
  refine r_iconst (pc := 156) dX2_element_156 ki_5 ?_
  replace h := lt_e h; obtain ⟨w4, ew4, h⟩ := h
  refine r_cVv (pc := 157) wyX1_wrong oA3 rfl mlRX2_184 iyX1_wrong syX1_wrong ⟨Nat.succ_le_succ (Nat.le_trans (Nat.le_of_ble_eq_true rfl) hK), (Nat.le_of_ble_eq_true rfl)⟩ rfl rfl (Nat.le_of_ble_eq_true rfl) dX2_element_157 (mX1_wrong ew4 (pV.mk ?_))
  refine r_aload_n (pc := 160) dX2_element_160 rfl 1 rfl ?_
  refine r_get (pc := 161) (j := 3) (v := .ref 40) oA42 cf2 flRX2_36 rfl dX2_element_161 rfl ?_
  refine r_bipush (pc := 164) dX2_element_164 kb_25 ?_
  refine r_iload (pc := 166) dX2_element_166 3 rfl ?_
  replace h := lt2_e h; obtain ⟨x5, w6, ew6, h⟩ := h
  refine r_cVi (pc := 168) wyX0_put_ oA40 rfl mlRX2_211 iyX0_put_ syX0_put_ ⟨Nat.succ_le_succ (Nat.le_trans (Nat.le_of_ble_eq_true rfl) hK), (Nat.le_of_ble_eq_true rfl)⟩ rfl rfl (Nat.le_of_ble_eq_true rfl) dX2_element_168 (mX0_put_ ew6 (pI.mk ?_))
  refine r_pop (pc := 171) dX2_element_171 rfl ?_
  refine r_iload (pc := 172) dX2_element_172 3 rfl ?_
  exact rO_i (pc := 174) rfl dX2_element_174 h hN
def fX2_element_80 (rc : TX2_typed) (a2 : Int32) (a3 : Int32) (a5 : Int32) (w : Wd) : Option (Int32 × Wd) :=
  lt (fX9_need 46 w) fun w1 => lt (fX8_sort a2 w1) fun x2 => if x2 = 2 then (lt (fX8_isFormal a2 w1) fun x4 => if x4 = true then (if 3 < a5 then (fX2_element_144 rc false a3 a5 w1) else (fX2_element_144 rc true a3 a5 w1)) else (lt (fX8_size_ a2 w1) fun x7 => if a5 = x7 then (fX2_element_144 rc true a3 a5 w1) else (fX2_element_144 rc false a3 a5 w1))) else (lt2 (fX0_put_ 25 a5 w1) fun x9 w10 => some (a5, w10))
theorem pX2_element_80 {q : Gq} {l : Launch} {N : Option Value → Wd → Prop} {X : String → Wd → Prop} {rc : TX2_typed} {dd : Nat} (hS : HSX2_typed q l rc dd) (hK : 8 ≤ dd) {w : Wd} {R : Int32 × Wd} (hN : N (some (.int R.1)) R.2) {a2 : Int32} {a3 : Int32} {a5 : Int32} (h : fX2_element_80 rc a2 a3 a5 w = some R) : RT (GA q) l (dd + 1) yX2_element cX2_element 7 ((some .int)) N X 80 [] [(0, .ref 42), (2, .int a2), (3, .int a3), (5, .int a5)] w := by
  unfold fX2_element_80 at h
  refine r_aload_n (pc := 80) dX2_element_80 rfl 0 rfl ?_
  refine r_get (pc := 81) (j := 1) (v := .ref 4) oA42 cf2 flRX2_26 rfl dX2_element_81 rfl ?_
  refine r_bipush (pc := 84) dX2_element_84 kb_46 ?_
  replace h := lt_e h; obtain ⟨w1, ew1, h⟩ := h
  refine r_cVv (pc := 86) wyX9_need oA4 rfl mlRX2_63 iyX9_need syX9_need ⟨Nat.succ_le_succ (Nat.le_trans (Nat.le_of_ble_eq_true rfl) hK), (Nat.le_of_ble_eq_true rfl)⟩ rfl rfl (Nat.le_of_ble_eq_true rfl) dX2_element_86 (mX9_need ew1 (pV.mk ?_))
  refine r_aload_n (pc := 89) dX2_element_89 rfl 0 rfl ?_
  refine r_get (pc := 90) (j := 2) (v := .ref 13) oA42 cf2 flRX2_31 rfl dX2_element_90 rfl ?_
  refine r_iload_n (pc := 93) dX2_element_93 rfl 1 rfl ?_
  replace h := lt_e h; obtain ⟨x2, ex2, h⟩ := h
  refine r_cVi (pc := 94) wyX8_sort oA13 rfl mlRX2_180 iyX8_sort syX8_sort ⟨Nat.succ_le_succ (Nat.le_trans (Nat.le_of_ble_eq_true rfl) hK), (Nat.le_of_ble_eq_true rfl)⟩ rfl rfl (Nat.le_of_ble_eq_true rfl) dX2_element_94 (mX8_sort ex2 (pI.mk ?_))
  refine r_iconst (pc := 97) dX2_element_97 ki_2 ?_
  refine r_icmp_ne (pc := 98) dX2_element_98 rfl (fun hc3 => ?_) (fun hc3 => ?_)
  · replace h := if_f hc3 h
    refine r_aload_n (pc := 160) dX2_element_160 rfl 0 rfl ?_
    refine r_get (pc := 161) (j := 3) (v := .ref 40) oA42 cf2 flRX2_36 rfl dX2_element_161 rfl ?_
    refine r_bipush (pc := 164) dX2_element_164 kb_25 ?_
    refine r_iload (pc := 166) dX2_element_166 3 rfl ?_
    replace h := lt2_e h; obtain ⟨x9, w10, ew10, h⟩ := h
    refine r_cVi (pc := 168) wyX0_put_ oA40 rfl mlRX2_211 iyX0_put_ syX0_put_ ⟨Nat.succ_le_succ (Nat.le_trans (Nat.le_of_ble_eq_true rfl) hK), (Nat.le_of_ble_eq_true rfl)⟩ rfl rfl (Nat.le_of_ble_eq_true rfl) dX2_element_168 (mX0_put_ ew10 (pI.mk ?_))
    refine r_pop (pc := 171) dX2_element_171 rfl ?_
    refine r_iload (pc := 172) dX2_element_172 3 rfl ?_
    exact rO_i (pc := 174) rfl dX2_element_174 h hN
  replace h := if_t hc3 h
  refine r_aload_n (pc := 101) dX2_element_101 rfl 0 rfl ?_
  refine r_get (pc := 102) (j := 2) (v := .ref 13) oA42 cf2 flRX2_31 rfl dX2_element_102 rfl ?_
  refine r_iload_n (pc := 105) dX2_element_105 rfl 1 rfl ?_
  replace h := lt_e h; obtain ⟨x4, ex4, h⟩ := h
  refine r_cVi (pc := 106) wyX8_isFormal oA13 rfl mlRX2_197 iyX8_isFormal syX8_isFormal ⟨Nat.succ_le_succ (Nat.le_trans (Nat.le_of_ble_eq_true rfl) hK), (Nat.le_of_ble_eq_true rfl)⟩ rfl rfl (Nat.le_of_ble_eq_true rfl) dX2_element_106 (mX8_isFormal ex4 (pI.mk ?_))
  refine r_z_eq (pc := 109) dX2_element_109 rfl (fun hc5 => ?_) (fun hc5 => ?_)
  · replace h := if_f hc5 h
    refine r_iload (pc := 126) dX2_element_126 3 rfl ?_
    refine r_aload_n (pc := 128) dX2_element_128 rfl 0 rfl ?_
    refine r_get (pc := 129) (j := 2) (v := .ref 13) oA42 cf2 flRX2_31 rfl dX2_element_129 rfl ?_
    refine r_iload_n (pc := 132) dX2_element_132 rfl 1 rfl ?_
    replace h := lt_e h; obtain ⟨x7, ex7, h⟩ := h
    refine r_cVi (pc := 133) wyX8_size_ oA13 rfl mlRX2_216 iyX8_size_ syX8_size_ ⟨Nat.succ_le_succ (Nat.le_trans (Nat.le_of_ble_eq_true rfl) hK), (Nat.le_of_ble_eq_true rfl)⟩ rfl rfl (Nat.le_of_ble_eq_true rfl) dX2_element_133 (mX8_size_ ex7 (pI.mk ?_))
    refine r_icmp_ne (pc := 136) dX2_element_136 rfl (fun hc8 => ?_) (fun hc8 => ?_)
    · replace h := if_f hc8 h
      refine r_iconst (pc := 143) dX2_element_143 ki_0 ?_
      refine r_drop (loc' := [(0, .ref 42), (3, .int a3), (5, .int a5)]) [0, 2, 3] rfl ?_
      exact pX2_element_144 hS hK hN h
    replace h := if_t hc8 h
    refine r_iconst (pc := 139) dX2_element_139 ki_1 ?_
    refine r_goto (pc := 140) dX2_element_140 rfl ?_
    refine r_drop (loc' := [(0, .ref 42), (3, .int a3), (5, .int a5)]) [0, 2, 3] rfl ?_
    exact pX2_element_144 hS hK hN h
  replace h := if_t hc5 h
  refine r_iload (pc := 112) dX2_element_112 3 rfl ?_
  refine r_iconst (pc := 114) dX2_element_114 ki_3 ?_
  refine r_icmp_gt (pc := 115) dX2_element_115 rfl (fun hc6 => ?_) (fun hc6 => ?_)
  · replace h := if_t hc6 h
    refine r_iconst (pc := 122) dX2_element_122 ki_0 ?_
    refine r_goto (pc := 123) dX2_element_123 rfl ?_
    refine r_drop (loc' := [(0, .ref 42), (3, .int a3), (5, .int a5)]) [0, 2, 3] rfl ?_
    exact pX2_element_144 hS hK hN h
  replace h := if_f hc6 h
  refine r_iconst (pc := 118) dX2_element_118 ki_1 ?_
  refine r_goto (pc := 119) dX2_element_119 rfl ?_
  refine r_drop (loc' := [(0, .ref 42), (3, .int a3), (5, .int a5)]) [0, 2, 3] rfl ?_
  exact pX2_element_144 hS hK hN h
def fX2_element_42 (rc : TX2_typed) (k_42 : Int32 → Int32 → Int32 → Int32 → Wd → Option (Int32 × Wd)) (a2 : Int32) (a3 : Int32) (a4 : Int32) (a5 : Int32) (w : Wd) : Option (Int32 × Wd) :=
  if 8193 ≤ a5 then (fX2_element_80 rc a2 a3 a5 w) else (if a5 = 0 then (bn2 (rc 0 a4 1 0 w) fun _ w4 => lt (a5 + 1) fun x5 => k_42 a2 a3 a4 x5 w4) else (lt2 (fX9_take 40 w) fun x6 w7 => if x6 = true then (bn2 (rc 0 a4 1 0 w7) fun _ w10 => lt (a5 + 1) fun x11 => k_42 a2 a3 a4 x11 w10) else (fX2_element_80 rc a2 a3 a5 w7)))
theorem pX2_element_42 {q : Gq} {l : Launch} {N : Option Value → Wd → Prop} {X : String → Wd → Prop} {rc : TX2_typed} {dd : Nat} (hS : HSX2_typed q l rc dd) (hK : 8 ≤ dd) {w : Wd} {R : Int32 × Wd} (hN : N (some (.int R.1)) R.2) {k_42 : Int32 → Int32 → Int32 → Int32 → Wd → Option (Int32 × Wd)} (hk_42 : ∀ (a2 : Int32) (a3 : Int32) (a4 : Int32) (a5 : Int32) (w : Wd), k_42 a2 a3 a4 a5 w = some R → RT (GA q) l (dd + 1) yX2_element cX2_element 7 ((some .int)) N X 42 [] [(0, .ref 42), (2, .int a2), (3, .int a3), (4, .int a4), (5, .int a5)] w) {a2 : Int32} {a3 : Int32} {a4 : Int32} {a5 : Int32} (h : fX2_element_42 rc k_42 a2 a3 a4 a5 w = some R) : RT (GA q) l (dd + 1) yX2_element cX2_element 7 ((some .int)) N X 42 [] [(0, .ref 42), (2, .int a2), (3, .int a3), (4, .int a4), (5, .int a5)] w := by
  unfold fX2_element_42 at h
  refine r_iload (pc := 42) dX2_element_42 4 rfl ?_
  refine r_sipush (pc := 44) dX2_element_44 ks_8193 ?_
  refine r_icmp_ge (pc := 47) dX2_element_47 rfl (fun hc1 => ?_) (fun hc1 => ?_)
  · replace h := if_t hc1 h
    refine r_drop (loc' := [(0, .ref 42), (2, .int a2), (3, .int a3), (5, .int a5)]) [0, 1, 2, 4] rfl ?_
    exact pX2_element_80 hS hK hN h
  replace h := if_f hc1 h
  refine r_iload (pc := 50) dX2_element_50 4 rfl ?_
  refine r_if_eq (pc := 52) dX2_element_52 rfl (fun hc2 => ?_) (fun hc2 => ?_)
  · replace h := if_t hc2 h
    refine r_aload_n (pc := 67) dX2_element_67 rfl 0 rfl ?_
    refine r_iload (pc := 68) dX2_element_68 3 rfl ?_
    refine r_iconst (pc := 70) dX2_element_70 ki_1 ?_
    replace h := bn2_e h; obtain ⟨x3, w4, ew4, h⟩ := h
    refine r_cVv (pc := 71) wyX2_typed oA42 rfl mlRX2_59 iyX2_typed syX2_typed ⟨Nat.le_refl _, (Nat.le_of_ble_eq_true rfl)⟩ rfl rfl (Nat.le_of_ble_eq_true rfl) dX2_element_71 ((hS.1 _ _ _ _ _ _ _) ew4 (pV.mk ?_))
    replace h := lt_e h; obtain ⟨x5, ex5, h⟩ := h
    refine r_inc (pc := 74) (loc' := [(5, .int x5), (0, .ref 42), (2, .int a2), (3, .int a3), (4, .int a4)]) dX2_element_74 ki_1 ex5 4 rfl (Nat.le_of_ble_eq_true rfl) rfl ?_
    refine r_goto (pc := 77) dX2_element_77 rfl ?_
    refine r_drop (loc' := [(0, .ref 42), (2, .int a2), (3, .int a3), (4, .int a4), (5, .int x5)]) [1, 2, 3, 4, 0] rfl ?_
    exact hk_42 a2 a3 a4 x5 w4 h
  replace h := if_f hc2 h
  refine r_aload_n (pc := 55) dX2_element_55 rfl 0 rfl ?_
  refine r_get (pc := 56) (j := 1) (v := .ref 4) oA42 cf2 flRX2_26 rfl dX2_element_56 rfl ?_
  refine r_bipush (pc := 59) dX2_element_59 kb_40 ?_
  replace h := lt2_e h; obtain ⟨x6, w7, ew7, h⟩ := h
  refine r_cVi (pc := 61) wyX9_take oA4 rfl mlRX2_123 iyX9_take syX9_take ⟨Nat.succ_le_succ (Nat.le_trans (Nat.le_of_ble_eq_true rfl) hK), (Nat.le_of_ble_eq_true rfl)⟩ rfl rfl (Nat.le_of_ble_eq_true rfl) dX2_element_61 (mX9_take ew7 (pI.mk ?_))
  refine r_z_eq (pc := 64) dX2_element_64 rfl (fun hc8 => ?_) (fun hc8 => ?_)
  · replace h := if_f hc8 h
    refine r_drop (loc' := [(0, .ref 42), (2, .int a2), (3, .int a3), (5, .int a5)]) [0, 1, 2, 4] rfl ?_
    exact pX2_element_80 hS hK hN h
  replace h := if_t hc8 h
  refine r_aload_n (pc := 67) dX2_element_67 rfl 0 rfl ?_
  refine r_iload (pc := 68) dX2_element_68 3 rfl ?_
  refine r_iconst (pc := 70) dX2_element_70 ki_1 ?_
  replace h := bn2_e h; obtain ⟨x9, w10, ew10, h⟩ := h
  refine r_cVv (pc := 71) wyX2_typed oA42 rfl mlRX2_59 iyX2_typed syX2_typed ⟨Nat.le_refl _, (Nat.le_of_ble_eq_true rfl)⟩ rfl rfl (Nat.le_of_ble_eq_true rfl) dX2_element_71 ((hS.1 _ _ _ _ _ _ _) ew10 (pV.mk ?_))
  replace h := lt_e h; obtain ⟨x11, ex11, h⟩ := h
  refine r_inc (pc := 74) (loc' := [(5, .int x11), (0, .ref 42), (2, .int a2), (3, .int a3), (4, .int a4)]) dX2_element_74 ki_1 ex11 4 rfl (Nat.le_of_ble_eq_true rfl) rfl ?_
  refine r_goto (pc := 77) dX2_element_77 rfl ?_
  refine r_drop (loc' := [(0, .ref 42), (2, .int a2), (3, .int a3), (4, .int a4), (5, .int x11)]) [1, 2, 3, 4, 0] rfl ?_
  exact hk_42 a2 a3 a4 x11 w10 h
def oX2_element_42 (rc : TX2_typed) : Nat → Int32 → Int32 → Int32 → Int32 → Wd → Option (Int32 × Wd)
  | 0 => fun _ _ _ _ _ => none
  | n + 1 => fX2_element_42 rc (oX2_element_42 rc n)
theorem qX2_element_42 {q : Gq} {l : Launch} {N : Option Value → Wd → Prop} {X : String → Wd → Prop} {rc : TX2_typed} {dd : Nat} (hS : HSX2_typed q l rc dd) (hK : 8 ≤ dd) {R : Int32 × Wd} (hN : N (some (.int R.1)) R.2) : ∀ (n : Nat) (a2 : Int32) (a3 : Int32) (a4 : Int32) (a5 : Int32) (w : Wd), oX2_element_42 rc n a2 a3 a4 a5 w = some R → RT (GA q) l (dd + 1) yX2_element cX2_element 7 ((some .int)) N X 42 [] [(0, .ref 42), (2, .int a2), (3, .int a3), (4, .int a4), (5, .int a5)] w := by
  intro n
  induction n with
  | zero =>
    intro a2 a3 a4 a5 w h
    exact absurd h (fun q => nomatch q)
  | succ n ih =>
    intro a2 a3 a4 a5 w h
    exact pX2_element_42 hS hK hN ih h
def fX2_element_21 (rc : TX2_typed) (a1 : Int32) (a2 : Int32) (a3 : Int32) (w : Wd) : Option (Int32 × Wd) :=
  lt (fX1_putSymbol a2 w) fun w1 => lt2 (fX9_open a1 w1) fun x2 w3 => oX2_element_42 rc FU a2 a3 x2 0 w3
theorem pX2_element_21 {q : Gq} {l : Launch} {N : Option Value → Wd → Prop} {X : String → Wd → Prop} {rc : TX2_typed} {dd : Nat} (hS : HSX2_typed q l rc dd) (hK : 8 ≤ dd) {w : Wd} {R : Int32 × Wd} (hN : N (some (.int R.1)) R.2) {a1 : Int32} {a2 : Int32} {a3 : Int32} (h : fX2_element_21 rc a1 a2 a3 w = some R) : RT (GA q) l (dd + 1) yX2_element cX2_element 7 ((some .int)) N X 21 [] [(0, .ref 42), (1, .int a1), (2, .int a2), (3, .int a3)] w := by
  unfold fX2_element_21 at h
  refine r_aload_n (pc := 21) dX2_element_21 rfl 0 rfl ?_
  refine r_get (pc := 22) (j := 0) (v := .ref 3) oA42 cf2 flRX2_16 rfl dX2_element_22 rfl ?_
  refine r_iload_n (pc := 25) dX2_element_25 rfl 2 rfl ?_
  replace h := lt_e h; obtain ⟨w1, ew1, h⟩ := h
  refine r_cVv (pc := 26) wyX1_putSymbol oA3 rfl mlRX2_213 iyX1_putSymbol syX1_putSymbol ⟨Nat.succ_le_succ (Nat.le_trans (Nat.le_of_ble_eq_true rfl) hK), (Nat.le_of_ble_eq_true rfl)⟩ rfl rfl (Nat.le_of_ble_eq_true rfl) dX2_element_26 (mX1_putSymbol ew1 (pV.mk ?_))
  refine r_aload_n (pc := 29) dX2_element_29 rfl 0 rfl ?_
  refine r_get (pc := 30) (j := 1) (v := .ref 4) oA42 cf2 flRX2_26 rfl dX2_element_30 rfl ?_
  refine r_iload_n (pc := 33) dX2_element_33 rfl 1 rfl ?_
  replace h := lt2_e h; obtain ⟨x2, w3, ew3, h⟩ := h
  refine r_cVi (pc := 34) wyX9_open oA4 rfl mlRX2_54 iyX9_open syX9_open ⟨Nat.succ_le_succ (Nat.le_trans (Nat.le_of_ble_eq_true rfl) hK), (Nat.le_of_ble_eq_true rfl)⟩ rfl rfl (Nat.le_of_ble_eq_true rfl) dX2_element_34 (mX9_open ew3 (pI.mk ?_))
  refine r_istore (pc := 37) (loc' := [(4, .int x2), (0, .ref 42), (1, .int a1), (2, .int a2), (3, .int a3)]) dX2_element_37 (Nat.le_of_ble_eq_true rfl) rfl ?_
  refine r_iconst (pc := 39) dX2_element_39 ki_0 ?_
  refine r_istore (pc := 40) (loc' := [(5, .int 0), (4, .int x2), (0, .ref 42), (1, .int a1), (2, .int a2), (3, .int a3)]) dX2_element_40 (Nat.le_of_ble_eq_true rfl) rfl ?_
  refine r_drop (loc' := [(0, .ref 42), (2, .int a2), (3, .int a3), (4, .int x2), (5, .int 0)]) [2, 4, 5, 1, 0] rfl ?_
  exact qX2_element_42 hS hK hN FU a2 a3 x2 0 w3 h
def fX2_element (rc : TX2_typed) (a1 : Int32) (a2 : Int32) (a3 : Int32) (w : Wd) : Option (Int32 × Wd) :=
  lt (fX1_isSort a2 2 w) fun x1 => if x1 = true then (fX2_element_21 rc a1 a2 a3 w) else (lt (fX1_wrong a3 4 w) fun w3 => fX2_element_21 rc a1 a2 a3 w3)
theorem pX2_element {q : Gq} {l : Launch} {N : Option Value → Wd → Prop} {X : String → Wd → Prop} {rc : TX2_typed} {dd : Nat} (hS : HSX2_typed q l rc dd) (hK : 8 ≤ dd) {w : Wd} {R : Int32 × Wd} (hN : N (some (.int R.1)) R.2) {a1 : Int32} {a2 : Int32} {a3 : Int32} (h : fX2_element rc a1 a2 a3 w = some R) : RT (GA q) l (dd + 1) yX2_element cX2_element 7 ((some .int)) N X 0 [] [(0, .ref 42), (1, .int a1), (2, .int a2), (3, .int a3)] w := by
  unfold fX2_element at h
  refine r_aload_n (pc := 0) dX2_element_0 rfl 0 rfl ?_
  refine r_get (pc := 1) (j := 0) (v := .ref 3) oA42 cf2 flRX2_16 rfl dX2_element_1 rfl ?_
  refine r_iload_n (pc := 4) dX2_element_4 rfl 2 rfl ?_
  refine r_iconst (pc := 5) dX2_element_5 ki_2 ?_
  replace h := lt_e h; obtain ⟨x1, ex1, h⟩ := h
  refine r_cVi (pc := 6) wyX1_isSort oA3 rfl mlRX2_193 iyX1_isSort syX1_isSort ⟨Nat.succ_le_succ (Nat.le_trans (Nat.le_of_ble_eq_true rfl) hK), (Nat.le_of_ble_eq_true rfl)⟩ rfl rfl (Nat.le_of_ble_eq_true rfl) dX2_element_6 (mX1_isSort ex1 (pI.mk ?_))
  refine r_z_ne (pc := 9) dX2_element_9 rfl (fun hc2 => ?_) (fun hc2 => ?_)
  · replace h := if_t hc2 h
    exact pX2_element_21 hS hK hN h
  replace h := if_f hc2 h
  refine r_aload_n (pc := 12) dX2_element_12 rfl 0 rfl ?_
  refine r_get (pc := 13) (j := 0) (v := .ref 3) oA42 cf2 flRX2_16 rfl dX2_element_13 rfl ?_
  refine r_iload_n (pc := 16) dX2_element_16 rfl 3 rfl ?_
  refine r_iconst (pc := 17) dX2_element_17 ki_4 ?_
  replace h := lt_e h; obtain ⟨w3, ew3, h⟩ := h
  refine r_cVv (pc := 18) wyX1_wrong oA3 rfl mlRX2_184 iyX1_wrong syX1_wrong ⟨Nat.succ_le_succ (Nat.le_trans (Nat.le_of_ble_eq_true rfl) hK), (Nat.le_of_ble_eq_true rfl)⟩ rfl rfl (Nat.le_of_ble_eq_true rfl) dX2_element_18 (mX1_wrong ew3 (pV.mk ?_))
  exact pX2_element_21 hS hK hN h
/-! AlgolMill$Expressions.place (IZ)I: O, 908 -/
theorem dX2_place_0 : decode cX2_place 0 = .ok (.aload_n 0, 1) := by decide +kernel
theorem dX2_place_1 : decode cX2_place 1 = .ok (.getfield 26, 3) := by decide +kernel
theorem dX2_place_4 : decode cX2_place 4 = .ok (.invokevirtual 40, 3) := by decide +kernel
theorem dX2_place_7 : decode cX2_place 7 = .ok (.istore_n 3, 1) := by decide +kernel
theorem dX2_place_8 : decode cX2_place 8 = .ok (.aload_n 0, 1) := by decide +kernel
theorem dX2_place_9 : decode cX2_place 9 = .ok (.getfield 16, 3) := by decide +kernel
theorem dX2_place_12 : decode cX2_place 12 = .ok (.iload_n 3, 1) := by decide +kernel
theorem dX2_place_13 : decode cX2_place 13 = .ok (.invokevirtual 170, 3) := by decide +kernel
theorem dX2_place_16 : decode cX2_place 16 = .ok (.istore 4, 2) := by decide +kernel
theorem dX2_place_18 : decode cX2_place 18 = .ok (.aload_n 0, 1) := by decide +kernel
theorem dX2_place_19 : decode cX2_place 19 = .ok (.getfield 26, 3) := by decide +kernel
theorem dX2_place_22 : decode cX2_place 22 = .ok (.iconst 2, 1) := by decide +kernel
theorem dX2_place_23 : decode cX2_place 23 = .ok (.invokevirtual 63, 3) := by decide +kernel
theorem dX2_place_26 : decode cX2_place 26 = .ok (.aload_n 0, 1) := by decide +kernel
theorem dX2_place_27 : decode cX2_place 27 = .ok (.getfield 26, 3) := by decide +kernel
theorem dX2_place_30 : decode cX2_place 30 = .ok (.invokevirtual 75, 3) := by decide +kernel
theorem dX2_place_33 : decode cX2_place 33 = .ok (.bipush 45, 2) := by decide +kernel
theorem dX2_place_35 : decode cX2_place 35 = .ok (.if_icmp .ne 20, 3) := by decide +kernel
theorem dX2_place_38 : decode cX2_place 38 = .ok (.aload_n 0, 1) := by decide +kernel
theorem dX2_place_39 : decode cX2_place 39 = .ok (.iload_n 1, 1) := by decide +kernel
theorem dX2_place_40 : decode cX2_place 40 = .ok (.iload 4, 2) := by decide +kernel
theorem dX2_place_42 : decode cX2_place 42 = .ok (.iload_n 3, 1) := by decide +kernel
theorem dX2_place_43 : decode cX2_place 43 = .ok (.invokevirtual 173, 3) := by decide +kernel
theorem dX2_place_46 : decode cX2_place 46 = .ok (.pop, 1) := by decide +kernel
theorem dX2_place_47 : decode cX2_place 47 = .ok (.aload_n 0, 1) := by decide +kernel
theorem dX2_place_48 : decode cX2_place 48 = .ok (.iload 4, 2) := by decide +kernel
theorem dX2_place_50 : decode cX2_place 50 = .ok (.iconst 2, 1) := by decide +kernel
theorem dX2_place_51 : decode cX2_place 51 = .ok (.invokevirtual 177, 3) := by decide +kernel
theorem dX2_place_54 : decode cX2_place 54 = .ok (.ireturn, 1) := by decide +kernel
theorem dX2_place_55 : decode cX2_place 55 = .ok (.aload_n 0, 1) := by decide +kernel
theorem dX2_place_56 : decode cX2_place 56 = .ok (.getfield 31, 3) := by decide +kernel
theorem dX2_place_59 : decode cX2_place 59 = .ok (.iload 4, 2) := by decide +kernel
theorem dX2_place_61 : decode cX2_place 61 = .ok (.invokevirtual 180, 3) := by decide +kernel
theorem dX2_place_64 : decode cX2_place 64 = .ok (.iconst 3, 1) := by decide +kernel
theorem dX2_place_65 : decode cX2_place 65 = .ok (.if_icmp .ne 12, 3) := by decide +kernel
theorem dX2_place_68 : decode cX2_place 68 = .ok (.aload_n 0, 1) := by decide +kernel
theorem dX2_place_69 : decode cX2_place 69 = .ok (.iload 4, 2) := by decide +kernel
theorem dX2_place_71 : decode cX2_place 71 = .ok (.iload_n 3, 1) := by decide +kernel
theorem dX2_place_72 : decode cX2_place 72 = .ok (.iload_n 2, 1) := by decide +kernel
theorem dX2_place_73 : decode cX2_place 73 = .ok (.invokevirtual 219, 3) := by decide +kernel
theorem dX2_place_76 : decode cX2_place 76 = .ok (.ireturn, 1) := by decide +kernel
theorem dX2_place_77 : decode cX2_place 77 = .ok (.aload_n 0, 1) := by decide +kernel
theorem dX2_place_78 : decode cX2_place 78 = .ok (.getfield 16, 3) := by decide +kernel
theorem dX2_place_81 : decode cX2_place 81 = .ok (.iload 4, 2) := by decide +kernel
theorem dX2_place_83 : decode cX2_place 83 = .ok (.iconst 1, 1) := by decide +kernel
theorem dX2_place_84 : decode cX2_place 84 = .ok (.invokevirtual 193, 3) := by decide +kernel
theorem dX2_place_87 : decode cX2_place 87 = .ok (.ifCond .ne 12, 3) := by decide +kernel
theorem dX2_place_90 : decode cX2_place 90 = .ok (.aload_n 0, 1) := by decide +kernel
theorem dX2_place_91 : decode cX2_place 91 = .ok (.getfield 16, 3) := by decide +kernel
theorem dX2_place_94 : decode cX2_place 94 = .ok (.iload_n 3, 1) := by decide +kernel
theorem dX2_place_95 : decode cX2_place 95 = .ok (.iconst 4, 1) := by decide +kernel
theorem dX2_place_96 : decode cX2_place 96 = .ok (.invokevirtual 184, 3) := by decide +kernel
theorem dX2_place_99 : decode cX2_place 99 = .ok (.aload_n 0, 1) := by decide +kernel
theorem dX2_place_100 : decode cX2_place 100 = .ok (.getfield 31, 3) := by decide +kernel
theorem dX2_place_103 : decode cX2_place 103 = .ok (.iload 4, 2) := by decide +kernel
theorem dX2_place_105 : decode cX2_place 105 = .ok (.invokevirtual 197, 3) := by decide +kernel
theorem dX2_place_108 : decode cX2_place 108 = .ok (.ifCond .eq 13, 3) := by decide +kernel
theorem dX2_place_111 : decode cX2_place 111 = .ok (.aload_n 0, 1) := by decide +kernel
theorem dX2_place_112 : decode cX2_place 112 = .ok (.iload 4, 2) := by decide +kernel
theorem dX2_place_114 : decode cX2_place 114 = .ok (.iconst 1, 1) := by decide +kernel
theorem dX2_place_115 : decode cX2_place 115 = .ok (.invokevirtual 200, 3) := by decide +kernel
theorem dX2_place_118 : decode cX2_place 118 = .ok (.goto 31, 3) := by decide +kernel
theorem dX2_place_121 : decode cX2_place 121 = .ok (.aload_n 0, 1) := by decide +kernel
theorem dX2_place_122 : decode cX2_place 122 = .ok (.getfield 36, 3) := by decide +kernel
theorem dX2_place_125 : decode cX2_place 125 = .ok (.bipush 20, 2) := by decide +kernel
theorem dX2_place_127 : decode cX2_place 127 = .ok (.aload_n 0, 1) := by decide +kernel
theorem dX2_place_128 : decode cX2_place 128 = .ok (.getfield 16, 3) := by decide +kernel
theorem dX2_place_131 : decode cX2_place 131 = .ok (.iload 4, 2) := by decide +kernel
theorem dX2_place_133 : decode cX2_place 133 = .ok (.invokevirtual 203, 3) := by decide +kernel
theorem dX2_place_136 : decode cX2_place 136 = .ok (.aload_n 0, 1) := by decide +kernel
theorem dX2_place_137 : decode cX2_place 137 = .ok (.getfield 31, 3) := by decide +kernel
theorem dX2_place_140 : decode cX2_place 140 = .ok (.iload 4, 2) := by decide +kernel
theorem dX2_place_142 : decode cX2_place 142 = .ok (.invokevirtual 206, 3) := by decide +kernel
theorem dX2_place_145 : decode cX2_place 145 = .ok (.invokevirtual 209, 3) := by decide +kernel
theorem dX2_place_148 : decode cX2_place 148 = .ok (.pop, 1) := by decide +kernel
theorem dX2_place_149 : decode cX2_place 149 = .ok (.aload_n 0, 1) := by decide +kernel
theorem dX2_place_150 : decode cX2_place 150 = .ok (.iload 4, 2) := by decide +kernel
theorem dX2_place_152 : decode cX2_place 152 = .ok (.iconst 1, 1) := by decide +kernel
theorem dX2_place_153 : decode cX2_place 153 = .ok (.invokevirtual 177, 3) := by decide +kernel
theorem dX2_place_156 : decode cX2_place 156 = .ok (.ireturn, 1) := by decide +kernel
def fX2_place_99 (rc : TX2_typed) (a4 : Int32) (w : Wd) : Option (Int32 × Wd) :=
  lt (fX8_isFormal a4 w) fun x1 => if x1 = true then (lt (fX2_use a4 1 w) fun w3 => lt (fX2_typeIf a4 1 w3) fun x4 => some (x4, w3)) else (lt (fX1_hops a4 w) fun x5 => lt (fX8_slot a4 w) fun x6 => lt2 (fX0_put 20 x5 x6 w) fun x7 w8 => lt (fX2_typeIf a4 1 w8) fun x9 => some (x9, w8))
theorem pX2_place_99 {q : Gq} {l : Launch} {N : Option Value → Wd → Prop} {X : String → Wd → Prop} {rc : TX2_typed} {dd : Nat} (hS : HSX2_typed q l rc dd) (hK : 8 ≤ dd) {w : Wd} {R : Int32 × Wd} (hN : N (some (.int R.1)) R.2) {a4 : Int32} (h : fX2_place_99 rc a4 w = some R) : RT (GA q) l (dd + 1) yX2_place cX2_place 5 ((some .int)) N X 99 [] [(0, .ref 42), (4, .int a4)] w := by
  unfold fX2_place_99 at h
  refine r_aload_n (pc := 99) dX2_place_99 rfl 0 rfl ?_
  refine r_get (pc := 100) (j := 2) (v := .ref 13) oA42 cf2 flRX2_31 rfl dX2_place_100 rfl ?_
  refine r_iload (pc := 103) dX2_place_103 1 rfl ?_
  replace h := lt_e h; obtain ⟨x1, ex1, h⟩ := h
  refine r_cVi (pc := 105) wyX8_isFormal oA13 rfl mlRX2_197 iyX8_isFormal syX8_isFormal ⟨Nat.succ_le_succ (Nat.le_trans (Nat.le_of_ble_eq_true rfl) hK), (Nat.le_of_ble_eq_true rfl)⟩ rfl rfl (Nat.le_of_ble_eq_true rfl) dX2_place_105 (mX8_isFormal ex1 (pI.mk ?_))
  refine r_z_eq (pc := 108) dX2_place_108 rfl (fun hc2 => ?_) (fun hc2 => ?_)
  · replace h := if_f hc2 h
    refine r_aload_n (pc := 121) dX2_place_121 rfl 0 rfl ?_
    refine r_get (pc := 122) (j := 3) (v := .ref 40) oA42 cf2 flRX2_36 rfl dX2_place_122 rfl ?_
    refine r_bipush (pc := 125) dX2_place_125 kb_20 ?_
    refine r_aload_n (pc := 127) dX2_place_127 rfl 0 rfl ?_
    refine r_get (pc := 128) (j := 0) (v := .ref 3) oA42 cf2 flRX2_16 rfl dX2_place_128 rfl ?_
    refine r_iload (pc := 131) dX2_place_131 1 rfl ?_
    replace h := lt_e h; obtain ⟨x5, ex5, h⟩ := h
    refine r_cVi (pc := 133) wyX1_hops oA3 rfl mlRX2_203 iyX1_hops syX1_hops ⟨Nat.succ_le_succ (Nat.le_trans (Nat.le_of_ble_eq_true rfl) hK), (Nat.le_of_ble_eq_true rfl)⟩ rfl rfl (Nat.le_of_ble_eq_true rfl) dX2_place_133 (mX1_hops ex5 (pI.mk ?_))
    refine r_aload_n (pc := 136) dX2_place_136 rfl 0 rfl ?_
    refine r_get (pc := 137) (j := 2) (v := .ref 13) oA42 cf2 flRX2_31 rfl dX2_place_137 rfl ?_
    refine r_iload (pc := 140) dX2_place_140 1 rfl ?_
    replace h := lt_e h; obtain ⟨x6, ex6, h⟩ := h
    refine r_cVi (pc := 142) wyX8_slot oA13 rfl mlRX2_206 iyX8_slot syX8_slot ⟨Nat.succ_le_succ (Nat.le_trans (Nat.le_of_ble_eq_true rfl) hK), (Nat.le_of_ble_eq_true rfl)⟩ rfl rfl (Nat.le_of_ble_eq_true rfl) dX2_place_142 (mX8_slot ex6 (pI.mk ?_))
    replace h := lt2_e h; obtain ⟨x7, w8, ew8, h⟩ := h
    refine r_cVi (pc := 145) wyX0_put oA40 rfl mlRX2_209 iyX0_put syX0_put ⟨Nat.succ_le_succ (Nat.le_trans (Nat.le_of_ble_eq_true rfl) hK), (Nat.le_of_ble_eq_true rfl)⟩ rfl rfl (Nat.le_of_ble_eq_true rfl) dX2_place_145 (mX0_put ew8 (pI.mk ?_))
    refine r_pop (pc := 148) dX2_place_148 rfl ?_
    refine r_aload_n (pc := 149) dX2_place_149 rfl 0 rfl ?_
    refine r_iload (pc := 150) dX2_place_150 1 rfl ?_
    refine r_iconst (pc := 152) dX2_place_152 ki_1 ?_
    replace h := lt_e h; obtain ⟨x9, ex9, h⟩ := h
    refine r_cVi (pc := 153) wyX2_typeIf oA42 rfl mlRX2_177 iyX2_typeIf syX2_typeIf ⟨Nat.succ_le_succ (Nat.le_trans (Nat.le_of_ble_eq_true rfl) hK), (Nat.le_of_ble_eq_true rfl)⟩ rfl rfl (Nat.le_of_ble_eq_true rfl) dX2_place_153 (mX2_typeIf ex9 (pI.mk ?_))
    exact rO_i (pc := 156) rfl dX2_place_156 h hN
  replace h := if_t hc2 h
  refine r_aload_n (pc := 111) dX2_place_111 rfl 0 rfl ?_
  refine r_iload (pc := 112) dX2_place_112 1 rfl ?_
  refine r_iconst (pc := 114) dX2_place_114 ki_1 ?_
  replace h := lt_e h; obtain ⟨w3, ew3, h⟩ := h
  refine r_cVv (pc := 115) wyX2_use oA42 rfl mlRX2_200 iyX2_use syX2_use ⟨Nat.succ_le_succ (Nat.le_trans (Nat.le_of_ble_eq_true rfl) hK), (Nat.le_of_ble_eq_true rfl)⟩ rfl rfl (Nat.le_of_ble_eq_true rfl) dX2_place_115 (mX2_use ew3 (pV.mk ?_))
  refine r_goto (pc := 118) dX2_place_118 rfl ?_
  refine r_aload_n (pc := 149) dX2_place_149 rfl 0 rfl ?_
  refine r_iload (pc := 150) dX2_place_150 1 rfl ?_
  refine r_iconst (pc := 152) dX2_place_152 ki_1 ?_
  replace h := lt_e h; obtain ⟨x4, ex4, h⟩ := h
  refine r_cVi (pc := 153) wyX2_typeIf oA42 rfl mlRX2_177 iyX2_typeIf syX2_typeIf ⟨Nat.succ_le_succ (Nat.le_trans (Nat.le_of_ble_eq_true rfl) hK), (Nat.le_of_ble_eq_true rfl)⟩ rfl rfl (Nat.le_of_ble_eq_true rfl) dX2_place_153 (mX2_typeIf ex4 (pI.mk ?_))
  exact rO_i (pc := 156) rfl dX2_place_156 h hN
def fX2_place (rc : TX2_typed) (a1 : Int32) (a2 : Int32) (w : Wd) : Option (Int32 × Wd) :=
  lt (fX9_at w) fun x1 => lt2 (fX1_find x1 w) fun x2 w3 => lt (fX9_need 2 w3) fun w4 => lt (fX9_kind w4) fun x5 => if x5 = 45 then (bn2 (rc 6 a1 x2 x1 w4) fun x7 w8 => lt (fX2_typeIf x2 2 w8) fun x9 => some (x9, w8)) else (lt (fX8_sort x2 w4) fun x10 => if x10 = 3 then (lt2 (fX2_result x2 x1 a2 w4) fun x12 w13 => some (x12, w13)) else (lt (fX1_isSort x2 1 w4) fun x14 => if x14 = true then (fX2_place_99 rc x2 w4) else (lt (fX1_wrong x1 4 w4) fun w16 => fX2_place_99 rc x2 w16)))
theorem pX2_place {q : Gq} {l : Launch} {N : Option Value → Wd → Prop} {X : String → Wd → Prop} {rc : TX2_typed} {dd : Nat} (hS : HSX2_typed q l rc dd) (hK : 8 ≤ dd) {w : Wd} {R : Int32 × Wd} (hN : N (some (.int R.1)) R.2) {a1 : Int32} {a2 : Int32} (h : fX2_place rc a1 a2 w = some R) : RT (GA q) l (dd + 1) yX2_place cX2_place 5 ((some .int)) N X 0 [] [(0, .ref 42), (1, .int a1), (2, .int a2)] w := by
  unfold fX2_place at h
  refine r_aload_n (pc := 0) dX2_place_0 rfl 0 rfl ?_
  refine r_get (pc := 1) (j := 1) (v := .ref 4) oA42 cf2 flRX2_26 rfl dX2_place_1 rfl ?_
  replace h := lt_e h; obtain ⟨x1, ex1, h⟩ := h
  refine r_cVi (pc := 4) wyX9_at oA4 rfl mlRX2_40 iyX9_at syX9_at ⟨Nat.succ_le_succ (Nat.le_trans (Nat.le_of_ble_eq_true rfl) hK), (Nat.le_of_ble_eq_true rfl)⟩ rfl rfl (Nat.le_of_ble_eq_true rfl) dX2_place_4 (mX9_at ex1 (pI.mk ?_))
  refine r_istore_n (pc := 7) (loc' := [(3, .int x1), (0, .ref 42), (1, .int a1), (2, .int a2)]) dX2_place_7 rfl (Nat.le_of_ble_eq_true rfl) rfl ?_
  refine r_aload_n (pc := 8) dX2_place_8 rfl 1 rfl ?_
  refine r_get (pc := 9) (j := 0) (v := .ref 3) oA42 cf2 flRX2_16 rfl dX2_place_9 rfl ?_
  refine r_iload_n (pc := 12) dX2_place_12 rfl 0 rfl ?_
  replace h := lt2_e h; obtain ⟨x2, w3, ew3, h⟩ := h
  refine r_cVi (pc := 13) wyX1_find oA3 rfl mlRX2_170 iyX1_find syX1_find ⟨Nat.succ_le_succ (Nat.le_trans (Nat.le_of_ble_eq_true rfl) hK), (Nat.le_of_ble_eq_true rfl)⟩ rfl rfl (Nat.le_of_ble_eq_true rfl) dX2_place_13 (mX1_find ew3 (pI.mk ?_))
  refine r_istore (pc := 16) (loc' := [(4, .int x2), (3, .int x1), (0, .ref 42), (1, .int a1), (2, .int a2)]) dX2_place_16 (Nat.le_of_ble_eq_true rfl) rfl ?_
  refine r_aload_n (pc := 18) dX2_place_18 rfl 2 rfl ?_
  refine r_get (pc := 19) (j := 1) (v := .ref 4) oA42 cf2 flRX2_26 rfl dX2_place_19 rfl ?_
  refine r_iconst (pc := 22) dX2_place_22 ki_2 ?_
  replace h := lt_e h; obtain ⟨w4, ew4, h⟩ := h
  refine r_cVv (pc := 23) wyX9_need oA4 rfl mlRX2_63 iyX9_need syX9_need ⟨Nat.succ_le_succ (Nat.le_trans (Nat.le_of_ble_eq_true rfl) hK), (Nat.le_of_ble_eq_true rfl)⟩ rfl rfl (Nat.le_of_ble_eq_true rfl) dX2_place_23 (mX9_need ew4 (pV.mk ?_))
  refine r_aload_n (pc := 26) dX2_place_26 rfl 2 rfl ?_
  refine r_get (pc := 27) (j := 1) (v := .ref 4) oA42 cf2 flRX2_26 rfl dX2_place_27 rfl ?_
  replace h := lt_e h; obtain ⟨x5, ex5, h⟩ := h
  refine r_cVi (pc := 30) wyX9_kind oA4 rfl mlRX2_75 iyX9_kind syX9_kind ⟨Nat.succ_le_succ (Nat.le_trans (Nat.le_of_ble_eq_true rfl) hK), (Nat.le_of_ble_eq_true rfl)⟩ rfl rfl (Nat.le_of_ble_eq_true rfl) dX2_place_30 (mX9_kind ex5 (pI.mk ?_))
  refine r_bipush (pc := 33) dX2_place_33 kb_45 ?_
  refine r_icmp_ne (pc := 35) dX2_place_35 rfl (fun hc6 => ?_) (fun hc6 => ?_)
  · replace h := if_f hc6 h
    refine r_aload_n (pc := 55) dX2_place_55 rfl 2 rfl ?_
    refine r_get (pc := 56) (j := 2) (v := .ref 13) oA42 cf2 flRX2_31 rfl dX2_place_56 rfl ?_
    refine r_iload (pc := 59) dX2_place_59 0 rfl ?_
    replace h := lt_e h; obtain ⟨x10, ex10, h⟩ := h
    refine r_cVi (pc := 61) wyX8_sort oA13 rfl mlRX2_180 iyX8_sort syX8_sort ⟨Nat.succ_le_succ (Nat.le_trans (Nat.le_of_ble_eq_true rfl) hK), (Nat.le_of_ble_eq_true rfl)⟩ rfl rfl (Nat.le_of_ble_eq_true rfl) dX2_place_61 (mX8_sort ex10 (pI.mk ?_))
    refine r_iconst (pc := 64) dX2_place_64 ki_3 ?_
    refine r_icmp_ne (pc := 65) dX2_place_65 rfl (fun hc11 => ?_) (fun hc11 => ?_)
    · replace h := if_f hc11 h
      refine r_aload_n (pc := 77) dX2_place_77 rfl 2 rfl ?_
      refine r_get (pc := 78) (j := 0) (v := .ref 3) oA42 cf2 flRX2_16 rfl dX2_place_78 rfl ?_
      refine r_iload (pc := 81) dX2_place_81 0 rfl ?_
      refine r_iconst (pc := 83) dX2_place_83 ki_1 ?_
      replace h := lt_e h; obtain ⟨x14, ex14, h⟩ := h
      refine r_cVi (pc := 84) wyX1_isSort oA3 rfl mlRX2_193 iyX1_isSort syX1_isSort ⟨Nat.succ_le_succ (Nat.le_trans (Nat.le_of_ble_eq_true rfl) hK), (Nat.le_of_ble_eq_true rfl)⟩ rfl rfl (Nat.le_of_ble_eq_true rfl) dX2_place_84 (mX1_isSort ex14 (pI.mk ?_))
      refine r_z_ne (pc := 87) dX2_place_87 rfl (fun hc15 => ?_) (fun hc15 => ?_)
      · replace h := if_t hc15 h
        refine r_drop (loc' := [(0, .ref 42), (4, .int x2)]) [2, 0] rfl ?_
        exact pX2_place_99 hS hK hN h
      replace h := if_f hc15 h
      refine r_aload_n (pc := 90) dX2_place_90 rfl 2 rfl ?_
      refine r_get (pc := 91) (j := 0) (v := .ref 3) oA42 cf2 flRX2_16 rfl dX2_place_91 rfl ?_
      refine r_iload_n (pc := 94) dX2_place_94 rfl 1 rfl ?_
      refine r_iconst (pc := 95) dX2_place_95 ki_4 ?_
      replace h := lt_e h; obtain ⟨w16, ew16, h⟩ := h
      refine r_cVv (pc := 96) wyX1_wrong oA3 rfl mlRX2_184 iyX1_wrong syX1_wrong ⟨Nat.succ_le_succ (Nat.le_trans (Nat.le_of_ble_eq_true rfl) hK), (Nat.le_of_ble_eq_true rfl)⟩ rfl rfl (Nat.le_of_ble_eq_true rfl) dX2_place_96 (mX1_wrong ew16 (pV.mk ?_))
      refine r_drop (loc' := [(0, .ref 42), (4, .int x2)]) [2, 0] rfl ?_
      exact pX2_place_99 hS hK hN h
    replace h := if_t hc11 h
    refine r_aload_n (pc := 68) dX2_place_68 rfl 2 rfl ?_
    refine r_iload (pc := 69) dX2_place_69 0 rfl ?_
    refine r_iload_n (pc := 71) dX2_place_71 rfl 1 rfl ?_
    refine r_iload_n (pc := 72) dX2_place_72 rfl 4 rfl ?_
    replace h := lt2_e h; obtain ⟨x12, w13, ew13, h⟩ := h
    refine r_cVi (pc := 73) wyX2_result oA42 rfl mlRX2_219 iyX2_result syX2_result ⟨Nat.succ_le_succ (Nat.le_trans (Nat.le_of_ble_eq_true rfl) hK), (Nat.le_of_ble_eq_true rfl)⟩ rfl rfl (Nat.le_of_ble_eq_true rfl) dX2_place_73 (mX2_result ew13 (pI.mk ?_))
    exact rO_i (pc := 76) rfl dX2_place_76 h hN
  replace h := if_t hc6 h
  refine r_aload_n (pc := 38) dX2_place_38 rfl 2 rfl ?_
  refine r_iload_n (pc := 39) dX2_place_39 rfl 3 rfl ?_
  refine r_iload (pc := 40) dX2_place_40 0 rfl ?_
  refine r_iload_n (pc := 42) dX2_place_42 rfl 1 rfl ?_
  replace h := bn2_e h; obtain ⟨x7, w8, ew8, h⟩ := h
  refine r_cVi (pc := 43) wyX2_element oA42 rfl mlRX2_173 iyX2_element syX2_element ⟨Nat.le_refl _, (Nat.le_of_ble_eq_true rfl)⟩ rfl rfl (Nat.le_of_ble_eq_true rfl) dX2_place_43 ((hS.2.2.2.2.2.2.1 _ _ _ _ _ _ _ _) ew8 (pI.mk ?_))
  refine r_pop (pc := 46) dX2_place_46 rfl ?_
  refine r_aload_n (pc := 47) dX2_place_47 rfl 2 rfl ?_
  refine r_iload (pc := 48) dX2_place_48 0 rfl ?_
  refine r_iconst (pc := 50) dX2_place_50 ki_2 ?_
  replace h := lt_e h; obtain ⟨x9, ex9, h⟩ := h
  refine r_cVi (pc := 51) wyX2_typeIf oA42 rfl mlRX2_177 iyX2_typeIf syX2_typeIf ⟨Nat.succ_le_succ (Nat.le_trans (Nat.le_of_ble_eq_true rfl) hK), (Nat.le_of_ble_eq_true rfl)⟩ rfl rfl (Nat.le_of_ble_eq_true rfl) dX2_place_51 (mX2_typeIf ex9 (pI.mk ?_))
  exact rO_i (pc := 54) rfl dX2_place_54 h hN
/-! AlgolMill$Expressions.thunk (II)V: O, 908 -/
theorem dX2_thunk_0 : decode cX2_thunk 0 = .ok (.aload_n 0, 1) := by decide +kernel
theorem dX2_thunk_1 : decode cX2_thunk 1 = .ok (.getfield 26, 3) := by decide +kernel
theorem dX2_thunk_4 : decode cX2_thunk 4 = .ok (.invokevirtual 40, 3) := by decide +kernel
theorem dX2_thunk_7 : decode cX2_thunk 7 = .ok (.istore_n 3, 1) := by decide +kernel
theorem dX2_thunk_8 : decode cX2_thunk 8 = .ok (.aload_n 0, 1) := by decide +kernel
theorem dX2_thunk_9 : decode cX2_thunk 9 = .ok (.getfield 36, 3) := by decide +kernel
theorem dX2_thunk_12 : decode cX2_thunk 12 = .ok (.bipush 33, 2) := by decide +kernel
theorem dX2_thunk_14 : decode cX2_thunk 14 = .ok (.invokevirtual 69, 3) := by decide +kernel
theorem dX2_thunk_17 : decode cX2_thunk 17 = .ok (.istore 4, 2) := by decide +kernel
theorem dX2_thunk_19 : decode cX2_thunk 19 = .ok (.aload_n 0, 1) := by decide +kernel
theorem dX2_thunk_20 : decode cX2_thunk 20 = .ok (.getfield 26, 3) := by decide +kernel
theorem dX2_thunk_23 : decode cX2_thunk 23 = .ok (.iload_n 3, 1) := by decide +kernel
theorem dX2_thunk_24 : decode cX2_thunk 24 = .ok (.invokevirtual 256, 3) := by decide +kernel
theorem dX2_thunk_27 : decode cX2_thunk 27 = .ok (.ifCond .eq 14, 3) := by decide +kernel
theorem dX2_thunk_30 : decode cX2_thunk 30 = .ok (.aload_n 0, 1) := by decide +kernel
theorem dX2_thunk_31 : decode cX2_thunk 31 = .ok (.getfield 16, 3) := by decide +kernel
theorem dX2_thunk_34 : decode cX2_thunk 34 = .ok (.iload_n 3, 1) := by decide +kernel
theorem dX2_thunk_35 : decode cX2_thunk 35 = .ok (.invokevirtual 170, 3) := by decide +kernel
theorem dX2_thunk_38 : decode cX2_thunk 38 = .ok (.goto 4, 3) := by decide +kernel
theorem dX2_thunk_41 : decode cX2_thunk 41 = .ok (.iconst 0, 1) := by decide +kernel
theorem dX2_thunk_42 : decode cX2_thunk 42 = .ok (.istore 5, 2) := by decide +kernel
theorem dX2_thunk_44 : decode cX2_thunk 44 = .ok (.aload_n 0, 1) := by decide +kernel
theorem dX2_thunk_45 : decode cX2_thunk 45 = .ok (.getfield 26, 3) := by decide +kernel
theorem dX2_thunk_48 : decode cX2_thunk 48 = .ok (.iload_n 3, 1) := by decide +kernel
theorem dX2_thunk_49 : decode cX2_thunk 49 = .ok (.invokevirtual 259, 3) := by decide +kernel
theorem dX2_thunk_52 : decode cX2_thunk 52 = .ok (.iconst 1, 1) := by decide +kernel
theorem dX2_thunk_53 : decode cX2_thunk 53 = .ok (.if_icmp .ne 7, 3) := by decide +kernel
theorem dX2_thunk_56 : decode cX2_thunk 56 = .ok (.iconst 1, 1) := by decide +kernel
theorem dX2_thunk_57 : decode cX2_thunk 57 = .ok (.goto 4, 3) := by decide +kernel
theorem dX2_thunk_60 : decode cX2_thunk 60 = .ok (.iconst 0, 1) := by decide +kernel
theorem dX2_thunk_61 : decode cX2_thunk 61 = .ok (.istore 6, 2) := by decide +kernel
theorem dX2_thunk_63 : decode cX2_thunk 63 = .ok (.iload 6, 2) := by decide +kernel
theorem dX2_thunk_65 : decode cX2_thunk 65 = .ok (.ifCond .eq 99, 3) := by decide +kernel
theorem dX2_thunk_68 : decode cX2_thunk 68 = .ok (.aload_n 0, 1) := by decide +kernel
theorem dX2_thunk_69 : decode cX2_thunk 69 = .ok (.getfield 31, 3) := by decide +kernel
theorem dX2_thunk_72 : decode cX2_thunk 72 = .ok (.iload 5, 2) := by decide +kernel
theorem dX2_thunk_74 : decode cX2_thunk 74 = .ok (.invokevirtual 180, 3) := by decide +kernel
theorem dX2_thunk_77 : decode cX2_thunk 77 = .ok (.iconst 1, 1) := by decide +kernel
theorem dX2_thunk_78 : decode cX2_thunk 78 = .ok (.if_icmp .ne 86, 3) := by decide +kernel
theorem dX2_thunk_81 : decode cX2_thunk 81 = .ok (.aload_n 0, 1) := by decide +kernel
theorem dX2_thunk_82 : decode cX2_thunk 82 = .ok (.getfield 31, 3) := by decide +kernel
theorem dX2_thunk_85 : decode cX2_thunk 85 = .ok (.iload 5, 2) := by decide +kernel
theorem dX2_thunk_87 : decode cX2_thunk 87 = .ok (.invokevirtual 197, 3) := by decide +kernel
theorem dX2_thunk_90 : decode cX2_thunk 90 = .ok (.ifCond .eq 74, 3) := by decide +kernel
theorem dX2_thunk_93 : decode cX2_thunk 93 = .ok (.aload_n 0, 1) := by decide +kernel
theorem dX2_thunk_94 : decode cX2_thunk 94 = .ok (.getfield 36, 3) := by decide +kernel
theorem dX2_thunk_97 : decode cX2_thunk 97 = .ok (.bipush 21, 2) := by decide +kernel
theorem dX2_thunk_99 : decode cX2_thunk 99 = .ok (.aload_n 0, 1) := by decide +kernel
theorem dX2_thunk_100 : decode cX2_thunk 100 = .ok (.getfield 16, 3) := by decide +kernel
theorem dX2_thunk_103 : decode cX2_thunk 103 = .ok (.iload 5, 2) := by decide +kernel
theorem dX2_thunk_105 : decode cX2_thunk 105 = .ok (.invokevirtual 203, 3) := by decide +kernel
theorem dX2_thunk_108 : decode cX2_thunk 108 = .ok (.aload_n 0, 1) := by decide +kernel
theorem dX2_thunk_109 : decode cX2_thunk 109 = .ok (.getfield 31, 3) := by decide +kernel
theorem dX2_thunk_112 : decode cX2_thunk 112 = .ok (.iload 5, 2) := by decide +kernel
theorem dX2_thunk_114 : decode cX2_thunk 114 = .ok (.invokevirtual 206, 3) := by decide +kernel
theorem dX2_thunk_117 : decode cX2_thunk 117 = .ok (.invokevirtual 209, 3) := by decide +kernel
theorem dX2_thunk_120 : decode cX2_thunk 120 = .ok (.pop, 1) := by decide +kernel
theorem dX2_thunk_121 : decode cX2_thunk 121 = .ok (.aload_n 0, 1) := by decide +kernel
theorem dX2_thunk_122 : decode cX2_thunk 122 = .ok (.getfield 36, 3) := by decide +kernel
theorem dX2_thunk_125 : decode cX2_thunk 125 = .ok (.bipush 45, 2) := by decide +kernel
theorem dX2_thunk_127 : decode cX2_thunk 127 = .ok (.invokevirtual 69, 3) := by decide +kernel
theorem dX2_thunk_130 : decode cX2_thunk 130 = .ok (.pop, 1) := by decide +kernel
theorem dX2_thunk_131 : decode cX2_thunk 131 = .ok (.aload_n 0, 1) := by decide +kernel
theorem dX2_thunk_132 : decode cX2_thunk 132 = .ok (.getfield 36, 3) := by decide +kernel
theorem dX2_thunk_135 : decode cX2_thunk 135 = .ok (.bipush 46, 2) := by decide +kernel
theorem dX2_thunk_137 : decode cX2_thunk 137 = .ok (.invokevirtual 69, 3) := by decide +kernel
theorem dX2_thunk_140 : decode cX2_thunk 140 = .ok (.pop, 1) := by decide +kernel
theorem dX2_thunk_141 : decode cX2_thunk 141 = .ok (.aload_n 0, 1) := by decide +kernel
theorem dX2_thunk_142 : decode cX2_thunk 142 = .ok (.getfield 26, 3) := by decide +kernel
theorem dX2_thunk_145 : decode cX2_thunk 145 = .ok (.iconst 2, 1) := by decide +kernel
theorem dX2_thunk_146 : decode cX2_thunk 146 = .ok (.invokevirtual 123, 3) := by decide +kernel
theorem dX2_thunk_149 : decode cX2_thunk 149 = .ok (.pop, 1) := by decide +kernel
theorem dX2_thunk_150 : decode cX2_thunk 150 = .ok (.aload_n 0, 1) := by decide +kernel
theorem dX2_thunk_151 : decode cX2_thunk 151 = .ok (.getfield 31, 3) := by decide +kernel
theorem dX2_thunk_154 : decode cX2_thunk 154 = .ok (.iload 5, 2) := by decide +kernel
theorem dX2_thunk_156 : decode cX2_thunk 156 = .ok (.invokevirtual 183, 3) := by decide +kernel
theorem dX2_thunk_159 : decode cX2_thunk 159 = .ok (.istore 7, 2) := by decide +kernel
theorem dX2_thunk_161 : decode cX2_thunk 161 = .ok (.goto 73, 3) := by decide +kernel
theorem dX2_thunk_164 : decode cX2_thunk 164 = .ok (.aload_n 0, 1) := by decide +kernel
theorem dX2_thunk_165 : decode cX2_thunk 165 = .ok (.getfield 31, 3) := by decide +kernel
theorem dX2_thunk_168 : decode cX2_thunk 168 = .ok (.iload 5, 2) := by decide +kernel
theorem dX2_thunk_170 : decode cX2_thunk 170 = .ok (.invokevirtual 180, 3) := by decide +kernel
theorem dX2_thunk_173 : decode cX2_thunk 173 = .ok (.iload 6, 2) := by decide +kernel
theorem dX2_thunk_175 : decode cX2_thunk 175 = .ok (.ifCond .eq 7, 3) := by decide +kernel
theorem dX2_thunk_178 : decode cX2_thunk 178 = .ok (.iconst 1, 1) := by decide +kernel
theorem dX2_thunk_179 : decode cX2_thunk 179 = .ok (.goto 4, 3) := by decide +kernel
theorem dX2_thunk_182 : decode cX2_thunk 182 = .ok (.iconst 2, 1) := by decide +kernel
theorem dX2_thunk_183 : decode cX2_thunk 183 = .ok (.if_icmp .ne 24, 3) := by decide +kernel
theorem dX2_thunk_186 : decode cX2_thunk 186 = .ok (.aload_n 0, 1) := by decide +kernel
theorem dX2_thunk_187 : decode cX2_thunk 187 = .ok (.iload_n 1, 1) := by decide +kernel
theorem dX2_thunk_188 : decode cX2_thunk 188 = .ok (.iconst 0, 1) := by decide +kernel
theorem dX2_thunk_189 : decode cX2_thunk 189 = .ok (.invokevirtual 262, 3) := by decide +kernel
theorem dX2_thunk_192 : decode cX2_thunk 192 = .ok (.istore 7, 2) := by decide +kernel
theorem dX2_thunk_194 : decode cX2_thunk 194 = .ok (.aload_n 0, 1) := by decide +kernel
theorem dX2_thunk_195 : decode cX2_thunk 195 = .ok (.getfield 36, 3) := by decide +kernel
theorem dX2_thunk_198 : decode cX2_thunk 198 = .ok (.bipush 47, 2) := by decide +kernel
theorem dX2_thunk_200 : decode cX2_thunk 200 = .ok (.invokevirtual 69, 3) := by decide +kernel
theorem dX2_thunk_203 : decode cX2_thunk 203 = .ok (.pop, 1) := by decide +kernel
theorem dX2_thunk_204 : decode cX2_thunk 204 = .ok (.goto 30, 3) := by decide +kernel
theorem dX2_thunk_207 : decode cX2_thunk 207 = .ok (.aload_n 0, 1) := by decide +kernel
theorem dX2_thunk_208 : decode cX2_thunk 208 = .ok (.getfield 36, 3) := by decide +kernel
theorem dX2_thunk_211 : decode cX2_thunk 211 = .ok (.bipush 48, 2) := by decide +kernel
theorem dX2_thunk_213 : decode cX2_thunk 213 = .ok (.invokevirtual 69, 3) := by decide +kernel
theorem dX2_thunk_216 : decode cX2_thunk 216 = .ok (.pop, 1) := by decide +kernel
theorem dX2_thunk_217 : decode cX2_thunk 217 = .ok (.aload_n 0, 1) := by decide +kernel
theorem dX2_thunk_218 : decode cX2_thunk 218 = .ok (.iload_n 1, 1) := by decide +kernel
theorem dX2_thunk_219 : decode cX2_thunk 219 = .ok (.invokevirtual 46, 3) := by decide +kernel
theorem dX2_thunk_222 : decode cX2_thunk 222 = .ok (.istore 7, 2) := by decide +kernel
theorem dX2_thunk_224 : decode cX2_thunk 224 = .ok (.aload_n 0, 1) := by decide +kernel
theorem dX2_thunk_225 : decode cX2_thunk 225 = .ok (.getfield 36, 3) := by decide +kernel
theorem dX2_thunk_228 : decode cX2_thunk 228 = .ok (.bipush 46, 2) := by decide +kernel
theorem dX2_thunk_230 : decode cX2_thunk 230 = .ok (.invokevirtual 69, 3) := by decide +kernel
theorem dX2_thunk_233 : decode cX2_thunk 233 = .ok (.pop, 1) := by decide +kernel
theorem dX2_thunk_234 : decode cX2_thunk 234 = .ok (.aload_n 0, 1) := by decide +kernel
theorem dX2_thunk_235 : decode cX2_thunk 235 = .ok (.iload 4, 2) := by decide +kernel
theorem dX2_thunk_237 : decode cX2_thunk 237 = .ok (.invokevirtual 250, 3) := by decide +kernel
theorem dX2_thunk_240 : decode cX2_thunk 240 = .ok (.aload_n 0, 1) := by decide +kernel
theorem dX2_thunk_241 : decode cX2_thunk 241 = .ok (.getfield 16, 3) := by decide +kernel
theorem dX2_thunk_244 : decode cX2_thunk 244 = .ok (.aload_n 0, 1) := by decide +kernel
theorem dX2_thunk_245 : decode cX2_thunk 245 = .ok (.getfield 31, 3) := by decide +kernel
theorem dX2_thunk_248 : decode cX2_thunk 248 = .ok (.iload_n 2, 1) := by decide +kernel
theorem dX2_thunk_249 : decode cX2_thunk 249 = .ok (.invokevirtual 183, 3) := by decide +kernel
theorem dX2_thunk_252 : decode cX2_thunk 252 = .ok (.iload 7, 2) := by decide +kernel
theorem dX2_thunk_254 : decode cX2_thunk 254 = .ok (.iload_n 3, 1) := by decide +kernel
theorem dX2_thunk_255 : decode cX2_thunk 255 = .ok (.invokevirtual 50, 3) := by decide +kernel
theorem dX2_thunk_258 : decode cX2_thunk 258 = .ok (.return_, 1) := by decide +kernel
def fX2_thunk_234 (rc : TX2_typed) (a2 : Int32) (a3 : Int32) (a4 : Int32) (a7 : Int32) (w : Wd) : Option (Int32 × Wd) :=
  lt (fX2_endThunk a4 w) fun w1 => lt (fX8_type a2 w1) fun x2 => lt (fX1_check x2 a7 a3 w1) fun w3 => some (0, w3)
theorem pX2_thunk_234 {q : Gq} {l : Launch} {N : Option Value → Wd → Prop} {X : String → Wd → Prop} {rc : TX2_typed} {dd : Nat} (hS : HSX2_typed q l rc dd) (hK : 8 ≤ dd) {w : Wd} {R : Int32 × Wd} (hN : N none R.2) {a2 : Int32} {a3 : Int32} {a4 : Int32} {a7 : Int32} (h : fX2_thunk_234 rc a2 a3 a4 a7 w = some R) : RT (GA q) l (dd + 1) yX2_thunk cX2_thunk 8 (none) N X 234 [] [(0, .ref 42), (2, .int a2), (3, .int a3), (4, .int a4), (7, .int a7)] w := by
  unfold fX2_thunk_234 at h
  refine r_aload_n (pc := 234) dX2_thunk_234 rfl 0 rfl ?_
  refine r_iload (pc := 235) dX2_thunk_235 3 rfl ?_
  replace h := lt_e h; obtain ⟨w1, ew1, h⟩ := h
  refine r_cVv (pc := 237) wyX2_endThunk oA42 rfl mlRX2_250 iyX2_endThunk syX2_endThunk ⟨Nat.succ_le_succ (Nat.le_trans (Nat.le_of_ble_eq_true rfl) hK), (Nat.le_of_ble_eq_true rfl)⟩ rfl rfl (Nat.le_of_ble_eq_true rfl) dX2_thunk_237 (mX2_endThunk ew1 (pV.mk ?_))
  refine r_aload_n (pc := 240) dX2_thunk_240 rfl 0 rfl ?_
  refine r_get (pc := 241) (j := 0) (v := .ref 3) oA42 cf2 flRX2_16 rfl dX2_thunk_241 rfl ?_
  refine r_aload_n (pc := 244) dX2_thunk_244 rfl 0 rfl ?_
  refine r_get (pc := 245) (j := 2) (v := .ref 13) oA42 cf2 flRX2_31 rfl dX2_thunk_245 rfl ?_
  refine r_iload_n (pc := 248) dX2_thunk_248 rfl 1 rfl ?_
  replace h := lt_e h; obtain ⟨x2, ex2, h⟩ := h
  refine r_cVi (pc := 249) wyX8_type oA13 rfl mlRX2_183 iyX8_type syX8_type ⟨Nat.succ_le_succ (Nat.le_trans (Nat.le_of_ble_eq_true rfl) hK), (Nat.le_of_ble_eq_true rfl)⟩ rfl rfl (Nat.le_of_ble_eq_true rfl) dX2_thunk_249 (mX8_type ex2 (pI.mk ?_))
  refine r_iload (pc := 252) dX2_thunk_252 4 rfl ?_
  refine r_iload_n (pc := 254) dX2_thunk_254 rfl 2 rfl ?_
  replace h := lt_e h; obtain ⟨w3, ew3, h⟩ := h
  refine r_cVv (pc := 255) wyX1_check oA3 rfl mlRX2_50 iyX1_check syX1_check ⟨Nat.succ_le_succ (Nat.le_trans (Nat.le_of_ble_eq_true rfl) hK), (Nat.le_of_ble_eq_true rfl)⟩ rfl rfl (Nat.le_of_ble_eq_true rfl) dX2_thunk_255 (mX1_check ew3 (pV.mk ?_))
  exact rOR_v (pc := 258) rfl dX2_thunk_258 h hN
def fX2_thunk_183 (rc : TX2_typed) (s0 : Int32) (s1 : Int32) (a1 : Int32) (a2 : Int32) (a3 : Int32) (a4 : Int32) (w : Wd) : Option (Int32 × Wd) :=
  if s0 = s1 then (bn2 (rc 7 a1 0 0 w) fun x2 w3 => lt2 (fX0_put__ 47 w3) fun x4 w5 => fX2_thunk_234 rc a2 a3 a4 x2 w5) else (lt2 (fX0_put__ 48 w) fun x6 w7 => bn2 (rc 2 a1 0 0 w7) fun x8 w9 => lt2 (fX0_put__ 46 w9) fun x10 w11 => fX2_thunk_234 rc a2 a3 a4 x8 w11)
theorem pX2_thunk_183 {q : Gq} {l : Launch} {N : Option Value → Wd → Prop} {X : String → Wd → Prop} {rc : TX2_typed} {dd : Nat} (hS : HSX2_typed q l rc dd) (hK : 8 ≤ dd) {w : Wd} {R : Int32 × Wd} (hN : N none R.2) {s0 : Int32} {s1 : Int32} {a1 : Int32} {a2 : Int32} {a3 : Int32} {a4 : Int32} (h : fX2_thunk_183 rc s0 s1 a1 a2 a3 a4 w = some R) : RT (GA q) l (dd + 1) yX2_thunk cX2_thunk 8 (none) N X 183 [.int s1, .int s0] [(0, .ref 42), (1, .int a1), (2, .int a2), (3, .int a3), (4, .int a4)] w := by
  unfold fX2_thunk_183 at h
  refine r_icmp_ne (pc := 183) dX2_thunk_183 rfl (fun hc1 => ?_) (fun hc1 => ?_)
  · replace h := if_f hc1 h
    refine r_aload_n (pc := 207) dX2_thunk_207 rfl 0 rfl ?_
    refine r_get (pc := 208) (j := 3) (v := .ref 40) oA42 cf2 flRX2_36 rfl dX2_thunk_208 rfl ?_
    refine r_bipush (pc := 211) dX2_thunk_211 kb_48 ?_
    replace h := lt2_e h; obtain ⟨x6, w7, ew7, h⟩ := h
    refine r_cVi (pc := 213) wyX0_put__ oA40 rfl mlRX2_69 iyX0_put__ syX0_put__ ⟨Nat.succ_le_succ (Nat.le_trans (Nat.le_of_ble_eq_true rfl) hK), (Nat.le_of_ble_eq_true rfl)⟩ rfl rfl (Nat.le_of_ble_eq_true rfl) dX2_thunk_213 (mX0_put__ ew7 (pI.mk ?_))
    refine r_pop (pc := 216) dX2_thunk_216 rfl ?_
    refine r_aload_n (pc := 217) dX2_thunk_217 rfl 0 rfl ?_
    refine r_iload_n (pc := 218) dX2_thunk_218 rfl 1 rfl ?_
    replace h := bn2_e h; obtain ⟨x8, w9, ew9, h⟩ := h
    refine r_cVi (pc := 219) wyX2_expression oA42 rfl mlRX2_46 iyX2_expression syX2_expression ⟨Nat.le_refl _, (Nat.le_of_ble_eq_true rfl)⟩ rfl rfl (Nat.le_of_ble_eq_true rfl) dX2_thunk_219 ((hS.2.2.1 _ _ _ _ _ _) ew9 (pI.mk ?_))
    refine r_istore (pc := 222) (loc' := [(7, .int x8), (0, .ref 42), (1, .int a1), (2, .int a2), (3, .int a3), (4, .int a4)]) dX2_thunk_222 (Nat.le_of_ble_eq_true rfl) rfl ?_
    refine r_aload_n (pc := 224) dX2_thunk_224 rfl 1 rfl ?_
    refine r_get (pc := 225) (j := 3) (v := .ref 40) oA42 cf2 flRX2_36 rfl dX2_thunk_225 rfl ?_
    refine r_bipush (pc := 228) dX2_thunk_228 kb_46 ?_
    replace h := lt2_e h; obtain ⟨x10, w11, ew11, h⟩ := h
    refine r_cVi (pc := 230) wyX0_put__ oA40 rfl mlRX2_69 iyX0_put__ syX0_put__ ⟨Nat.succ_le_succ (Nat.le_trans (Nat.le_of_ble_eq_true rfl) hK), (Nat.le_of_ble_eq_true rfl)⟩ rfl rfl (Nat.le_of_ble_eq_true rfl) dX2_thunk_230 (mX0_put__ ew11 (pI.mk ?_))
    refine r_pop (pc := 233) dX2_thunk_233 rfl ?_
    refine r_drop (loc' := [(0, .ref 42), (2, .int a2), (3, .int a3), (4, .int a4), (7, .int x8)]) [1, 3, 4, 5, 0] rfl ?_
    exact pX2_thunk_234 hS hK hN h
  replace h := if_t hc1 h
  refine r_aload_n (pc := 186) dX2_thunk_186 rfl 0 rfl ?_
  refine r_iload_n (pc := 187) dX2_thunk_187 rfl 1 rfl ?_
  refine r_iconst (pc := 188) dX2_thunk_188 ki_0 ?_
  replace h := bn2_e h; obtain ⟨x2, w3, ew3, h⟩ := h
  refine r_cVi (pc := 189) wyX2_place oA42 rfl mlRX2_262 iyX2_place syX2_place ⟨Nat.le_refl _, (Nat.le_of_ble_eq_true rfl)⟩ rfl rfl (Nat.le_of_ble_eq_true rfl) dX2_thunk_189 ((hS.2.2.2.2.2.2.2.1 _ _ _ _ _ _ _) ew3 (pI.mk ?_))
  refine r_istore (pc := 192) (loc' := [(7, .int x2), (0, .ref 42), (1, .int a1), (2, .int a2), (3, .int a3), (4, .int a4)]) dX2_thunk_192 (Nat.le_of_ble_eq_true rfl) rfl ?_
  refine r_aload_n (pc := 194) dX2_thunk_194 rfl 1 rfl ?_
  refine r_get (pc := 195) (j := 3) (v := .ref 40) oA42 cf2 flRX2_36 rfl dX2_thunk_195 rfl ?_
  refine r_bipush (pc := 198) dX2_thunk_198 kb_47 ?_
  replace h := lt2_e h; obtain ⟨x4, w5, ew5, h⟩ := h
  refine r_cVi (pc := 200) wyX0_put__ oA40 rfl mlRX2_69 iyX0_put__ syX0_put__ ⟨Nat.succ_le_succ (Nat.le_trans (Nat.le_of_ble_eq_true rfl) hK), (Nat.le_of_ble_eq_true rfl)⟩ rfl rfl (Nat.le_of_ble_eq_true rfl) dX2_thunk_200 (mX0_put__ ew5 (pI.mk ?_))
  refine r_pop (pc := 203) dX2_thunk_203 rfl ?_
  refine r_goto (pc := 204) dX2_thunk_204 rfl ?_
  refine r_drop (loc' := [(0, .ref 42), (2, .int a2), (3, .int a3), (4, .int a4), (7, .int x2)]) [1, 3, 4, 5, 0] rfl ?_
  exact pX2_thunk_234 hS hK hN h
def fX2_thunk_164 (rc : TX2_typed) (a1 : Int32) (a2 : Int32) (a3 : Int32) (a4 : Int32) (a5 : Int32) (a6 : Bool) (w : Wd) : Option (Int32 × Wd) :=
  lt (fX8_sort a5 w) fun x1 => if a6 = true then (fX2_thunk_183 rc x1 1 a1 a2 a3 a4 w) else (fX2_thunk_183 rc x1 2 a1 a2 a3 a4 w)
theorem pX2_thunk_164 {q : Gq} {l : Launch} {N : Option Value → Wd → Prop} {X : String → Wd → Prop} {rc : TX2_typed} {dd : Nat} (hS : HSX2_typed q l rc dd) (hK : 8 ≤ dd) {w : Wd} {R : Int32 × Wd} (hN : N none R.2) {a1 : Int32} {a2 : Int32} {a3 : Int32} {a4 : Int32} {a5 : Int32} {a6 : Bool} (h : fX2_thunk_164 rc a1 a2 a3 a4 a5 a6 w = some R) : RT (GA q) l (dd + 1) yX2_thunk cX2_thunk 8 (none) N X 164 [] [(0, .ref 42), (1, .int a1), (2, .int a2), (3, .int a3), (4, .int a4), (5, .int a5), (6, .int (b2i a6))] w := by
  unfold fX2_thunk_164 at h
  refine r_aload_n (pc := 164) dX2_thunk_164 rfl 0 rfl ?_
  refine r_get (pc := 165) (j := 2) (v := .ref 13) oA42 cf2 flRX2_31 rfl dX2_thunk_165 rfl ?_
  refine r_iload (pc := 168) dX2_thunk_168 5 rfl ?_
  replace h := lt_e h; obtain ⟨x1, ex1, h⟩ := h
  refine r_cVi (pc := 170) wyX8_sort oA13 rfl mlRX2_180 iyX8_sort syX8_sort ⟨Nat.succ_le_succ (Nat.le_trans (Nat.le_of_ble_eq_true rfl) hK), (Nat.le_of_ble_eq_true rfl)⟩ rfl rfl (Nat.le_of_ble_eq_true rfl) dX2_thunk_170 (mX8_sort ex1 (pI.mk ?_))
  refine r_iload (pc := 173) dX2_thunk_173 6 rfl ?_
  refine r_z_eq (pc := 175) dX2_thunk_175 rfl (fun hc2 => ?_) (fun hc2 => ?_)
  · replace h := if_f hc2 h
    refine r_iconst (pc := 182) dX2_thunk_182 ki_2 ?_
    refine r_drop (loc' := [(0, .ref 42), (1, .int a1), (2, .int a2), (3, .int a3), (4, .int a4)]) [0, 1, 2, 3, 4] rfl ?_
    exact pX2_thunk_183 hS hK hN h
  replace h := if_t hc2 h
  refine r_iconst (pc := 178) dX2_thunk_178 ki_1 ?_
  refine r_goto (pc := 179) dX2_thunk_179 rfl ?_
  refine r_drop (loc' := [(0, .ref 42), (1, .int a1), (2, .int a2), (3, .int a3), (4, .int a4)]) [0, 1, 2, 3, 4] rfl ?_
  exact pX2_thunk_183 hS hK hN h
def fX2_thunk_61 (rc : TX2_typed) (s0 : Bool) (a1 : Int32) (a2 : Int32) (a3 : Int32) (a4 : Int32) (a5 : Int32) (w : Wd) : Option (Int32 × Wd) :=
  if s0 = true then (lt (fX8_sort a5 w) fun x2 => if x2 = 1 then (lt (fX8_isFormal a5 w) fun x4 => if x4 = true then (lt (fX1_hops a5 w) fun x6 => lt (fX8_slot a5 w) fun x7 => lt2 (fX0_put 21 x6 x7 w) fun x8 w9 => lt2 (fX0_put__ 45 w9) fun x10 w11 => lt2 (fX0_put__ 46 w11) fun x12 w13 => lt2 (fX9_take 2 w13) fun x14 w15 => lt (fX8_type a5 w15) fun x16 => fX2_thunk_234 rc a2 a3 a4 x16 w15) else (fX2_thunk_164 rc a1 a2 a3 a4 a5 s0 w)) else (fX2_thunk_164 rc a1 a2 a3 a4 a5 s0 w)) else (fX2_thunk_164 rc a1 a2 a3 a4 a5 s0 w)
theorem pX2_thunk_61 {q : Gq} {l : Launch} {N : Option Value → Wd → Prop} {X : String → Wd → Prop} {rc : TX2_typed} {dd : Nat} (hS : HSX2_typed q l rc dd) (hK : 8 ≤ dd) {w : Wd} {R : Int32 × Wd} (hN : N none R.2) {s0 : Bool} {a1 : Int32} {a2 : Int32} {a3 : Int32} {a4 : Int32} {a5 : Int32} (h : fX2_thunk_61 rc s0 a1 a2 a3 a4 a5 w = some R) : RT (GA q) l (dd + 1) yX2_thunk cX2_thunk 8 (none) N X 61 [.int (b2i s0)] [(0, .ref 42), (1, .int a1), (2, .int a2), (3, .int a3), (4, .int a4), (5, .int a5)] w := by
  unfold fX2_thunk_61 at h
  refine r_istore (pc := 61) (loc' := [(6, .int (b2i s0)), (0, .ref 42), (1, .int a1), (2, .int a2), (3, .int a3), (4, .int a4), (5, .int a5)]) dX2_thunk_61 (Nat.le_of_ble_eq_true rfl) rfl ?_
  refine r_iload (pc := 63) dX2_thunk_63 0 rfl ?_
  refine r_z_eq (pc := 65) dX2_thunk_65 rfl (fun hc1 => ?_) (fun hc1 => ?_)
  · replace h := if_f hc1 h
    refine r_drop (loc' := [(0, .ref 42), (1, .int a1), (2, .int a2), (3, .int a3), (4, .int a4), (5, .int a5), (6, .int (b2i s0))]) [1, 2, 3, 4, 5, 6, 0] rfl ?_
    exact pX2_thunk_164 hS hK hN h
  replace h := if_t hc1 h
  refine r_aload_n (pc := 68) dX2_thunk_68 rfl 1 rfl ?_
  refine r_get (pc := 69) (j := 2) (v := .ref 13) oA42 cf2 flRX2_31 rfl dX2_thunk_69 rfl ?_
  refine r_iload (pc := 72) dX2_thunk_72 6 rfl ?_
  replace h := lt_e h; obtain ⟨x2, ex2, h⟩ := h
  refine r_cVi (pc := 74) wyX8_sort oA13 rfl mlRX2_180 iyX8_sort syX8_sort ⟨Nat.succ_le_succ (Nat.le_trans (Nat.le_of_ble_eq_true rfl) hK), (Nat.le_of_ble_eq_true rfl)⟩ rfl rfl (Nat.le_of_ble_eq_true rfl) dX2_thunk_74 (mX8_sort ex2 (pI.mk ?_))
  refine r_iconst (pc := 77) dX2_thunk_77 ki_1 ?_
  refine r_icmp_ne (pc := 78) dX2_thunk_78 rfl (fun hc3 => ?_) (fun hc3 => ?_)
  · replace h := if_f hc3 h
    refine r_drop (loc' := [(0, .ref 42), (1, .int a1), (2, .int a2), (3, .int a3), (4, .int a4), (5, .int a5), (6, .int (b2i s0))]) [1, 2, 3, 4, 5, 6, 0] rfl ?_
    exact pX2_thunk_164 hS hK hN h
  replace h := if_t hc3 h
  refine r_aload_n (pc := 81) dX2_thunk_81 rfl 1 rfl ?_
  refine r_get (pc := 82) (j := 2) (v := .ref 13) oA42 cf2 flRX2_31 rfl dX2_thunk_82 rfl ?_
  refine r_iload (pc := 85) dX2_thunk_85 6 rfl ?_
  replace h := lt_e h; obtain ⟨x4, ex4, h⟩ := h
  refine r_cVi (pc := 87) wyX8_isFormal oA13 rfl mlRX2_197 iyX8_isFormal syX8_isFormal ⟨Nat.succ_le_succ (Nat.le_trans (Nat.le_of_ble_eq_true rfl) hK), (Nat.le_of_ble_eq_true rfl)⟩ rfl rfl (Nat.le_of_ble_eq_true rfl) dX2_thunk_87 (mX8_isFormal ex4 (pI.mk ?_))
  refine r_z_eq (pc := 90) dX2_thunk_90 rfl (fun hc5 => ?_) (fun hc5 => ?_)
  · replace h := if_f hc5 h
    refine r_drop (loc' := [(0, .ref 42), (1, .int a1), (2, .int a2), (3, .int a3), (4, .int a4), (5, .int a5), (6, .int (b2i s0))]) [1, 2, 3, 4, 5, 6, 0] rfl ?_
    exact pX2_thunk_164 hS hK hN h
  replace h := if_t hc5 h
  refine r_aload_n (pc := 93) dX2_thunk_93 rfl 1 rfl ?_
  refine r_get (pc := 94) (j := 3) (v := .ref 40) oA42 cf2 flRX2_36 rfl dX2_thunk_94 rfl ?_
  refine r_bipush (pc := 97) dX2_thunk_97 kb_21 ?_
  refine r_aload_n (pc := 99) dX2_thunk_99 rfl 1 rfl ?_
  refine r_get (pc := 100) (j := 0) (v := .ref 3) oA42 cf2 flRX2_16 rfl dX2_thunk_100 rfl ?_
  refine r_iload (pc := 103) dX2_thunk_103 6 rfl ?_
  replace h := lt_e h; obtain ⟨x6, ex6, h⟩ := h
  refine r_cVi (pc := 105) wyX1_hops oA3 rfl mlRX2_203 iyX1_hops syX1_hops ⟨Nat.succ_le_succ (Nat.le_trans (Nat.le_of_ble_eq_true rfl) hK), (Nat.le_of_ble_eq_true rfl)⟩ rfl rfl (Nat.le_of_ble_eq_true rfl) dX2_thunk_105 (mX1_hops ex6 (pI.mk ?_))
  refine r_aload_n (pc := 108) dX2_thunk_108 rfl 1 rfl ?_
  refine r_get (pc := 109) (j := 2) (v := .ref 13) oA42 cf2 flRX2_31 rfl dX2_thunk_109 rfl ?_
  refine r_iload (pc := 112) dX2_thunk_112 6 rfl ?_
  replace h := lt_e h; obtain ⟨x7, ex7, h⟩ := h
  refine r_cVi (pc := 114) wyX8_slot oA13 rfl mlRX2_206 iyX8_slot syX8_slot ⟨Nat.succ_le_succ (Nat.le_trans (Nat.le_of_ble_eq_true rfl) hK), (Nat.le_of_ble_eq_true rfl)⟩ rfl rfl (Nat.le_of_ble_eq_true rfl) dX2_thunk_114 (mX8_slot ex7 (pI.mk ?_))
  replace h := lt2_e h; obtain ⟨x8, w9, ew9, h⟩ := h
  refine r_cVi (pc := 117) wyX0_put oA40 rfl mlRX2_209 iyX0_put syX0_put ⟨Nat.succ_le_succ (Nat.le_trans (Nat.le_of_ble_eq_true rfl) hK), (Nat.le_of_ble_eq_true rfl)⟩ rfl rfl (Nat.le_of_ble_eq_true rfl) dX2_thunk_117 (mX0_put ew9 (pI.mk ?_))
  refine r_pop (pc := 120) dX2_thunk_120 rfl ?_
  refine r_aload_n (pc := 121) dX2_thunk_121 rfl 1 rfl ?_
  refine r_get (pc := 122) (j := 3) (v := .ref 40) oA42 cf2 flRX2_36 rfl dX2_thunk_122 rfl ?_
  refine r_bipush (pc := 125) dX2_thunk_125 kb_45 ?_
  replace h := lt2_e h; obtain ⟨x10, w11, ew11, h⟩ := h
  refine r_cVi (pc := 127) wyX0_put__ oA40 rfl mlRX2_69 iyX0_put__ syX0_put__ ⟨Nat.succ_le_succ (Nat.le_trans (Nat.le_of_ble_eq_true rfl) hK), (Nat.le_of_ble_eq_true rfl)⟩ rfl rfl (Nat.le_of_ble_eq_true rfl) dX2_thunk_127 (mX0_put__ ew11 (pI.mk ?_))
  refine r_pop (pc := 130) dX2_thunk_130 rfl ?_
  refine r_aload_n (pc := 131) dX2_thunk_131 rfl 1 rfl ?_
  refine r_get (pc := 132) (j := 3) (v := .ref 40) oA42 cf2 flRX2_36 rfl dX2_thunk_132 rfl ?_
  refine r_bipush (pc := 135) dX2_thunk_135 kb_46 ?_
  replace h := lt2_e h; obtain ⟨x12, w13, ew13, h⟩ := h
  refine r_cVi (pc := 137) wyX0_put__ oA40 rfl mlRX2_69 iyX0_put__ syX0_put__ ⟨Nat.succ_le_succ (Nat.le_trans (Nat.le_of_ble_eq_true rfl) hK), (Nat.le_of_ble_eq_true rfl)⟩ rfl rfl (Nat.le_of_ble_eq_true rfl) dX2_thunk_137 (mX0_put__ ew13 (pI.mk ?_))
  refine r_pop (pc := 140) dX2_thunk_140 rfl ?_
  refine r_aload_n (pc := 141) dX2_thunk_141 rfl 1 rfl ?_
  refine r_get (pc := 142) (j := 1) (v := .ref 4) oA42 cf2 flRX2_26 rfl dX2_thunk_142 rfl ?_
  refine r_iconst (pc := 145) dX2_thunk_145 ki_2 ?_
  replace h := lt2_e h; obtain ⟨x14, w15, ew15, h⟩ := h
  refine r_cVi (pc := 146) wyX9_take oA4 rfl mlRX2_123 iyX9_take syX9_take ⟨Nat.succ_le_succ (Nat.le_trans (Nat.le_of_ble_eq_true rfl) hK), (Nat.le_of_ble_eq_true rfl)⟩ rfl rfl (Nat.le_of_ble_eq_true rfl) dX2_thunk_146 (mX9_take ew15 (pI.mk ?_))
  refine r_pop (pc := 149) dX2_thunk_149 rfl ?_
  refine r_aload_n (pc := 150) dX2_thunk_150 rfl 1 rfl ?_
  refine r_get (pc := 151) (j := 2) (v := .ref 13) oA42 cf2 flRX2_31 rfl dX2_thunk_151 rfl ?_
  refine r_iload (pc := 154) dX2_thunk_154 6 rfl ?_
  replace h := lt_e h; obtain ⟨x16, ex16, h⟩ := h
  refine r_cVi (pc := 156) wyX8_type oA13 rfl mlRX2_183 iyX8_type syX8_type ⟨Nat.succ_le_succ (Nat.le_trans (Nat.le_of_ble_eq_true rfl) hK), (Nat.le_of_ble_eq_true rfl)⟩ rfl rfl (Nat.le_of_ble_eq_true rfl) dX2_thunk_156 (mX8_type ex16 (pI.mk ?_))
  refine r_istore (pc := 159) (loc' := [(7, .int x16), (6, .int (b2i s0)), (0, .ref 42), (1, .int a1), (2, .int a2), (3, .int a3), (4, .int a4), (5, .int a5)]) dX2_thunk_159 (Nat.le_of_ble_eq_true rfl) rfl ?_
  refine r_goto (pc := 161) dX2_thunk_161 rfl ?_
  refine r_drop (loc' := [(0, .ref 42), (2, .int a2), (3, .int a3), (4, .int a4), (7, .int x16)]) [2, 4, 5, 6, 0] rfl ?_
  exact pX2_thunk_234 hS hK hN h
def fX2_thunk_42 (rc : TX2_typed) (s0 : Int32) (a1 : Int32) (a2 : Int32) (a3 : Int32) (a4 : Int32) (w : Wd) : Option (Int32 × Wd) :=
  lt (fX9_formAt a3 w) fun x1 => if x1 = 1 then (fX2_thunk_61 rc true a1 a2 a3 a4 s0 w) else (fX2_thunk_61 rc false a1 a2 a3 a4 s0 w)
theorem pX2_thunk_42 {q : Gq} {l : Launch} {N : Option Value → Wd → Prop} {X : String → Wd → Prop} {rc : TX2_typed} {dd : Nat} (hS : HSX2_typed q l rc dd) (hK : 8 ≤ dd) {w : Wd} {R : Int32 × Wd} (hN : N none R.2) {s0 : Int32} {a1 : Int32} {a2 : Int32} {a3 : Int32} {a4 : Int32} (h : fX2_thunk_42 rc s0 a1 a2 a3 a4 w = some R) : RT (GA q) l (dd + 1) yX2_thunk cX2_thunk 8 (none) N X 42 [.int s0] [(0, .ref 42), (1, .int a1), (2, .int a2), (3, .int a3), (4, .int a4)] w := by
  unfold fX2_thunk_42 at h
  refine r_istore (pc := 42) (loc' := [(5, .int s0), (0, .ref 42), (1, .int a1), (2, .int a2), (3, .int a3), (4, .int a4)]) dX2_thunk_42 (Nat.le_of_ble_eq_true rfl) rfl ?_
  refine r_aload_n (pc := 44) dX2_thunk_44 rfl 1 rfl ?_
  refine r_get (pc := 45) (j := 1) (v := .ref 4) oA42 cf2 flRX2_26 rfl dX2_thunk_45 rfl ?_
  refine r_iload_n (pc := 48) dX2_thunk_48 rfl 4 rfl ?_
  replace h := lt_e h; obtain ⟨x1, ex1, h⟩ := h
  refine r_cVi (pc := 49) wyX9_formAt oA4 rfl mlRX2_259 iyX9_formAt syX9_formAt ⟨Nat.succ_le_succ (Nat.le_trans (Nat.le_of_ble_eq_true rfl) hK), (Nat.le_of_ble_eq_true rfl)⟩ rfl rfl (Nat.le_of_ble_eq_true rfl) dX2_thunk_49 (mX9_formAt ex1 (pI.mk ?_))
  refine r_iconst (pc := 52) dX2_thunk_52 ki_1 ?_
  refine r_icmp_ne (pc := 53) dX2_thunk_53 rfl (fun hc2 => ?_) (fun hc2 => ?_)
  · replace h := if_f hc2 h
    refine r_iconst (pc := 60) dX2_thunk_60 ki_0 ?_
    refine r_drop (loc' := [(0, .ref 42), (1, .int a1), (2, .int a2), (3, .int a3), (4, .int a4), (5, .int s0)]) [1, 2, 3, 4, 5, 0] rfl ?_
    exact pX2_thunk_61 hS hK hN h
  replace h := if_t hc2 h
  refine r_iconst (pc := 56) dX2_thunk_56 ki_1 ?_
  refine r_goto (pc := 57) dX2_thunk_57 rfl ?_
  refine r_drop (loc' := [(0, .ref 42), (1, .int a1), (2, .int a2), (3, .int a3), (4, .int a4), (5, .int s0)]) [1, 2, 3, 4, 5, 0] rfl ?_
  exact pX2_thunk_61 hS hK hN h
def fX2_thunk (rc : TX2_typed) (a1 : Int32) (a2 : Int32) (w : Wd) : Option (Int32 × Wd) :=
  lt (fX9_at w) fun x1 => lt2 (fX0_put__ 33 w) fun x2 w3 => lt (fX9_isVariable x1 w3) fun x4 => if x4 = true then (lt2 (fX1_find x1 w3) fun x6 w7 => fX2_thunk_42 rc x6 a1 a2 x1 x2 w7) else (fX2_thunk_42 rc 0 a1 a2 x1 x2 w3)
theorem pX2_thunk {q : Gq} {l : Launch} {N : Option Value → Wd → Prop} {X : String → Wd → Prop} {rc : TX2_typed} {dd : Nat} (hS : HSX2_typed q l rc dd) (hK : 8 ≤ dd) {w : Wd} {R : Int32 × Wd} (hN : N none R.2) {a1 : Int32} {a2 : Int32} (h : fX2_thunk rc a1 a2 w = some R) : RT (GA q) l (dd + 1) yX2_thunk cX2_thunk 8 (none) N X 0 [] [(0, .ref 42), (1, .int a1), (2, .int a2)] w := by
  unfold fX2_thunk at h
  refine r_aload_n (pc := 0) dX2_thunk_0 rfl 0 rfl ?_
  refine r_get (pc := 1) (j := 1) (v := .ref 4) oA42 cf2 flRX2_26 rfl dX2_thunk_1 rfl ?_
  replace h := lt_e h; obtain ⟨x1, ex1, h⟩ := h
  refine r_cVi (pc := 4) wyX9_at oA4 rfl mlRX2_40 iyX9_at syX9_at ⟨Nat.succ_le_succ (Nat.le_trans (Nat.le_of_ble_eq_true rfl) hK), (Nat.le_of_ble_eq_true rfl)⟩ rfl rfl (Nat.le_of_ble_eq_true rfl) dX2_thunk_4 (mX9_at ex1 (pI.mk ?_))
  refine r_istore_n (pc := 7) (loc' := [(3, .int x1), (0, .ref 42), (1, .int a1), (2, .int a2)]) dX2_thunk_7 rfl (Nat.le_of_ble_eq_true rfl) rfl ?_
  refine r_aload_n (pc := 8) dX2_thunk_8 rfl 1 rfl ?_
  refine r_get (pc := 9) (j := 3) (v := .ref 40) oA42 cf2 flRX2_36 rfl dX2_thunk_9 rfl ?_
  refine r_bipush (pc := 12) dX2_thunk_12 kb_33 ?_
  replace h := lt2_e h; obtain ⟨x2, w3, ew3, h⟩ := h
  refine r_cVi (pc := 14) wyX0_put__ oA40 rfl mlRX2_69 iyX0_put__ syX0_put__ ⟨Nat.succ_le_succ (Nat.le_trans (Nat.le_of_ble_eq_true rfl) hK), (Nat.le_of_ble_eq_true rfl)⟩ rfl rfl (Nat.le_of_ble_eq_true rfl) dX2_thunk_14 (mX0_put__ ew3 (pI.mk ?_))
  refine r_istore (pc := 17) (loc' := [(4, .int x2), (3, .int x1), (0, .ref 42), (1, .int a1), (2, .int a2)]) dX2_thunk_17 (Nat.le_of_ble_eq_true rfl) rfl ?_
  refine r_aload_n (pc := 19) dX2_thunk_19 rfl 2 rfl ?_
  refine r_get (pc := 20) (j := 1) (v := .ref 4) oA42 cf2 flRX2_26 rfl dX2_thunk_20 rfl ?_
  refine r_iload_n (pc := 23) dX2_thunk_23 rfl 1 rfl ?_
  replace h := lt_e h; obtain ⟨x4, ex4, h⟩ := h
  refine r_cVi (pc := 24) wyX9_isVariable oA4 rfl mlRX2_256 iyX9_isVariable syX9_isVariable ⟨Nat.succ_le_succ (Nat.le_trans (Nat.le_of_ble_eq_true rfl) hK), (Nat.le_of_ble_eq_true rfl)⟩ rfl rfl (Nat.le_of_ble_eq_true rfl) dX2_thunk_24 (mX9_isVariable ex4 (pI.mk ?_))
  refine r_z_eq (pc := 27) dX2_thunk_27 rfl (fun hc5 => ?_) (fun hc5 => ?_)
  · replace h := if_f hc5 h
    refine r_iconst (pc := 41) dX2_thunk_41 ki_0 ?_
    refine r_drop (loc' := [(0, .ref 42), (1, .int a1), (2, .int a2), (3, .int x1), (4, .int x2)]) [2, 3, 4, 1, 0] rfl ?_
    exact pX2_thunk_42 hS hK hN h
  replace h := if_t hc5 h
  refine r_aload_n (pc := 30) dX2_thunk_30 rfl 2 rfl ?_
  refine r_get (pc := 31) (j := 0) (v := .ref 3) oA42 cf2 flRX2_16 rfl dX2_thunk_31 rfl ?_
  refine r_iload_n (pc := 34) dX2_thunk_34 rfl 1 rfl ?_
  replace h := lt2_e h; obtain ⟨x6, w7, ew7, h⟩ := h
  refine r_cVi (pc := 35) wyX1_find oA3 rfl mlRX2_170 iyX1_find syX1_find ⟨Nat.succ_le_succ (Nat.le_trans (Nat.le_of_ble_eq_true rfl) hK), (Nat.le_of_ble_eq_true rfl)⟩ rfl rfl (Nat.le_of_ble_eq_true rfl) dX2_thunk_35 (mX1_find ew7 (pI.mk ?_))
  refine r_goto (pc := 38) dX2_thunk_38 rfl ?_
  refine r_drop (loc' := [(0, .ref 42), (1, .int a1), (2, .int a2), (3, .int x1), (4, .int x2)]) [2, 3, 4, 1, 0] rfl ?_
  exact pX2_thunk_42 hS hK hN h
/-! AlgolMill$Expressions.call (III)V: O, 908 -/
theorem dX2_call_0 : decode cX2_call 0 = .ok (.aload_n 0, 1) := by decide +kernel
theorem dX2_call_1 : decode cX2_call 1 = .ok (.getfield 36, 3) := by decide +kernel
theorem dX2_call_4 : decode cX2_call 4 = .ok (.bipush 41, 2) := by decide +kernel
theorem dX2_call_6 : decode cX2_call 6 = .ok (.invokevirtual 69, 3) := by decide +kernel
theorem dX2_call_9 : decode cX2_call 9 = .ok (.pop, 1) := by decide +kernel
theorem dX2_call_10 : decode cX2_call 10 = .ok (.iconst 0, 1) := by decide +kernel
theorem dX2_call_11 : decode cX2_call 11 = .ok (.istore 4, 2) := by decide +kernel
theorem dX2_call_13 : decode cX2_call 13 = .ok (.aload_n 0, 1) := by decide +kernel
theorem dX2_call_14 : decode cX2_call 14 = .ok (.getfield 26, 3) := by decide +kernel
theorem dX2_call_17 : decode cX2_call 17 = .ok (.invokevirtual 75, 3) := by decide +kernel
theorem dX2_call_20 : decode cX2_call 20 = .ok (.bipush 43, 2) := by decide +kernel
theorem dX2_call_22 : decode cX2_call 22 = .ok (.if_icmp .ne 109, 3) := by decide +kernel
theorem dX2_call_25 : decode cX2_call 25 = .ok (.aload_n 0, 1) := by decide +kernel
theorem dX2_call_26 : decode cX2_call 26 = .ok (.getfield 26, 3) := by decide +kernel
theorem dX2_call_29 : decode cX2_call 29 = .ok (.iload_n 1, 1) := by decide +kernel
theorem dX2_call_30 : decode cX2_call 30 = .ok (.invokevirtual 54, 3) := by decide +kernel
theorem dX2_call_33 : decode cX2_call 33 = .ok (.istore 5, 2) := by decide +kernel
theorem dX2_call_35 : decode cX2_call 35 = .ok (.iload 4, 2) := by decide +kernel
theorem dX2_call_37 : decode cX2_call 37 = .ok (.sipush 8193, 3) := by decide +kernel
theorem dX2_call_40 : decode cX2_call 40 = .ok (.if_icmp .ge 82, 3) := by decide +kernel
theorem dX2_call_43 : decode cX2_call 43 = .ok (.iload 4, 2) := by decide +kernel
theorem dX2_call_45 : decode cX2_call 45 = .ok (.ifCond .eq 15, 3) := by decide +kernel
theorem dX2_call_48 : decode cX2_call 48 = .ok (.aload_n 0, 1) := by decide +kernel
theorem dX2_call_49 : decode cX2_call 49 = .ok (.getfield 26, 3) := by decide +kernel
theorem dX2_call_52 : decode cX2_call 52 = .ok (.bipush 40, 2) := by decide +kernel
theorem dX2_call_54 : decode cX2_call 54 = .ok (.invokevirtual 123, 3) := by decide +kernel
theorem dX2_call_57 : decode cX2_call 57 = .ok (.ifCond .eq 65, 3) := by decide +kernel
theorem dX2_call_60 : decode cX2_call 60 = .ok (.aload_n 0, 1) := by decide +kernel
theorem dX2_call_61 : decode cX2_call 61 = .ok (.getfield 31, 3) := by decide +kernel
theorem dX2_call_64 : decode cX2_call 64 = .ok (.iload_n 2, 1) := by decide +kernel
theorem dX2_call_65 : decode cX2_call 65 = .ok (.iload 4, 2) := by decide +kernel
theorem dX2_call_67 : decode cX2_call 67 = .ok (.invokevirtual 237, 3) := by decide +kernel
theorem dX2_call_70 : decode cX2_call 70 = .ok (.istore 6, 2) := by decide +kernel
theorem dX2_call_72 : decode cX2_call 72 = .ok (.aload_n 0, 1) := by decide +kernel
theorem dX2_call_73 : decode cX2_call 73 = .ok (.getfield 31, 3) := by decide +kernel
theorem dX2_call_76 : decode cX2_call 76 = .ok (.iload 6, 2) := by decide +kernel
theorem dX2_call_78 : decode cX2_call 78 = .ok (.invokevirtual 180, 3) := by decide +kernel
theorem dX2_call_81 : decode cX2_call 81 = .ok (.iconst 1, 1) := by decide +kernel
theorem dX2_call_82 : decode cX2_call 82 = .ok (.if_icmp .ne 26, 3) := by decide +kernel
theorem dX2_call_85 : decode cX2_call 85 = .ok (.aload_n 0, 1) := by decide +kernel
theorem dX2_call_86 : decode cX2_call 86 = .ok (.getfield 31, 3) := by decide +kernel
theorem dX2_call_89 : decode cX2_call 89 = .ok (.iload 6, 2) := by decide +kernel
theorem dX2_call_91 : decode cX2_call 91 = .ok (.invokevirtual 197, 3) := by decide +kernel
theorem dX2_call_94 : decode cX2_call 94 = .ok (.ifCond .eq 14, 3) := by decide +kernel
theorem dX2_call_97 : decode cX2_call 97 = .ok (.aload_n 0, 1) := by decide +kernel
theorem dX2_call_98 : decode cX2_call 98 = .ok (.iload 5, 2) := by decide +kernel
theorem dX2_call_100 : decode cX2_call 100 = .ok (.iload 6, 2) := by decide +kernel
theorem dX2_call_102 : decode cX2_call 102 = .ok (.invokevirtual 240, 3) := by decide +kernel
theorem dX2_call_105 : decode cX2_call 105 = .ok (.goto 11, 3) := by decide +kernel
theorem dX2_call_108 : decode cX2_call 108 = .ok (.aload_n 0, 1) := by decide +kernel
theorem dX2_call_109 : decode cX2_call 109 = .ok (.iload 5, 2) := by decide +kernel
theorem dX2_call_111 : decode cX2_call 111 = .ok (.iload 6, 2) := by decide +kernel
theorem dX2_call_113 : decode cX2_call 113 = .ok (.invokevirtual 243, 3) := by decide +kernel
theorem dX2_call_116 : decode cX2_call 116 = .ok (.iinc 4 1, 3) := by decide +kernel
theorem dX2_call_119 : decode cX2_call 119 = .ok (.goto (-84), 3) := by decide +kernel
theorem dX2_call_122 : decode cX2_call 122 = .ok (.aload_n 0, 1) := by decide +kernel
theorem dX2_call_123 : decode cX2_call 123 = .ok (.getfield 26, 3) := by decide +kernel
theorem dX2_call_126 : decode cX2_call 126 = .ok (.bipush 44, 2) := by decide +kernel
theorem dX2_call_128 : decode cX2_call 128 = .ok (.invokevirtual 63, 3) := by decide +kernel
theorem dX2_call_131 : decode cX2_call 131 = .ok (.aload_n 0, 1) := by decide +kernel
theorem dX2_call_132 : decode cX2_call 132 = .ok (.getfield 31, 3) := by decide +kernel
theorem dX2_call_135 : decode cX2_call 135 = .ok (.iload_n 2, 1) := by decide +kernel
theorem dX2_call_136 : decode cX2_call 136 = .ok (.invokevirtual 180, 3) := by decide +kernel
theorem dX2_call_139 : decode cX2_call 139 = .ok (.iconst 3, 1) := by decide +kernel
theorem dX2_call_140 : decode cX2_call 140 = .ok (.if_icmp .ne 25, 3) := by decide +kernel
theorem dX2_call_143 : decode cX2_call 143 = .ok (.iload 4, 2) := by decide +kernel
theorem dX2_call_145 : decode cX2_call 145 = .ok (.aload_n 0, 1) := by decide +kernel
theorem dX2_call_146 : decode cX2_call 146 = .ok (.getfield 31, 3) := by decide +kernel
theorem dX2_call_149 : decode cX2_call 149 = .ok (.iload_n 2, 1) := by decide +kernel
theorem dX2_call_150 : decode cX2_call 150 = .ok (.invokevirtual 216, 3) := by decide +kernel
theorem dX2_call_153 : decode cX2_call 153 = .ok (.if_icmp .eq 12, 3) := by decide +kernel
theorem dX2_call_156 : decode cX2_call 156 = .ok (.aload_n 0, 1) := by decide +kernel
theorem dX2_call_157 : decode cX2_call 157 = .ok (.getfield 16, 3) := by decide +kernel
theorem dX2_call_160 : decode cX2_call 160 = .ok (.iload_n 3, 1) := by decide +kernel
theorem dX2_call_161 : decode cX2_call 161 = .ok (.iconst 5, 1) := by decide +kernel
theorem dX2_call_162 : decode cX2_call 162 = .ok (.invokevirtual 184, 3) := by decide +kernel
theorem dX2_call_165 : decode cX2_call 165 = .ok (.aload_n 0, 1) := by decide +kernel
theorem dX2_call_166 : decode cX2_call 166 = .ok (.getfield 16, 3) := by decide +kernel
theorem dX2_call_169 : decode cX2_call 169 = .ok (.iload_n 2, 1) := by decide +kernel
theorem dX2_call_170 : decode cX2_call 170 = .ok (.invokevirtual 213, 3) := by decide +kernel
theorem dX2_call_173 : decode cX2_call 173 = .ok (.aload_n 0, 1) := by decide +kernel
theorem dX2_call_174 : decode cX2_call 174 = .ok (.getfield 36, 3) := by decide +kernel
theorem dX2_call_177 : decode cX2_call 177 = .ok (.bipush 42, 2) := by decide +kernel
theorem dX2_call_179 : decode cX2_call 179 = .ok (.invokevirtual 69, 3) := by decide +kernel
theorem dX2_call_182 : decode cX2_call 182 = .ok (.pop, 1) := by decide +kernel
theorem dX2_call_183 : decode cX2_call 183 = .ok (.return_, 1) := by decide +kernel
def fX2_call_165 (rc : TX2_typed) (a2 : Int32) (w : Wd) : Option (Int32 × Wd) :=
  lt (fX1_putSymbol a2 w) fun w1 => lt2 (fX0_put__ 42 w1) fun x2 w3 => some (0, w3)
theorem pX2_call_165 {q : Gq} {l : Launch} {N : Option Value → Wd → Prop} {X : String → Wd → Prop} {rc : TX2_typed} {dd : Nat} (hS : HSX2_typed q l rc dd) (hK : 8 ≤ dd) {w : Wd} {R : Int32 × Wd} (hN : N none R.2) {a2 : Int32} (h : fX2_call_165 rc a2 w = some R) : RT (GA q) l (dd + 1) yX2_call cX2_call 7 (none) N X 165 [] [(0, .ref 42), (2, .int a2)] w := by
  unfold fX2_call_165 at h
  refine r_aload_n (pc := 165) dX2_call_165 rfl 0 rfl ?_
  refine r_get (pc := 166) (j := 0) (v := .ref 3) oA42 cf2 flRX2_16 rfl dX2_call_166 rfl ?_
  refine r_iload_n (pc := 169) dX2_call_169 rfl 1 rfl ?_
  replace h := lt_e h; obtain ⟨w1, ew1, h⟩ := h
  refine r_cVv (pc := 170) wyX1_putSymbol oA3 rfl mlRX2_213 iyX1_putSymbol syX1_putSymbol ⟨Nat.succ_le_succ (Nat.le_trans (Nat.le_of_ble_eq_true rfl) hK), (Nat.le_of_ble_eq_true rfl)⟩ rfl rfl (Nat.le_of_ble_eq_true rfl) dX2_call_170 (mX1_putSymbol ew1 (pV.mk ?_))
  refine r_aload_n (pc := 173) dX2_call_173 rfl 0 rfl ?_
  refine r_get (pc := 174) (j := 3) (v := .ref 40) oA42 cf2 flRX2_36 rfl dX2_call_174 rfl ?_
  refine r_bipush (pc := 177) dX2_call_177 kb_42 ?_
  replace h := lt2_e h; obtain ⟨x2, w3, ew3, h⟩ := h
  refine r_cVi (pc := 179) wyX0_put__ oA40 rfl mlRX2_69 iyX0_put__ syX0_put__ ⟨Nat.succ_le_succ (Nat.le_trans (Nat.le_of_ble_eq_true rfl) hK), (Nat.le_of_ble_eq_true rfl)⟩ rfl rfl (Nat.le_of_ble_eq_true rfl) dX2_call_179 (mX0_put__ ew3 (pI.mk ?_))
  refine r_pop (pc := 182) dX2_call_182 rfl ?_
  exact rOR_v (pc := 183) rfl dX2_call_183 h hN
def fX2_call_131 (rc : TX2_typed) (a2 : Int32) (a3 : Int32) (a4 : Int32) (w : Wd) : Option (Int32 × Wd) :=
  lt (fX8_sort a2 w) fun x1 => if x1 = 3 then (lt (fX8_size_ a2 w) fun x3 => if a4 = x3 then (fX2_call_165 rc a2 w) else (lt (fX1_wrong a3 5 w) fun w5 => fX2_call_165 rc a2 w5)) else (fX2_call_165 rc a2 w)
theorem pX2_call_131 {q : Gq} {l : Launch} {N : Option Value → Wd → Prop} {X : String → Wd → Prop} {rc : TX2_typed} {dd : Nat} (hS : HSX2_typed q l rc dd) (hK : 8 ≤ dd) {w : Wd} {R : Int32 × Wd} (hN : N none R.2) {a2 : Int32} {a3 : Int32} {a4 : Int32} (h : fX2_call_131 rc a2 a3 a4 w = some R) : RT (GA q) l (dd + 1) yX2_call cX2_call 7 (none) N X 131 [] [(0, .ref 42), (2, .int a2), (3, .int a3), (4, .int a4)] w := by
  unfold fX2_call_131 at h
  refine r_aload_n (pc := 131) dX2_call_131 rfl 0 rfl ?_
  refine r_get (pc := 132) (j := 2) (v := .ref 13) oA42 cf2 flRX2_31 rfl dX2_call_132 rfl ?_
  refine r_iload_n (pc := 135) dX2_call_135 rfl 1 rfl ?_
  replace h := lt_e h; obtain ⟨x1, ex1, h⟩ := h
  refine r_cVi (pc := 136) wyX8_sort oA13 rfl mlRX2_180 iyX8_sort syX8_sort ⟨Nat.succ_le_succ (Nat.le_trans (Nat.le_of_ble_eq_true rfl) hK), (Nat.le_of_ble_eq_true rfl)⟩ rfl rfl (Nat.le_of_ble_eq_true rfl) dX2_call_136 (mX8_sort ex1 (pI.mk ?_))
  refine r_iconst (pc := 139) dX2_call_139 ki_3 ?_
  refine r_icmp_ne (pc := 140) dX2_call_140 rfl (fun hc2 => ?_) (fun hc2 => ?_)
  · replace h := if_f hc2 h
    refine r_drop (loc' := [(0, .ref 42), (2, .int a2)]) [0, 1] rfl ?_
    exact pX2_call_165 hS hK hN h
  replace h := if_t hc2 h
  refine r_iload (pc := 143) dX2_call_143 3 rfl ?_
  refine r_aload_n (pc := 145) dX2_call_145 rfl 0 rfl ?_
  refine r_get (pc := 146) (j := 2) (v := .ref 13) oA42 cf2 flRX2_31 rfl dX2_call_146 rfl ?_
  refine r_iload_n (pc := 149) dX2_call_149 rfl 1 rfl ?_
  replace h := lt_e h; obtain ⟨x3, ex3, h⟩ := h
  refine r_cVi (pc := 150) wyX8_size_ oA13 rfl mlRX2_216 iyX8_size_ syX8_size_ ⟨Nat.succ_le_succ (Nat.le_trans (Nat.le_of_ble_eq_true rfl) hK), (Nat.le_of_ble_eq_true rfl)⟩ rfl rfl (Nat.le_of_ble_eq_true rfl) dX2_call_150 (mX8_size_ ex3 (pI.mk ?_))
  refine r_icmp_eq (pc := 153) dX2_call_153 rfl (fun hc4 => ?_) (fun hc4 => ?_)
  · replace h := if_t hc4 h
    refine r_drop (loc' := [(0, .ref 42), (2, .int a2)]) [0, 1] rfl ?_
    exact pX2_call_165 hS hK hN h
  replace h := if_f hc4 h
  refine r_aload_n (pc := 156) dX2_call_156 rfl 0 rfl ?_
  refine r_get (pc := 157) (j := 0) (v := .ref 3) oA42 cf2 flRX2_16 rfl dX2_call_157 rfl ?_
  refine r_iload_n (pc := 160) dX2_call_160 rfl 2 rfl ?_
  refine r_iconst (pc := 161) dX2_call_161 ki_5 ?_
  replace h := lt_e h; obtain ⟨w5, ew5, h⟩ := h
  refine r_cVv (pc := 162) wyX1_wrong oA3 rfl mlRX2_184 iyX1_wrong syX1_wrong ⟨Nat.succ_le_succ (Nat.le_trans (Nat.le_of_ble_eq_true rfl) hK), (Nat.le_of_ble_eq_true rfl)⟩ rfl rfl (Nat.le_of_ble_eq_true rfl) dX2_call_162 (mX1_wrong ew5 (pV.mk ?_))
  refine r_drop (loc' := [(0, .ref 42), (2, .int a2)]) [0, 1] rfl ?_
  exact pX2_call_165 hS hK hN h
def fX2_call_60 (rc : TX2_typed) (k_35 : Int32 → Int32 → Int32 → Int32 → Wd → Option (Int32 × Wd)) (a2 : Int32) (a3 : Int32) (a4 : Int32) (a5 : Int32) (w : Wd) : Option (Int32 × Wd) :=
  lt (fX8_formal a2 a4 w) fun x1 => lt (fX8_sort x1 w) fun x2 => if x2 = 1 then (lt (fX8_isFormal x1 w) fun x4 => if x4 = true then (bn2 (rc 10 a5 x1 0 w) fun _ w7 => lt (a4 + 1) fun x8 => k_35 a2 a3 x8 a5 w7) else (bn2 (rc 9 a5 x1 0 w) fun _ w10 => lt (a4 + 1) fun x11 => k_35 a2 a3 x11 a5 w10)) else (bn2 (rc 9 a5 x1 0 w) fun _ w13 => lt (a4 + 1) fun x14 => k_35 a2 a3 x14 a5 w13)
theorem pX2_call_60 {q : Gq} {l : Launch} {N : Option Value → Wd → Prop} {X : String → Wd → Prop} {rc : TX2_typed} {dd : Nat} (hS : HSX2_typed q l rc dd) (hK : 8 ≤ dd) {w : Wd} {R : Int32 × Wd} (hN : N none R.2) {k_35 : Int32 → Int32 → Int32 → Int32 → Wd → Option (Int32 × Wd)} (hk_35 : ∀ (a2 : Int32) (a3 : Int32) (a4 : Int32) (a5 : Int32) (w : Wd), k_35 a2 a3 a4 a5 w = some R → RT (GA q) l (dd + 1) yX2_call cX2_call 7 (none) N X 35 [] [(0, .ref 42), (2, .int a2), (3, .int a3), (4, .int a4), (5, .int a5)] w) {a2 : Int32} {a3 : Int32} {a4 : Int32} {a5 : Int32} (h : fX2_call_60 rc k_35 a2 a3 a4 a5 w = some R) : RT (GA q) l (dd + 1) yX2_call cX2_call 7 (none) N X 60 [] [(0, .ref 42), (2, .int a2), (3, .int a3), (4, .int a4), (5, .int a5)] w := by
  unfold fX2_call_60 at h
  refine r_aload_n (pc := 60) dX2_call_60 rfl 0 rfl ?_
  refine r_get (pc := 61) (j := 2) (v := .ref 13) oA42 cf2 flRX2_31 rfl dX2_call_61 rfl ?_
  refine r_iload_n (pc := 64) dX2_call_64 rfl 1 rfl ?_
  refine r_iload (pc := 65) dX2_call_65 3 rfl ?_
  replace h := lt_e h; obtain ⟨x1, ex1, h⟩ := h
  refine r_cVi (pc := 67) wyX8_formal oA13 rfl mlRX2_237 iyX8_formal syX8_formal ⟨Nat.succ_le_succ (Nat.le_trans (Nat.le_of_ble_eq_true rfl) hK), (Nat.le_of_ble_eq_true rfl)⟩ rfl rfl (Nat.le_of_ble_eq_true rfl) dX2_call_67 (mX8_formal ex1 (pI.mk ?_))
  refine r_istore (pc := 70) (loc' := [(6, .int x1), (0, .ref 42), (2, .int a2), (3, .int a3), (4, .int a4), (5, .int a5)]) dX2_call_70 (Nat.le_of_ble_eq_true rfl) rfl ?_
  refine r_aload_n (pc := 72) dX2_call_72 rfl 1 rfl ?_
  refine r_get (pc := 73) (j := 2) (v := .ref 13) oA42 cf2 flRX2_31 rfl dX2_call_73 rfl ?_
  refine r_iload (pc := 76) dX2_call_76 0 rfl ?_
  replace h := lt_e h; obtain ⟨x2, ex2, h⟩ := h
  refine r_cVi (pc := 78) wyX8_sort oA13 rfl mlRX2_180 iyX8_sort syX8_sort ⟨Nat.succ_le_succ (Nat.le_trans (Nat.le_of_ble_eq_true rfl) hK), (Nat.le_of_ble_eq_true rfl)⟩ rfl rfl (Nat.le_of_ble_eq_true rfl) dX2_call_78 (mX8_sort ex2 (pI.mk ?_))
  refine r_iconst (pc := 81) dX2_call_81 ki_1 ?_
  refine r_icmp_ne (pc := 82) dX2_call_82 rfl (fun hc3 => ?_) (fun hc3 => ?_)
  · replace h := if_f hc3 h
    refine r_aload_n (pc := 108) dX2_call_108 rfl 1 rfl ?_
    refine r_iload (pc := 109) dX2_call_109 5 rfl ?_
    refine r_iload (pc := 111) dX2_call_111 0 rfl ?_
    replace h := bn2_e h; obtain ⟨x12, w13, ew13, h⟩ := h
    refine r_cVv (pc := 113) wyX2_actual oA42 rfl mlRX2_243 iyX2_actual syX2_actual ⟨Nat.le_refl _, (Nat.le_of_ble_eq_true rfl)⟩ rfl rfl (Nat.le_of_ble_eq_true rfl) dX2_call_113 ((hS.2.2.2.2.2.2.2.2.2.1 _ _ _ _ _ _ _) ew13 (pV.mk ?_))
    replace h := lt_e h; obtain ⟨x14, ex14, h⟩ := h
    refine r_inc (pc := 116) (loc' := [(4, .int x14), (6, .int x1), (0, .ref 42), (2, .int a2), (3, .int a3), (5, .int a5)]) dX2_call_116 ki_1 ex14 4 rfl (Nat.le_of_ble_eq_true rfl) rfl ?_
    refine r_goto (pc := 119) dX2_call_119 rfl ?_
    refine r_drop (loc' := [(0, .ref 42), (2, .int a2), (3, .int a3), (4, .int x14), (5, .int a5)]) [2, 3, 4, 0, 5] rfl ?_
    exact hk_35 a2 a3 x14 a5 w13 h
  replace h := if_t hc3 h
  refine r_aload_n (pc := 85) dX2_call_85 rfl 1 rfl ?_
  refine r_get (pc := 86) (j := 2) (v := .ref 13) oA42 cf2 flRX2_31 rfl dX2_call_86 rfl ?_
  refine r_iload (pc := 89) dX2_call_89 0 rfl ?_
  replace h := lt_e h; obtain ⟨x4, ex4, h⟩ := h
  refine r_cVi (pc := 91) wyX8_isFormal oA13 rfl mlRX2_197 iyX8_isFormal syX8_isFormal ⟨Nat.succ_le_succ (Nat.le_trans (Nat.le_of_ble_eq_true rfl) hK), (Nat.le_of_ble_eq_true rfl)⟩ rfl rfl (Nat.le_of_ble_eq_true rfl) dX2_call_91 (mX8_isFormal ex4 (pI.mk ?_))
  refine r_z_eq (pc := 94) dX2_call_94 rfl (fun hc5 => ?_) (fun hc5 => ?_)
  · replace h := if_f hc5 h
    refine r_aload_n (pc := 108) dX2_call_108 rfl 1 rfl ?_
    refine r_iload (pc := 109) dX2_call_109 5 rfl ?_
    refine r_iload (pc := 111) dX2_call_111 0 rfl ?_
    replace h := bn2_e h; obtain ⟨x9, w10, ew10, h⟩ := h
    refine r_cVv (pc := 113) wyX2_actual oA42 rfl mlRX2_243 iyX2_actual syX2_actual ⟨Nat.le_refl _, (Nat.le_of_ble_eq_true rfl)⟩ rfl rfl (Nat.le_of_ble_eq_true rfl) dX2_call_113 ((hS.2.2.2.2.2.2.2.2.2.1 _ _ _ _ _ _ _) ew10 (pV.mk ?_))
    replace h := lt_e h; obtain ⟨x11, ex11, h⟩ := h
    refine r_inc (pc := 116) (loc' := [(4, .int x11), (6, .int x1), (0, .ref 42), (2, .int a2), (3, .int a3), (5, .int a5)]) dX2_call_116 ki_1 ex11 4 rfl (Nat.le_of_ble_eq_true rfl) rfl ?_
    refine r_goto (pc := 119) dX2_call_119 rfl ?_
    refine r_drop (loc' := [(0, .ref 42), (2, .int a2), (3, .int a3), (4, .int x11), (5, .int a5)]) [2, 3, 4, 0, 5] rfl ?_
    exact hk_35 a2 a3 x11 a5 w10 h
  replace h := if_t hc5 h
  refine r_aload_n (pc := 97) dX2_call_97 rfl 1 rfl ?_
  refine r_iload (pc := 98) dX2_call_98 5 rfl ?_
  refine r_iload (pc := 100) dX2_call_100 0 rfl ?_
  replace h := bn2_e h; obtain ⟨x6, w7, ew7, h⟩ := h
  refine r_cVv (pc := 102) wyX2_thunk oA42 rfl mlRX2_240 iyX2_thunk syX2_thunk ⟨Nat.le_refl _, (Nat.le_of_ble_eq_true rfl)⟩ rfl rfl (Nat.le_of_ble_eq_true rfl) dX2_call_102 ((hS.2.2.2.2.2.2.2.2.2.2.1 _ _ _ _ _ _ _) ew7 (pV.mk ?_))
  refine r_goto (pc := 105) dX2_call_105 rfl ?_
  replace h := lt_e h; obtain ⟨x8, ex8, h⟩ := h
  refine r_inc (pc := 116) (loc' := [(4, .int x8), (6, .int x1), (0, .ref 42), (2, .int a2), (3, .int a3), (5, .int a5)]) dX2_call_116 ki_1 ex8 4 rfl (Nat.le_of_ble_eq_true rfl) rfl ?_
  refine r_goto (pc := 119) dX2_call_119 rfl ?_
  refine r_drop (loc' := [(0, .ref 42), (2, .int a2), (3, .int a3), (4, .int x8), (5, .int a5)]) [2, 3, 4, 0, 5] rfl ?_
  exact hk_35 a2 a3 x8 a5 w7 h
def fX2_call_35 (rc : TX2_typed) (k_35 : Int32 → Int32 → Int32 → Int32 → Wd → Option (Int32 × Wd)) (a2 : Int32) (a3 : Int32) (a4 : Int32) (a5 : Int32) (w : Wd) : Option (Int32 × Wd) :=
  if 8193 ≤ a4 then (lt (fX9_need 44 w) fun w2 => fX2_call_131 rc a2 a3 a4 w2) else (if a4 = 0 then (fX2_call_60 rc k_35 a2 a3 a4 a5 w) else (lt2 (fX9_take 40 w) fun x4 w5 => if x4 = true then (fX2_call_60 rc k_35 a2 a3 a4 a5 w5) else (lt (fX9_need 44 w5) fun w7 => fX2_call_131 rc a2 a3 a4 w7)))
theorem pX2_call_35 {q : Gq} {l : Launch} {N : Option Value → Wd → Prop} {X : String → Wd → Prop} {rc : TX2_typed} {dd : Nat} (hS : HSX2_typed q l rc dd) (hK : 8 ≤ dd) {w : Wd} {R : Int32 × Wd} (hN : N none R.2) {k_35 : Int32 → Int32 → Int32 → Int32 → Wd → Option (Int32 × Wd)} (hk_35 : ∀ (a2 : Int32) (a3 : Int32) (a4 : Int32) (a5 : Int32) (w : Wd), k_35 a2 a3 a4 a5 w = some R → RT (GA q) l (dd + 1) yX2_call cX2_call 7 (none) N X 35 [] [(0, .ref 42), (2, .int a2), (3, .int a3), (4, .int a4), (5, .int a5)] w) {a2 : Int32} {a3 : Int32} {a4 : Int32} {a5 : Int32} (h : fX2_call_35 rc k_35 a2 a3 a4 a5 w = some R) : RT (GA q) l (dd + 1) yX2_call cX2_call 7 (none) N X 35 [] [(0, .ref 42), (2, .int a2), (3, .int a3), (4, .int a4), (5, .int a5)] w := by
  unfold fX2_call_35 at h
  refine r_iload (pc := 35) dX2_call_35 3 rfl ?_
  refine r_sipush (pc := 37) dX2_call_37 ks_8193 ?_
  refine r_icmp_ge (pc := 40) dX2_call_40 rfl (fun hc1 => ?_) (fun hc1 => ?_)
  · replace h := if_t hc1 h
    refine r_aload_n (pc := 122) dX2_call_122 rfl 0 rfl ?_
    refine r_get (pc := 123) (j := 1) (v := .ref 4) oA42 cf2 flRX2_26 rfl dX2_call_123 rfl ?_
    refine r_bipush (pc := 126) dX2_call_126 kb_44 ?_
    replace h := lt_e h; obtain ⟨w2, ew2, h⟩ := h
    refine r_cVv (pc := 128) wyX9_need oA4 rfl mlRX2_63 iyX9_need syX9_need ⟨Nat.succ_le_succ (Nat.le_trans (Nat.le_of_ble_eq_true rfl) hK), (Nat.le_of_ble_eq_true rfl)⟩ rfl rfl (Nat.le_of_ble_eq_true rfl) dX2_call_128 (mX9_need ew2 (pV.mk ?_))
    refine r_drop (loc' := [(0, .ref 42), (2, .int a2), (3, .int a3), (4, .int a4)]) [0, 1, 2, 3] rfl ?_
    exact pX2_call_131 hS hK hN h
  replace h := if_f hc1 h
  refine r_iload (pc := 43) dX2_call_43 3 rfl ?_
  refine r_if_eq (pc := 45) dX2_call_45 rfl (fun hc3 => ?_) (fun hc3 => ?_)
  · replace h := if_t hc3 h
    exact pX2_call_60 hS hK hN hk_35 h
  replace h := if_f hc3 h
  refine r_aload_n (pc := 48) dX2_call_48 rfl 0 rfl ?_
  refine r_get (pc := 49) (j := 1) (v := .ref 4) oA42 cf2 flRX2_26 rfl dX2_call_49 rfl ?_
  refine r_bipush (pc := 52) dX2_call_52 kb_40 ?_
  replace h := lt2_e h; obtain ⟨x4, w5, ew5, h⟩ := h
  refine r_cVi (pc := 54) wyX9_take oA4 rfl mlRX2_123 iyX9_take syX9_take ⟨Nat.succ_le_succ (Nat.le_trans (Nat.le_of_ble_eq_true rfl) hK), (Nat.le_of_ble_eq_true rfl)⟩ rfl rfl (Nat.le_of_ble_eq_true rfl) dX2_call_54 (mX9_take ew5 (pI.mk ?_))
  refine r_z_eq (pc := 57) dX2_call_57 rfl (fun hc6 => ?_) (fun hc6 => ?_)
  · replace h := if_f hc6 h
    refine r_aload_n (pc := 122) dX2_call_122 rfl 0 rfl ?_
    refine r_get (pc := 123) (j := 1) (v := .ref 4) oA42 cf2 flRX2_26 rfl dX2_call_123 rfl ?_
    refine r_bipush (pc := 126) dX2_call_126 kb_44 ?_
    replace h := lt_e h; obtain ⟨w7, ew7, h⟩ := h
    refine r_cVv (pc := 128) wyX9_need oA4 rfl mlRX2_63 iyX9_need syX9_need ⟨Nat.succ_le_succ (Nat.le_trans (Nat.le_of_ble_eq_true rfl) hK), (Nat.le_of_ble_eq_true rfl)⟩ rfl rfl (Nat.le_of_ble_eq_true rfl) dX2_call_128 (mX9_need ew7 (pV.mk ?_))
    refine r_drop (loc' := [(0, .ref 42), (2, .int a2), (3, .int a3), (4, .int a4)]) [0, 1, 2, 3] rfl ?_
    exact pX2_call_131 hS hK hN h
  replace h := if_t hc6 h
  exact pX2_call_60 hS hK hN hk_35 h
def oX2_call_35 (rc : TX2_typed) : Nat → Int32 → Int32 → Int32 → Int32 → Wd → Option (Int32 × Wd)
  | 0 => fun _ _ _ _ _ => none
  | n + 1 => fX2_call_35 rc (oX2_call_35 rc n)
theorem qX2_call_35 {q : Gq} {l : Launch} {N : Option Value → Wd → Prop} {X : String → Wd → Prop} {rc : TX2_typed} {dd : Nat} (hS : HSX2_typed q l rc dd) (hK : 8 ≤ dd) {R : Int32 × Wd} (hN : N none R.2) : ∀ (n : Nat) (a2 : Int32) (a3 : Int32) (a4 : Int32) (a5 : Int32) (w : Wd), oX2_call_35 rc n a2 a3 a4 a5 w = some R → RT (GA q) l (dd + 1) yX2_call cX2_call 7 (none) N X 35 [] [(0, .ref 42), (2, .int a2), (3, .int a3), (4, .int a4), (5, .int a5)] w := by
  intro n
  induction n with
  | zero =>
    intro a2 a3 a4 a5 w h
    exact absurd h (fun q => nomatch q)
  | succ n ih =>
    intro a2 a3 a4 a5 w h
    exact pX2_call_35 hS hK hN ih h
def fX2_call (rc : TX2_typed) (a1 : Int32) (a2 : Int32) (a3 : Int32) (w : Wd) : Option (Int32 × Wd) :=
  lt2 (fX0_put__ 41 w) fun x1 w2 => lt (fX9_kind w2) fun x3 => if x3 = 43 then (lt2 (fX9_open a1 w2) fun x5 w6 => oX2_call_35 rc FU a2 a3 0 x5 w6) else (fX2_call_131 rc a2 a3 0 w2)
theorem pX2_call {q : Gq} {l : Launch} {N : Option Value → Wd → Prop} {X : String → Wd → Prop} {rc : TX2_typed} {dd : Nat} (hS : HSX2_typed q l rc dd) (hK : 8 ≤ dd) {w : Wd} {R : Int32 × Wd} (hN : N none R.2) {a1 : Int32} {a2 : Int32} {a3 : Int32} (h : fX2_call rc a1 a2 a3 w = some R) : RT (GA q) l (dd + 1) yX2_call cX2_call 7 (none) N X 0 [] [(0, .ref 42), (1, .int a1), (2, .int a2), (3, .int a3)] w := by
  unfold fX2_call at h
  refine r_aload_n (pc := 0) dX2_call_0 rfl 0 rfl ?_
  refine r_get (pc := 1) (j := 3) (v := .ref 40) oA42 cf2 flRX2_36 rfl dX2_call_1 rfl ?_
  refine r_bipush (pc := 4) dX2_call_4 kb_41 ?_
  replace h := lt2_e h; obtain ⟨x1, w2, ew2, h⟩ := h
  refine r_cVi (pc := 6) wyX0_put__ oA40 rfl mlRX2_69 iyX0_put__ syX0_put__ ⟨Nat.succ_le_succ (Nat.le_trans (Nat.le_of_ble_eq_true rfl) hK), (Nat.le_of_ble_eq_true rfl)⟩ rfl rfl (Nat.le_of_ble_eq_true rfl) dX2_call_6 (mX0_put__ ew2 (pI.mk ?_))
  refine r_pop (pc := 9) dX2_call_9 rfl ?_
  refine r_iconst (pc := 10) dX2_call_10 ki_0 ?_
  refine r_istore (pc := 11) (loc' := [(4, .int 0), (0, .ref 42), (1, .int a1), (2, .int a2), (3, .int a3)]) dX2_call_11 (Nat.le_of_ble_eq_true rfl) rfl ?_
  refine r_aload_n (pc := 13) dX2_call_13 rfl 1 rfl ?_
  refine r_get (pc := 14) (j := 1) (v := .ref 4) oA42 cf2 flRX2_26 rfl dX2_call_14 rfl ?_
  replace h := lt_e h; obtain ⟨x3, ex3, h⟩ := h
  refine r_cVi (pc := 17) wyX9_kind oA4 rfl mlRX2_75 iyX9_kind syX9_kind ⟨Nat.succ_le_succ (Nat.le_trans (Nat.le_of_ble_eq_true rfl) hK), (Nat.le_of_ble_eq_true rfl)⟩ rfl rfl (Nat.le_of_ble_eq_true rfl) dX2_call_17 (mX9_kind ex3 (pI.mk ?_))
  refine r_bipush (pc := 20) dX2_call_20 kb_43 ?_
  refine r_icmp_ne (pc := 22) dX2_call_22 rfl (fun hc4 => ?_) (fun hc4 => ?_)
  · replace h := if_f hc4 h
    refine r_drop (loc' := [(0, .ref 42), (2, .int a2), (3, .int a3), (4, .int 0)]) [1, 3, 4, 0] rfl ?_
    exact pX2_call_131 hS hK hN h
  replace h := if_t hc4 h
  refine r_aload_n (pc := 25) dX2_call_25 rfl 1 rfl ?_
  refine r_get (pc := 26) (j := 1) (v := .ref 4) oA42 cf2 flRX2_26 rfl dX2_call_26 rfl ?_
  refine r_iload_n (pc := 29) dX2_call_29 rfl 2 rfl ?_
  replace h := lt2_e h; obtain ⟨x5, w6, ew6, h⟩ := h
  refine r_cVi (pc := 30) wyX9_open oA4 rfl mlRX2_54 iyX9_open syX9_open ⟨Nat.succ_le_succ (Nat.le_trans (Nat.le_of_ble_eq_true rfl) hK), (Nat.le_of_ble_eq_true rfl)⟩ rfl rfl (Nat.le_of_ble_eq_true rfl) dX2_call_30 (mX9_open ew6 (pI.mk ?_))
  refine r_istore (pc := 33) (loc' := [(5, .int x5), (4, .int 0), (0, .ref 42), (1, .int a1), (2, .int a2), (3, .int a3)]) dX2_call_33 (Nat.le_of_ble_eq_true rfl) rfl ?_
  refine r_drop (loc' := [(0, .ref 42), (2, .int a2), (3, .int a3), (4, .int 0), (5, .int x5)]) [2, 4, 5, 1, 0] rfl ?_
  exact qX2_call_35 hS hK hN FU a2 a3 0 x5 w6 h
/-! AlgolMill$Expressions.named (I)I: O, 908 -/
theorem dX2_named_0 : decode cX2_named 0 = .ok (.aload_n 0, 1) := by decide +kernel
theorem dX2_named_1 : decode cX2_named 1 = .ok (.getfield 26, 3) := by decide +kernel
theorem dX2_named_4 : decode cX2_named 4 = .ok (.invokevirtual 40, 3) := by decide +kernel
theorem dX2_named_7 : decode cX2_named 7 = .ok (.istore_n 2, 1) := by decide +kernel
theorem dX2_named_8 : decode cX2_named 8 = .ok (.aload_n 0, 1) := by decide +kernel
theorem dX2_named_9 : decode cX2_named 9 = .ok (.getfield 16, 3) := by decide +kernel
theorem dX2_named_12 : decode cX2_named 12 = .ok (.iload_n 2, 1) := by decide +kernel
theorem dX2_named_13 : decode cX2_named 13 = .ok (.invokevirtual 170, 3) := by decide +kernel
theorem dX2_named_16 : decode cX2_named 16 = .ok (.istore_n 3, 1) := by decide +kernel
theorem dX2_named_17 : decode cX2_named 17 = .ok (.aload_n 0, 1) := by decide +kernel
theorem dX2_named_18 : decode cX2_named 18 = .ok (.getfield 26, 3) := by decide +kernel
theorem dX2_named_21 : decode cX2_named 21 = .ok (.iconst 2, 1) := by decide +kernel
theorem dX2_named_22 : decode cX2_named 22 = .ok (.invokevirtual 123, 3) := by decide +kernel
theorem dX2_named_25 : decode cX2_named 25 = .ok (.pop, 1) := by decide +kernel
theorem dX2_named_26 : decode cX2_named 26 = .ok (.aload_n 0, 1) := by decide +kernel
theorem dX2_named_27 : decode cX2_named 27 = .ok (.getfield 26, 3) := by decide +kernel
theorem dX2_named_30 : decode cX2_named 30 = .ok (.invokevirtual 75, 3) := by decide +kernel
theorem dX2_named_33 : decode cX2_named 33 = .ok (.bipush 45, 2) := by decide +kernel
theorem dX2_named_35 : decode cX2_named 35 = .ok (.if_icmp .ne 48, 3) := by decide +kernel
theorem dX2_named_38 : decode cX2_named 38 = .ok (.aload_n 0, 1) := by decide +kernel
theorem dX2_named_39 : decode cX2_named 39 = .ok (.iload_n 1, 1) := by decide +kernel
theorem dX2_named_40 : decode cX2_named 40 = .ok (.iload_n 3, 1) := by decide +kernel
theorem dX2_named_41 : decode cX2_named 41 = .ok (.iload_n 2, 1) := by decide +kernel
theorem dX2_named_42 : decode cX2_named 42 = .ok (.invokevirtual 173, 3) := by decide +kernel
theorem dX2_named_45 : decode cX2_named 45 = .ok (.istore 4, 2) := by decide +kernel
theorem dX2_named_47 : decode cX2_named 47 = .ok (.aload_n 0, 1) := by decide +kernel
theorem dX2_named_48 : decode cX2_named 48 = .ok (.getfield 36, 3) := by decide +kernel
theorem dX2_named_51 : decode cX2_named 51 = .ok (.bipush 24, 2) := by decide +kernel
theorem dX2_named_53 : decode cX2_named 53 = .ok (.invokevirtual 69, 3) := by decide +kernel
theorem dX2_named_56 : decode cX2_named 56 = .ok (.pop, 1) := by decide +kernel
theorem dX2_named_57 : decode cX2_named 57 = .ok (.aload_n 0, 1) := by decide +kernel
theorem dX2_named_58 : decode cX2_named 58 = .ok (.getfield 10, 3) := by decide +kernel
theorem dX2_named_61 : decode cX2_named 61 = .ok (.aload_n 0, 1) := by decide +kernel
theorem dX2_named_62 : decode cX2_named 62 = .ok (.iload_n 3, 1) := by decide +kernel
theorem dX2_named_63 : decode cX2_named 63 = .ok (.iconst 2, 1) := by decide +kernel
theorem dX2_named_64 : decode cX2_named 64 = .ok (.invokevirtual 177, 3) := by decide +kernel
theorem dX2_named_67 : decode cX2_named 67 = .ok (.iload_n 2, 1) := by decide +kernel
theorem dX2_named_68 : decode cX2_named 68 = .ok (.invokevirtual 153, 3) := by decide +kernel
theorem dX2_named_71 : decode cX2_named 71 = .ok (.iload 4, 2) := by decide +kernel
theorem dX2_named_73 : decode cX2_named 73 = .ok (.iconst 1, 1) := by decide +kernel
theorem dX2_named_74 : decode cX2_named 74 = .ok (.if_icmp .ne 7, 3) := by decide +kernel
theorem dX2_named_77 : decode cX2_named 77 = .ok (.iconst 2, 1) := by decide +kernel
theorem dX2_named_78 : decode cX2_named 78 = .ok (.goto 4, 3) := by decide +kernel
theorem dX2_named_81 : decode cX2_named 81 = .ok (.iconst 3, 1) := by decide +kernel
theorem dX2_named_82 : decode cX2_named 82 = .ok (.ireturn, 1) := by decide +kernel
theorem dX2_named_83 : decode cX2_named 83 = .ok (.aload_n 0, 1) := by decide +kernel
theorem dX2_named_84 : decode cX2_named 84 = .ok (.getfield 26, 3) := by decide +kernel
theorem dX2_named_87 : decode cX2_named 87 = .ok (.invokevirtual 75, 3) := by decide +kernel
theorem dX2_named_90 : decode cX2_named 90 = .ok (.bipush 43, 2) := by decide +kernel
theorem dX2_named_92 : decode cX2_named 92 = .ok (.if_icmp .ne 7, 3) := by decide +kernel
theorem dX2_named_95 : decode cX2_named 95 = .ok (.iconst 1, 1) := by decide +kernel
theorem dX2_named_96 : decode cX2_named 96 = .ok (.goto 4, 3) := by decide +kernel
theorem dX2_named_99 : decode cX2_named 99 = .ok (.iconst 0, 1) := by decide +kernel
theorem dX2_named_100 : decode cX2_named 100 = .ok (.istore 4, 2) := by decide +kernel
theorem dX2_named_102 : decode cX2_named 102 = .ok (.iload 4, 2) := by decide +kernel
theorem dX2_named_104 : decode cX2_named 104 = .ok (.ifCond .ne 15, 3) := by decide +kernel
theorem dX2_named_107 : decode cX2_named 107 = .ok (.aload_n 0, 1) := by decide +kernel
theorem dX2_named_108 : decode cX2_named 108 = .ok (.getfield 31, 3) := by decide +kernel
theorem dX2_named_111 : decode cX2_named 111 = .ok (.iload_n 3, 1) := by decide +kernel
theorem dX2_named_112 : decode cX2_named 112 = .ok (.invokevirtual 180, 3) := by decide +kernel
theorem dX2_named_115 : decode cX2_named 115 = .ok (.iconst 3, 1) := by decide +kernel
theorem dX2_named_116 : decode cX2_named 116 = .ok (.if_icmp .ne 82, 3) := by decide +kernel
theorem dX2_named_119 : decode cX2_named 119 = .ok (.aload_n 0, 1) := by decide +kernel
theorem dX2_named_120 : decode cX2_named 120 = .ok (.getfield 31, 3) := by decide +kernel
theorem dX2_named_123 : decode cX2_named 123 = .ok (.iload_n 3, 1) := by decide +kernel
theorem dX2_named_124 : decode cX2_named 124 = .ok (.invokevirtual 180, 3) := by decide +kernel
theorem dX2_named_127 : decode cX2_named 127 = .ok (.iconst 3, 1) := by decide +kernel
theorem dX2_named_128 : decode cX2_named 128 = .ok (.if_icmp .ne 18, 3) := by decide +kernel
theorem dX2_named_131 : decode cX2_named 131 = .ok (.aload_n 0, 1) := by decide +kernel
theorem dX2_named_132 : decode cX2_named 132 = .ok (.getfield 31, 3) := by decide +kernel
theorem dX2_named_135 : decode cX2_named 135 = .ok (.iload_n 3, 1) := by decide +kernel
theorem dX2_named_136 : decode cX2_named 136 = .ok (.invokevirtual 183, 3) := by decide +kernel
theorem dX2_named_139 : decode cX2_named 139 = .ok (.ifCond .eq 7, 3) := by decide +kernel
theorem dX2_named_142 : decode cX2_named 142 = .ok (.iconst 1, 1) := by decide +kernel
theorem dX2_named_143 : decode cX2_named 143 = .ok (.goto 4, 3) := by decide +kernel
theorem dX2_named_146 : decode cX2_named 146 = .ok (.iconst 0, 1) := by decide +kernel
theorem dX2_named_147 : decode cX2_named 147 = .ok (.istore 5, 2) := by decide +kernel
theorem dX2_named_149 : decode cX2_named 149 = .ok (.iload 5, 2) := by decide +kernel
theorem dX2_named_151 : decode cX2_named 151 = .ok (.ifCond .ne 23, 3) := by decide +kernel
theorem dX2_named_154 : decode cX2_named 154 = .ok (.aload_n 0, 1) := by decide +kernel
theorem dX2_named_155 : decode cX2_named 155 = .ok (.getfield 31, 3) := by decide +kernel
theorem dX2_named_158 : decode cX2_named 158 = .ok (.iload_n 3, 1) := by decide +kernel
theorem dX2_named_159 : decode cX2_named 159 = .ok (.invokevirtual 180, 3) := by decide +kernel
theorem dX2_named_162 : decode cX2_named 162 = .ok (.ifCond .eq 12, 3) := by decide +kernel
theorem dX2_named_165 : decode cX2_named 165 = .ok (.aload_n 0, 1) := by decide +kernel
theorem dX2_named_166 : decode cX2_named 166 = .ok (.getfield 16, 3) := by decide +kernel
theorem dX2_named_169 : decode cX2_named 169 = .ok (.iload_n 2, 1) := by decide +kernel
theorem dX2_named_170 : decode cX2_named 170 = .ok (.iconst 4, 1) := by decide +kernel
theorem dX2_named_171 : decode cX2_named 171 = .ok (.invokevirtual 184, 3) := by decide +kernel
theorem dX2_named_174 : decode cX2_named 174 = .ok (.aload_n 0, 1) := by decide +kernel
theorem dX2_named_175 : decode cX2_named 175 = .ok (.iload_n 1, 1) := by decide +kernel
theorem dX2_named_176 : decode cX2_named 176 = .ok (.iload_n 3, 1) := by decide +kernel
theorem dX2_named_177 : decode cX2_named 177 = .ok (.iload_n 2, 1) := by decide +kernel
theorem dX2_named_178 : decode cX2_named 178 = .ok (.invokevirtual 187, 3) := by decide +kernel
theorem dX2_named_181 : decode cX2_named 181 = .ok (.aload_n 0, 1) := by decide +kernel
theorem dX2_named_182 : decode cX2_named 182 = .ok (.getfield 10, 3) := by decide +kernel
theorem dX2_named_185 : decode cX2_named 185 = .ok (.aload_n 0, 1) := by decide +kernel
theorem dX2_named_186 : decode cX2_named 186 = .ok (.iload_n 3, 1) := by decide +kernel
theorem dX2_named_187 : decode cX2_named 187 = .ok (.iconst 3, 1) := by decide +kernel
theorem dX2_named_188 : decode cX2_named 188 = .ok (.invokevirtual 177, 3) := by decide +kernel
theorem dX2_named_191 : decode cX2_named 191 = .ok (.iload_n 2, 1) := by decide +kernel
theorem dX2_named_192 : decode cX2_named 192 = .ok (.invokevirtual 153, 3) := by decide +kernel
theorem dX2_named_195 : decode cX2_named 195 = .ok (.goto 23, 3) := by decide +kernel
theorem dX2_named_198 : decode cX2_named 198 = .ok (.aload_n 0, 1) := by decide +kernel
theorem dX2_named_199 : decode cX2_named 199 = .ok (.iload_n 3, 1) := by decide +kernel
theorem dX2_named_200 : decode cX2_named 200 = .ok (.iload_n 2, 1) := by decide +kernel
theorem dX2_named_201 : decode cX2_named 201 = .ok (.invokevirtual 190, 3) := by decide +kernel
theorem dX2_named_204 : decode cX2_named 204 = .ok (.aload_n 0, 1) := by decide +kernel
theorem dX2_named_205 : decode cX2_named 205 = .ok (.getfield 10, 3) := by decide +kernel
theorem dX2_named_208 : decode cX2_named 208 = .ok (.aload_n 0, 1) := by decide +kernel
theorem dX2_named_209 : decode cX2_named 209 = .ok (.iload_n 3, 1) := by decide +kernel
theorem dX2_named_210 : decode cX2_named 210 = .ok (.iconst 1, 1) := by decide +kernel
theorem dX2_named_211 : decode cX2_named 211 = .ok (.invokevirtual 177, 3) := by decide +kernel
theorem dX2_named_214 : decode cX2_named 214 = .ok (.iload_n 2, 1) := by decide +kernel
theorem dX2_named_215 : decode cX2_named 215 = .ok (.invokevirtual 153, 3) := by decide +kernel
theorem dX2_named_218 : decode cX2_named 218 = .ok (.iload 4, 2) := by decide +kernel
theorem dX2_named_220 : decode cX2_named 220 = .ok (.ifCond .eq 8, 3) := by decide +kernel
theorem dX2_named_223 : decode cX2_named 223 = .ok (.bipush 6, 2) := by decide +kernel
theorem dX2_named_225 : decode cX2_named 225 = .ok (.goto 4, 3) := by decide +kernel
theorem dX2_named_228 : decode cX2_named 228 = .ok (.iconst 1, 1) := by decide +kernel
theorem dX2_named_229 : decode cX2_named 229 = .ok (.ireturn, 1) := by decide +kernel
def fX2_named_174 (rc : TX2_typed) (a1 : Int32) (a2 : Int32) (a3 : Int32) (a4 : Bool) (w : Wd) : Option (Int32 × Wd) :=
  bn2 (rc 8 a1 a3 a2 w) fun _ w2 => lt (fX2_typeIf a3 3 w2) fun x3 => lt (fX10_push x3 a2 w2) fun w4 => if a4 = true then (some (6, w4)) else (some (1, w4))
theorem pX2_named_174 {q : Gq} {l : Launch} {N : Option Value → Wd → Prop} {X : String → Wd → Prop} {rc : TX2_typed} {dd : Nat} (hS : HSX2_typed q l rc dd) (hK : 8 ≤ dd) {w : Wd} {R : Int32 × Wd} (hN : N (some (.int R.1)) R.2) {a1 : Int32} {a2 : Int32} {a3 : Int32} {a4 : Bool} (h : fX2_named_174 rc a1 a2 a3 a4 w = some R) : RT (GA q) l (dd + 1) yX2_named cX2_named 6 ((some .int)) N X 174 [] [(0, .ref 42), (1, .int a1), (2, .int a2), (3, .int a3), (4, .int (b2i a4))] w := by
  unfold fX2_named_174 at h
  refine r_aload_n (pc := 174) dX2_named_174 rfl 0 rfl ?_
  refine r_iload_n (pc := 175) dX2_named_175 rfl 1 rfl ?_
  refine r_iload_n (pc := 176) dX2_named_176 rfl 3 rfl ?_
  refine r_iload_n (pc := 177) dX2_named_177 rfl 2 rfl ?_
  replace h := bn2_e h; obtain ⟨x1, w2, ew2, h⟩ := h
  refine r_cVv (pc := 178) wyX2_call oA42 rfl mlRX2_187 iyX2_call syX2_call ⟨Nat.le_refl _, (Nat.le_of_ble_eq_true rfl)⟩ rfl rfl (Nat.le_of_ble_eq_true rfl) dX2_named_178 ((hS.2.2.2.2.2.2.2.2.1 _ _ _ _ _ _ _ _) ew2 (pV.mk ?_))
  refine r_aload_n (pc := 181) dX2_named_181 rfl 0 rfl ?_
  refine r_get (pc := 182) (j := 4) (v := .ref 43) oA42 cf2 flRX2_10 rfl dX2_named_182 rfl ?_
  refine r_aload_n (pc := 185) dX2_named_185 rfl 0 rfl ?_
  refine r_iload_n (pc := 186) dX2_named_186 rfl 3 rfl ?_
  refine r_iconst (pc := 187) dX2_named_187 ki_3 ?_
  replace h := lt_e h; obtain ⟨x3, ex3, h⟩ := h
  refine r_cVi (pc := 188) wyX2_typeIf oA42 rfl mlRX2_177 iyX2_typeIf syX2_typeIf ⟨Nat.succ_le_succ (Nat.le_trans (Nat.le_of_ble_eq_true rfl) hK), (Nat.le_of_ble_eq_true rfl)⟩ rfl rfl (Nat.le_of_ble_eq_true rfl) dX2_named_188 (mX2_typeIf ex3 (pI.mk ?_))
  refine r_iload_n (pc := 191) dX2_named_191 rfl 2 rfl ?_
  replace h := lt_e h; obtain ⟨w4, ew4, h⟩ := h
  refine r_cVv (pc := 192) wyX10_push oA43 rfl mlRX2_153 iyX10_push syX10_push ⟨Nat.succ_le_succ (Nat.le_trans (Nat.le_of_ble_eq_true rfl) hK), (Nat.le_of_ble_eq_true rfl)⟩ rfl rfl (Nat.le_of_ble_eq_true rfl) dX2_named_192 (mX10_push ew4 (pV.mk ?_))
  refine r_goto (pc := 195) dX2_named_195 rfl ?_
  refine r_iload (pc := 218) dX2_named_218 4 rfl ?_
  refine r_z_eq (pc := 220) dX2_named_220 rfl (fun hc5 => ?_) (fun hc5 => ?_)
  · replace h := if_f hc5 h
    refine r_iconst (pc := 228) dX2_named_228 ki_1 ?_
    exact rO_i (pc := 229) rfl dX2_named_229 h hN
  replace h := if_t hc5 h
  refine r_bipush (pc := 223) dX2_named_223 kb_6 ?_
  refine r_goto (pc := 225) dX2_named_225 rfl ?_
  exact rO_i (pc := 229) rfl dX2_named_229 h hN
def fX2_named_147 (rc : TX2_typed) (s0 : Bool) (a1 : Int32) (a2 : Int32) (a3 : Int32) (a4 : Bool) (w : Wd) : Option (Int32 × Wd) :=
  if s0 = true then (fX2_named_174 rc a1 a2 a3 a4 w) else (lt (fX8_sort a3 w) fun x2 => if x2 = 0 then (fX2_named_174 rc a1 a2 a3 a4 w) else (lt (fX1_wrong a2 4 w) fun w4 => fX2_named_174 rc a1 a2 a3 a4 w4))
theorem pX2_named_147 {q : Gq} {l : Launch} {N : Option Value → Wd → Prop} {X : String → Wd → Prop} {rc : TX2_typed} {dd : Nat} (hS : HSX2_typed q l rc dd) (hK : 8 ≤ dd) {w : Wd} {R : Int32 × Wd} (hN : N (some (.int R.1)) R.2) {s0 : Bool} {a1 : Int32} {a2 : Int32} {a3 : Int32} {a4 : Bool} (h : fX2_named_147 rc s0 a1 a2 a3 a4 w = some R) : RT (GA q) l (dd + 1) yX2_named cX2_named 6 ((some .int)) N X 147 [.int (b2i s0)] [(0, .ref 42), (1, .int a1), (2, .int a2), (3, .int a3), (4, .int (b2i a4))] w := by
  unfold fX2_named_147 at h
  refine r_istore (pc := 147) (loc' := [(5, .int (b2i s0)), (0, .ref 42), (1, .int a1), (2, .int a2), (3, .int a3), (4, .int (b2i a4))]) dX2_named_147 (Nat.le_of_ble_eq_true rfl) rfl ?_
  refine r_iload (pc := 149) dX2_named_149 0 rfl ?_
  refine r_z_ne (pc := 151) dX2_named_151 rfl (fun hc1 => ?_) (fun hc1 => ?_)
  · replace h := if_t hc1 h
    refine r_drop (loc' := [(0, .ref 42), (1, .int a1), (2, .int a2), (3, .int a3), (4, .int (b2i a4))]) [1, 2, 3, 4, 5] rfl ?_
    exact pX2_named_174 hS hK hN h
  replace h := if_f hc1 h
  refine r_aload_n (pc := 154) dX2_named_154 rfl 1 rfl ?_
  refine r_get (pc := 155) (j := 2) (v := .ref 13) oA42 cf2 flRX2_31 rfl dX2_named_155 rfl ?_
  refine r_iload_n (pc := 158) dX2_named_158 rfl 4 rfl ?_
  replace h := lt_e h; obtain ⟨x2, ex2, h⟩ := h
  refine r_cVi (pc := 159) wyX8_sort oA13 rfl mlRX2_180 iyX8_sort syX8_sort ⟨Nat.succ_le_succ (Nat.le_trans (Nat.le_of_ble_eq_true rfl) hK), (Nat.le_of_ble_eq_true rfl)⟩ rfl rfl (Nat.le_of_ble_eq_true rfl) dX2_named_159 (mX8_sort ex2 (pI.mk ?_))
  refine r_if_eq (pc := 162) dX2_named_162 rfl (fun hc3 => ?_) (fun hc3 => ?_)
  · replace h := if_t hc3 h
    refine r_drop (loc' := [(0, .ref 42), (1, .int a1), (2, .int a2), (3, .int a3), (4, .int (b2i a4))]) [1, 2, 3, 4, 5] rfl ?_
    exact pX2_named_174 hS hK hN h
  replace h := if_f hc3 h
  refine r_aload_n (pc := 165) dX2_named_165 rfl 1 rfl ?_
  refine r_get (pc := 166) (j := 0) (v := .ref 3) oA42 cf2 flRX2_16 rfl dX2_named_166 rfl ?_
  refine r_iload_n (pc := 169) dX2_named_169 rfl 3 rfl ?_
  refine r_iconst (pc := 170) dX2_named_170 ki_4 ?_
  replace h := lt_e h; obtain ⟨w4, ew4, h⟩ := h
  refine r_cVv (pc := 171) wyX1_wrong oA3 rfl mlRX2_184 iyX1_wrong syX1_wrong ⟨Nat.succ_le_succ (Nat.le_trans (Nat.le_of_ble_eq_true rfl) hK), (Nat.le_of_ble_eq_true rfl)⟩ rfl rfl (Nat.le_of_ble_eq_true rfl) dX2_named_171 (mX1_wrong ew4 (pV.mk ?_))
  refine r_drop (loc' := [(0, .ref 42), (1, .int a1), (2, .int a2), (3, .int a3), (4, .int (b2i a4))]) [1, 2, 3, 4, 5] rfl ?_
  exact pX2_named_174 hS hK hN h
def fX2_named_119 (rc : TX2_typed) (a1 : Int32) (a2 : Int32) (a3 : Int32) (a4 : Bool) (w : Wd) : Option (Int32 × Wd) :=
  lt (fX8_sort a3 w) fun x1 => if x1 = 3 then (lt (fX8_type a3 w) fun x3 => if x3 = 0 then (fX2_named_147 rc false a1 a2 a3 a4 w) else (fX2_named_147 rc true a1 a2 a3 a4 w)) else (fX2_named_147 rc false a1 a2 a3 a4 w)
theorem pX2_named_119 {q : Gq} {l : Launch} {N : Option Value → Wd → Prop} {X : String → Wd → Prop} {rc : TX2_typed} {dd : Nat} (hS : HSX2_typed q l rc dd) (hK : 8 ≤ dd) {w : Wd} {R : Int32 × Wd} (hN : N (some (.int R.1)) R.2) {a1 : Int32} {a2 : Int32} {a3 : Int32} {a4 : Bool} (h : fX2_named_119 rc a1 a2 a3 a4 w = some R) : RT (GA q) l (dd + 1) yX2_named cX2_named 6 ((some .int)) N X 119 [] [(0, .ref 42), (1, .int a1), (2, .int a2), (3, .int a3), (4, .int (b2i a4))] w := by
  unfold fX2_named_119 at h
  refine r_aload_n (pc := 119) dX2_named_119 rfl 0 rfl ?_
  refine r_get (pc := 120) (j := 2) (v := .ref 13) oA42 cf2 flRX2_31 rfl dX2_named_120 rfl ?_
  refine r_iload_n (pc := 123) dX2_named_123 rfl 3 rfl ?_
  replace h := lt_e h; obtain ⟨x1, ex1, h⟩ := h
  refine r_cVi (pc := 124) wyX8_sort oA13 rfl mlRX2_180 iyX8_sort syX8_sort ⟨Nat.succ_le_succ (Nat.le_trans (Nat.le_of_ble_eq_true rfl) hK), (Nat.le_of_ble_eq_true rfl)⟩ rfl rfl (Nat.le_of_ble_eq_true rfl) dX2_named_124 (mX8_sort ex1 (pI.mk ?_))
  refine r_iconst (pc := 127) dX2_named_127 ki_3 ?_
  refine r_icmp_ne (pc := 128) dX2_named_128 rfl (fun hc2 => ?_) (fun hc2 => ?_)
  · replace h := if_f hc2 h
    refine r_iconst (pc := 146) dX2_named_146 ki_0 ?_
    exact pX2_named_147 hS hK hN h
  replace h := if_t hc2 h
  refine r_aload_n (pc := 131) dX2_named_131 rfl 0 rfl ?_
  refine r_get (pc := 132) (j := 2) (v := .ref 13) oA42 cf2 flRX2_31 rfl dX2_named_132 rfl ?_
  refine r_iload_n (pc := 135) dX2_named_135 rfl 3 rfl ?_
  replace h := lt_e h; obtain ⟨x3, ex3, h⟩ := h
  refine r_cVi (pc := 136) wyX8_type oA13 rfl mlRX2_183 iyX8_type syX8_type ⟨Nat.succ_le_succ (Nat.le_trans (Nat.le_of_ble_eq_true rfl) hK), (Nat.le_of_ble_eq_true rfl)⟩ rfl rfl (Nat.le_of_ble_eq_true rfl) dX2_named_136 (mX8_type ex3 (pI.mk ?_))
  refine r_if_eq (pc := 139) dX2_named_139 rfl (fun hc4 => ?_) (fun hc4 => ?_)
  · replace h := if_t hc4 h
    refine r_iconst (pc := 146) dX2_named_146 ki_0 ?_
    exact pX2_named_147 hS hK hN h
  replace h := if_f hc4 h
  refine r_iconst (pc := 142) dX2_named_142 ki_1 ?_
  refine r_goto (pc := 143) dX2_named_143 rfl ?_
  exact pX2_named_147 hS hK hN h
def fX2_named_100 (rc : TX2_typed) (s0 : Bool) (a1 : Int32) (a2 : Int32) (a3 : Int32) (w : Wd) : Option (Int32 × Wd) :=
  if s0 = true then (fX2_named_119 rc a1 a2 a3 s0 w) else (lt (fX8_sort a3 w) fun x2 => if x2 = 3 then (fX2_named_119 rc a1 a2 a3 s0 w) else (lt (fX2_variable a3 a2 w) fun w4 => lt (fX2_typeIf a3 1 w4) fun x5 => lt (fX10_push x5 a2 w4) fun w6 => if s0 = true then (some (6, w6)) else (some (1, w6))))
theorem pX2_named_100 {q : Gq} {l : Launch} {N : Option Value → Wd → Prop} {X : String → Wd → Prop} {rc : TX2_typed} {dd : Nat} (hS : HSX2_typed q l rc dd) (hK : 8 ≤ dd) {w : Wd} {R : Int32 × Wd} (hN : N (some (.int R.1)) R.2) {s0 : Bool} {a1 : Int32} {a2 : Int32} {a3 : Int32} (h : fX2_named_100 rc s0 a1 a2 a3 w = some R) : RT (GA q) l (dd + 1) yX2_named cX2_named 6 ((some .int)) N X 100 [.int (b2i s0)] [(0, .ref 42), (1, .int a1), (2, .int a2), (3, .int a3)] w := by
  unfold fX2_named_100 at h
  refine r_istore (pc := 100) (loc' := [(4, .int (b2i s0)), (0, .ref 42), (1, .int a1), (2, .int a2), (3, .int a3)]) dX2_named_100 (Nat.le_of_ble_eq_true rfl) rfl ?_
  refine r_iload (pc := 102) dX2_named_102 0 rfl ?_
  refine r_z_ne (pc := 104) dX2_named_104 rfl (fun hc1 => ?_) (fun hc1 => ?_)
  · replace h := if_t hc1 h
    refine r_drop (loc' := [(0, .ref 42), (1, .int a1), (2, .int a2), (3, .int a3), (4, .int (b2i s0))]) [1, 2, 3, 4, 0] rfl ?_
    exact pX2_named_119 hS hK hN h
  replace h := if_f hc1 h
  refine r_aload_n (pc := 107) dX2_named_107 rfl 1 rfl ?_
  refine r_get (pc := 108) (j := 2) (v := .ref 13) oA42 cf2 flRX2_31 rfl dX2_named_108 rfl ?_
  refine r_iload_n (pc := 111) dX2_named_111 rfl 4 rfl ?_
  replace h := lt_e h; obtain ⟨x2, ex2, h⟩ := h
  refine r_cVi (pc := 112) wyX8_sort oA13 rfl mlRX2_180 iyX8_sort syX8_sort ⟨Nat.succ_le_succ (Nat.le_trans (Nat.le_of_ble_eq_true rfl) hK), (Nat.le_of_ble_eq_true rfl)⟩ rfl rfl (Nat.le_of_ble_eq_true rfl) dX2_named_112 (mX8_sort ex2 (pI.mk ?_))
  refine r_iconst (pc := 115) dX2_named_115 ki_3 ?_
  refine r_icmp_ne (pc := 116) dX2_named_116 rfl (fun hc3 => ?_) (fun hc3 => ?_)
  · replace h := if_f hc3 h
    refine r_aload_n (pc := 198) dX2_named_198 rfl 1 rfl ?_
    refine r_iload_n (pc := 199) dX2_named_199 rfl 4 rfl ?_
    refine r_iload_n (pc := 200) dX2_named_200 rfl 3 rfl ?_
    replace h := lt_e h; obtain ⟨w4, ew4, h⟩ := h
    refine r_cVv (pc := 201) wyX2_variable oA42 rfl mlRX2_190 iyX2_variable syX2_variable ⟨Nat.succ_le_succ (Nat.le_trans (Nat.le_of_ble_eq_true rfl) hK), (Nat.le_of_ble_eq_true rfl)⟩ rfl rfl (Nat.le_of_ble_eq_true rfl) dX2_named_201 (mX2_variable ew4 (pV.mk ?_))
    refine r_aload_n (pc := 204) dX2_named_204 rfl 1 rfl ?_
    refine r_get (pc := 205) (j := 4) (v := .ref 43) oA42 cf2 flRX2_10 rfl dX2_named_205 rfl ?_
    refine r_aload_n (pc := 208) dX2_named_208 rfl 1 rfl ?_
    refine r_iload_n (pc := 209) dX2_named_209 rfl 4 rfl ?_
    refine r_iconst (pc := 210) dX2_named_210 ki_1 ?_
    replace h := lt_e h; obtain ⟨x5, ex5, h⟩ := h
    refine r_cVi (pc := 211) wyX2_typeIf oA42 rfl mlRX2_177 iyX2_typeIf syX2_typeIf ⟨Nat.succ_le_succ (Nat.le_trans (Nat.le_of_ble_eq_true rfl) hK), (Nat.le_of_ble_eq_true rfl)⟩ rfl rfl (Nat.le_of_ble_eq_true rfl) dX2_named_211 (mX2_typeIf ex5 (pI.mk ?_))
    refine r_iload_n (pc := 214) dX2_named_214 rfl 3 rfl ?_
    replace h := lt_e h; obtain ⟨w6, ew6, h⟩ := h
    refine r_cVv (pc := 215) wyX10_push oA43 rfl mlRX2_153 iyX10_push syX10_push ⟨Nat.succ_le_succ (Nat.le_trans (Nat.le_of_ble_eq_true rfl) hK), (Nat.le_of_ble_eq_true rfl)⟩ rfl rfl (Nat.le_of_ble_eq_true rfl) dX2_named_215 (mX10_push ew6 (pV.mk ?_))
    refine r_iload (pc := 218) dX2_named_218 0 rfl ?_
    refine r_z_eq (pc := 220) dX2_named_220 rfl (fun hc7 => ?_) (fun hc7 => ?_)
    · replace h := if_f hc7 h
      refine r_iconst (pc := 228) dX2_named_228 ki_1 ?_
      exact rO_i (pc := 229) rfl dX2_named_229 h hN
    replace h := if_t hc7 h
    refine r_bipush (pc := 223) dX2_named_223 kb_6 ?_
    refine r_goto (pc := 225) dX2_named_225 rfl ?_
    exact rO_i (pc := 229) rfl dX2_named_229 h hN
  replace h := if_t hc3 h
  refine r_drop (loc' := [(0, .ref 42), (1, .int a1), (2, .int a2), (3, .int a3), (4, .int (b2i s0))]) [1, 2, 3, 4, 0] rfl ?_
  exact pX2_named_119 hS hK hN h
def fX2_named (rc : TX2_typed) (a1 : Int32) (w : Wd) : Option (Int32 × Wd) :=
  lt (fX9_at w) fun x1 => lt2 (fX1_find x1 w) fun x2 w3 => lt2 (fX9_take 2 w3) fun x4 w5 => lt (fX9_kind w5) fun x6 => if x6 = 45 then (bn2 (rc 6 a1 x2 x1 w5) fun x8 w9 => lt2 (fX0_put__ 24 w9) fun x10 w11 => lt (fX2_typeIf x2 2 w11) fun x12 => lt (fX10_push x12 x1 w11) fun w13 => if x8 = 1 then (some (2, w13)) else (some (3, w13))) else (lt (fX9_kind w5) fun x15 => if x15 = 43 then (fX2_named_100 rc true a1 x1 x2 w5) else (fX2_named_100 rc false a1 x1 x2 w5))
theorem pX2_named {q : Gq} {l : Launch} {N : Option Value → Wd → Prop} {X : String → Wd → Prop} {rc : TX2_typed} {dd : Nat} (hS : HSX2_typed q l rc dd) (hK : 8 ≤ dd) {w : Wd} {R : Int32 × Wd} (hN : N (some (.int R.1)) R.2) {a1 : Int32} (h : fX2_named rc a1 w = some R) : RT (GA q) l (dd + 1) yX2_named cX2_named 6 ((some .int)) N X 0 [] [(0, .ref 42), (1, .int a1)] w := by
  unfold fX2_named at h
  refine r_aload_n (pc := 0) dX2_named_0 rfl 0 rfl ?_
  refine r_get (pc := 1) (j := 1) (v := .ref 4) oA42 cf2 flRX2_26 rfl dX2_named_1 rfl ?_
  replace h := lt_e h; obtain ⟨x1, ex1, h⟩ := h
  refine r_cVi (pc := 4) wyX9_at oA4 rfl mlRX2_40 iyX9_at syX9_at ⟨Nat.succ_le_succ (Nat.le_trans (Nat.le_of_ble_eq_true rfl) hK), (Nat.le_of_ble_eq_true rfl)⟩ rfl rfl (Nat.le_of_ble_eq_true rfl) dX2_named_4 (mX9_at ex1 (pI.mk ?_))
  refine r_istore_n (pc := 7) (loc' := [(2, .int x1), (0, .ref 42), (1, .int a1)]) dX2_named_7 rfl (Nat.le_of_ble_eq_true rfl) rfl ?_
  refine r_aload_n (pc := 8) dX2_named_8 rfl 1 rfl ?_
  refine r_get (pc := 9) (j := 0) (v := .ref 3) oA42 cf2 flRX2_16 rfl dX2_named_9 rfl ?_
  refine r_iload_n (pc := 12) dX2_named_12 rfl 0 rfl ?_
  replace h := lt2_e h; obtain ⟨x2, w3, ew3, h⟩ := h
  refine r_cVi (pc := 13) wyX1_find oA3 rfl mlRX2_170 iyX1_find syX1_find ⟨Nat.succ_le_succ (Nat.le_trans (Nat.le_of_ble_eq_true rfl) hK), (Nat.le_of_ble_eq_true rfl)⟩ rfl rfl (Nat.le_of_ble_eq_true rfl) dX2_named_13 (mX1_find ew3 (pI.mk ?_))
  refine r_istore_n (pc := 16) (loc' := [(3, .int x2), (2, .int x1), (0, .ref 42), (1, .int a1)]) dX2_named_16 rfl (Nat.le_of_ble_eq_true rfl) rfl ?_
  refine r_aload_n (pc := 17) dX2_named_17 rfl 2 rfl ?_
  refine r_get (pc := 18) (j := 1) (v := .ref 4) oA42 cf2 flRX2_26 rfl dX2_named_18 rfl ?_
  refine r_iconst (pc := 21) dX2_named_21 ki_2 ?_
  replace h := lt2_e h; obtain ⟨x4, w5, ew5, h⟩ := h
  refine r_cVi (pc := 22) wyX9_take oA4 rfl mlRX2_123 iyX9_take syX9_take ⟨Nat.succ_le_succ (Nat.le_trans (Nat.le_of_ble_eq_true rfl) hK), (Nat.le_of_ble_eq_true rfl)⟩ rfl rfl (Nat.le_of_ble_eq_true rfl) dX2_named_22 (mX9_take ew5 (pI.mk ?_))
  refine r_pop (pc := 25) dX2_named_25 rfl ?_
  refine r_aload_n (pc := 26) dX2_named_26 rfl 2 rfl ?_
  refine r_get (pc := 27) (j := 1) (v := .ref 4) oA42 cf2 flRX2_26 rfl dX2_named_27 rfl ?_
  replace h := lt_e h; obtain ⟨x6, ex6, h⟩ := h
  refine r_cVi (pc := 30) wyX9_kind oA4 rfl mlRX2_75 iyX9_kind syX9_kind ⟨Nat.succ_le_succ (Nat.le_trans (Nat.le_of_ble_eq_true rfl) hK), (Nat.le_of_ble_eq_true rfl)⟩ rfl rfl (Nat.le_of_ble_eq_true rfl) dX2_named_30 (mX9_kind ex6 (pI.mk ?_))
  refine r_bipush (pc := 33) dX2_named_33 kb_45 ?_
  refine r_icmp_ne (pc := 35) dX2_named_35 rfl (fun hc7 => ?_) (fun hc7 => ?_)
  · replace h := if_f hc7 h
    refine r_aload_n (pc := 83) dX2_named_83 rfl 2 rfl ?_
    refine r_get (pc := 84) (j := 1) (v := .ref 4) oA42 cf2 flRX2_26 rfl dX2_named_84 rfl ?_
    replace h := lt_e h; obtain ⟨x15, ex15, h⟩ := h
    refine r_cVi (pc := 87) wyX9_kind oA4 rfl mlRX2_75 iyX9_kind syX9_kind ⟨Nat.succ_le_succ (Nat.le_trans (Nat.le_of_ble_eq_true rfl) hK), (Nat.le_of_ble_eq_true rfl)⟩ rfl rfl (Nat.le_of_ble_eq_true rfl) dX2_named_87 (mX9_kind ex15 (pI.mk ?_))
    refine r_bipush (pc := 90) dX2_named_90 kb_43 ?_
    refine r_icmp_ne (pc := 92) dX2_named_92 rfl (fun hc16 => ?_) (fun hc16 => ?_)
    · replace h := if_f hc16 h
      refine r_iconst (pc := 99) dX2_named_99 ki_0 ?_
      refine r_drop (loc' := [(0, .ref 42), (1, .int a1), (2, .int x1), (3, .int x2)]) [2, 3, 1, 0] rfl ?_
      exact pX2_named_100 hS hK hN h
    replace h := if_t hc16 h
    refine r_iconst (pc := 95) dX2_named_95 ki_1 ?_
    refine r_goto (pc := 96) dX2_named_96 rfl ?_
    refine r_drop (loc' := [(0, .ref 42), (1, .int a1), (2, .int x1), (3, .int x2)]) [2, 3, 1, 0] rfl ?_
    exact pX2_named_100 hS hK hN h
  replace h := if_t hc7 h
  refine r_aload_n (pc := 38) dX2_named_38 rfl 2 rfl ?_
  refine r_iload_n (pc := 39) dX2_named_39 rfl 3 rfl ?_
  refine r_iload_n (pc := 40) dX2_named_40 rfl 0 rfl ?_
  refine r_iload_n (pc := 41) dX2_named_41 rfl 1 rfl ?_
  replace h := bn2_e h; obtain ⟨x8, w9, ew9, h⟩ := h
  refine r_cVi (pc := 42) wyX2_element oA42 rfl mlRX2_173 iyX2_element syX2_element ⟨Nat.le_refl _, (Nat.le_of_ble_eq_true rfl)⟩ rfl rfl (Nat.le_of_ble_eq_true rfl) dX2_named_42 ((hS.2.2.2.2.2.2.1 _ _ _ _ _ _ _ _) ew9 (pI.mk ?_))
  refine r_istore (pc := 45) (loc' := [(4, .int x8), (3, .int x2), (2, .int x1), (0, .ref 42), (1, .int a1)]) dX2_named_45 (Nat.le_of_ble_eq_true rfl) rfl ?_
  refine r_aload_n (pc := 47) dX2_named_47 rfl 3 rfl ?_
  refine r_get (pc := 48) (j := 3) (v := .ref 40) oA42 cf2 flRX2_36 rfl dX2_named_48 rfl ?_
  refine r_bipush (pc := 51) dX2_named_51 kb_24 ?_
  replace h := lt2_e h; obtain ⟨x10, w11, ew11, h⟩ := h
  refine r_cVi (pc := 53) wyX0_put__ oA40 rfl mlRX2_69 iyX0_put__ syX0_put__ ⟨Nat.succ_le_succ (Nat.le_trans (Nat.le_of_ble_eq_true rfl) hK), (Nat.le_of_ble_eq_true rfl)⟩ rfl rfl (Nat.le_of_ble_eq_true rfl) dX2_named_53 (mX0_put__ ew11 (pI.mk ?_))
  refine r_pop (pc := 56) dX2_named_56 rfl ?_
  refine r_aload_n (pc := 57) dX2_named_57 rfl 3 rfl ?_
  refine r_get (pc := 58) (j := 4) (v := .ref 43) oA42 cf2 flRX2_10 rfl dX2_named_58 rfl ?_
  refine r_aload_n (pc := 61) dX2_named_61 rfl 3 rfl ?_
  refine r_iload_n (pc := 62) dX2_named_62 rfl 1 rfl ?_
  refine r_iconst (pc := 63) dX2_named_63 ki_2 ?_
  replace h := lt_e h; obtain ⟨x12, ex12, h⟩ := h
  refine r_cVi (pc := 64) wyX2_typeIf oA42 rfl mlRX2_177 iyX2_typeIf syX2_typeIf ⟨Nat.succ_le_succ (Nat.le_trans (Nat.le_of_ble_eq_true rfl) hK), (Nat.le_of_ble_eq_true rfl)⟩ rfl rfl (Nat.le_of_ble_eq_true rfl) dX2_named_64 (mX2_typeIf ex12 (pI.mk ?_))
  refine r_iload_n (pc := 67) dX2_named_67 rfl 2 rfl ?_
  replace h := lt_e h; obtain ⟨w13, ew13, h⟩ := h
  refine r_cVv (pc := 68) wyX10_push oA43 rfl mlRX2_153 iyX10_push syX10_push ⟨Nat.succ_le_succ (Nat.le_trans (Nat.le_of_ble_eq_true rfl) hK), (Nat.le_of_ble_eq_true rfl)⟩ rfl rfl (Nat.le_of_ble_eq_true rfl) dX2_named_68 (mX10_push ew13 (pV.mk ?_))
  refine r_iload (pc := 71) dX2_named_71 0 rfl ?_
  refine r_iconst (pc := 73) dX2_named_73 ki_1 ?_
  refine r_icmp_ne (pc := 74) dX2_named_74 rfl (fun hc14 => ?_) (fun hc14 => ?_)
  · replace h := if_f hc14 h
    refine r_iconst (pc := 81) dX2_named_81 ki_3 ?_
    exact rO_i (pc := 82) rfl dX2_named_82 h hN
  replace h := if_t hc14 h
  refine r_iconst (pc := 77) dX2_named_77 ki_2 ?_
  refine r_goto (pc := 78) dX2_named_78 rfl ?_
  exact rO_i (pc := 82) rfl dX2_named_82 h hN
/-! AlgolMill$Expressions.unnamed (I)I: O, 908 -/
theorem dX2_unnamed_0 : decode cX2_unnamed 0 = .ok (.aload_n 0, 1) := by decide +kernel
theorem dX2_unnamed_1 : decode cX2_unnamed 1 = .ok (.getfield 26, 3) := by decide +kernel
theorem dX2_unnamed_4 : decode cX2_unnamed 4 = .ok (.invokevirtual 40, 3) := by decide +kernel
theorem dX2_unnamed_7 : decode cX2_unnamed 7 = .ok (.istore_n 2, 1) := by decide +kernel
theorem dX2_unnamed_8 : decode cX2_unnamed 8 = .ok (.aload_n 0, 1) := by decide +kernel
theorem dX2_unnamed_9 : decode cX2_unnamed 9 = .ok (.getfield 26, 3) := by decide +kernel
theorem dX2_unnamed_12 : decode cX2_unnamed 12 = .ok (.invokevirtual 75, 3) := by decide +kernel
theorem dX2_unnamed_15 : decode cX2_unnamed 15 = .ok (.istore_n 3, 1) := by decide +kernel
theorem dX2_unnamed_16 : decode cX2_unnamed 16 = .ok (.iload_n 3, 1) := by decide +kernel
theorem dX2_unnamed_17 : decode cX2_unnamed 17 = .ok (.bipush 43, 2) := by decide +kernel
theorem dX2_unnamed_19 : decode cX2_unnamed 19 = .ok (.if_icmp .ne 42, 3) := by decide +kernel
theorem dX2_unnamed_22 : decode cX2_unnamed 22 = .ok (.aload_n 0, 1) := by decide +kernel
theorem dX2_unnamed_23 : decode cX2_unnamed 23 = .ok (.getfield 26, 3) := by decide +kernel
theorem dX2_unnamed_26 : decode cX2_unnamed 26 = .ok (.iload_n 1, 1) := by decide +kernel
theorem dX2_unnamed_27 : decode cX2_unnamed 27 = .ok (.invokevirtual 54, 3) := by decide +kernel
theorem dX2_unnamed_30 : decode cX2_unnamed 30 = .ok (.istore 4, 2) := by decide +kernel
theorem dX2_unnamed_32 : decode cX2_unnamed 32 = .ok (.aload_n 0, 1) := by decide +kernel
theorem dX2_unnamed_33 : decode cX2_unnamed 33 = .ok (.iload 4, 2) := by decide +kernel
theorem dX2_unnamed_35 : decode cX2_unnamed 35 = .ok (.invokevirtual 46, 3) := by decide +kernel
theorem dX2_unnamed_38 : decode cX2_unnamed 38 = .ok (.istore 5, 2) := by decide +kernel
theorem dX2_unnamed_40 : decode cX2_unnamed 40 = .ok (.aload_n 0, 1) := by decide +kernel
theorem dX2_unnamed_41 : decode cX2_unnamed 41 = .ok (.getfield 26, 3) := by decide +kernel
theorem dX2_unnamed_44 : decode cX2_unnamed 44 = .ok (.bipush 44, 2) := by decide +kernel
theorem dX2_unnamed_46 : decode cX2_unnamed 46 = .ok (.invokevirtual 63, 3) := by decide +kernel
theorem dX2_unnamed_49 : decode cX2_unnamed 49 = .ok (.aload_n 0, 1) := by decide +kernel
theorem dX2_unnamed_50 : decode cX2_unnamed 50 = .ok (.getfield 10, 3) := by decide +kernel
theorem dX2_unnamed_53 : decode cX2_unnamed 53 = .ok (.iload 5, 2) := by decide +kernel
theorem dX2_unnamed_55 : decode cX2_unnamed 55 = .ok (.iload_n 2, 1) := by decide +kernel
theorem dX2_unnamed_56 : decode cX2_unnamed 56 = .ok (.invokevirtual 153, 3) := by decide +kernel
theorem dX2_unnamed_59 : decode cX2_unnamed 59 = .ok (.iconst 4, 1) := by decide +kernel
theorem dX2_unnamed_60 : decode cX2_unnamed 60 = .ok (.ireturn, 1) := by decide +kernel
theorem dX2_unnamed_61 : decode cX2_unnamed 61 = .ok (.iload_n 3, 1) := by decide +kernel
theorem dX2_unnamed_62 : decode cX2_unnamed 62 = .ok (.iconst 3, 1) := by decide +kernel
theorem dX2_unnamed_63 : decode cX2_unnamed 63 = .ok (.if_icmp .eq 15, 3) := by decide +kernel
theorem dX2_unnamed_66 : decode cX2_unnamed 66 = .ok (.iload_n 3, 1) := by decide +kernel
theorem dX2_unnamed_67 : decode cX2_unnamed 67 = .ok (.bipush 23, 2) := by decide +kernel
theorem dX2_unnamed_69 : decode cX2_unnamed 69 = .ok (.if_icmp .eq 9, 3) := by decide +kernel
theorem dX2_unnamed_72 : decode cX2_unnamed 72 = .ok (.iload_n 3, 1) := by decide +kernel
theorem dX2_unnamed_73 : decode cX2_unnamed 73 = .ok (.bipush 24, 2) := by decide +kernel
theorem dX2_unnamed_75 : decode cX2_unnamed 75 = .ok (.if_icmp .ne 82, 3) := by decide +kernel
theorem dX2_unnamed_78 : decode cX2_unnamed 78 = .ok (.iload_n 3, 1) := by decide +kernel
theorem dX2_unnamed_79 : decode cX2_unnamed 79 = .ok (.bipush 23, 2) := by decide +kernel
theorem dX2_unnamed_81 : decode cX2_unnamed 81 = .ok (.if_icmp .ne 7, 3) := by decide +kernel
theorem dX2_unnamed_84 : decode cX2_unnamed 84 = .ok (.lconst 1, 1) := by decide +kernel
theorem dX2_unnamed_85 : decode cX2_unnamed 85 = .ok (.goto 4, 3) := by decide +kernel
theorem dX2_unnamed_88 : decode cX2_unnamed 88 = .ok (.lconst 0, 1) := by decide +kernel
theorem dX2_unnamed_89 : decode cX2_unnamed 89 = .ok (.lstore 4, 2) := by decide +kernel
theorem dX2_unnamed_91 : decode cX2_unnamed 91 = .ok (.aload_n 0, 1) := by decide +kernel
theorem dX2_unnamed_92 : decode cX2_unnamed 92 = .ok (.getfield 36, 3) := by decide +kernel
theorem dX2_unnamed_95 : decode cX2_unnamed 95 = .ok (.bipush 18, 2) := by decide +kernel
theorem dX2_unnamed_97 : decode cX2_unnamed 97 = .ok (.invokevirtual 69, 3) := by decide +kernel
theorem dX2_unnamed_100 : decode cX2_unnamed 100 = .ok (.pop, 1) := by decide +kernel
theorem dX2_unnamed_101 : decode cX2_unnamed 101 = .ok (.aload_n 0, 1) := by decide +kernel
theorem dX2_unnamed_102 : decode cX2_unnamed 102 = .ok (.getfield 36, 3) := by decide +kernel
theorem dX2_unnamed_105 : decode cX2_unnamed 105 = .ok (.iload_n 3, 1) := by decide +kernel
theorem dX2_unnamed_106 : decode cX2_unnamed 106 = .ok (.iconst 3, 1) := by decide +kernel
theorem dX2_unnamed_107 : decode cX2_unnamed 107 = .ok (.if_icmp .ne 14, 3) := by decide +kernel
theorem dX2_unnamed_110 : decode cX2_unnamed 110 = .ok (.aload_n 0, 1) := by decide +kernel
theorem dX2_unnamed_111 : decode cX2_unnamed 111 = .ok (.getfield 26, 3) := by decide +kernel
theorem dX2_unnamed_114 : decode cX2_unnamed 114 = .ok (.iload_n 2, 1) := by decide +kernel
theorem dX2_unnamed_115 : decode cX2_unnamed 115 = .ok (.invokevirtual 159, 3) := by decide +kernel
theorem dX2_unnamed_118 : decode cX2_unnamed 118 = .ok (.goto 5, 3) := by decide +kernel
theorem dX2_unnamed_121 : decode cX2_unnamed 121 = .ok (.lload 4, 2) := by decide +kernel
theorem dX2_unnamed_123 : decode cX2_unnamed 123 = .ok (.invokevirtual 163, 3) := by decide +kernel
theorem dX2_unnamed_126 : decode cX2_unnamed 126 = .ok (.pop, 1) := by decide +kernel
theorem dX2_unnamed_127 : decode cX2_unnamed 127 = .ok (.aload_n 0, 1) := by decide +kernel
theorem dX2_unnamed_128 : decode cX2_unnamed 128 = .ok (.getfield 26, 3) := by decide +kernel
theorem dX2_unnamed_131 : decode cX2_unnamed 131 = .ok (.iload_n 3, 1) := by decide +kernel
theorem dX2_unnamed_132 : decode cX2_unnamed 132 = .ok (.invokevirtual 123, 3) := by decide +kernel
theorem dX2_unnamed_135 : decode cX2_unnamed 135 = .ok (.pop, 1) := by decide +kernel
theorem dX2_unnamed_136 : decode cX2_unnamed 136 = .ok (.aload_n 0, 1) := by decide +kernel
theorem dX2_unnamed_137 : decode cX2_unnamed 137 = .ok (.getfield 10, 3) := by decide +kernel
theorem dX2_unnamed_140 : decode cX2_unnamed 140 = .ok (.iload_n 3, 1) := by decide +kernel
theorem dX2_unnamed_141 : decode cX2_unnamed 141 = .ok (.iconst 3, 1) := by decide +kernel
theorem dX2_unnamed_142 : decode cX2_unnamed 142 = .ok (.if_icmp .ne 7, 3) := by decide +kernel
theorem dX2_unnamed_145 : decode cX2_unnamed 145 = .ok (.iconst 1, 1) := by decide +kernel
theorem dX2_unnamed_146 : decode cX2_unnamed 146 = .ok (.goto 4, 3) := by decide +kernel
theorem dX2_unnamed_149 : decode cX2_unnamed 149 = .ok (.iconst 2, 1) := by decide +kernel
theorem dX2_unnamed_150 : decode cX2_unnamed 150 = .ok (.iload_n 2, 1) := by decide +kernel
theorem dX2_unnamed_151 : decode cX2_unnamed 151 = .ok (.invokevirtual 153, 3) := by decide +kernel
theorem dX2_unnamed_154 : decode cX2_unnamed 154 = .ok (.goto 19, 3) := by decide +kernel
theorem dX2_unnamed_157 : decode cX2_unnamed 157 = .ok (.aload_n 0, 1) := by decide +kernel
theorem dX2_unnamed_158 : decode cX2_unnamed 158 = .ok (.getfield 26, 3) := by decide +kernel
theorem dX2_unnamed_161 : decode cX2_unnamed 161 = .ok (.invokevirtual 167, 3) := by decide +kernel
theorem dX2_unnamed_164 : decode cX2_unnamed 164 = .ok (.aload_n 0, 1) := by decide +kernel
theorem dX2_unnamed_165 : decode cX2_unnamed 165 = .ok (.getfield 10, 3) := by decide +kernel
theorem dX2_unnamed_168 : decode cX2_unnamed 168 = .ok (.iconst 0, 1) := by decide +kernel
theorem dX2_unnamed_169 : decode cX2_unnamed 169 = .ok (.iload_n 2, 1) := by decide +kernel
theorem dX2_unnamed_170 : decode cX2_unnamed 170 = .ok (.invokevirtual 153, 3) := by decide +kernel
theorem dX2_unnamed_173 : decode cX2_unnamed 173 = .ok (.bipush 6, 2) := by decide +kernel
theorem dX2_unnamed_175 : decode cX2_unnamed 175 = .ok (.ireturn, 1) := by decide +kernel
def fX2_unnamed_123 (rc : TX2_typed) (s1 : Int64) (a2 : Int32) (a3 : Int32) (w : Wd) : Option (Int32 × Wd) :=
  lt2 (fX0_word s1 w) fun x1 w2 => lt2 (fX9_take a3 w2) fun x3 w4 => if a3 = 3 then (lt (fX10_push 1 a2 w4) fun w6 => some (6, w6)) else (lt (fX10_push 2 a2 w4) fun w7 => some (6, w7))
theorem pX2_unnamed_123 {q : Gq} {l : Launch} {N : Option Value → Wd → Prop} {X : String → Wd → Prop} {rc : TX2_typed} {dd : Nat} (hS : HSX2_typed q l rc dd) (hK : 8 ≤ dd) {w : Wd} {R : Int32 × Wd} (hN : N (some (.int R.1)) R.2) {s1 : Int64} {a2 : Int32} {a3 : Int32} (h : fX2_unnamed_123 rc s1 a2 a3 w = some R) : RT (GA q) l (dd + 1) yX2_unnamed cX2_unnamed 6 ((some .int)) N X 123 [.long s1, .ref 40] [(0, .ref 42), (2, .int a2), (3, .int a3)] w := by
  unfold fX2_unnamed_123 at h
  replace h := lt2_e h; obtain ⟨x1, w2, ew2, h⟩ := h
  refine r_cVi (pc := 123) wyX0_word oA40 rfl mlRX2_163 iyX0_word syX0_word ⟨Nat.succ_le_succ (Nat.le_trans (Nat.le_of_ble_eq_true rfl) hK), (Nat.le_of_ble_eq_true rfl)⟩ rfl rfl (Nat.le_of_ble_eq_true rfl) dX2_unnamed_123 (mX0_word ew2 (pI.mk ?_))
  refine r_pop (pc := 126) dX2_unnamed_126 rfl ?_
  refine r_aload_n (pc := 127) dX2_unnamed_127 rfl 0 rfl ?_
  refine r_get (pc := 128) (j := 1) (v := .ref 4) oA42 cf2 flRX2_26 rfl dX2_unnamed_128 rfl ?_
  refine r_iload_n (pc := 131) dX2_unnamed_131 rfl 2 rfl ?_
  replace h := lt2_e h; obtain ⟨x3, w4, ew4, h⟩ := h
  refine r_cVi (pc := 132) wyX9_take oA4 rfl mlRX2_123 iyX9_take syX9_take ⟨Nat.succ_le_succ (Nat.le_trans (Nat.le_of_ble_eq_true rfl) hK), (Nat.le_of_ble_eq_true rfl)⟩ rfl rfl (Nat.le_of_ble_eq_true rfl) dX2_unnamed_132 (mX9_take ew4 (pI.mk ?_))
  refine r_pop (pc := 135) dX2_unnamed_135 rfl ?_
  refine r_aload_n (pc := 136) dX2_unnamed_136 rfl 0 rfl ?_
  refine r_get (pc := 137) (j := 4) (v := .ref 43) oA42 cf2 flRX2_10 rfl dX2_unnamed_137 rfl ?_
  refine r_iload_n (pc := 140) dX2_unnamed_140 rfl 2 rfl ?_
  refine r_iconst (pc := 141) dX2_unnamed_141 ki_3 ?_
  refine r_icmp_ne (pc := 142) dX2_unnamed_142 rfl (fun hc5 => ?_) (fun hc5 => ?_)
  · replace h := if_f hc5 h
    refine r_iconst (pc := 149) dX2_unnamed_149 ki_2 ?_
    refine r_iload_n (pc := 150) dX2_unnamed_150 rfl 1 rfl ?_
    replace h := lt_e h; obtain ⟨w7, ew7, h⟩ := h
    refine r_cVv (pc := 151) wyX10_push oA43 rfl mlRX2_153 iyX10_push syX10_push ⟨Nat.succ_le_succ (Nat.le_trans (Nat.le_of_ble_eq_true rfl) hK), (Nat.le_of_ble_eq_true rfl)⟩ rfl rfl (Nat.le_of_ble_eq_true rfl) dX2_unnamed_151 (mX10_push ew7 (pV.mk ?_))
    refine r_goto (pc := 154) dX2_unnamed_154 rfl ?_
    refine r_bipush (pc := 173) dX2_unnamed_173 kb_6 ?_
    exact rO_i (pc := 175) rfl dX2_unnamed_175 h hN
  replace h := if_t hc5 h
  refine r_iconst (pc := 145) dX2_unnamed_145 ki_1 ?_
  refine r_goto (pc := 146) dX2_unnamed_146 rfl ?_
  refine r_iload_n (pc := 150) dX2_unnamed_150 rfl 1 rfl ?_
  replace h := lt_e h; obtain ⟨w6, ew6, h⟩ := h
  refine r_cVv (pc := 151) wyX10_push oA43 rfl mlRX2_153 iyX10_push syX10_push ⟨Nat.succ_le_succ (Nat.le_trans (Nat.le_of_ble_eq_true rfl) hK), (Nat.le_of_ble_eq_true rfl)⟩ rfl rfl (Nat.le_of_ble_eq_true rfl) dX2_unnamed_151 (mX10_push ew6 (pV.mk ?_))
  refine r_goto (pc := 154) dX2_unnamed_154 rfl ?_
  refine r_bipush (pc := 173) dX2_unnamed_173 kb_6 ?_
  exact rO_i (pc := 175) rfl dX2_unnamed_175 h hN
def fX2_unnamed_89 (rc : TX2_typed) (s0 : Int64) (a2 : Int32) (a3 : Int32) (w : Wd) : Option (Int32 × Wd) :=
  lt2 (fX0_put__ 18 w) fun x1 w2 => if a3 = 3 then (lt (fX9_numberAt a2 w2) fun x4 => fX2_unnamed_123 rc x4 a2 a3 w2) else (fX2_unnamed_123 rc s0 a2 a3 w2)
theorem pX2_unnamed_89 {q : Gq} {l : Launch} {N : Option Value → Wd → Prop} {X : String → Wd → Prop} {rc : TX2_typed} {dd : Nat} (hS : HSX2_typed q l rc dd) (hK : 8 ≤ dd) {w : Wd} {R : Int32 × Wd} (hN : N (some (.int R.1)) R.2) {s0 : Int64} {a2 : Int32} {a3 : Int32} (h : fX2_unnamed_89 rc s0 a2 a3 w = some R) : RT (GA q) l (dd + 1) yX2_unnamed cX2_unnamed 6 ((some .int)) N X 89 [.long s0] [(0, .ref 42), (2, .int a2), (3, .int a3)] w := by
  unfold fX2_unnamed_89 at h
  refine r_lstore (pc := 89) (loc' := [(4, .long s0), (0, .ref 42), (2, .int a2), (3, .int a3)]) dX2_unnamed_89 (Nat.le_of_ble_eq_true rfl) rfl ?_
  refine r_aload_n (pc := 91) dX2_unnamed_91 rfl 1 rfl ?_
  refine r_get (pc := 92) (j := 3) (v := .ref 40) oA42 cf2 flRX2_36 rfl dX2_unnamed_92 rfl ?_
  refine r_bipush (pc := 95) dX2_unnamed_95 kb_18 ?_
  replace h := lt2_e h; obtain ⟨x1, w2, ew2, h⟩ := h
  refine r_cVi (pc := 97) wyX0_put__ oA40 rfl mlRX2_69 iyX0_put__ syX0_put__ ⟨Nat.succ_le_succ (Nat.le_trans (Nat.le_of_ble_eq_true rfl) hK), (Nat.le_of_ble_eq_true rfl)⟩ rfl rfl (Nat.le_of_ble_eq_true rfl) dX2_unnamed_97 (mX0_put__ ew2 (pI.mk ?_))
  refine r_pop (pc := 100) dX2_unnamed_100 rfl ?_
  refine r_aload_n (pc := 101) dX2_unnamed_101 rfl 1 rfl ?_
  refine r_get (pc := 102) (j := 3) (v := .ref 40) oA42 cf2 flRX2_36 rfl dX2_unnamed_102 rfl ?_
  refine r_iload_n (pc := 105) dX2_unnamed_105 rfl 3 rfl ?_
  refine r_iconst (pc := 106) dX2_unnamed_106 ki_3 ?_
  refine r_icmp_ne (pc := 107) dX2_unnamed_107 rfl (fun hc3 => ?_) (fun hc3 => ?_)
  · replace h := if_f hc3 h
    refine r_lload (pc := 121) dX2_unnamed_121 0 rfl ?_
    refine r_drop (loc' := [(0, .ref 42), (2, .int a2), (3, .int a3)]) [1, 2, 3] rfl ?_
    exact pX2_unnamed_123 hS hK hN h
  replace h := if_t hc3 h
  refine r_aload_n (pc := 110) dX2_unnamed_110 rfl 1 rfl ?_
  refine r_get (pc := 111) (j := 1) (v := .ref 4) oA42 cf2 flRX2_26 rfl dX2_unnamed_111 rfl ?_
  refine r_iload_n (pc := 114) dX2_unnamed_114 rfl 2 rfl ?_
  replace h := lt_e h; obtain ⟨x4, ex4, h⟩ := h
  refine r_cVl (pc := 115) wyX9_numberAt oA4 rfl mlRX2_159 iyX9_numberAt syX9_numberAt ⟨Nat.succ_le_succ (Nat.le_trans (Nat.le_of_ble_eq_true rfl) hK), (Nat.le_of_ble_eq_true rfl)⟩ rfl rfl (Nat.le_of_ble_eq_true rfl) dX2_unnamed_115 (mX9_numberAt ex4 (pL.mk ?_))
  refine r_goto (pc := 118) dX2_unnamed_118 rfl ?_
  refine r_drop (loc' := [(0, .ref 42), (2, .int a2), (3, .int a3)]) [1, 2, 3] rfl ?_
  exact pX2_unnamed_123 hS hK hN h
def fX2_unnamed (rc : TX2_typed) (a1 : Int32) (w : Wd) : Option (Int32 × Wd) :=
  lt (fX9_at w) fun x1 => lt (fX9_kind w) fun x2 => if x2 = 43 then (lt2 (fX9_open a1 w) fun x4 w5 => bn2 (rc 2 x4 0 0 w5) fun x6 w7 => lt (fX9_need 44 w7) fun w8 => lt (fX10_push x6 x1 w8) fun w9 => some (4, w9)) else (if x2 = 3 then (if x2 = 23 then (fX2_unnamed_89 rc 1 x1 x2 w) else (fX2_unnamed_89 rc 0 x1 x2 w)) else (if x2 = 23 then (if x2 = 23 then (fX2_unnamed_89 rc 1 x1 x2 w) else (fX2_unnamed_89 rc 0 x1 x2 w)) else (if x2 = 24 then (if x2 = 23 then (fX2_unnamed_89 rc 1 x1 x2 w) else (fX2_unnamed_89 rc 0 x1 x2 w)) else (lt (fX9_fail w) fun w16 => lt (fX10_push 0 x1 w16) fun w17 => some (6, w17)))))
set_option maxHeartbeats 16000000 in
theorem pX2_unnamed {q : Gq} {l : Launch} {N : Option Value → Wd → Prop} {X : String → Wd → Prop} {rc : TX2_typed} {dd : Nat} (hS : HSX2_typed q l rc dd) (hK : 8 ≤ dd) {w : Wd} {R : Int32 × Wd} (hN : N (some (.int R.1)) R.2) {a1 : Int32} (h : fX2_unnamed rc a1 w = some R) : RT (GA q) l (dd + 1) yX2_unnamed cX2_unnamed 6 ((some .int)) N X 0 [] [(0, .ref 42), (1, .int a1)] w := by
  unfold fX2_unnamed at h
  refine r_aload_n (pc := 0) dX2_unnamed_0 rfl 0 rfl ?_
  refine r_get (pc := 1) (j := 1) (v := .ref 4) oA42 cf2 flRX2_26 rfl dX2_unnamed_1 rfl ?_
  replace h := lt_e h; obtain ⟨x1, ex1, h⟩ := h
  refine r_cVi (pc := 4) wyX9_at oA4 rfl mlRX2_40 iyX9_at syX9_at ⟨Nat.succ_le_succ (Nat.le_trans (Nat.le_of_ble_eq_true rfl) hK), (Nat.le_of_ble_eq_true rfl)⟩ rfl rfl (Nat.le_of_ble_eq_true rfl) dX2_unnamed_4 (mX9_at ex1 (pI.mk ?_))
  refine r_istore_n (pc := 7) (loc' := [(2, .int x1), (0, .ref 42), (1, .int a1)]) dX2_unnamed_7 rfl (Nat.le_of_ble_eq_true rfl) rfl ?_
  refine r_aload_n (pc := 8) dX2_unnamed_8 rfl 1 rfl ?_
  refine r_get (pc := 9) (j := 1) (v := .ref 4) oA42 cf2 flRX2_26 rfl dX2_unnamed_9 rfl ?_
  replace h := lt_e h; obtain ⟨x2, ex2, h⟩ := h
  refine r_cVi (pc := 12) wyX9_kind oA4 rfl mlRX2_75 iyX9_kind syX9_kind ⟨Nat.succ_le_succ (Nat.le_trans (Nat.le_of_ble_eq_true rfl) hK), (Nat.le_of_ble_eq_true rfl)⟩ rfl rfl (Nat.le_of_ble_eq_true rfl) dX2_unnamed_12 (mX9_kind ex2 (pI.mk ?_))
  refine r_istore_n (pc := 15) (loc' := [(3, .int x2), (2, .int x1), (0, .ref 42), (1, .int a1)]) dX2_unnamed_15 rfl (Nat.le_of_ble_eq_true rfl) rfl ?_
  refine r_iload_n (pc := 16) dX2_unnamed_16 rfl 0 rfl ?_
  refine r_bipush (pc := 17) dX2_unnamed_17 kb_43 ?_
  refine r_icmp_ne (pc := 19) dX2_unnamed_19 rfl (fun hc3 => ?_) (fun hc3 => ?_)
  · replace h := if_f hc3 h
    refine r_iload_n (pc := 61) dX2_unnamed_61 rfl 0 rfl ?_
    refine r_iconst (pc := 62) dX2_unnamed_62 ki_3 ?_
    refine r_icmp_eq (pc := 63) dX2_unnamed_63 rfl (fun hc10 => ?_) (fun hc10 => ?_)
    · replace h := if_t hc10 h
      refine r_iload_n (pc := 78) dX2_unnamed_78 rfl 0 rfl ?_
      refine r_bipush (pc := 79) dX2_unnamed_79 kb_23 ?_
      refine r_icmp_ne (pc := 81) dX2_unnamed_81 rfl (fun hc11 => ?_) (fun hc11 => ?_)
      · replace h := if_f hc11 h
        refine r_lconst (pc := 88) dX2_unnamed_88 kl_0 ?_
        refine r_drop (loc' := [(0, .ref 42), (2, .int x1), (3, .int x2)]) [2, 1, 0] rfl ?_
        exact pX2_unnamed_89 hS hK hN h
      replace h := if_t hc11 h
      refine r_lconst (pc := 84) dX2_unnamed_84 kl_1 ?_
      refine r_goto (pc := 85) dX2_unnamed_85 rfl ?_
      refine r_drop (loc' := [(0, .ref 42), (2, .int x1), (3, .int x2)]) [2, 1, 0] rfl ?_
      exact pX2_unnamed_89 hS hK hN h
    replace h := if_f hc10 h
    refine r_iload_n (pc := 66) dX2_unnamed_66 rfl 0 rfl ?_
    refine r_bipush (pc := 67) dX2_unnamed_67 kb_23 ?_
    refine r_icmp_eq (pc := 69) dX2_unnamed_69 rfl (fun hc12 => ?_) (fun hc12 => ?_)
    · replace h := if_t hc12 h
      refine r_iload_n (pc := 78) dX2_unnamed_78 rfl 0 rfl ?_
      refine r_bipush (pc := 79) dX2_unnamed_79 kb_23 ?_
      refine r_icmp_ne (pc := 81) dX2_unnamed_81 rfl (fun hc13 => ?_) (fun hc13 => ?_)
      · replace h := if_f hc13 h
        refine r_lconst (pc := 88) dX2_unnamed_88 kl_0 ?_
        refine r_drop (loc' := [(0, .ref 42), (2, .int x1), (3, .int x2)]) [2, 1, 0] rfl ?_
        exact pX2_unnamed_89 hS hK hN h
      replace h := if_t hc13 h
      refine r_lconst (pc := 84) dX2_unnamed_84 kl_1 ?_
      refine r_goto (pc := 85) dX2_unnamed_85 rfl ?_
      refine r_drop (loc' := [(0, .ref 42), (2, .int x1), (3, .int x2)]) [2, 1, 0] rfl ?_
      exact pX2_unnamed_89 hS hK hN h
    replace h := if_f hc12 h
    refine r_iload_n (pc := 72) dX2_unnamed_72 rfl 0 rfl ?_
    refine r_bipush (pc := 73) dX2_unnamed_73 kb_24 ?_
    refine r_icmp_ne (pc := 75) dX2_unnamed_75 rfl (fun hc14 => ?_) (fun hc14 => ?_)
    · replace h := if_f hc14 h
      refine r_aload_n (pc := 157) dX2_unnamed_157 rfl 2 rfl ?_
      refine r_get (pc := 158) (j := 1) (v := .ref 4) oA42 cf2 flRX2_26 rfl dX2_unnamed_158 rfl ?_
      replace h := lt_e h; obtain ⟨w16, ew16, h⟩ := h
      refine r_cVv (pc := 161) wyX9_fail oA4 rfl mlRX2_167 iyX9_fail syX9_fail ⟨Nat.succ_le_succ (Nat.le_trans (Nat.le_of_ble_eq_true rfl) hK), (Nat.le_of_ble_eq_true rfl)⟩ rfl rfl (Nat.le_of_ble_eq_true rfl) dX2_unnamed_161 (mX9_fail ew16 (pV.mk ?_))
      refine r_aload_n (pc := 164) dX2_unnamed_164 rfl 2 rfl ?_
      refine r_get (pc := 165) (j := 4) (v := .ref 43) oA42 cf2 flRX2_10 rfl dX2_unnamed_165 rfl ?_
      refine r_iconst (pc := 168) dX2_unnamed_168 ki_0 ?_
      refine r_iload_n (pc := 169) dX2_unnamed_169 rfl 1 rfl ?_
      replace h := lt_e h; obtain ⟨w17, ew17, h⟩ := h
      refine r_cVv (pc := 170) wyX10_push oA43 rfl mlRX2_153 iyX10_push syX10_push ⟨Nat.succ_le_succ (Nat.le_trans (Nat.le_of_ble_eq_true rfl) hK), (Nat.le_of_ble_eq_true rfl)⟩ rfl rfl (Nat.le_of_ble_eq_true rfl) dX2_unnamed_170 (mX10_push ew17 (pV.mk ?_))
      refine r_bipush (pc := 173) dX2_unnamed_173 kb_6 ?_
      exact rO_i (pc := 175) rfl dX2_unnamed_175 h hN
    replace h := if_t hc14 h
    refine r_iload_n (pc := 78) dX2_unnamed_78 rfl 0 rfl ?_
    refine r_bipush (pc := 79) dX2_unnamed_79 kb_23 ?_
    refine r_icmp_ne (pc := 81) dX2_unnamed_81 rfl (fun hc15 => ?_) (fun hc15 => ?_)
    · replace h := if_f hc15 h
      refine r_lconst (pc := 88) dX2_unnamed_88 kl_0 ?_
      refine r_drop (loc' := [(0, .ref 42), (2, .int x1), (3, .int x2)]) [2, 1, 0] rfl ?_
      exact pX2_unnamed_89 hS hK hN h
    replace h := if_t hc15 h
    refine r_lconst (pc := 84) dX2_unnamed_84 kl_1 ?_
    refine r_goto (pc := 85) dX2_unnamed_85 rfl ?_
    refine r_drop (loc' := [(0, .ref 42), (2, .int x1), (3, .int x2)]) [2, 1, 0] rfl ?_
    exact pX2_unnamed_89 hS hK hN h
  replace h := if_t hc3 h
  refine r_aload_n (pc := 22) dX2_unnamed_22 rfl 2 rfl ?_
  refine r_get (pc := 23) (j := 1) (v := .ref 4) oA42 cf2 flRX2_26 rfl dX2_unnamed_23 rfl ?_
  refine r_iload_n (pc := 26) dX2_unnamed_26 rfl 3 rfl ?_
  replace h := lt2_e h; obtain ⟨x4, w5, ew5, h⟩ := h
  refine r_cVi (pc := 27) wyX9_open oA4 rfl mlRX2_54 iyX9_open syX9_open ⟨Nat.succ_le_succ (Nat.le_trans (Nat.le_of_ble_eq_true rfl) hK), (Nat.le_of_ble_eq_true rfl)⟩ rfl rfl (Nat.le_of_ble_eq_true rfl) dX2_unnamed_27 (mX9_open ew5 (pI.mk ?_))
  refine r_istore (pc := 30) (loc' := [(4, .int x4), (3, .int x2), (2, .int x1), (0, .ref 42), (1, .int a1)]) dX2_unnamed_30 (Nat.le_of_ble_eq_true rfl) rfl ?_
  refine r_aload_n (pc := 32) dX2_unnamed_32 rfl 3 rfl ?_
  refine r_iload (pc := 33) dX2_unnamed_33 0 rfl ?_
  replace h := bn2_e h; obtain ⟨x6, w7, ew7, h⟩ := h
  refine r_cVi (pc := 35) wyX2_expression oA42 rfl mlRX2_46 iyX2_expression syX2_expression ⟨Nat.le_refl _, (Nat.le_of_ble_eq_true rfl)⟩ rfl rfl (Nat.le_of_ble_eq_true rfl) dX2_unnamed_35 ((hS.2.2.1 _ _ _ _ _ _) ew7 (pI.mk ?_))
  refine r_istore (pc := 38) (loc' := [(5, .int x6), (4, .int x4), (3, .int x2), (2, .int x1), (0, .ref 42), (1, .int a1)]) dX2_unnamed_38 (Nat.le_of_ble_eq_true rfl) rfl ?_
  refine r_aload_n (pc := 40) dX2_unnamed_40 rfl 4 rfl ?_
  refine r_get (pc := 41) (j := 1) (v := .ref 4) oA42 cf2 flRX2_26 rfl dX2_unnamed_41 rfl ?_
  refine r_bipush (pc := 44) dX2_unnamed_44 kb_44 ?_
  replace h := lt_e h; obtain ⟨w8, ew8, h⟩ := h
  refine r_cVv (pc := 46) wyX9_need oA4 rfl mlRX2_63 iyX9_need syX9_need ⟨Nat.succ_le_succ (Nat.le_trans (Nat.le_of_ble_eq_true rfl) hK), (Nat.le_of_ble_eq_true rfl)⟩ rfl rfl (Nat.le_of_ble_eq_true rfl) dX2_unnamed_46 (mX9_need ew8 (pV.mk ?_))
  refine r_aload_n (pc := 49) dX2_unnamed_49 rfl 4 rfl ?_
  refine r_get (pc := 50) (j := 4) (v := .ref 43) oA42 cf2 flRX2_10 rfl dX2_unnamed_50 rfl ?_
  refine r_iload (pc := 53) dX2_unnamed_53 0 rfl ?_
  refine r_iload_n (pc := 55) dX2_unnamed_55 rfl 3 rfl ?_
  replace h := lt_e h; obtain ⟨w9, ew9, h⟩ := h
  refine r_cVv (pc := 56) wyX10_push oA43 rfl mlRX2_153 iyX10_push syX10_push ⟨Nat.succ_le_succ (Nat.le_trans (Nat.le_of_ble_eq_true rfl) hK), (Nat.le_of_ble_eq_true rfl)⟩ rfl rfl (Nat.le_of_ble_eq_true rfl) dX2_unnamed_56 (mX10_push ew9 (pV.mk ?_))
  refine r_iconst (pc := 59) dX2_unnamed_59 ki_4 ?_
  exact rO_i (pc := 60) rfl dX2_unnamed_60 h hN
/-! AlgolMill$Expressions.simple (I)I: O, 908 -/
theorem dX2_simple_0 : decode cX2_simple 0 = .ok (.aload_n 0, 1) := by decide +kernel
theorem dX2_simple_1 : decode cX2_simple 1 = .ok (.getfield 26, 3) := by decide +kernel
theorem dX2_simple_4 : decode cX2_simple 4 = .ok (.invokevirtual 40, 3) := by decide +kernel
theorem dX2_simple_7 : decode cX2_simple 7 = .ok (.istore_n 2, 1) := by decide +kernel
theorem dX2_simple_8 : decode cX2_simple 8 = .ok (.aload_n 0, 1) := by decide +kernel
theorem dX2_simple_9 : decode cX2_simple 9 = .ok (.getfield 10, 3) := by decide +kernel
theorem dX2_simple_12 : decode cX2_simple 12 = .ok (.invokevirtual 95, 3) := by decide +kernel
theorem dX2_simple_15 : decode cX2_simple 15 = .ok (.istore_n 3, 1) := by decide +kernel
theorem dX2_simple_16 : decode cX2_simple 16 = .ok (.bipush 6, 2) := by decide +kernel
theorem dX2_simple_18 : decode cX2_simple 18 = .ok (.istore 4, 2) := by decide +kernel
theorem dX2_simple_20 : decode cX2_simple 20 = .ok (.iconst 1, 1) := by decide +kernel
theorem dX2_simple_21 : decode cX2_simple 21 = .ok (.istore 5, 2) := by decide +kernel
theorem dX2_simple_23 : decode cX2_simple 23 = .ok (.iconst 0, 1) := by decide +kernel
theorem dX2_simple_24 : decode cX2_simple 24 = .ok (.istore 6, 2) := by decide +kernel
theorem dX2_simple_26 : decode cX2_simple 26 = .ok (.iload 5, 2) := by decide +kernel
theorem dX2_simple_28 : decode cX2_simple 28 = .ok (.ifCond .eq 101, 3) := by decide +kernel
theorem dX2_simple_31 : decode cX2_simple 31 = .ok (.iload 6, 2) := by decide +kernel
theorem dX2_simple_33 : decode cX2_simple 33 = .ok (.sipush 8193, 3) := by decide +kernel
theorem dX2_simple_36 : decode cX2_simple 36 = .ok (.if_icmp .ge 93, 3) := by decide +kernel
theorem dX2_simple_39 : decode cX2_simple 39 = .ok (.aload_n 0, 1) := by decide +kernel
theorem dX2_simple_40 : decode cX2_simple 40 = .ok (.iload_n 3, 1) := by decide +kernel
theorem dX2_simple_41 : decode cX2_simple 41 = .ok (.iload_n 1, 1) := by decide +kernel
theorem dX2_simple_42 : decode cX2_simple 42 = .ok (.aload_n 0, 1) := by decide +kernel
theorem dX2_simple_43 : decode cX2_simple 43 = .ok (.getfield 10, 3) := by decide +kernel
theorem dX2_simple_46 : decode cX2_simple 46 = .ok (.iload_n 3, 1) := by decide +kernel
theorem dX2_simple_47 : decode cX2_simple 47 = .ok (.invokevirtual 98, 3) := by decide +kernel
theorem dX2_simple_50 : decode cX2_simple 50 = .ok (.iadd, 1) := by decide +kernel
theorem dX2_simple_51 : decode cX2_simple 51 = .ok (.invokevirtual 101, 3) := by decide +kernel
theorem dX2_simple_54 : decode cX2_simple 54 = .ok (.istore 7, 2) := by decide +kernel
theorem dX2_simple_56 : decode cX2_simple 56 = .ok (.aload_n 0, 1) := by decide +kernel
theorem dX2_simple_57 : decode cX2_simple 57 = .ok (.getfield 26, 3) := by decide +kernel
theorem dX2_simple_60 : decode cX2_simple 60 = .ok (.invokevirtual 40, 3) := by decide +kernel
theorem dX2_simple_63 : decode cX2_simple 63 = .ok (.iload_n 2, 1) := by decide +kernel
theorem dX2_simple_64 : decode cX2_simple 64 = .ok (.if_icmp .ne 7, 3) := by decide +kernel
theorem dX2_simple_67 : decode cX2_simple 67 = .ok (.iconst 1, 1) := by decide +kernel
theorem dX2_simple_68 : decode cX2_simple 68 = .ok (.goto 4, 3) := by decide +kernel
theorem dX2_simple_71 : decode cX2_simple 71 = .ok (.iconst 0, 1) := by decide +kernel
theorem dX2_simple_72 : decode cX2_simple 72 = .ok (.istore 8, 2) := by decide +kernel
theorem dX2_simple_74 : decode cX2_simple 74 = .ok (.aload_n 0, 1) := by decide +kernel
theorem dX2_simple_75 : decode cX2_simple 75 = .ok (.getfield 26, 3) := by decide +kernel
theorem dX2_simple_78 : decode cX2_simple 78 = .ok (.invokevirtual 75, 3) := by decide +kernel
theorem dX2_simple_81 : decode cX2_simple 81 = .ok (.iconst 2, 1) := by decide +kernel
theorem dX2_simple_82 : decode cX2_simple 82 = .ok (.if_icmp .ne 12, 3) := by decide +kernel
theorem dX2_simple_85 : decode cX2_simple 85 = .ok (.aload_n 0, 1) := by decide +kernel
theorem dX2_simple_86 : decode cX2_simple 86 = .ok (.iload 7, 2) := by decide +kernel
theorem dX2_simple_88 : decode cX2_simple 88 = .ok (.invokevirtual 105, 3) := by decide +kernel
theorem dX2_simple_91 : decode cX2_simple 91 = .ok (.goto 9, 3) := by decide +kernel
theorem dX2_simple_94 : decode cX2_simple 94 = .ok (.aload_n 0, 1) := by decide +kernel
theorem dX2_simple_95 : decode cX2_simple 95 = .ok (.iload 7, 2) := by decide +kernel
theorem dX2_simple_97 : decode cX2_simple 97 = .ok (.invokevirtual 108, 3) := by decide +kernel
theorem dX2_simple_100 : decode cX2_simple 100 = .ok (.istore 9, 2) := by decide +kernel
theorem dX2_simple_102 : decode cX2_simple 102 = .ok (.iload 8, 2) := by decide +kernel
theorem dX2_simple_104 : decode cX2_simple 104 = .ok (.ifCond .eq 8, 3) := by decide +kernel
theorem dX2_simple_107 : decode cX2_simple 107 = .ok (.iload 9, 2) := by decide +kernel
theorem dX2_simple_109 : decode cX2_simple 109 = .ok (.goto 5, 3) := by decide +kernel
theorem dX2_simple_112 : decode cX2_simple 112 = .ok (.bipush 6, 2) := by decide +kernel
theorem dX2_simple_114 : decode cX2_simple 114 = .ok (.istore 4, 2) := by decide +kernel
theorem dX2_simple_116 : decode cX2_simple 116 = .ok (.aload_n 0, 1) := by decide +kernel
theorem dX2_simple_117 : decode cX2_simple 117 = .ok (.iload_n 3, 1) := by decide +kernel
theorem dX2_simple_118 : decode cX2_simple 118 = .ok (.invokevirtual 111, 3) := by decide +kernel
theorem dX2_simple_121 : decode cX2_simple 121 = .ok (.istore 5, 2) := by decide +kernel
theorem dX2_simple_123 : decode cX2_simple 123 = .ok (.iinc 6 1, 3) := by decide +kernel
theorem dX2_simple_126 : decode cX2_simple 126 = .ok (.goto (-100), 3) := by decide +kernel
theorem dX2_simple_129 : decode cX2_simple 129 = .ok (.iload 4, 2) := by decide +kernel
theorem dX2_simple_131 : decode cX2_simple 131 = .ok (.iconst 1, 1) := by decide +kernel
theorem dX2_simple_132 : decode cX2_simple 132 = .ok (.if_icmp .eq 28, 3) := by decide +kernel
theorem dX2_simple_135 : decode cX2_simple 135 = .ok (.iload 4, 2) := by decide +kernel
theorem dX2_simple_137 : decode cX2_simple 137 = .ok (.iconst 2, 1) := by decide +kernel
theorem dX2_simple_138 : decode cX2_simple 138 = .ok (.if_icmp .eq 22, 3) := by decide +kernel
theorem dX2_simple_141 : decode cX2_simple 141 = .ok (.iload 4, 2) := by decide +kernel
theorem dX2_simple_143 : decode cX2_simple 143 = .ok (.iconst 4, 1) := by decide +kernel
theorem dX2_simple_144 : decode cX2_simple 144 = .ok (.if_icmp .ne 20, 3) := by decide +kernel
theorem dX2_simple_147 : decode cX2_simple 147 = .ok (.aload_n 0, 1) := by decide +kernel
theorem dX2_simple_148 : decode cX2_simple 148 = .ok (.getfield 26, 3) := by decide +kernel
theorem dX2_simple_151 : decode cX2_simple 151 = .ok (.iload_n 2, 1) := by decide +kernel
theorem dX2_simple_152 : decode cX2_simple 152 = .ok (.iconst 1, 1) := by decide +kernel
theorem dX2_simple_153 : decode cX2_simple 153 = .ok (.iadd, 1) := by decide +kernel
theorem dX2_simple_154 : decode cX2_simple 154 = .ok (.invokevirtual 87, 3) := by decide +kernel
theorem dX2_simple_157 : decode cX2_simple 157 = .ok (.ifCond .eq 7, 3) := by decide +kernel
theorem dX2_simple_160 : decode cX2_simple 160 = .ok (.iconst 1, 1) := by decide +kernel
theorem dX2_simple_161 : decode cX2_simple 161 = .ok (.goto 4, 3) := by decide +kernel
theorem dX2_simple_164 : decode cX2_simple 164 = .ok (.iconst 0, 1) := by decide +kernel
theorem dX2_simple_165 : decode cX2_simple 165 = .ok (.istore 6, 2) := by decide +kernel
theorem dX2_simple_167 : decode cX2_simple 167 = .ok (.aload_n 0, 1) := by decide +kernel
theorem dX2_simple_168 : decode cX2_simple 168 = .ok (.getfield 26, 3) := by decide +kernel
theorem dX2_simple_171 : decode cX2_simple 171 = .ok (.iload_n 2, 1) := by decide +kernel
theorem dX2_simple_172 : decode cX2_simple 172 = .ok (.iload 4, 2) := by decide +kernel
theorem dX2_simple_174 : decode cX2_simple 174 = .ok (.iload 6, 2) := by decide +kernel
theorem dX2_simple_176 : decode cX2_simple 176 = .ok (.invokevirtual 91, 3) := by decide +kernel
theorem dX2_simple_179 : decode cX2_simple 179 = .ok (.aload_n 0, 1) := by decide +kernel
theorem dX2_simple_180 : decode cX2_simple 180 = .ok (.getfield 10, 3) := by decide +kernel
theorem dX2_simple_183 : decode cX2_simple 183 = .ok (.invokevirtual 114, 3) := by decide +kernel
theorem dX2_simple_186 : decode cX2_simple 186 = .ok (.ireturn, 1) := by decide +kernel
def fX2_simple_165 (rc : TX2_typed) (s0 : Bool) (a2 : Int32) (a4 : Int32) (w : Wd) : Option (Int32 × Wd) :=
  lt (fX9_form a2 a4 s0 w) fun w1 => lt2 (fX10_pop w1) fun x2 w3 => some (x2, w3)
theorem pX2_simple_165 {q : Gq} {l : Launch} {N : Option Value → Wd → Prop} {X : String → Wd → Prop} {rc : TX2_typed} {dd : Nat} (hS : HSX2_typed q l rc dd) (hK : 8 ≤ dd) {w : Wd} {R : Int32 × Wd} (hN : N (some (.int R.1)) R.2) {s0 : Bool} {a2 : Int32} {a4 : Int32} (h : fX2_simple_165 rc s0 a2 a4 w = some R) : RT (GA q) l (dd + 1) yX2_simple cX2_simple 10 ((some .int)) N X 165 [.int (b2i s0)] [(0, .ref 42), (2, .int a2), (4, .int a4)] w := by
  unfold fX2_simple_165 at h
  refine r_istore (pc := 165) (loc' := [(6, .int (b2i s0)), (0, .ref 42), (2, .int a2), (4, .int a4)]) dX2_simple_165 (Nat.le_of_ble_eq_true rfl) rfl ?_
  refine r_aload_n (pc := 167) dX2_simple_167 rfl 1 rfl ?_
  refine r_get (pc := 168) (j := 1) (v := .ref 4) oA42 cf2 flRX2_26 rfl dX2_simple_168 rfl ?_
  refine r_iload_n (pc := 171) dX2_simple_171 rfl 2 rfl ?_
  refine r_iload (pc := 172) dX2_simple_172 3 rfl ?_
  refine r_iload (pc := 174) dX2_simple_174 0 rfl ?_
  replace h := lt_e h; obtain ⟨w1, ew1, h⟩ := h
  refine r_cVv (pc := 176) wyX9_form oA4 rfl mlRX2_91 iyX9_form syX9_form ⟨Nat.succ_le_succ (Nat.le_trans (Nat.le_of_ble_eq_true rfl) hK), (Nat.le_of_ble_eq_true rfl)⟩ rfl rfl (Nat.le_of_ble_eq_true rfl) dX2_simple_176 (mX9_form ew1 (pV.mk ?_))
  refine r_aload_n (pc := 179) dX2_simple_179 rfl 1 rfl ?_
  refine r_get (pc := 180) (j := 4) (v := .ref 43) oA42 cf2 flRX2_10 rfl dX2_simple_180 rfl ?_
  replace h := lt2_e h; obtain ⟨x2, w3, ew3, h⟩ := h
  refine r_cVi (pc := 183) wyX10_pop oA43 rfl mlRX2_114 iyX10_pop syX10_pop ⟨Nat.succ_le_succ (Nat.le_trans (Nat.le_of_ble_eq_true rfl) hK), (Nat.le_of_ble_eq_true rfl)⟩ rfl rfl (Nat.le_of_ble_eq_true rfl) dX2_simple_183 (mX10_pop ew3 (pI.mk ?_))
  exact rO_i (pc := 186) rfl dX2_simple_186 h hN
def fX2_simple_129 (rc : TX2_typed) (a2 : Int32) (a4 : Int32) (w : Wd) : Option (Int32 × Wd) :=
  if a4 = 1 then (fX2_simple_165 rc true a2 a4 w) else (if a4 = 2 then (fX2_simple_165 rc true a2 a4 w) else (if a4 = 4 then (lt (fX9_isAim (a2 + 1) w) fun x4 => if x4 = true then (fX2_simple_165 rc true a2 a4 w) else (fX2_simple_165 rc false a2 a4 w)) else (fX2_simple_165 rc false a2 a4 w)))
theorem pX2_simple_129 {q : Gq} {l : Launch} {N : Option Value → Wd → Prop} {X : String → Wd → Prop} {rc : TX2_typed} {dd : Nat} (hS : HSX2_typed q l rc dd) (hK : 8 ≤ dd) {w : Wd} {R : Int32 × Wd} (hN : N (some (.int R.1)) R.2) {a2 : Int32} {a4 : Int32} (h : fX2_simple_129 rc a2 a4 w = some R) : RT (GA q) l (dd + 1) yX2_simple cX2_simple 10 ((some .int)) N X 129 [] [(0, .ref 42), (2, .int a2), (4, .int a4)] w := by
  unfold fX2_simple_129 at h
  refine r_iload (pc := 129) dX2_simple_129 2 rfl ?_
  refine r_iconst (pc := 131) dX2_simple_131 ki_1 ?_
  refine r_icmp_eq (pc := 132) dX2_simple_132 rfl (fun hc1 => ?_) (fun hc1 => ?_)
  · replace h := if_t hc1 h
    refine r_iconst (pc := 160) dX2_simple_160 ki_1 ?_
    refine r_goto (pc := 161) dX2_simple_161 rfl ?_
    exact pX2_simple_165 hS hK hN h
  replace h := if_f hc1 h
  refine r_iload (pc := 135) dX2_simple_135 2 rfl ?_
  refine r_iconst (pc := 137) dX2_simple_137 ki_2 ?_
  refine r_icmp_eq (pc := 138) dX2_simple_138 rfl (fun hc2 => ?_) (fun hc2 => ?_)
  · replace h := if_t hc2 h
    refine r_iconst (pc := 160) dX2_simple_160 ki_1 ?_
    refine r_goto (pc := 161) dX2_simple_161 rfl ?_
    exact pX2_simple_165 hS hK hN h
  replace h := if_f hc2 h
  refine r_iload (pc := 141) dX2_simple_141 2 rfl ?_
  refine r_iconst (pc := 143) dX2_simple_143 ki_4 ?_
  refine r_icmp_ne (pc := 144) dX2_simple_144 rfl (fun hc3 => ?_) (fun hc3 => ?_)
  · replace h := if_f hc3 h
    refine r_iconst (pc := 164) dX2_simple_164 ki_0 ?_
    exact pX2_simple_165 hS hK hN h
  replace h := if_t hc3 h
  refine r_aload_n (pc := 147) dX2_simple_147 rfl 0 rfl ?_
  refine r_get (pc := 148) (j := 1) (v := .ref 4) oA42 cf2 flRX2_26 rfl dX2_simple_148 rfl ?_
  refine r_iload_n (pc := 151) dX2_simple_151 rfl 1 rfl ?_
  refine r_iconst (pc := 152) dX2_simple_152 ki_1 ?_
  refine r_iadd (pc := 153) dX2_simple_153 ?_
  replace h := lt_e h; obtain ⟨x4, ex4, h⟩ := h
  refine r_cVi (pc := 154) wyX9_isAim oA4 rfl mlRX2_87 iyX9_isAim syX9_isAim ⟨Nat.succ_le_succ (Nat.le_trans (Nat.le_of_ble_eq_true rfl) hK), (Nat.le_of_ble_eq_true rfl)⟩ rfl rfl (Nat.le_of_ble_eq_true rfl) dX2_simple_154 (mX9_isAim ex4 (pI.mk ?_))
  refine r_z_eq (pc := 157) dX2_simple_157 rfl (fun hc5 => ?_) (fun hc5 => ?_)
  · replace h := if_f hc5 h
    refine r_iconst (pc := 164) dX2_simple_164 ki_0 ?_
    exact pX2_simple_165 hS hK hN h
  replace h := if_t hc5 h
  refine r_iconst (pc := 160) dX2_simple_160 ki_1 ?_
  refine r_goto (pc := 161) dX2_simple_161 rfl ?_
  exact pX2_simple_165 hS hK hN h
def fX2_simple_100 (rc : TX2_typed) (k_26 : Int32 → Int32 → Int32 → Int32 → Bool → Int32 → Wd → Option (Int32 × Wd)) (s0 : Int32) (a1 : Int32) (a2 : Int32) (a3 : Int32) (a6 : Int32) (a8 : Bool) (w : Wd) : Option (Int32 × Wd) :=
  if a8 = true then (bn2 (fX2_between a3 w) fun x2 w3 => lt (a6 + 1) fun x4 => k_26 a1 a2 a3 s0 x2 x4 w3) else (bn2 (fX2_between a3 w) fun x5 w6 => lt (a6 + 1) fun x7 => k_26 a1 a2 a3 6 x5 x7 w6)
theorem pX2_simple_100 {q : Gq} {l : Launch} {N : Option Value → Wd → Prop} {X : String → Wd → Prop} {rc : TX2_typed} {dd : Nat} (hS : HSX2_typed q l rc dd) (hK : 8 ≤ dd) {w : Wd} {R : Int32 × Wd} (hN : N (some (.int R.1)) R.2) {k_26 : Int32 → Int32 → Int32 → Int32 → Bool → Int32 → Wd → Option (Int32 × Wd)} (hk_26 : ∀ (a1 : Int32) (a2 : Int32) (a3 : Int32) (a4 : Int32) (a5 : Bool) (a6 : Int32) (w : Wd), k_26 a1 a2 a3 a4 a5 a6 w = some R → RT (GA q) l (dd + 1) yX2_simple cX2_simple 10 ((some .int)) N X 26 [] [(0, .ref 42), (1, .int a1), (2, .int a2), (3, .int a3), (4, .int a4), (5, .int (b2i a5)), (6, .int a6)] w) {s0 : Int32} {a1 : Int32} {a2 : Int32} {a3 : Int32} {a6 : Int32} {a8 : Bool} (h : fX2_simple_100 rc k_26 s0 a1 a2 a3 a6 a8 w = some R) : RT (GA q) l (dd + 1) yX2_simple cX2_simple 10 ((some .int)) N X 100 [.int s0] [(0, .ref 42), (1, .int a1), (2, .int a2), (3, .int a3), (6, .int a6), (8, .int (b2i a8))] w := by
  unfold fX2_simple_100 at h
  refine r_istore (pc := 100) (loc' := [(9, .int s0), (0, .ref 42), (1, .int a1), (2, .int a2), (3, .int a3), (6, .int a6), (8, .int (b2i a8))]) dX2_simple_100 (Nat.le_of_ble_eq_true rfl) rfl ?_
  refine r_iload (pc := 102) dX2_simple_102 6 rfl ?_
  refine r_z_eq (pc := 104) dX2_simple_104 rfl (fun hc1 => ?_) (fun hc1 => ?_)
  · replace h := if_f hc1 h
    refine r_bipush (pc := 112) dX2_simple_112 kb_6 ?_
    refine r_istore (pc := 114) (loc' := [(4, .int 6), (9, .int s0), (0, .ref 42), (1, .int a1), (2, .int a2), (3, .int a3), (6, .int a6), (8, .int (b2i a8))]) dX2_simple_114 (Nat.le_of_ble_eq_true rfl) rfl ?_
    refine r_aload_n (pc := 116) dX2_simple_116 rfl 2 rfl ?_
    refine r_iload_n (pc := 117) dX2_simple_117 rfl 5 rfl ?_
    replace h := bn2_e h; obtain ⟨x5, w6, ew6, h⟩ := h
    refine r_cVi (pc := 118) wyX2_between oA42 rfl mlRX2_111 iyX2_between syX2_between ⟨Nat.succ_le_succ (Nat.le_trans (Nat.le_of_ble_eq_true rfl) hK), (Nat.le_of_ble_eq_true rfl)⟩ rfl rfl (Nat.le_of_ble_eq_true rfl) dX2_simple_118 (mX2_between ew6 (pI.mk ?_))
    refine r_istore (pc := 121) (loc' := [(5, .int (b2i x5)), (4, .int 6), (9, .int s0), (0, .ref 42), (1, .int a1), (2, .int a2), (3, .int a3), (6, .int a6), (8, .int (b2i a8))]) dX2_simple_121 (Nat.le_of_ble_eq_true rfl) rfl ?_
    replace h := lt_e h; obtain ⟨x7, ex7, h⟩ := h
    refine r_inc (pc := 123) (loc' := [(6, .int x7), (5, .int (b2i x5)), (4, .int 6), (9, .int s0), (0, .ref 42), (1, .int a1), (2, .int a2), (3, .int a3), (8, .int (b2i a8))]) dX2_simple_123 ki_1 ex7 7 rfl (Nat.le_of_ble_eq_true rfl) rfl ?_
    refine r_goto (pc := 126) dX2_simple_126 rfl ?_
    refine r_drop (loc' := [(0, .ref 42), (1, .int a1), (2, .int a2), (3, .int a3), (4, .int 6), (5, .int (b2i x5)), (6, .int x7)]) [4, 5, 6, 7, 2, 1, 0] rfl ?_
    exact hk_26 a1 a2 a3 6 x5 x7 w6 h
  replace h := if_t hc1 h
  refine r_iload (pc := 107) dX2_simple_107 0 rfl ?_
  refine r_goto (pc := 109) dX2_simple_109 rfl ?_
  refine r_istore (pc := 114) (loc' := [(4, .int s0), (9, .int s0), (0, .ref 42), (1, .int a1), (2, .int a2), (3, .int a3), (6, .int a6), (8, .int (b2i a8))]) dX2_simple_114 (Nat.le_of_ble_eq_true rfl) rfl ?_
  refine r_aload_n (pc := 116) dX2_simple_116 rfl 2 rfl ?_
  refine r_iload_n (pc := 117) dX2_simple_117 rfl 5 rfl ?_
  replace h := bn2_e h; obtain ⟨x2, w3, ew3, h⟩ := h
  refine r_cVi (pc := 118) wyX2_between oA42 rfl mlRX2_111 iyX2_between syX2_between ⟨Nat.succ_le_succ (Nat.le_trans (Nat.le_of_ble_eq_true rfl) hK), (Nat.le_of_ble_eq_true rfl)⟩ rfl rfl (Nat.le_of_ble_eq_true rfl) dX2_simple_118 (mX2_between ew3 (pI.mk ?_))
  refine r_istore (pc := 121) (loc' := [(5, .int (b2i x2)), (4, .int s0), (9, .int s0), (0, .ref 42), (1, .int a1), (2, .int a2), (3, .int a3), (6, .int a6), (8, .int (b2i a8))]) dX2_simple_121 (Nat.le_of_ble_eq_true rfl) rfl ?_
  replace h := lt_e h; obtain ⟨x4, ex4, h⟩ := h
  refine r_inc (pc := 123) (loc' := [(6, .int x4), (5, .int (b2i x2)), (4, .int s0), (9, .int s0), (0, .ref 42), (1, .int a1), (2, .int a2), (3, .int a3), (8, .int (b2i a8))]) dX2_simple_123 ki_1 ex4 7 rfl (Nat.le_of_ble_eq_true rfl) rfl ?_
  refine r_goto (pc := 126) dX2_simple_126 rfl ?_
  refine r_drop (loc' := [(0, .ref 42), (1, .int a1), (2, .int a2), (3, .int a3), (4, .int s0), (5, .int (b2i x2)), (6, .int x4)]) [4, 5, 6, 7, 2, 1, 0] rfl ?_
  exact hk_26 a1 a2 a3 s0 x2 x4 w3 h
def fX2_simple_72 (rc : TX2_typed) (k_26 : Int32 → Int32 → Int32 → Int32 → Bool → Int32 → Wd → Option (Int32 × Wd)) (s0 : Bool) (a1 : Int32) (a2 : Int32) (a3 : Int32) (a6 : Int32) (a7 : Int32) (w : Wd) : Option (Int32 × Wd) :=
  lt (fX9_kind w) fun x1 => if x1 = 2 then (bn2 (rc 5 a7 0 0 w) fun x3 w4 => fX2_simple_100 rc k_26 x3 a1 a2 a3 a6 s0 w4) else (bn2 (rc 4 a7 0 0 w) fun x5 w6 => fX2_simple_100 rc k_26 x5 a1 a2 a3 a6 s0 w6)
theorem pX2_simple_72 {q : Gq} {l : Launch} {N : Option Value → Wd → Prop} {X : String → Wd → Prop} {rc : TX2_typed} {dd : Nat} (hS : HSX2_typed q l rc dd) (hK : 8 ≤ dd) {w : Wd} {R : Int32 × Wd} (hN : N (some (.int R.1)) R.2) {k_26 : Int32 → Int32 → Int32 → Int32 → Bool → Int32 → Wd → Option (Int32 × Wd)} (hk_26 : ∀ (a1 : Int32) (a2 : Int32) (a3 : Int32) (a4 : Int32) (a5 : Bool) (a6 : Int32) (w : Wd), k_26 a1 a2 a3 a4 a5 a6 w = some R → RT (GA q) l (dd + 1) yX2_simple cX2_simple 10 ((some .int)) N X 26 [] [(0, .ref 42), (1, .int a1), (2, .int a2), (3, .int a3), (4, .int a4), (5, .int (b2i a5)), (6, .int a6)] w) {s0 : Bool} {a1 : Int32} {a2 : Int32} {a3 : Int32} {a6 : Int32} {a7 : Int32} (h : fX2_simple_72 rc k_26 s0 a1 a2 a3 a6 a7 w = some R) : RT (GA q) l (dd + 1) yX2_simple cX2_simple 10 ((some .int)) N X 72 [.int (b2i s0)] [(0, .ref 42), (1, .int a1), (2, .int a2), (3, .int a3), (6, .int a6), (7, .int a7)] w := by
  unfold fX2_simple_72 at h
  refine r_istore (pc := 72) (loc' := [(8, .int (b2i s0)), (0, .ref 42), (1, .int a1), (2, .int a2), (3, .int a3), (6, .int a6), (7, .int a7)]) dX2_simple_72 (Nat.le_of_ble_eq_true rfl) rfl ?_
  refine r_aload_n (pc := 74) dX2_simple_74 rfl 1 rfl ?_
  refine r_get (pc := 75) (j := 1) (v := .ref 4) oA42 cf2 flRX2_26 rfl dX2_simple_75 rfl ?_
  replace h := lt_e h; obtain ⟨x1, ex1, h⟩ := h
  refine r_cVi (pc := 78) wyX9_kind oA4 rfl mlRX2_75 iyX9_kind syX9_kind ⟨Nat.succ_le_succ (Nat.le_trans (Nat.le_of_ble_eq_true rfl) hK), (Nat.le_of_ble_eq_true rfl)⟩ rfl rfl (Nat.le_of_ble_eq_true rfl) dX2_simple_78 (mX9_kind ex1 (pI.mk ?_))
  refine r_iconst (pc := 81) dX2_simple_81 ki_2 ?_
  refine r_icmp_ne (pc := 82) dX2_simple_82 rfl (fun hc2 => ?_) (fun hc2 => ?_)
  · replace h := if_f hc2 h
    refine r_aload_n (pc := 94) dX2_simple_94 rfl 1 rfl ?_
    refine r_iload (pc := 95) dX2_simple_95 6 rfl ?_
    replace h := bn2_e h; obtain ⟨x5, w6, ew6, h⟩ := h
    refine r_cVi (pc := 97) wyX2_unnamed oA42 rfl mlRX2_108 iyX2_unnamed syX2_unnamed ⟨Nat.le_refl _, (Nat.le_of_ble_eq_true rfl)⟩ rfl rfl (Nat.le_of_ble_eq_true rfl) dX2_simple_97 ((hS.2.2.2.2.1 _ _ _ _ _ _) ew6 (pI.mk ?_))
    refine r_drop (loc' := [(0, .ref 42), (1, .int a1), (2, .int a2), (3, .int a3), (6, .int a6), (8, .int (b2i s0))]) [1, 2, 3, 4, 5, 0] rfl ?_
    exact pX2_simple_100 hS hK hN hk_26 h
  replace h := if_t hc2 h
  refine r_aload_n (pc := 85) dX2_simple_85 rfl 1 rfl ?_
  refine r_iload (pc := 86) dX2_simple_86 6 rfl ?_
  replace h := bn2_e h; obtain ⟨x3, w4, ew4, h⟩ := h
  refine r_cVi (pc := 88) wyX2_named oA42 rfl mlRX2_105 iyX2_named syX2_named ⟨Nat.le_refl _, (Nat.le_of_ble_eq_true rfl)⟩ rfl rfl (Nat.le_of_ble_eq_true rfl) dX2_simple_88 ((hS.2.2.2.2.2.1 _ _ _ _ _ _) ew4 (pI.mk ?_))
  refine r_goto (pc := 91) dX2_simple_91 rfl ?_
  refine r_drop (loc' := [(0, .ref 42), (1, .int a1), (2, .int a2), (3, .int a3), (6, .int a6), (8, .int (b2i s0))]) [1, 2, 3, 4, 5, 0] rfl ?_
  exact pX2_simple_100 hS hK hN hk_26 h
def fX2_simple_26 (rc : TX2_typed) (k_26 : Int32 → Int32 → Int32 → Int32 → Bool → Int32 → Wd → Option (Int32 × Wd)) (a1 : Int32) (a2 : Int32) (a3 : Int32) (a4 : Int32) (a5 : Bool) (a6 : Int32) (w : Wd) : Option (Int32 × Wd) :=
  if a5 = true then (if 8193 ≤ a6 then (fX2_simple_129 rc a2 a4 w) else (bn2 (fX10_nots a3 w) fun x3 w4 => bn2 (fX2_before a3 (a1 + x3) w4) fun x5 w6 => lt (fX9_at w6) fun x7 => if x7 = a2 then (fX2_simple_72 rc k_26 true a1 a2 a3 a6 x5 w6) else (fX2_simple_72 rc k_26 false a1 a2 a3 a6 x5 w6))) else (fX2_simple_129 rc a2 a4 w)
theorem pX2_simple_26 {q : Gq} {l : Launch} {N : Option Value → Wd → Prop} {X : String → Wd → Prop} {rc : TX2_typed} {dd : Nat} (hS : HSX2_typed q l rc dd) (hK : 8 ≤ dd) {w : Wd} {R : Int32 × Wd} (hN : N (some (.int R.1)) R.2) {k_26 : Int32 → Int32 → Int32 → Int32 → Bool → Int32 → Wd → Option (Int32 × Wd)} (hk_26 : ∀ (a1 : Int32) (a2 : Int32) (a3 : Int32) (a4 : Int32) (a5 : Bool) (a6 : Int32) (w : Wd), k_26 a1 a2 a3 a4 a5 a6 w = some R → RT (GA q) l (dd + 1) yX2_simple cX2_simple 10 ((some .int)) N X 26 [] [(0, .ref 42), (1, .int a1), (2, .int a2), (3, .int a3), (4, .int a4), (5, .int (b2i a5)), (6, .int a6)] w) {a1 : Int32} {a2 : Int32} {a3 : Int32} {a4 : Int32} {a5 : Bool} {a6 : Int32} (h : fX2_simple_26 rc k_26 a1 a2 a3 a4 a5 a6 w = some R) : RT (GA q) l (dd + 1) yX2_simple cX2_simple 10 ((some .int)) N X 26 [] [(0, .ref 42), (1, .int a1), (2, .int a2), (3, .int a3), (4, .int a4), (5, .int (b2i a5)), (6, .int a6)] w := by
  unfold fX2_simple_26 at h
  refine r_iload (pc := 26) dX2_simple_26 5 rfl ?_
  refine r_z_eq (pc := 28) dX2_simple_28 rfl (fun hc1 => ?_) (fun hc1 => ?_)
  · replace h := if_f hc1 h
    refine r_drop (loc' := [(0, .ref 42), (2, .int a2), (4, .int a4)]) [0, 2, 4] rfl ?_
    exact pX2_simple_129 hS hK hN h
  replace h := if_t hc1 h
  refine r_iload (pc := 31) dX2_simple_31 6 rfl ?_
  refine r_sipush (pc := 33) dX2_simple_33 ks_8193 ?_
  refine r_icmp_ge (pc := 36) dX2_simple_36 rfl (fun hc2 => ?_) (fun hc2 => ?_)
  · replace h := if_t hc2 h
    refine r_drop (loc' := [(0, .ref 42), (2, .int a2), (4, .int a4)]) [0, 2, 4] rfl ?_
    exact pX2_simple_129 hS hK hN h
  replace h := if_f hc2 h
  refine r_aload_n (pc := 39) dX2_simple_39 rfl 0 rfl ?_
  refine r_iload_n (pc := 40) dX2_simple_40 rfl 3 rfl ?_
  refine r_iload_n (pc := 41) dX2_simple_41 rfl 1 rfl ?_
  refine r_aload_n (pc := 42) dX2_simple_42 rfl 0 rfl ?_
  refine r_get (pc := 43) (j := 4) (v := .ref 43) oA42 cf2 flRX2_10 rfl dX2_simple_43 rfl ?_
  refine r_iload_n (pc := 46) dX2_simple_46 rfl 3 rfl ?_
  replace h := bn2_e h; obtain ⟨x3, w4, ew4, h⟩ := h
  refine r_cVi (pc := 47) wyX10_nots oA43 rfl mlRX2_98 iyX10_nots syX10_nots ⟨Nat.succ_le_succ (Nat.le_trans (Nat.le_of_ble_eq_true rfl) hK), (Nat.le_of_ble_eq_true rfl)⟩ rfl rfl (Nat.le_of_ble_eq_true rfl) dX2_simple_47 (mX10_nots ew4 (pI.mk ?_))
  refine r_iadd (pc := 50) dX2_simple_50 ?_
  replace h := bn2_e h; obtain ⟨x5, w6, ew6, h⟩ := h
  refine r_cVi (pc := 51) wyX2_before oA42 rfl mlRX2_101 iyX2_before syX2_before ⟨Nat.succ_le_succ (Nat.le_trans (Nat.le_of_ble_eq_true rfl) hK), (Nat.le_of_ble_eq_true rfl)⟩ rfl rfl (Nat.le_of_ble_eq_true rfl) dX2_simple_51 (mX2_before ew6 (pI.mk ?_))
  refine r_istore (pc := 54) (loc' := [(7, .int x5), (0, .ref 42), (1, .int a1), (2, .int a2), (3, .int a3), (4, .int a4), (5, .int (b2i a5)), (6, .int a6)]) dX2_simple_54 (Nat.le_of_ble_eq_true rfl) rfl ?_
  refine r_aload_n (pc := 56) dX2_simple_56 rfl 1 rfl ?_
  refine r_get (pc := 57) (j := 1) (v := .ref 4) oA42 cf2 flRX2_26 rfl dX2_simple_57 rfl ?_
  replace h := lt_e h; obtain ⟨x7, ex7, h⟩ := h
  refine r_cVi (pc := 60) wyX9_at oA4 rfl mlRX2_40 iyX9_at syX9_at ⟨Nat.succ_le_succ (Nat.le_trans (Nat.le_of_ble_eq_true rfl) hK), (Nat.le_of_ble_eq_true rfl)⟩ rfl rfl (Nat.le_of_ble_eq_true rfl) dX2_simple_60 (mX9_at ex7 (pI.mk ?_))
  refine r_iload_n (pc := 63) dX2_simple_63 rfl 3 rfl ?_
  refine r_icmp_ne (pc := 64) dX2_simple_64 rfl (fun hc8 => ?_) (fun hc8 => ?_)
  · replace h := if_f hc8 h
    refine r_iconst (pc := 71) dX2_simple_71 ki_0 ?_
    refine r_drop (loc' := [(0, .ref 42), (1, .int a1), (2, .int a2), (3, .int a3), (6, .int a6), (7, .int x5)]) [1, 2, 3, 4, 7, 0] rfl ?_
    exact pX2_simple_72 hS hK hN hk_26 h
  replace h := if_t hc8 h
  refine r_iconst (pc := 67) dX2_simple_67 ki_1 ?_
  refine r_goto (pc := 68) dX2_simple_68 rfl ?_
  refine r_drop (loc' := [(0, .ref 42), (1, .int a1), (2, .int a2), (3, .int a3), (6, .int a6), (7, .int x5)]) [1, 2, 3, 4, 7, 0] rfl ?_
  exact pX2_simple_72 hS hK hN hk_26 h
def oX2_simple_26 (rc : TX2_typed) : Nat → Int32 → Int32 → Int32 → Int32 → Bool → Int32 → Wd → Option (Int32 × Wd)
  | 0 => fun _ _ _ _ _ _ _ => none
  | n + 1 => fX2_simple_26 rc (oX2_simple_26 rc n)
theorem qX2_simple_26 {q : Gq} {l : Launch} {N : Option Value → Wd → Prop} {X : String → Wd → Prop} {rc : TX2_typed} {dd : Nat} (hS : HSX2_typed q l rc dd) (hK : 8 ≤ dd) {R : Int32 × Wd} (hN : N (some (.int R.1)) R.2) : ∀ (n : Nat) (a1 : Int32) (a2 : Int32) (a3 : Int32) (a4 : Int32) (a5 : Bool) (a6 : Int32) (w : Wd), oX2_simple_26 rc n a1 a2 a3 a4 a5 a6 w = some R → RT (GA q) l (dd + 1) yX2_simple cX2_simple 10 ((some .int)) N X 26 [] [(0, .ref 42), (1, .int a1), (2, .int a2), (3, .int a3), (4, .int a4), (5, .int (b2i a5)), (6, .int a6)] w := by
  intro n
  induction n with
  | zero =>
    intro a1 a2 a3 a4 a5 a6 w h
    exact absurd h (fun q => nomatch q)
  | succ n ih =>
    intro a1 a2 a3 a4 a5 a6 w h
    exact pX2_simple_26 hS hK hN ih h
def fX2_simple (rc : TX2_typed) (a1 : Int32) (w : Wd) : Option (Int32 × Wd) :=
  lt (fX9_at w) fun x1 => lt (fX10_waiting w) fun x2 => oX2_simple_26 rc FU a1 x1 x2 6 true 0 w
theorem pX2_simple {q : Gq} {l : Launch} {N : Option Value → Wd → Prop} {X : String → Wd → Prop} {rc : TX2_typed} {dd : Nat} (hS : HSX2_typed q l rc dd) (hK : 8 ≤ dd) {w : Wd} {R : Int32 × Wd} (hN : N (some (.int R.1)) R.2) {a1 : Int32} (h : fX2_simple rc a1 w = some R) : RT (GA q) l (dd + 1) yX2_simple cX2_simple 10 ((some .int)) N X 0 [] [(0, .ref 42), (1, .int a1)] w := by
  unfold fX2_simple at h
  refine r_aload_n (pc := 0) dX2_simple_0 rfl 0 rfl ?_
  refine r_get (pc := 1) (j := 1) (v := .ref 4) oA42 cf2 flRX2_26 rfl dX2_simple_1 rfl ?_
  replace h := lt_e h; obtain ⟨x1, ex1, h⟩ := h
  refine r_cVi (pc := 4) wyX9_at oA4 rfl mlRX2_40 iyX9_at syX9_at ⟨Nat.succ_le_succ (Nat.le_trans (Nat.le_of_ble_eq_true rfl) hK), (Nat.le_of_ble_eq_true rfl)⟩ rfl rfl (Nat.le_of_ble_eq_true rfl) dX2_simple_4 (mX9_at ex1 (pI.mk ?_))
  refine r_istore_n (pc := 7) (loc' := [(2, .int x1), (0, .ref 42), (1, .int a1)]) dX2_simple_7 rfl (Nat.le_of_ble_eq_true rfl) rfl ?_
  refine r_aload_n (pc := 8) dX2_simple_8 rfl 1 rfl ?_
  refine r_get (pc := 9) (j := 4) (v := .ref 43) oA42 cf2 flRX2_10 rfl dX2_simple_9 rfl ?_
  replace h := lt_e h; obtain ⟨x2, ex2, h⟩ := h
  refine r_cVi (pc := 12) wyX10_waiting oA43 rfl mlRX2_95 iyX10_waiting syX10_waiting ⟨Nat.succ_le_succ (Nat.le_trans (Nat.le_of_ble_eq_true rfl) hK), (Nat.le_of_ble_eq_true rfl)⟩ rfl rfl (Nat.le_of_ble_eq_true rfl) dX2_simple_12 (mX10_waiting ex2 (pI.mk ?_))
  refine r_istore_n (pc := 15) (loc' := [(3, .int x2), (2, .int x1), (0, .ref 42), (1, .int a1)]) dX2_simple_15 rfl (Nat.le_of_ble_eq_true rfl) rfl ?_
  refine r_bipush (pc := 16) dX2_simple_16 kb_6 ?_
  refine r_istore (pc := 18) (loc' := [(4, .int 6), (3, .int x2), (2, .int x1), (0, .ref 42), (1, .int a1)]) dX2_simple_18 (Nat.le_of_ble_eq_true rfl) rfl ?_
  refine r_iconst (pc := 20) dX2_simple_20 ki_1 ?_
  refine r_istore (pc := 21) (loc' := [(5, .int 1), (4, .int 6), (3, .int x2), (2, .int x1), (0, .ref 42), (1, .int a1)]) dX2_simple_21 (Nat.le_of_ble_eq_true rfl) rfl ?_
  refine r_iconst (pc := 23) dX2_simple_23 ki_0 ?_
  refine r_istore (pc := 24) (loc' := [(6, .int 0), (5, .int 1), (4, .int 6), (3, .int x2), (2, .int x1), (0, .ref 42), (1, .int a1)]) dX2_simple_24 (Nat.le_of_ble_eq_true rfl) rfl ?_
  refine r_drop (loc' := [(0, .ref 42), (1, .int a1), (2, .int x1), (3, .int x2), (4, .int 6), (5, .int 1), (6, .int 0)]) [5, 6, 4, 3, 2, 1, 0] rfl ?_
  exact qX2_simple_26 hS hK hN FU a1 x1 x2 6 true 0 w h
/-! AlgolMill$Expressions.expression (I)I: O, 908 -/
theorem dX2_expression_0 : decode cX2_expression 0 = .ok (.aload_n 0, 1) := by decide +kernel
theorem dX2_expression_1 : decode cX2_expression 1 = .ok (.getfield 26, 3) := by decide +kernel
theorem dX2_expression_4 : decode cX2_expression 4 = .ok (.invokevirtual 40, 3) := by decide +kernel
theorem dX2_expression_7 : decode cX2_expression 7 = .ok (.istore_n 2, 1) := by decide +kernel
theorem dX2_expression_8 : decode cX2_expression 8 = .ok (.aload_n 0, 1) := by decide +kernel
theorem dX2_expression_9 : decode cX2_expression 9 = .ok (.getfield 26, 3) := by decide +kernel
theorem dX2_expression_12 : decode cX2_expression 12 = .ok (.invokevirtual 75, 3) := by decide +kernel
theorem dX2_expression_15 : decode cX2_expression 15 = .ok (.bipush 15, 2) := by decide +kernel
theorem dX2_expression_17 : decode cX2_expression 17 = .ok (.if_icmp .eq 9, 3) := by decide +kernel
theorem dX2_expression_20 : decode cX2_expression 20 = .ok (.aload_n 0, 1) := by decide +kernel
theorem dX2_expression_21 : decode cX2_expression 21 = .ok (.iload_n 1, 1) := by decide +kernel
theorem dX2_expression_22 : decode cX2_expression 22 = .ok (.invokevirtual 78, 3) := by decide +kernel
theorem dX2_expression_25 : decode cX2_expression 25 = .ok (.ireturn, 1) := by decide +kernel
theorem dX2_expression_26 : decode cX2_expression 26 = .ok (.aload_n 0, 1) := by decide +kernel
theorem dX2_expression_27 : decode cX2_expression 27 = .ok (.iload_n 1, 1) := by decide +kernel
theorem dX2_expression_28 : decode cX2_expression 28 = .ok (.invokevirtual 81, 3) := by decide +kernel
theorem dX2_expression_31 : decode cX2_expression 31 = .ok (.istore_n 3, 1) := by decide +kernel
theorem dX2_expression_32 : decode cX2_expression 32 = .ok (.aload_n 0, 1) := by decide +kernel
theorem dX2_expression_33 : decode cX2_expression 33 = .ok (.getfield 26, 3) := by decide +kernel
theorem dX2_expression_36 : decode cX2_expression 36 = .ok (.invokevirtual 40, 3) := by decide +kernel
theorem dX2_expression_39 : decode cX2_expression 39 = .ok (.istore 4, 2) := by decide +kernel
theorem dX2_expression_41 : decode cX2_expression 41 = .ok (.aload_n 0, 1) := by decide +kernel
theorem dX2_expression_42 : decode cX2_expression 42 = .ok (.iload_n 1, 1) := by decide +kernel
theorem dX2_expression_43 : decode cX2_expression 43 = .ok (.iconst 1, 1) := by decide +kernel
theorem dX2_expression_44 : decode cX2_expression 44 = .ok (.iadd, 1) := by decide +kernel
theorem dX2_expression_45 : decode cX2_expression 45 = .ok (.invokevirtual 78, 3) := by decide +kernel
theorem dX2_expression_48 : decode cX2_expression 48 = .ok (.istore 5, 2) := by decide +kernel
theorem dX2_expression_50 : decode cX2_expression 50 = .ok (.aload_n 0, 1) := by decide +kernel
theorem dX2_expression_51 : decode cX2_expression 51 = .ok (.iload_n 3, 1) := by decide +kernel
theorem dX2_expression_52 : decode cX2_expression 52 = .ok (.invokevirtual 84, 3) := by decide +kernel
theorem dX2_expression_55 : decode cX2_expression 55 = .ok (.istore 6, 2) := by decide +kernel
theorem dX2_expression_57 : decode cX2_expression 57 = .ok (.aload_n 0, 1) := by decide +kernel
theorem dX2_expression_58 : decode cX2_expression 58 = .ok (.getfield 26, 3) := by decide +kernel
theorem dX2_expression_61 : decode cX2_expression 61 = .ok (.invokevirtual 40, 3) := by decide +kernel
theorem dX2_expression_64 : decode cX2_expression 64 = .ok (.istore 7, 2) := by decide +kernel
theorem dX2_expression_66 : decode cX2_expression 66 = .ok (.aload_n 0, 1) := by decide +kernel
theorem dX2_expression_67 : decode cX2_expression 67 = .ok (.iload_n 1, 1) := by decide +kernel
theorem dX2_expression_68 : decode cX2_expression 68 = .ok (.iconst 1, 1) := by decide +kernel
theorem dX2_expression_69 : decode cX2_expression 69 = .ok (.iadd, 1) := by decide +kernel
theorem dX2_expression_70 : decode cX2_expression 70 = .ok (.invokevirtual 46, 3) := by decide +kernel
theorem dX2_expression_73 : decode cX2_expression 73 = .ok (.istore 8, 2) := by decide +kernel
theorem dX2_expression_75 : decode cX2_expression 75 = .ok (.aload_n 0, 1) := by decide +kernel
theorem dX2_expression_76 : decode cX2_expression 76 = .ok (.getfield 36, 3) := by decide +kernel
theorem dX2_expression_79 : decode cX2_expression 79 = .ok (.iload 6, 2) := by decide +kernel
theorem dX2_expression_81 : decode cX2_expression 81 = .ok (.invokevirtual 72, 3) := by decide +kernel
theorem dX2_expression_84 : decode cX2_expression 84 = .ok (.pop, 1) := by decide +kernel
theorem dX2_expression_85 : decode cX2_expression 85 = .ok (.aload_n 0, 1) := by decide +kernel
theorem dX2_expression_86 : decode cX2_expression 86 = .ok (.getfield 26, 3) := by decide +kernel
theorem dX2_expression_89 : decode cX2_expression 89 = .ok (.iload_n 2, 1) := by decide +kernel
theorem dX2_expression_90 : decode cX2_expression 90 = .ok (.iconst 5, 1) := by decide +kernel
theorem dX2_expression_91 : decode cX2_expression 91 = .ok (.aload_n 0, 1) := by decide +kernel
theorem dX2_expression_92 : decode cX2_expression 92 = .ok (.getfield 26, 3) := by decide +kernel
theorem dX2_expression_95 : decode cX2_expression 95 = .ok (.iload 4, 2) := by decide +kernel
theorem dX2_expression_97 : decode cX2_expression 97 = .ok (.invokevirtual 87, 3) := by decide +kernel
theorem dX2_expression_100 : decode cX2_expression 100 = .ok (.ifCond .eq 19, 3) := by decide +kernel
theorem dX2_expression_103 : decode cX2_expression 103 = .ok (.aload_n 0, 1) := by decide +kernel
theorem dX2_expression_104 : decode cX2_expression 104 = .ok (.getfield 26, 3) := by decide +kernel
theorem dX2_expression_107 : decode cX2_expression 107 = .ok (.iload 7, 2) := by decide +kernel
theorem dX2_expression_109 : decode cX2_expression 109 = .ok (.invokevirtual 87, 3) := by decide +kernel
theorem dX2_expression_112 : decode cX2_expression 112 = .ok (.ifCond .eq 7, 3) := by decide +kernel
theorem dX2_expression_115 : decode cX2_expression 115 = .ok (.iconst 1, 1) := by decide +kernel
theorem dX2_expression_116 : decode cX2_expression 116 = .ok (.goto 4, 3) := by decide +kernel
theorem dX2_expression_119 : decode cX2_expression 119 = .ok (.iconst 0, 1) := by decide +kernel
theorem dX2_expression_120 : decode cX2_expression 120 = .ok (.invokevirtual 91, 3) := by decide +kernel
theorem dX2_expression_123 : decode cX2_expression 123 = .ok (.aload_n 0, 1) := by decide +kernel
theorem dX2_expression_124 : decode cX2_expression 124 = .ok (.getfield 16, 3) := by decide +kernel
theorem dX2_expression_127 : decode cX2_expression 127 = .ok (.iload 5, 2) := by decide +kernel
theorem dX2_expression_129 : decode cX2_expression 129 = .ok (.iload 8, 2) := by decide +kernel
theorem dX2_expression_131 : decode cX2_expression 131 = .ok (.iload 7, 2) := by decide +kernel
theorem dX2_expression_133 : decode cX2_expression 133 = .ok (.invokevirtual 50, 3) := by decide +kernel
theorem dX2_expression_136 : decode cX2_expression 136 = .ok (.iload 5, 2) := by decide +kernel
theorem dX2_expression_138 : decode cX2_expression 138 = .ok (.ifCond .eq 10, 3) := by decide +kernel
theorem dX2_expression_141 : decode cX2_expression 141 = .ok (.iload 5, 2) := by decide +kernel
theorem dX2_expression_143 : decode cX2_expression 143 = .ok (.iload 8, 2) := by decide +kernel
theorem dX2_expression_145 : decode cX2_expression 145 = .ok (.if_icmp .ne 6, 3) := by decide +kernel
theorem dX2_expression_148 : decode cX2_expression 148 = .ok (.iload 8, 2) := by decide +kernel
theorem dX2_expression_150 : decode cX2_expression 150 = .ok (.ireturn, 1) := by decide +kernel
theorem dX2_expression_151 : decode cX2_expression 151 = .ok (.iload 8, 2) := by decide +kernel
theorem dX2_expression_153 : decode cX2_expression 153 = .ok (.ifCond .ne 8, 3) := by decide +kernel
theorem dX2_expression_156 : decode cX2_expression 156 = .ok (.iload 5, 2) := by decide +kernel
theorem dX2_expression_158 : decode cX2_expression 158 = .ok (.goto 4, 3) := by decide +kernel
theorem dX2_expression_161 : decode cX2_expression 161 = .ok (.iconst 0, 1) := by decide +kernel
theorem dX2_expression_162 : decode cX2_expression 162 = .ok (.ireturn, 1) := by decide +kernel
def fX2_expression_120 (rc : TX2_typed) (s1 : Int32) (s2 : Int32) (s3 : Bool) (a5 : Int32) (a7 : Int32) (a8 : Int32) (w : Wd) : Option (Int32 × Wd) :=
  lt (fX9_form s1 s2 s3 w) fun w1 => lt (fX1_check a5 a8 a7 w1) fun w2 => if a5 = 0 then (some (a8, w2)) else (if a5 = a8 then (some (a8, w2)) else (if a8 = 0 then (some (a5, w2)) else (some (0, w2))))
theorem pX2_expression_120 {q : Gq} {l : Launch} {N : Option Value → Wd → Prop} {X : String → Wd → Prop} {rc : TX2_typed} {dd : Nat} (hS : HSX2_typed q l rc dd) (hK : 8 ≤ dd) {w : Wd} {R : Int32 × Wd} (hN : N (some (.int R.1)) R.2) {s1 : Int32} {s2 : Int32} {s3 : Bool} {a5 : Int32} {a7 : Int32} {a8 : Int32} (h : fX2_expression_120 rc s1 s2 s3 a5 a7 a8 w = some R) : RT (GA q) l (dd + 1) yX2_expression cX2_expression 9 ((some .int)) N X 120 [.int (b2i s3), .int s2, .int s1, .ref 4] [(0, .ref 42), (5, .int a5), (7, .int a7), (8, .int a8)] w := by
  unfold fX2_expression_120 at h
  replace h := lt_e h; obtain ⟨w1, ew1, h⟩ := h
  refine r_cVv (pc := 120) wyX9_form oA4 rfl mlRX2_91 iyX9_form syX9_form ⟨Nat.succ_le_succ (Nat.le_trans (Nat.le_of_ble_eq_true rfl) hK), (Nat.le_of_ble_eq_true rfl)⟩ rfl rfl (Nat.le_of_ble_eq_true rfl) dX2_expression_120 (mX9_form ew1 (pV.mk ?_))
  refine r_aload_n (pc := 123) dX2_expression_123 rfl 0 rfl ?_
  refine r_get (pc := 124) (j := 0) (v := .ref 3) oA42 cf2 flRX2_16 rfl dX2_expression_124 rfl ?_
  refine r_iload (pc := 127) dX2_expression_127 1 rfl ?_
  refine r_iload (pc := 129) dX2_expression_129 3 rfl ?_
  refine r_iload (pc := 131) dX2_expression_131 2 rfl ?_
  replace h := lt_e h; obtain ⟨w2, ew2, h⟩ := h
  refine r_cVv (pc := 133) wyX1_check oA3 rfl mlRX2_50 iyX1_check syX1_check ⟨Nat.succ_le_succ (Nat.le_trans (Nat.le_of_ble_eq_true rfl) hK), (Nat.le_of_ble_eq_true rfl)⟩ rfl rfl (Nat.le_of_ble_eq_true rfl) dX2_expression_133 (mX1_check ew2 (pV.mk ?_))
  refine r_iload (pc := 136) dX2_expression_136 1 rfl ?_
  refine r_if_eq (pc := 138) dX2_expression_138 rfl (fun hc3 => ?_) (fun hc3 => ?_)
  · replace h := if_t hc3 h
    refine r_iload (pc := 148) dX2_expression_148 3 rfl ?_
    exact rO_i (pc := 150) rfl dX2_expression_150 h hN
  replace h := if_f hc3 h
  refine r_iload (pc := 141) dX2_expression_141 1 rfl ?_
  refine r_iload (pc := 143) dX2_expression_143 3 rfl ?_
  refine r_icmp_ne (pc := 145) dX2_expression_145 rfl (fun hc4 => ?_) (fun hc4 => ?_)
  · replace h := if_f hc4 h
    refine r_iload (pc := 151) dX2_expression_151 3 rfl ?_
    refine r_if_ne (pc := 153) dX2_expression_153 rfl (fun hc5 => ?_) (fun hc5 => ?_)
    · replace h := if_f hc5 h
      refine r_iconst (pc := 161) dX2_expression_161 ki_0 ?_
      exact rO_i (pc := 162) rfl dX2_expression_162 h hN
    replace h := if_t hc5 h
    refine r_iload (pc := 156) dX2_expression_156 1 rfl ?_
    refine r_goto (pc := 158) dX2_expression_158 rfl ?_
    exact rO_i (pc := 162) rfl dX2_expression_162 h hN
  replace h := if_t hc4 h
  refine r_iload (pc := 148) dX2_expression_148 3 rfl ?_
  exact rO_i (pc := 150) rfl dX2_expression_150 h hN
def fX2_expression (rc : TX2_typed) (a1 : Int32) (w : Wd) : Option (Int32 × Wd) :=
  lt (fX9_at w) fun x1 => lt (fX9_kind w) fun x2 => if x2 = 15 then (bn2 (rc 1 a1 0 0 w) fun x4 w5 => lt (fX9_at w5) fun x6 => bn2 (rc 3 (a1 + 1) 0 0 w5) fun x7 w8 => lt2 (fX2_otherwise x4 w8) fun x9 w10 => lt (fX9_at w10) fun x11 => bn2 (rc 2 (a1 + 1) 0 0 w10) fun x12 w13 => lt2 (fX0_patch x9 w13) fun x14 w15 => lt (fX9_isAim x6 w15) fun x16 => if x16 = true then (lt (fX9_isAim x11 w15) fun x18 => if x18 = true then (fX2_expression_120 rc x1 5 true x7 x11 x12 w15) else (fX2_expression_120 rc x1 5 false x7 x11 x12 w15)) else (fX2_expression_120 rc x1 5 false x7 x11 x12 w15)) else (bn2 (rc 3 a1 0 0 w) fun x20 w21 => some (x20, w21))
theorem pX2_expression {q : Gq} {l : Launch} {N : Option Value → Wd → Prop} {X : String → Wd → Prop} {rc : TX2_typed} {dd : Nat} (hS : HSX2_typed q l rc dd) (hK : 8 ≤ dd) {w : Wd} {R : Int32 × Wd} (hN : N (some (.int R.1)) R.2) {a1 : Int32} (h : fX2_expression rc a1 w = some R) : RT (GA q) l (dd + 1) yX2_expression cX2_expression 9 ((some .int)) N X 0 [] [(0, .ref 42), (1, .int a1)] w := by
  unfold fX2_expression at h
  refine r_aload_n (pc := 0) dX2_expression_0 rfl 0 rfl ?_
  refine r_get (pc := 1) (j := 1) (v := .ref 4) oA42 cf2 flRX2_26 rfl dX2_expression_1 rfl ?_
  replace h := lt_e h; obtain ⟨x1, ex1, h⟩ := h
  refine r_cVi (pc := 4) wyX9_at oA4 rfl mlRX2_40 iyX9_at syX9_at ⟨Nat.succ_le_succ (Nat.le_trans (Nat.le_of_ble_eq_true rfl) hK), (Nat.le_of_ble_eq_true rfl)⟩ rfl rfl (Nat.le_of_ble_eq_true rfl) dX2_expression_4 (mX9_at ex1 (pI.mk ?_))
  refine r_istore_n (pc := 7) (loc' := [(2, .int x1), (0, .ref 42), (1, .int a1)]) dX2_expression_7 rfl (Nat.le_of_ble_eq_true rfl) rfl ?_
  refine r_aload_n (pc := 8) dX2_expression_8 rfl 1 rfl ?_
  refine r_get (pc := 9) (j := 1) (v := .ref 4) oA42 cf2 flRX2_26 rfl dX2_expression_9 rfl ?_
  replace h := lt_e h; obtain ⟨x2, ex2, h⟩ := h
  refine r_cVi (pc := 12) wyX9_kind oA4 rfl mlRX2_75 iyX9_kind syX9_kind ⟨Nat.succ_le_succ (Nat.le_trans (Nat.le_of_ble_eq_true rfl) hK), (Nat.le_of_ble_eq_true rfl)⟩ rfl rfl (Nat.le_of_ble_eq_true rfl) dX2_expression_12 (mX9_kind ex2 (pI.mk ?_))
  refine r_bipush (pc := 15) dX2_expression_15 kb_15 ?_
  refine r_icmp_eq (pc := 17) dX2_expression_17 rfl (fun hc3 => ?_) (fun hc3 => ?_)
  · replace h := if_t hc3 h
    refine r_aload_n (pc := 26) dX2_expression_26 rfl 1 rfl ?_
    refine r_iload_n (pc := 27) dX2_expression_27 rfl 2 rfl ?_
    replace h := bn2_e h; obtain ⟨x4, w5, ew5, h⟩ := h
    refine r_cVi (pc := 28) wyX2_test oA42 rfl mlRX2_81 iyX2_test syX2_test ⟨Nat.le_refl _, (Nat.le_of_ble_eq_true rfl)⟩ rfl rfl (Nat.le_of_ble_eq_true rfl) dX2_expression_28 ((hS.2.1 _ _ _ _ _ _) ew5 (pI.mk ?_))
    refine r_istore_n (pc := 31) (loc' := [(3, .int x4), (2, .int x1), (0, .ref 42), (1, .int a1)]) dX2_expression_31 rfl (Nat.le_of_ble_eq_true rfl) rfl ?_
    refine r_aload_n (pc := 32) dX2_expression_32 rfl 2 rfl ?_
    refine r_get (pc := 33) (j := 1) (v := .ref 4) oA42 cf2 flRX2_26 rfl dX2_expression_33 rfl ?_
    replace h := lt_e h; obtain ⟨x6, ex6, h⟩ := h
    refine r_cVi (pc := 36) wyX9_at oA4 rfl mlRX2_40 iyX9_at syX9_at ⟨Nat.succ_le_succ (Nat.le_trans (Nat.le_of_ble_eq_true rfl) hK), (Nat.le_of_ble_eq_true rfl)⟩ rfl rfl (Nat.le_of_ble_eq_true rfl) dX2_expression_36 (mX9_at ex6 (pI.mk ?_))
    refine r_istore (pc := 39) (loc' := [(4, .int x6), (3, .int x4), (2, .int x1), (0, .ref 42), (1, .int a1)]) dX2_expression_39 (Nat.le_of_ble_eq_true rfl) rfl ?_
    refine r_aload_n (pc := 41) dX2_expression_41 rfl 3 rfl ?_
    refine r_iload_n (pc := 42) dX2_expression_42 rfl 4 rfl ?_
    refine r_iconst (pc := 43) dX2_expression_43 ki_1 ?_
    refine r_iadd (pc := 44) dX2_expression_44 ?_
    replace h := bn2_e h; obtain ⟨x7, w8, ew8, h⟩ := h
    refine r_cVi (pc := 45) wyX2_simple oA42 rfl mlRX2_78 iyX2_simple syX2_simple ⟨Nat.le_refl _, (Nat.le_of_ble_eq_true rfl)⟩ rfl rfl (Nat.le_of_ble_eq_true rfl) dX2_expression_45 ((hS.2.2.2.1 _ _ _ _ _ _) ew8 (pI.mk ?_))
    refine r_istore (pc := 48) (loc' := [(5, .int x7), (4, .int x6), (3, .int x4), (2, .int x1), (0, .ref 42), (1, .int a1)]) dX2_expression_48 (Nat.le_of_ble_eq_true rfl) rfl ?_
    refine r_aload_n (pc := 50) dX2_expression_50 rfl 4 rfl ?_
    refine r_iload_n (pc := 51) dX2_expression_51 rfl 2 rfl ?_
    replace h := lt2_e h; obtain ⟨x9, w10, ew10, h⟩ := h
    refine r_cVi (pc := 52) wyX2_otherwise oA42 rfl mlRX2_84 iyX2_otherwise syX2_otherwise ⟨Nat.succ_le_succ (Nat.le_trans (Nat.le_of_ble_eq_true rfl) hK), (Nat.le_of_ble_eq_true rfl)⟩ rfl rfl (Nat.le_of_ble_eq_true rfl) dX2_expression_52 (mX2_otherwise ew10 (pI.mk ?_))
    refine r_istore (pc := 55) (loc' := [(6, .int x9), (5, .int x7), (4, .int x6), (3, .int x4), (2, .int x1), (0, .ref 42), (1, .int a1)]) dX2_expression_55 (Nat.le_of_ble_eq_true rfl) rfl ?_
    refine r_aload_n (pc := 57) dX2_expression_57 rfl 5 rfl ?_
    refine r_get (pc := 58) (j := 1) (v := .ref 4) oA42 cf2 flRX2_26 rfl dX2_expression_58 rfl ?_
    replace h := lt_e h; obtain ⟨x11, ex11, h⟩ := h
    refine r_cVi (pc := 61) wyX9_at oA4 rfl mlRX2_40 iyX9_at syX9_at ⟨Nat.succ_le_succ (Nat.le_trans (Nat.le_of_ble_eq_true rfl) hK), (Nat.le_of_ble_eq_true rfl)⟩ rfl rfl (Nat.le_of_ble_eq_true rfl) dX2_expression_61 (mX9_at ex11 (pI.mk ?_))
    refine r_istore (pc := 64) (loc' := [(7, .int x11), (6, .int x9), (5, .int x7), (4, .int x6), (3, .int x4), (2, .int x1), (0, .ref 42), (1, .int a1)]) dX2_expression_64 (Nat.le_of_ble_eq_true rfl) rfl ?_
    refine r_aload_n (pc := 66) dX2_expression_66 rfl 6 rfl ?_
    refine r_iload_n (pc := 67) dX2_expression_67 rfl 7 rfl ?_
    refine r_iconst (pc := 68) dX2_expression_68 ki_1 ?_
    refine r_iadd (pc := 69) dX2_expression_69 ?_
    replace h := bn2_e h; obtain ⟨x12, w13, ew13, h⟩ := h
    refine r_cVi (pc := 70) wyX2_expression oA42 rfl mlRX2_46 iyX2_expression syX2_expression ⟨Nat.le_refl _, (Nat.le_of_ble_eq_true rfl)⟩ rfl rfl (Nat.le_of_ble_eq_true rfl) dX2_expression_70 ((hS.2.2.1 _ _ _ _ _ _) ew13 (pI.mk ?_))
    refine r_istore (pc := 73) (loc' := [(8, .int x12), (7, .int x11), (6, .int x9), (5, .int x7), (4, .int x6), (3, .int x4), (2, .int x1), (0, .ref 42), (1, .int a1)]) dX2_expression_73 (Nat.le_of_ble_eq_true rfl) rfl ?_
    refine r_aload_n (pc := 75) dX2_expression_75 rfl 7 rfl ?_
    refine r_get (pc := 76) (j := 3) (v := .ref 40) oA42 cf2 flRX2_36 rfl dX2_expression_76 rfl ?_
    refine r_iload (pc := 79) dX2_expression_79 2 rfl ?_
    replace h := lt2_e h; obtain ⟨x14, w15, ew15, h⟩ := h
    refine r_cVi (pc := 81) wyX0_patch oA40 rfl mlRX2_72 iyX0_patch syX0_patch ⟨Nat.succ_le_succ (Nat.le_trans (Nat.le_of_ble_eq_true rfl) hK), (Nat.le_of_ble_eq_true rfl)⟩ rfl rfl (Nat.le_of_ble_eq_true rfl) dX2_expression_81 (mX0_patch ew15 (pI.mk ?_))
    refine r_pop (pc := 84) dX2_expression_84 rfl ?_
    refine r_aload_n (pc := 85) dX2_expression_85 rfl 7 rfl ?_
    refine r_get (pc := 86) (j := 1) (v := .ref 4) oA42 cf2 flRX2_26 rfl dX2_expression_86 rfl ?_
    refine r_iload_n (pc := 89) dX2_expression_89 rfl 6 rfl ?_
    refine r_iconst (pc := 90) dX2_expression_90 ki_5 ?_
    refine r_aload_n (pc := 91) dX2_expression_91 rfl 7 rfl ?_
    refine r_get (pc := 92) (j := 1) (v := .ref 4) oA42 cf2 flRX2_26 rfl dX2_expression_92 rfl ?_
    refine r_iload (pc := 95) dX2_expression_95 4 rfl ?_
    replace h := lt_e h; obtain ⟨x16, ex16, h⟩ := h
    refine r_cVi (pc := 97) wyX9_isAim oA4 rfl mlRX2_87 iyX9_isAim syX9_isAim ⟨Nat.succ_le_succ (Nat.le_trans (Nat.le_of_ble_eq_true rfl) hK), (Nat.le_of_ble_eq_true rfl)⟩ rfl rfl (Nat.le_of_ble_eq_true rfl) dX2_expression_97 (mX9_isAim ex16 (pI.mk ?_))
    refine r_z_eq (pc := 100) dX2_expression_100 rfl (fun hc17 => ?_) (fun hc17 => ?_)
    · replace h := if_f hc17 h
      refine r_iconst (pc := 119) dX2_expression_119 ki_0 ?_
      refine r_drop (loc' := [(0, .ref 42), (5, .int x7), (7, .int x11), (8, .int x12)]) [7, 3, 1, 0] rfl ?_
      exact pX2_expression_120 hS hK hN h
    replace h := if_t hc17 h
    refine r_aload_n (pc := 103) dX2_expression_103 rfl 7 rfl ?_
    refine r_get (pc := 104) (j := 1) (v := .ref 4) oA42 cf2 flRX2_26 rfl dX2_expression_104 rfl ?_
    refine r_iload (pc := 107) dX2_expression_107 1 rfl ?_
    replace h := lt_e h; obtain ⟨x18, ex18, h⟩ := h
    refine r_cVi (pc := 109) wyX9_isAim oA4 rfl mlRX2_87 iyX9_isAim syX9_isAim ⟨Nat.succ_le_succ (Nat.le_trans (Nat.le_of_ble_eq_true rfl) hK), (Nat.le_of_ble_eq_true rfl)⟩ rfl rfl (Nat.le_of_ble_eq_true rfl) dX2_expression_109 (mX9_isAim ex18 (pI.mk ?_))
    refine r_z_eq (pc := 112) dX2_expression_112 rfl (fun hc19 => ?_) (fun hc19 => ?_)
    · replace h := if_f hc19 h
      refine r_iconst (pc := 119) dX2_expression_119 ki_0 ?_
      refine r_drop (loc' := [(0, .ref 42), (5, .int x7), (7, .int x11), (8, .int x12)]) [7, 3, 1, 0] rfl ?_
      exact pX2_expression_120 hS hK hN h
    replace h := if_t hc19 h
    refine r_iconst (pc := 115) dX2_expression_115 ki_1 ?_
    refine r_goto (pc := 116) dX2_expression_116 rfl ?_
    refine r_drop (loc' := [(0, .ref 42), (5, .int x7), (7, .int x11), (8, .int x12)]) [7, 3, 1, 0] rfl ?_
    exact pX2_expression_120 hS hK hN h
  replace h := if_f hc3 h
  refine r_aload_n (pc := 20) dX2_expression_20 rfl 1 rfl ?_
  refine r_iload_n (pc := 21) dX2_expression_21 rfl 2 rfl ?_
  replace h := bn2_e h; obtain ⟨x20, w21, ew21, h⟩ := h
  refine r_cVi (pc := 22) wyX2_simple oA42 rfl mlRX2_78 iyX2_simple syX2_simple ⟨Nat.le_refl _, (Nat.le_of_ble_eq_true rfl)⟩ rfl rfl (Nat.le_of_ble_eq_true rfl) dX2_expression_22 ((hS.2.2.2.1 _ _ _ _ _ _) ew21 (pI.mk ?_))
  exact rO_i (pc := 25) rfl dX2_expression_25 h hN
/-! AlgolMill$Expressions.typed (II)V: O, 908 -/
theorem dX2_typed_0 : decode cX2_typed 0 = .ok (.aload_n 0, 1) := by decide +kernel
theorem dX2_typed_1 : decode cX2_typed 1 = .ok (.getfield 26, 3) := by decide +kernel
theorem dX2_typed_4 : decode cX2_typed 4 = .ok (.invokevirtual 40, 3) := by decide +kernel
theorem dX2_typed_7 : decode cX2_typed 7 = .ok (.istore_n 3, 1) := by decide +kernel
theorem dX2_typed_8 : decode cX2_typed 8 = .ok (.aload_n 0, 1) := by decide +kernel
theorem dX2_typed_9 : decode cX2_typed 9 = .ok (.getfield 16, 3) := by decide +kernel
theorem dX2_typed_12 : decode cX2_typed 12 = .ok (.iload_n 2, 1) := by decide +kernel
theorem dX2_typed_13 : decode cX2_typed 13 = .ok (.aload_n 0, 1) := by decide +kernel
theorem dX2_typed_14 : decode cX2_typed 14 = .ok (.iload_n 1, 1) := by decide +kernel
theorem dX2_typed_15 : decode cX2_typed 15 = .ok (.invokevirtual 46, 3) := by decide +kernel
theorem dX2_typed_18 : decode cX2_typed 18 = .ok (.iload_n 3, 1) := by decide +kernel
theorem dX2_typed_19 : decode cX2_typed 19 = .ok (.invokevirtual 50, 3) := by decide +kernel
theorem dX2_typed_22 : decode cX2_typed 22 = .ok (.return_, 1) := by decide +kernel
def fX2_typed (rc : TX2_typed) (a1 : Int32) (a2 : Int32) (w : Wd) : Option (Int32 × Wd) :=
  lt (fX9_at w) fun x1 => bn2 (rc 2 a1 0 0 w) fun x2 w3 => lt (fX1_check a2 x2 x1 w3) fun w4 => some (0, w4)
theorem pX2_typed {q : Gq} {l : Launch} {N : Option Value → Wd → Prop} {X : String → Wd → Prop} {rc : TX2_typed} {dd : Nat} (hS : HSX2_typed q l rc dd) (hK : 8 ≤ dd) {w : Wd} {R : Int32 × Wd} (hN : N none R.2) {a1 : Int32} {a2 : Int32} (h : fX2_typed rc a1 a2 w = some R) : RT (GA q) l (dd + 1) yX2_typed cX2_typed 4 (none) N X 0 [] [(0, .ref 42), (1, .int a1), (2, .int a2)] w := by
  unfold fX2_typed at h
  refine r_aload_n (pc := 0) dX2_typed_0 rfl 0 rfl ?_
  refine r_get (pc := 1) (j := 1) (v := .ref 4) oA42 cf2 flRX2_26 rfl dX2_typed_1 rfl ?_
  replace h := lt_e h; obtain ⟨x1, ex1, h⟩ := h
  refine r_cVi (pc := 4) wyX9_at oA4 rfl mlRX2_40 iyX9_at syX9_at ⟨Nat.succ_le_succ (Nat.le_trans (Nat.le_of_ble_eq_true rfl) hK), (Nat.le_of_ble_eq_true rfl)⟩ rfl rfl (Nat.le_of_ble_eq_true rfl) dX2_typed_4 (mX9_at ex1 (pI.mk ?_))
  refine r_istore_n (pc := 7) (loc' := [(3, .int x1), (0, .ref 42), (1, .int a1), (2, .int a2)]) dX2_typed_7 rfl (Nat.le_of_ble_eq_true rfl) rfl ?_
  refine r_aload_n (pc := 8) dX2_typed_8 rfl 1 rfl ?_
  refine r_get (pc := 9) (j := 0) (v := .ref 3) oA42 cf2 flRX2_16 rfl dX2_typed_9 rfl ?_
  refine r_iload_n (pc := 12) dX2_typed_12 rfl 3 rfl ?_
  refine r_aload_n (pc := 13) dX2_typed_13 rfl 1 rfl ?_
  refine r_iload_n (pc := 14) dX2_typed_14 rfl 2 rfl ?_
  replace h := bn2_e h; obtain ⟨x2, w3, ew3, h⟩ := h
  refine r_cVi (pc := 15) wyX2_expression oA42 rfl mlRX2_46 iyX2_expression syX2_expression ⟨Nat.le_refl _, (Nat.le_of_ble_eq_true rfl)⟩ rfl rfl (Nat.le_of_ble_eq_true rfl) dX2_typed_15 ((hS.2.2.1 _ _ _ _ _ _) ew3 (pI.mk ?_))
  refine r_iload_n (pc := 18) dX2_typed_18 rfl 0 rfl ?_
  replace h := lt_e h; obtain ⟨w4, ew4, h⟩ := h
  refine r_cVv (pc := 19) wyX1_check oA3 rfl mlRX2_50 iyX1_check syX1_check ⟨Nat.succ_le_succ (Nat.le_trans (Nat.le_of_ble_eq_true rfl) hK), (Nat.le_of_ble_eq_true rfl)⟩ rfl rfl (Nat.le_of_ble_eq_true rfl) dX2_typed_19 (mX1_check ew4 (pV.mk ?_))
  exact rOR_v (pc := 22) rfl dX2_typed_22 h hN
def BX2_typed (rc : TX2_typed) : TX2_typed := fun i a b c w => match i with
  | 0 => fX2_typed rc a b w
  | 1 => fX2_test rc a w
  | 2 => fX2_expression rc a w
  | 3 => fX2_simple rc a w
  | 4 => fX2_unnamed rc a w
  | 5 => fX2_named rc a w
  | 6 => fX2_element rc a b c w
  | 7 => fX2_place rc a b w
  | 8 => fX2_call rc a b c w
  | 9 => fX2_actual rc a b w
  | 10 => fX2_thunk rc a b w
  | 11 => fX2_aim rc a b w
  | 12 => fX2_designated rc a b w
  | _ => none
def RX2_typed : Nat → TX2_typed
  | 0 => fun _ _ _ _ _ => none
  | n + 1 => BX2_typed (RX2_typed n)
theorem hzX2_typed {q : Gq} {l : Launch} (dd : Nat) : HSX2_typed q l (RX2_typed 0) dd :=
  ⟨fun _ _ _ _ _ _ _ h => absurd h (fun q => nomatch q),
    fun _ _ _ _ _ _ h => absurd h (fun q => nomatch q),
    fun _ _ _ _ _ _ h => absurd h (fun q => nomatch q),
    fun _ _ _ _ _ _ h => absurd h (fun q => nomatch q),
    fun _ _ _ _ _ _ h => absurd h (fun q => nomatch q),
    fun _ _ _ _ _ _ h => absurd h (fun q => nomatch q),
    fun _ _ _ _ _ _ _ _ h => absurd h (fun q => nomatch q),
    fun _ _ _ _ _ _ _ h => absurd h (fun q => nomatch q),
    fun _ _ _ _ _ _ _ _ h => absurd h (fun q => nomatch q),
    fun _ _ _ _ _ _ _ h => absurd h (fun q => nomatch q),
    fun _ _ _ _ _ _ _ h => absurd h (fun q => nomatch q),
    fun _ _ _ _ _ _ _ h => absurd h (fun q => nomatch q),
    fun _ _ _ _ _ _ _ h => absurd h (fun q => nomatch q)⟩
theorem hnX2_typed {q : Gq} {l : Launch} {rc : TX2_typed} {dd : Nat} (ih : HSX2_typed q l rc dd) (hK : 8 ≤ dd) : HSX2_typed q l (BX2_typed rc) (dd + 1) :=
  ⟨fun _ _ _ _ _ _ _ h hN => Ct.of (by decide) (Nat.le_of_ble_eq_true rfl) (pX2_typed ih hK hN h),
    fun _ _ _ _ _ _ h hN => Ct.of (by decide) (Nat.le_of_ble_eq_true rfl) (pX2_test ih hK hN h),
    fun _ _ _ _ _ _ h hN => Ct.of (by decide) (Nat.le_of_ble_eq_true rfl) (pX2_expression ih hK hN h),
    fun _ _ _ _ _ _ h hN => Ct.of (by decide) (Nat.le_of_ble_eq_true rfl) (pX2_simple ih hK hN h),
    fun _ _ _ _ _ _ h hN => Ct.of (by decide) (Nat.le_of_ble_eq_true rfl) (pX2_unnamed ih hK hN h),
    fun _ _ _ _ _ _ h hN => Ct.of (by decide) (Nat.le_of_ble_eq_true rfl) (pX2_named ih hK hN h),
    fun _ _ _ _ _ _ _ _ h hN => Ct.of (by decide) (Nat.le_of_ble_eq_true rfl) (pX2_element ih hK hN h),
    fun _ _ _ _ _ _ _ h hN => Ct.of (by decide) (Nat.le_of_ble_eq_true rfl) (pX2_place ih hK hN h),
    fun _ _ _ _ _ _ _ _ h hN => Ct.of (by decide) (Nat.le_of_ble_eq_true rfl) (pX2_call ih hK hN h),
    fun _ _ _ _ _ _ _ h hN => Ct.of (by decide) (Nat.le_of_ble_eq_true rfl) (pX2_actual ih hK hN h),
    fun _ _ _ _ _ _ _ h hN => Ct.of (by decide) (Nat.le_of_ble_eq_true rfl) (pX2_thunk ih hK hN h),
    fun _ _ _ _ _ _ _ h hN => Ct.of (by decide) (Nat.le_of_ble_eq_true rfl) (pX2_aim ih hK hN h),
    fun _ _ _ _ _ _ _ h hN => Ct.of (by decide) (Nat.le_of_ble_eq_true rfl) (pX2_designated ih hK hN h)⟩
theorem hsX2_typed {q : Gq} {l : Launch} (b9 : Nat) (hb : 8 ≤ b9) : ∀ n : Nat, HSX2_typed q l (RX2_typed n) (b9 + n) := by
  intro n
  induction n with
  | zero => exact hzX2_typed (b9 + 0)
  | succ n ih => exact hnX2_typed (rc := RX2_typed n) (dd := b9 + n) ih (Nat.le_trans hb (Nat.le_add_right _ _))
theorem mX2_typed {q : Gq} {l : Launch} {N : Option Value → Wd → Prop} {X : String → Wd → Prop} {a1 : Int32} {a2 : Int32} {w : Wd} {x : Int32} {u : Wd} (h : RX2_typed 900 0 a1 a2 0 w = some (x, u)) (hN : N none u) : Ct (GA q) l 908 yX2_typed cX2_typed 4 (none) [.ref 42, .int a1, .int a2] w N X := (hsX2_typed 8 (Nat.le_refl _) 900).1 _ _ _ _ _ _ _ h hN
theorem mX2_test {q : Gq} {l : Launch} {N : Option Value → Wd → Prop} {X : String → Wd → Prop} {a1 : Int32} {w : Wd} {x : Int32} {u : Wd} (h : RX2_typed 900 1 a1 0 0 w = some (x, u)) (hN : N (some (.int x)) u) : Ct (GA q) l 908 yX2_test cX2_test 3 ((some .int)) [.ref 42, .int a1] w N X := (hsX2_typed 8 (Nat.le_refl _) 900).2.1 _ _ _ _ _ _ h hN
theorem mX2_expression {q : Gq} {l : Launch} {N : Option Value → Wd → Prop} {X : String → Wd → Prop} {a1 : Int32} {w : Wd} {x : Int32} {u : Wd} (h : RX2_typed 900 2 a1 0 0 w = some (x, u)) (hN : N (some (.int x)) u) : Ct (GA q) l 908 yX2_expression cX2_expression 9 ((some .int)) [.ref 42, .int a1] w N X := (hsX2_typed 8 (Nat.le_refl _) 900).2.2.1 _ _ _ _ _ _ h hN
theorem mX2_simple {q : Gq} {l : Launch} {N : Option Value → Wd → Prop} {X : String → Wd → Prop} {a1 : Int32} {w : Wd} {x : Int32} {u : Wd} (h : RX2_typed 900 3 a1 0 0 w = some (x, u)) (hN : N (some (.int x)) u) : Ct (GA q) l 908 yX2_simple cX2_simple 10 ((some .int)) [.ref 42, .int a1] w N X := (hsX2_typed 8 (Nat.le_refl _) 900).2.2.2.1 _ _ _ _ _ _ h hN
theorem mX2_unnamed {q : Gq} {l : Launch} {N : Option Value → Wd → Prop} {X : String → Wd → Prop} {a1 : Int32} {w : Wd} {x : Int32} {u : Wd} (h : RX2_typed 900 4 a1 0 0 w = some (x, u)) (hN : N (some (.int x)) u) : Ct (GA q) l 908 yX2_unnamed cX2_unnamed 6 ((some .int)) [.ref 42, .int a1] w N X := (hsX2_typed 8 (Nat.le_refl _) 900).2.2.2.2.1 _ _ _ _ _ _ h hN
theorem mX2_named {q : Gq} {l : Launch} {N : Option Value → Wd → Prop} {X : String → Wd → Prop} {a1 : Int32} {w : Wd} {x : Int32} {u : Wd} (h : RX2_typed 900 5 a1 0 0 w = some (x, u)) (hN : N (some (.int x)) u) : Ct (GA q) l 908 yX2_named cX2_named 6 ((some .int)) [.ref 42, .int a1] w N X := (hsX2_typed 8 (Nat.le_refl _) 900).2.2.2.2.2.1 _ _ _ _ _ _ h hN
theorem mX2_element {q : Gq} {l : Launch} {N : Option Value → Wd → Prop} {X : String → Wd → Prop} {a1 : Int32} {a2 : Int32} {a3 : Int32} {w : Wd} {x : Int32} {u : Wd} (h : RX2_typed 900 6 a1 a2 a3 w = some (x, u)) (hN : N (some (.int x)) u) : Ct (GA q) l 908 yX2_element cX2_element 7 ((some .int)) [.ref 42, .int a1, .int a2, .int a3] w N X := (hsX2_typed 8 (Nat.le_refl _) 900).2.2.2.2.2.2.1 _ _ _ _ _ _ _ _ h hN
theorem mX2_place {q : Gq} {l : Launch} {N : Option Value → Wd → Prop} {X : String → Wd → Prop} {a1 : Int32} {a2 : Int32} {w : Wd} {x : Int32} {u : Wd} (h : RX2_typed 900 7 a1 a2 0 w = some (x, u)) (hN : N (some (.int x)) u) : Ct (GA q) l 908 yX2_place cX2_place 5 ((some .int)) [.ref 42, .int a1, .int a2] w N X := (hsX2_typed 8 (Nat.le_refl _) 900).2.2.2.2.2.2.2.1 _ _ _ _ _ _ _ h hN
theorem mX2_call {q : Gq} {l : Launch} {N : Option Value → Wd → Prop} {X : String → Wd → Prop} {a1 : Int32} {a2 : Int32} {a3 : Int32} {w : Wd} {x : Int32} {u : Wd} (h : RX2_typed 900 8 a1 a2 a3 w = some (x, u)) (hN : N none u) : Ct (GA q) l 908 yX2_call cX2_call 7 (none) [.ref 42, .int a1, .int a2, .int a3] w N X := (hsX2_typed 8 (Nat.le_refl _) 900).2.2.2.2.2.2.2.2.1 _ _ _ _ _ _ _ _ h hN
theorem mX2_actual {q : Gq} {l : Launch} {N : Option Value → Wd → Prop} {X : String → Wd → Prop} {a1 : Int32} {a2 : Int32} {w : Wd} {x : Int32} {u : Wd} (h : RX2_typed 900 9 a1 a2 0 w = some (x, u)) (hN : N none u) : Ct (GA q) l 908 yX2_actual cX2_actual 5 (none) [.ref 42, .int a1, .int a2] w N X := (hsX2_typed 8 (Nat.le_refl _) 900).2.2.2.2.2.2.2.2.2.1 _ _ _ _ _ _ _ h hN
theorem mX2_thunk {q : Gq} {l : Launch} {N : Option Value → Wd → Prop} {X : String → Wd → Prop} {a1 : Int32} {a2 : Int32} {w : Wd} {x : Int32} {u : Wd} (h : RX2_typed 900 10 a1 a2 0 w = some (x, u)) (hN : N none u) : Ct (GA q) l 908 yX2_thunk cX2_thunk 8 (none) [.ref 42, .int a1, .int a2] w N X := (hsX2_typed 8 (Nat.le_refl _) 900).2.2.2.2.2.2.2.2.2.2.1 _ _ _ _ _ _ _ h hN
theorem mX2_aim {q : Gq} {l : Launch} {N : Option Value → Wd → Prop} {X : String → Wd → Prop} {a1 : Int32} {a2 : Int32} {w : Wd} {x : Int32} {u : Wd} (h : RX2_typed 900 11 a1 a2 0 w = some (x, u)) (hN : N none u) : Ct (GA q) l 908 yX2_aim cX2_aim 8 (none) [.ref 42, .int a1, .int a2] w N X := (hsX2_typed 8 (Nat.le_refl _) 900).2.2.2.2.2.2.2.2.2.2.2.1 _ _ _ _ _ _ _ h hN
theorem mX2_designated {q : Gq} {l : Launch} {N : Option Value → Wd → Prop} {X : String → Wd → Prop} {a1 : Int32} {a2 : Int32} {w : Wd} {x : Int32} {u : Wd} (h : RX2_typed 900 12 a1 a2 0 w = some (x, u)) (hN : N none u) : Ct (GA q) l 908 yX2_designated cX2_designated 7 (none) [.ref 42, .int a1, .int a2] w N X := (hsX2_typed 8 (Nat.le_refl _) 900).2.2.2.2.2.2.2.2.2.2.2.2 _ _ _ _ _ _ _ h hN
