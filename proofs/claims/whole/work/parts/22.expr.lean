/-! Expressions: those that no call leads back to -/
theorem kb_12 : (Int8.ofInt 12).toInt32 = 12 := by decide
theorem kb_13 : (Int8.ofInt 13).toInt32 = 13 := by decide
theorem kb_14 : (Int8.ofInt 14).toInt32 = 14 := by decide
theorem kb_15 : (Int8.ofInt 15).toInt32 = 15 := by decide
theorem kb_17 : (Int8.ofInt 17).toInt32 = 17 := by decide
theorem kb_23 : (Int8.ofInt 23).toInt32 = 23 := by decide
theorem kb_34 : (Int8.ofInt 34).toInt32 = 34 := by decide
theorem kb_38 : (Int8.ofInt 38).toInt32 = 38 := by decide
theorem kb_44 : (Int8.ofInt 44).toInt32 = 44 := by decide
theorem kb_m34 : (Int8.ofInt (-34)).toInt32 = (-34) := by decide
theorem ks_512 : (Int16.ofInt 512).toInt32 = 512 := by decide
/-! AlgolMill$Expressions.clear ()V: S, 1 -/
theorem dX2_clear_0 : decode cX2_clear 0 = .ok (.aload_n 0, 1) := by decide +kernel
theorem dX2_clear_1 : decode cX2_clear 1 = .ok (.getfield 10, 3) := by decide +kernel
theorem dX2_clear_4 : decode cX2_clear 4 = .ok (.invokevirtual 37, 3) := by decide +kernel
theorem dX2_clear_7 : decode cX2_clear 7 = .ok (.return_, 1) := by decide +kernel
def fX2_clear (w : Wd) : Wd :=
  lt (fX10_clear w) fun w1 => w1
theorem pX2_clear {q : Gq} {l : Launch} {N : Option Value → Wd → Prop} {X : String → Wd → Prop} {w : Wd} {R : Wd} (hN : N none R) (h : fX2_clear w = R) : RT (GA q) l 1 yX2_clear cX2_clear 1 (none) N X 0 [] [(0, .ref 42)] w := by
  unfold fX2_clear at h
  refine r_aload_n (pc := 0) dX2_clear_0 rfl 0 rfl ?_
  refine r_get (pc := 1) (j := 4) (v := .ref 43) oA42 cf2 flRX2_10 rfl dX2_clear_1 rfl ?_
  replace h := lt_e h; obtain ⟨w1, ew1, h⟩ := h
  refine r_cVv (pc := 4) wyX10_clear oA43 rfl mlRX2_37 iyX10_clear syX10_clear ⟨(Nat.le_of_ble_eq_true rfl), (Nat.le_of_ble_eq_true rfl)⟩ rfl rfl (Nat.le_of_ble_eq_true rfl) dX2_clear_4 (mX10_clear ew1 (pV.mk ?_))
  exact rS_v (pc := 7) rfl dX2_clear_7 h hN
theorem mX2_clear {q : Gq} {l : Launch} {N : Option Value → Wd → Prop} {X : String → Wd → Prop} {w : Wd} {u : Wd} (h : fX2_clear w = u) (hN : N none u) : Ct (GA q) l 1 yX2_clear cX2_clear 1 (none) [.ref 42] w N X := Ct.of (by decide) (Nat.le_of_ble_eq_true rfl) (pX2_clear hN h)
/-! AlgolMill$Expressions.otherwise (I)I: S, 5 -/
theorem dX2_otherwise_0 : decode cX2_otherwise 0 = .ok (.aload_n 0, 1) := by decide +kernel
theorem dX2_otherwise_1 : decode cX2_otherwise 1 = .ok (.getfield 26, 3) := by decide +kernel
theorem dX2_otherwise_4 : decode cX2_otherwise 4 = .ok (.bipush 17, 2) := by decide +kernel
theorem dX2_otherwise_6 : decode cX2_otherwise 6 = .ok (.invokevirtual 63, 3) := by decide +kernel
theorem dX2_otherwise_9 : decode cX2_otherwise 9 = .ok (.aload_n 0, 1) := by decide +kernel
theorem dX2_otherwise_10 : decode cX2_otherwise 10 = .ok (.getfield 36, 3) := by decide +kernel
theorem dX2_otherwise_13 : decode cX2_otherwise 13 = .ok (.bipush 33, 2) := by decide +kernel
theorem dX2_otherwise_15 : decode cX2_otherwise 15 = .ok (.invokevirtual 69, 3) := by decide +kernel
theorem dX2_otherwise_18 : decode cX2_otherwise 18 = .ok (.istore_n 2, 1) := by decide +kernel
theorem dX2_otherwise_19 : decode cX2_otherwise 19 = .ok (.aload_n 0, 1) := by decide +kernel
theorem dX2_otherwise_20 : decode cX2_otherwise 20 = .ok (.getfield 36, 3) := by decide +kernel
theorem dX2_otherwise_23 : decode cX2_otherwise 23 = .ok (.iload_n 1, 1) := by decide +kernel
theorem dX2_otherwise_24 : decode cX2_otherwise 24 = .ok (.invokevirtual 72, 3) := by decide +kernel
theorem dX2_otherwise_27 : decode cX2_otherwise 27 = .ok (.pop, 1) := by decide +kernel
theorem dX2_otherwise_28 : decode cX2_otherwise 28 = .ok (.iload_n 2, 1) := by decide +kernel
theorem dX2_otherwise_29 : decode cX2_otherwise 29 = .ok (.ireturn, 1) := by decide +kernel
def fX2_otherwise (a1 : Int32) (w : Wd) : Int32 × Wd :=
  lt (fX9_need 17 w) fun w1 => lt2 (fX0_put__ 33 w1) fun x2 w3 => lt2 (fX0_patch a1 w3) fun x4 w5 => (x2, w5)
theorem pX2_otherwise {q : Gq} {l : Launch} {N : Option Value → Wd → Prop} {X : String → Wd → Prop} {w : Wd} {R : Int32 × Wd} (hN : N (some (.int R.1)) R.2) {a1 : Int32} (h : fX2_otherwise a1 w = R) : RT (GA q) l 5 yX2_otherwise cX2_otherwise 3 ((some .int)) N X 0 [] [(0, .ref 42), (1, .int a1)] w := by
  unfold fX2_otherwise at h
  refine r_aload_n (pc := 0) dX2_otherwise_0 rfl 0 rfl ?_
  refine r_get (pc := 1) (j := 1) (v := .ref 4) oA42 cf2 flRX2_26 rfl dX2_otherwise_1 rfl ?_
  refine r_bipush (pc := 4) dX2_otherwise_4 kb_17 ?_
  replace h := lt_e h; obtain ⟨w1, ew1, h⟩ := h
  refine r_cVv (pc := 6) wyX9_need oA4 rfl mlRX2_63 iyX9_need syX9_need ⟨(Nat.le_of_ble_eq_true rfl), (Nat.le_of_ble_eq_true rfl)⟩ rfl rfl (Nat.le_of_ble_eq_true rfl) dX2_otherwise_6 (mX9_need ew1 (pV.mk ?_))
  refine r_aload_n (pc := 9) dX2_otherwise_9 rfl 0 rfl ?_
  refine r_get (pc := 10) (j := 3) (v := .ref 40) oA42 cf2 flRX2_36 rfl dX2_otherwise_10 rfl ?_
  refine r_bipush (pc := 13) dX2_otherwise_13 kb_33 ?_
  replace h := lt2_e h; obtain ⟨x2, w3, ew3, h⟩ := h
  refine r_cVi (pc := 15) wyX0_put__ oA40 rfl mlRX2_69 iyX0_put__ syX0_put__ ⟨(Nat.le_of_ble_eq_true rfl), (Nat.le_of_ble_eq_true rfl)⟩ rfl rfl (Nat.le_of_ble_eq_true rfl) dX2_otherwise_15 (mX0_put__ ew3 (pI.mk ?_))
  refine r_istore_n (pc := 18) (loc' := [(2, .int x2), (0, .ref 42), (1, .int a1)]) dX2_otherwise_18 rfl (Nat.le_of_ble_eq_true rfl) rfl ?_
  refine r_aload_n (pc := 19) dX2_otherwise_19 rfl 1 rfl ?_
  refine r_get (pc := 20) (j := 3) (v := .ref 40) oA42 cf2 flRX2_36 rfl dX2_otherwise_20 rfl ?_
  refine r_iload_n (pc := 23) dX2_otherwise_23 rfl 2 rfl ?_
  replace h := lt2_e h; obtain ⟨x4, w5, ew5, h⟩ := h
  refine r_cVi (pc := 24) wyX0_patch oA40 rfl mlRX2_72 iyX0_patch syX0_patch ⟨(Nat.le_of_ble_eq_true rfl), (Nat.le_of_ble_eq_true rfl)⟩ rfl rfl (Nat.le_of_ble_eq_true rfl) dX2_otherwise_24 (mX0_patch ew5 (pI.mk ?_))
  refine r_pop (pc := 27) dX2_otherwise_27 rfl ?_
  refine r_iload_n (pc := 28) dX2_otherwise_28 rfl 0 rfl ?_
  exact rS_i (pc := 29) rfl dX2_otherwise_29 h hN
theorem mX2_otherwise {q : Gq} {l : Launch} {N : Option Value → Wd → Prop} {X : String → Wd → Prop} {a1 : Int32} {w : Wd} {x : Int32} {u : Wd} (h : fX2_otherwise a1 w = (x, u)) (hN : N (some (.int x)) u) : Ct (GA q) l 5 yX2_otherwise cX2_otherwise 3 ((some .int)) [.ref 42, .int a1] w N X := Ct.of (by decide) (Nat.le_of_ble_eq_true rfl) (pX2_otherwise hN h)
/-! AlgolMill$Expressions.before (II)I: O, 4 -/
theorem dX2_before_0 : decode cX2_before 0 = .ok (.iload_n 2, 1) := by decide +kernel
theorem dX2_before_1 : decode cX2_before 1 = .ok (.istore_n 3, 1) := by decide +kernel
theorem dX2_before_2 : decode cX2_before 2 = .ok (.iconst 0, 1) := by decide +kernel
theorem dX2_before_3 : decode cX2_before 3 = .ok (.istore 4, 2) := by decide +kernel
theorem dX2_before_5 : decode cX2_before 5 = .ok (.iload 4, 2) := by decide +kernel
theorem dX2_before_7 : decode cX2_before 7 = .ok (.bipush 40, 2) := by decide +kernel
theorem dX2_before_9 : decode cX2_before 9 = .ok (.if_icmp .gt 60, 3) := by decide +kernel
theorem dX2_before_12 : decode cX2_before 12 = .ok (.aload_n 0, 1) := by decide +kernel
theorem dX2_before_13 : decode cX2_before 13 = .ok (.getfield 26, 3) := by decide +kernel
theorem dX2_before_16 : decode cX2_before 16 = .ok (.invokevirtual 75, 3) := by decide +kernel
theorem dX2_before_19 : decode cX2_before 19 = .ok (.bipush 29, 2) := by decide +kernel
theorem dX2_before_21 : decode cX2_before 21 = .ok (.if_icmp .ne 48, 3) := by decide +kernel
theorem dX2_before_24 : decode cX2_before 24 = .ok (.aload_n 0, 1) := by decide +kernel
theorem dX2_before_25 : decode cX2_before 25 = .ok (.getfield 10, 3) := by decide +kernel
theorem dX2_before_28 : decode cX2_before 28 = .ok (.iload_n 1, 1) := by decide +kernel
theorem dX2_before_29 : decode cX2_before 29 = .ok (.invokevirtual 117, 3) := by decide +kernel
theorem dX2_before_32 : decode cX2_before 32 = .ok (.iconst 5, 1) := by decide +kernel
theorem dX2_before_33 : decode cX2_before 33 = .ok (.if_icmp .le 5, 3) := by decide +kernel
theorem dX2_before_36 : decode cX2_before 36 = .ok (.iload_n 3, 1) := by decide +kernel
theorem dX2_before_37 : decode cX2_before 37 = .ok (.ireturn, 1) := by decide +kernel
theorem dX2_before_38 : decode cX2_before 38 = .ok (.aload_n 0, 1) := by decide +kernel
theorem dX2_before_39 : decode cX2_before 39 = .ok (.getfield 10, 3) := by decide +kernel
theorem dX2_before_42 : decode cX2_before 42 = .ok (.bipush 29, 2) := by decide +kernel
theorem dX2_before_44 : decode cX2_before 44 = .ok (.aload_n 0, 1) := by decide +kernel
theorem dX2_before_45 : decode cX2_before 45 = .ok (.getfield 26, 3) := by decide +kernel
theorem dX2_before_48 : decode cX2_before 48 = .ok (.invokevirtual 40, 3) := by decide +kernel
theorem dX2_before_51 : decode cX2_before 51 = .ok (.invokevirtual 120, 3) := by decide +kernel
theorem dX2_before_54 : decode cX2_before 54 = .ok (.aload_n 0, 1) := by decide +kernel
theorem dX2_before_55 : decode cX2_before 55 = .ok (.getfield 26, 3) := by decide +kernel
theorem dX2_before_58 : decode cX2_before 58 = .ok (.iload_n 3, 1) := by decide +kernel
theorem dX2_before_59 : decode cX2_before 59 = .ok (.invokevirtual 54, 3) := by decide +kernel
theorem dX2_before_62 : decode cX2_before 62 = .ok (.istore_n 3, 1) := by decide +kernel
theorem dX2_before_63 : decode cX2_before 63 = .ok (.iinc 4 1, 3) := by decide +kernel
theorem dX2_before_66 : decode cX2_before 66 = .ok (.goto (-61), 3) := by decide +kernel
theorem dX2_before_69 : decode cX2_before 69 = .ok (.aload_n 0, 1) := by decide +kernel
theorem dX2_before_70 : decode cX2_before 70 = .ok (.getfield 26, 3) := by decide +kernel
theorem dX2_before_73 : decode cX2_before 73 = .ok (.invokevirtual 75, 3) := by decide +kernel
theorem dX2_before_76 : decode cX2_before 76 = .ok (.bipush 33, 2) := by decide +kernel
theorem dX2_before_78 : decode cX2_before 78 = .ok (.if_icmp .eq 15, 3) := by decide +kernel
theorem dX2_before_81 : decode cX2_before 81 = .ok (.aload_n 0, 1) := by decide +kernel
theorem dX2_before_82 : decode cX2_before 82 = .ok (.getfield 26, 3) := by decide +kernel
theorem dX2_before_85 : decode cX2_before 85 = .ok (.invokevirtual 75, 3) := by decide +kernel
theorem dX2_before_88 : decode cX2_before 88 = .ok (.bipush 34, 2) := by decide +kernel
theorem dX2_before_90 : decode cX2_before 90 = .ok (.if_icmp .ne 7, 3) := by decide +kernel
theorem dX2_before_93 : decode cX2_before 93 = .ok (.iconst 1, 1) := by decide +kernel
theorem dX2_before_94 : decode cX2_before 94 = .ok (.goto 4, 3) := by decide +kernel
theorem dX2_before_97 : decode cX2_before 97 = .ok (.iconst 0, 1) := by decide +kernel
theorem dX2_before_98 : decode cX2_before 98 = .ok (.istore 4, 2) := by decide +kernel
theorem dX2_before_100 : decode cX2_before 100 = .ok (.iload 4, 2) := by decide +kernel
theorem dX2_before_102 : decode cX2_before 102 = .ok (.ifCond .eq 53, 3) := by decide +kernel
theorem dX2_before_105 : decode cX2_before 105 = .ok (.aload_n 0, 1) := by decide +kernel
theorem dX2_before_106 : decode cX2_before 106 = .ok (.getfield 10, 3) := by decide +kernel
theorem dX2_before_109 : decode cX2_before 109 = .ok (.iload_n 1, 1) := by decide +kernel
theorem dX2_before_110 : decode cX2_before 110 = .ok (.invokevirtual 117, 3) := by decide +kernel
theorem dX2_before_113 : decode cX2_before 113 = .ok (.bipush 6, 2) := by decide +kernel
theorem dX2_before_115 : decode cX2_before 115 = .ok (.if_icmp .gt 40, 3) := by decide +kernel
theorem dX2_before_118 : decode cX2_before 118 = .ok (.aload_n 0, 1) := by decide +kernel
theorem dX2_before_119 : decode cX2_before 119 = .ok (.getfield 10, 3) := by decide +kernel
theorem dX2_before_122 : decode cX2_before 122 = .ok (.aload_n 0, 1) := by decide +kernel
theorem dX2_before_123 : decode cX2_before 123 = .ok (.getfield 26, 3) := by decide +kernel
theorem dX2_before_126 : decode cX2_before 126 = .ok (.invokevirtual 75, 3) := by decide +kernel
theorem dX2_before_129 : decode cX2_before 129 = .ok (.ineg, 1) := by decide +kernel
theorem dX2_before_130 : decode cX2_before 130 = .ok (.aload_n 0, 1) := by decide +kernel
theorem dX2_before_131 : decode cX2_before 131 = .ok (.getfield 26, 3) := by decide +kernel
theorem dX2_before_134 : decode cX2_before 134 = .ok (.invokevirtual 40, 3) := by decide +kernel
theorem dX2_before_137 : decode cX2_before 137 = .ok (.invokevirtual 120, 3) := by decide +kernel
theorem dX2_before_140 : decode cX2_before 140 = .ok (.aload_n 0, 1) := by decide +kernel
theorem dX2_before_141 : decode cX2_before 141 = .ok (.getfield 26, 3) := by decide +kernel
theorem dX2_before_144 : decode cX2_before 144 = .ok (.aload_n 0, 1) := by decide +kernel
theorem dX2_before_145 : decode cX2_before 145 = .ok (.getfield 26, 3) := by decide +kernel
theorem dX2_before_148 : decode cX2_before 148 = .ok (.invokevirtual 75, 3) := by decide +kernel
theorem dX2_before_151 : decode cX2_before 151 = .ok (.invokevirtual 123, 3) := by decide +kernel
theorem dX2_before_154 : decode cX2_before 154 = .ok (.pop, 1) := by decide +kernel
theorem dX2_before_155 : decode cX2_before 155 = .ok (.iload_n 3, 1) := by decide +kernel
theorem dX2_before_156 : decode cX2_before 156 = .ok (.ireturn, 1) := by decide +kernel
def fX2_before_98 (s0 : Bool) (a1 : Int32) (a3 : Int32) (w : Wd) : Option (Int32 × Wd) :=
  if s0 = true then (lt (fX10_strongest a1 w) fun x2 => if 6 < x2 then (some (a3, w)) else (lt (fX9_kind w) fun x4 => lt (fX9_at w) fun x5 => lt (fX10_hold (-x4) x5 w) fun w6 => lt (fX9_kind w6) fun x7 => lt2 (fX9_take x7 w6) fun x8 w9 => some (a3, w9))) else (some (a3, w))
theorem pX2_before_98 {q : Gq} {l : Launch} {N : Option Value → Wd → Prop} {X : String → Wd → Prop} {w : Wd} {R : Int32 × Wd} (hN : N (some (.int R.1)) R.2) {s0 : Bool} {a1 : Int32} {a3 : Int32} (h : fX2_before_98 s0 a1 a3 w = some R) : RT (GA q) l 4 yX2_before cX2_before 5 ((some .int)) N X 98 [.int (b2i s0)] [(0, .ref 42), (1, .int a1), (3, .int a3)] w := by
  unfold fX2_before_98 at h
  refine r_istore (pc := 98) (loc' := [(4, .int (b2i s0)), (0, .ref 42), (1, .int a1), (3, .int a3)]) dX2_before_98 (Nat.le_of_ble_eq_true rfl) rfl ?_
  refine r_iload (pc := 100) dX2_before_100 0 rfl ?_
  refine r_z_eq (pc := 102) dX2_before_102 rfl (fun hc1 => ?_) (fun hc1 => ?_)
  · replace h := if_f hc1 h
    refine r_iload_n (pc := 155) dX2_before_155 rfl 3 rfl ?_
    exact rO_i (pc := 156) rfl dX2_before_156 h hN
  replace h := if_t hc1 h
  refine r_aload_n (pc := 105) dX2_before_105 rfl 1 rfl ?_
  refine r_get (pc := 106) (j := 4) (v := .ref 43) oA42 cf2 flRX2_10 rfl dX2_before_106 rfl ?_
  refine r_iload_n (pc := 109) dX2_before_109 rfl 2 rfl ?_
  replace h := lt_e h; obtain ⟨x2, ex2, h⟩ := h
  refine r_cVi (pc := 110) wyX10_strongest oA43 rfl mlRX2_117 iyX10_strongest syX10_strongest ⟨(Nat.le_of_ble_eq_true rfl), (Nat.le_of_ble_eq_true rfl)⟩ rfl rfl (Nat.le_of_ble_eq_true rfl) dX2_before_110 (mX10_strongest ex2 (pI.mk ?_))
  refine r_bipush (pc := 113) dX2_before_113 kb_6 ?_
  refine r_icmp_gt (pc := 115) dX2_before_115 rfl (fun hc3 => ?_) (fun hc3 => ?_)
  · replace h := if_t hc3 h
    refine r_iload_n (pc := 155) dX2_before_155 rfl 3 rfl ?_
    exact rO_i (pc := 156) rfl dX2_before_156 h hN
  replace h := if_f hc3 h
  refine r_aload_n (pc := 118) dX2_before_118 rfl 1 rfl ?_
  refine r_get (pc := 119) (j := 4) (v := .ref 43) oA42 cf2 flRX2_10 rfl dX2_before_119 rfl ?_
  refine r_aload_n (pc := 122) dX2_before_122 rfl 1 rfl ?_
  refine r_get (pc := 123) (j := 1) (v := .ref 4) oA42 cf2 flRX2_26 rfl dX2_before_123 rfl ?_
  replace h := lt_e h; obtain ⟨x4, ex4, h⟩ := h
  refine r_cVi (pc := 126) wyX9_kind oA4 rfl mlRX2_75 iyX9_kind syX9_kind ⟨(Nat.le_of_ble_eq_true rfl), (Nat.le_of_ble_eq_true rfl)⟩ rfl rfl (Nat.le_of_ble_eq_true rfl) dX2_before_126 (mX9_kind ex4 (pI.mk ?_))
  refine r_ineg (pc := 129) dX2_before_129 ?_
  refine r_aload_n (pc := 130) dX2_before_130 rfl 1 rfl ?_
  refine r_get (pc := 131) (j := 1) (v := .ref 4) oA42 cf2 flRX2_26 rfl dX2_before_131 rfl ?_
  replace h := lt_e h; obtain ⟨x5, ex5, h⟩ := h
  refine r_cVi (pc := 134) wyX9_at oA4 rfl mlRX2_40 iyX9_at syX9_at ⟨(Nat.le_of_ble_eq_true rfl), (Nat.le_of_ble_eq_true rfl)⟩ rfl rfl (Nat.le_of_ble_eq_true rfl) dX2_before_134 (mX9_at ex5 (pI.mk ?_))
  replace h := lt_e h; obtain ⟨w6, ew6, h⟩ := h
  refine r_cVv (pc := 137) wyX10_hold oA43 rfl mlRX2_120 iyX10_hold syX10_hold ⟨(Nat.le_of_ble_eq_true rfl), (Nat.le_of_ble_eq_true rfl)⟩ rfl rfl (Nat.le_of_ble_eq_true rfl) dX2_before_137 (mX10_hold ew6 (pV.mk ?_))
  refine r_aload_n (pc := 140) dX2_before_140 rfl 1 rfl ?_
  refine r_get (pc := 141) (j := 1) (v := .ref 4) oA42 cf2 flRX2_26 rfl dX2_before_141 rfl ?_
  refine r_aload_n (pc := 144) dX2_before_144 rfl 1 rfl ?_
  refine r_get (pc := 145) (j := 1) (v := .ref 4) oA42 cf2 flRX2_26 rfl dX2_before_145 rfl ?_
  replace h := lt_e h; obtain ⟨x7, ex7, h⟩ := h
  refine r_cVi (pc := 148) wyX9_kind oA4 rfl mlRX2_75 iyX9_kind syX9_kind ⟨(Nat.le_of_ble_eq_true rfl), (Nat.le_of_ble_eq_true rfl)⟩ rfl rfl (Nat.le_of_ble_eq_true rfl) dX2_before_148 (mX9_kind ex7 (pI.mk ?_))
  replace h := lt2_e h; obtain ⟨x8, w9, ew9, h⟩ := h
  refine r_cVi (pc := 151) wyX9_take oA4 rfl mlRX2_123 iyX9_take syX9_take ⟨(Nat.le_of_ble_eq_true rfl), (Nat.le_of_ble_eq_true rfl)⟩ rfl rfl (Nat.le_of_ble_eq_true rfl) dX2_before_151 (mX9_take ew9 (pI.mk ?_))
  refine r_pop (pc := 154) dX2_before_154 rfl ?_
  refine r_iload_n (pc := 155) dX2_before_155 rfl 3 rfl ?_
  exact rO_i (pc := 156) rfl dX2_before_156 h hN
def fX2_before_69 (a1 : Int32) (a3 : Int32) (w : Wd) : Option (Int32 × Wd) :=
  lt (fX9_kind w) fun x1 => if x1 = 33 then (fX2_before_98 true a1 a3 w) else (lt (fX9_kind w) fun x3 => if x3 = 34 then (fX2_before_98 true a1 a3 w) else (fX2_before_98 false a1 a3 w))
theorem pX2_before_69 {q : Gq} {l : Launch} {N : Option Value → Wd → Prop} {X : String → Wd → Prop} {w : Wd} {R : Int32 × Wd} (hN : N (some (.int R.1)) R.2) {a1 : Int32} {a3 : Int32} (h : fX2_before_69 a1 a3 w = some R) : RT (GA q) l 4 yX2_before cX2_before 5 ((some .int)) N X 69 [] [(0, .ref 42), (1, .int a1), (3, .int a3)] w := by
  unfold fX2_before_69 at h
  refine r_aload_n (pc := 69) dX2_before_69 rfl 0 rfl ?_
  refine r_get (pc := 70) (j := 1) (v := .ref 4) oA42 cf2 flRX2_26 rfl dX2_before_70 rfl ?_
  replace h := lt_e h; obtain ⟨x1, ex1, h⟩ := h
  refine r_cVi (pc := 73) wyX9_kind oA4 rfl mlRX2_75 iyX9_kind syX9_kind ⟨(Nat.le_of_ble_eq_true rfl), (Nat.le_of_ble_eq_true rfl)⟩ rfl rfl (Nat.le_of_ble_eq_true rfl) dX2_before_73 (mX9_kind ex1 (pI.mk ?_))
  refine r_bipush (pc := 76) dX2_before_76 kb_33 ?_
  refine r_icmp_eq (pc := 78) dX2_before_78 rfl (fun hc2 => ?_) (fun hc2 => ?_)
  · replace h := if_t hc2 h
    refine r_iconst (pc := 93) dX2_before_93 ki_1 ?_
    refine r_goto (pc := 94) dX2_before_94 rfl ?_
    exact pX2_before_98 hN h
  replace h := if_f hc2 h
  refine r_aload_n (pc := 81) dX2_before_81 rfl 0 rfl ?_
  refine r_get (pc := 82) (j := 1) (v := .ref 4) oA42 cf2 flRX2_26 rfl dX2_before_82 rfl ?_
  replace h := lt_e h; obtain ⟨x3, ex3, h⟩ := h
  refine r_cVi (pc := 85) wyX9_kind oA4 rfl mlRX2_75 iyX9_kind syX9_kind ⟨(Nat.le_of_ble_eq_true rfl), (Nat.le_of_ble_eq_true rfl)⟩ rfl rfl (Nat.le_of_ble_eq_true rfl) dX2_before_85 (mX9_kind ex3 (pI.mk ?_))
  refine r_bipush (pc := 88) dX2_before_88 kb_34 ?_
  refine r_icmp_ne (pc := 90) dX2_before_90 rfl (fun hc4 => ?_) (fun hc4 => ?_)
  · replace h := if_f hc4 h
    refine r_iconst (pc := 97) dX2_before_97 ki_0 ?_
    exact pX2_before_98 hN h
  replace h := if_t hc4 h
  refine r_iconst (pc := 93) dX2_before_93 ki_1 ?_
  refine r_goto (pc := 94) dX2_before_94 rfl ?_
  exact pX2_before_98 hN h
def fX2_before_5 (k_5 : Int32 → Int32 → Int32 → Wd → Option (Int32 × Wd)) (a1 : Int32) (a3 : Int32) (a4 : Int32) (w : Wd) : Option (Int32 × Wd) :=
  if 40 < a4 then (fX2_before_69 a1 a3 w) else (lt (fX9_kind w) fun x2 => if x2 = 29 then (lt (fX10_strongest a1 w) fun x4 => if x4 ≤ 5 then (lt (fX9_at w) fun x6 => lt (fX10_hold 29 x6 w) fun w7 => lt2 (fX9_open a3 w7) fun x8 w9 => lt (a4 + 1) fun x10 => k_5 a1 x8 x10 w9) else (some (a3, w))) else (fX2_before_69 a1 a3 w))
theorem pX2_before_5 {q : Gq} {l : Launch} {N : Option Value → Wd → Prop} {X : String → Wd → Prop} {w : Wd} {R : Int32 × Wd} (hN : N (some (.int R.1)) R.2) {k_5 : Int32 → Int32 → Int32 → Wd → Option (Int32 × Wd)} (hk_5 : ∀ (a1 : Int32) (a3 : Int32) (a4 : Int32) (w : Wd), k_5 a1 a3 a4 w = some R → RT (GA q) l 4 yX2_before cX2_before 5 ((some .int)) N X 5 [] [(0, .ref 42), (1, .int a1), (3, .int a3), (4, .int a4)] w) {a1 : Int32} {a3 : Int32} {a4 : Int32} (h : fX2_before_5 k_5 a1 a3 a4 w = some R) : RT (GA q) l 4 yX2_before cX2_before 5 ((some .int)) N X 5 [] [(0, .ref 42), (1, .int a1), (3, .int a3), (4, .int a4)] w := by
  unfold fX2_before_5 at h
  refine r_iload (pc := 5) dX2_before_5 3 rfl ?_
  refine r_bipush (pc := 7) dX2_before_7 kb_40 ?_
  refine r_icmp_gt (pc := 9) dX2_before_9 rfl (fun hc1 => ?_) (fun hc1 => ?_)
  · replace h := if_t hc1 h
    refine r_drop (loc' := [(0, .ref 42), (1, .int a1), (3, .int a3)]) [0, 1, 2] rfl ?_
    exact pX2_before_69 hN h
  replace h := if_f hc1 h
  refine r_aload_n (pc := 12) dX2_before_12 rfl 0 rfl ?_
  refine r_get (pc := 13) (j := 1) (v := .ref 4) oA42 cf2 flRX2_26 rfl dX2_before_13 rfl ?_
  replace h := lt_e h; obtain ⟨x2, ex2, h⟩ := h
  refine r_cVi (pc := 16) wyX9_kind oA4 rfl mlRX2_75 iyX9_kind syX9_kind ⟨(Nat.le_of_ble_eq_true rfl), (Nat.le_of_ble_eq_true rfl)⟩ rfl rfl (Nat.le_of_ble_eq_true rfl) dX2_before_16 (mX9_kind ex2 (pI.mk ?_))
  refine r_bipush (pc := 19) dX2_before_19 kb_29 ?_
  refine r_icmp_ne (pc := 21) dX2_before_21 rfl (fun hc3 => ?_) (fun hc3 => ?_)
  · replace h := if_f hc3 h
    refine r_drop (loc' := [(0, .ref 42), (1, .int a1), (3, .int a3)]) [0, 1, 2] rfl ?_
    exact pX2_before_69 hN h
  replace h := if_t hc3 h
  refine r_aload_n (pc := 24) dX2_before_24 rfl 0 rfl ?_
  refine r_get (pc := 25) (j := 4) (v := .ref 43) oA42 cf2 flRX2_10 rfl dX2_before_25 rfl ?_
  refine r_iload_n (pc := 28) dX2_before_28 rfl 1 rfl ?_
  replace h := lt_e h; obtain ⟨x4, ex4, h⟩ := h
  refine r_cVi (pc := 29) wyX10_strongest oA43 rfl mlRX2_117 iyX10_strongest syX10_strongest ⟨(Nat.le_of_ble_eq_true rfl), (Nat.le_of_ble_eq_true rfl)⟩ rfl rfl (Nat.le_of_ble_eq_true rfl) dX2_before_29 (mX10_strongest ex4 (pI.mk ?_))
  refine r_iconst (pc := 32) dX2_before_32 ki_5 ?_
  refine r_icmp_le (pc := 33) dX2_before_33 rfl (fun hc5 => ?_) (fun hc5 => ?_)
  · replace h := if_t hc5 h
    refine r_aload_n (pc := 38) dX2_before_38 rfl 0 rfl ?_
    refine r_get (pc := 39) (j := 4) (v := .ref 43) oA42 cf2 flRX2_10 rfl dX2_before_39 rfl ?_
    refine r_bipush (pc := 42) dX2_before_42 kb_29 ?_
    refine r_aload_n (pc := 44) dX2_before_44 rfl 0 rfl ?_
    refine r_get (pc := 45) (j := 1) (v := .ref 4) oA42 cf2 flRX2_26 rfl dX2_before_45 rfl ?_
    replace h := lt_e h; obtain ⟨x6, ex6, h⟩ := h
    refine r_cVi (pc := 48) wyX9_at oA4 rfl mlRX2_40 iyX9_at syX9_at ⟨(Nat.le_of_ble_eq_true rfl), (Nat.le_of_ble_eq_true rfl)⟩ rfl rfl (Nat.le_of_ble_eq_true rfl) dX2_before_48 (mX9_at ex6 (pI.mk ?_))
    replace h := lt_e h; obtain ⟨w7, ew7, h⟩ := h
    refine r_cVv (pc := 51) wyX10_hold oA43 rfl mlRX2_120 iyX10_hold syX10_hold ⟨(Nat.le_of_ble_eq_true rfl), (Nat.le_of_ble_eq_true rfl)⟩ rfl rfl (Nat.le_of_ble_eq_true rfl) dX2_before_51 (mX10_hold ew7 (pV.mk ?_))
    refine r_aload_n (pc := 54) dX2_before_54 rfl 0 rfl ?_
    refine r_get (pc := 55) (j := 1) (v := .ref 4) oA42 cf2 flRX2_26 rfl dX2_before_55 rfl ?_
    refine r_iload_n (pc := 58) dX2_before_58 rfl 2 rfl ?_
    replace h := lt2_e h; obtain ⟨x8, w9, ew9, h⟩ := h
    refine r_cVi (pc := 59) wyX9_open oA4 rfl mlRX2_54 iyX9_open syX9_open ⟨(Nat.le_of_ble_eq_true rfl), (Nat.le_of_ble_eq_true rfl)⟩ rfl rfl (Nat.le_of_ble_eq_true rfl) dX2_before_59 (mX9_open ew9 (pI.mk ?_))
    refine r_istore_n (pc := 62) (loc' := [(3, .int x8), (0, .ref 42), (1, .int a1), (4, .int a4)]) dX2_before_62 rfl (Nat.le_of_ble_eq_true rfl) rfl ?_
    replace h := lt_e h; obtain ⟨x10, ex10, h⟩ := h
    refine r_inc (pc := 63) (loc' := [(4, .int x10), (3, .int x8), (0, .ref 42), (1, .int a1)]) dX2_before_63 ki_1 ex10 3 rfl (Nat.le_of_ble_eq_true rfl) rfl ?_
    refine r_goto (pc := 66) dX2_before_66 rfl ?_
    refine r_drop (loc' := [(0, .ref 42), (1, .int a1), (3, .int x8), (4, .int x10)]) [2, 3, 1, 0] rfl ?_
    exact hk_5 a1 x8 x10 w9 h
  replace h := if_f hc5 h
  refine r_iload_n (pc := 36) dX2_before_36 rfl 2 rfl ?_
  exact rO_i (pc := 37) rfl dX2_before_37 h hN
def oX2_before_5 : Nat → Int32 → Int32 → Int32 → Wd → Option (Int32 × Wd)
  | 0 => fun _ _ _ _ => none
  | n + 1 => fX2_before_5 (oX2_before_5 n)
theorem qX2_before_5 {q : Gq} {l : Launch} {N : Option Value → Wd → Prop} {X : String → Wd → Prop} {R : Int32 × Wd} (hN : N (some (.int R.1)) R.2) : ∀ (n : Nat) (a1 : Int32) (a3 : Int32) (a4 : Int32) (w : Wd), oX2_before_5 n a1 a3 a4 w = some R → RT (GA q) l 4 yX2_before cX2_before 5 ((some .int)) N X 5 [] [(0, .ref 42), (1, .int a1), (3, .int a3), (4, .int a4)] w := by
  intro n
  induction n with
  | zero =>
    intro a1 a3 a4 w h
    exact absurd h (fun q => nomatch q)
  | succ n ih =>
    intro a1 a3 a4 w h
    exact pX2_before_5 hN ih h
def fX2_before (a1 : Int32) (a2 : Int32) (w : Wd) : Option (Int32 × Wd) :=
  oX2_before_5 FU a1 a2 0 w
theorem pX2_before {q : Gq} {l : Launch} {N : Option Value → Wd → Prop} {X : String → Wd → Prop} {w : Wd} {R : Int32 × Wd} (hN : N (some (.int R.1)) R.2) {a1 : Int32} {a2 : Int32} (h : fX2_before a1 a2 w = some R) : RT (GA q) l 4 yX2_before cX2_before 5 ((some .int)) N X 0 [] [(0, .ref 42), (1, .int a1), (2, .int a2)] w := by
  unfold fX2_before at h
  refine r_iload_n (pc := 0) dX2_before_0 rfl 2 rfl ?_
  refine r_istore_n (pc := 1) (loc' := [(3, .int a2), (0, .ref 42), (1, .int a1), (2, .int a2)]) dX2_before_1 rfl (Nat.le_of_ble_eq_true rfl) rfl ?_
  refine r_iconst (pc := 2) dX2_before_2 ki_0 ?_
  refine r_istore (pc := 3) (loc' := [(4, .int 0), (3, .int a2), (0, .ref 42), (1, .int a1), (2, .int a2)]) dX2_before_3 (Nat.le_of_ble_eq_true rfl) rfl ?_
  refine r_drop (loc' := [(0, .ref 42), (1, .int a1), (3, .int a2), (4, .int 0)]) [2, 3, 1, 0] rfl ?_
  exact qX2_before_5 hN FU a1 a2 0 w h
theorem mX2_before {q : Gq} {l : Launch} {N : Option Value → Wd → Prop} {X : String → Wd → Prop} {a1 : Int32} {a2 : Int32} {w : Wd} {x : Int32} {u : Wd} (h : fX2_before a1 a2 w = some (x, u)) (hN : N (some (.int x)) u) : Ct (GA q) l 4 yX2_before cX2_before 5 ((some .int)) [.ref 42, .int a1, .int a2] w N X := Ct.of (by decide) (Nat.le_of_ble_eq_true rfl) (pX2_before hN h)
/-! AlgolMill$Expressions.reduceOne (II)V: S, 5 -/
theorem dX2_reduceOne_0 : decode cX2_reduceOne 0 = .ok (.iload_n 1, 1) := by decide +kernel
theorem dX2_reduceOne_1 : decode cX2_reduceOne 1 = .ok (.bipush 29, 2) := by decide +kernel
theorem dX2_reduceOne_3 : decode cX2_reduceOne 3 = .ok (.if_icmp .ne 7, 3) := by decide +kernel
theorem dX2_reduceOne_6 : decode cX2_reduceOne 6 = .ok (.iconst 2, 1) := by decide +kernel
theorem dX2_reduceOne_7 : decode cX2_reduceOne 7 = .ok (.goto 4, 3) := by decide +kernel
theorem dX2_reduceOne_10 : decode cX2_reduceOne 10 = .ok (.iconst 1, 1) := by decide +kernel
theorem dX2_reduceOne_11 : decode cX2_reduceOne 11 = .ok (.istore_n 3, 1) := by decide +kernel
theorem dX2_reduceOne_12 : decode cX2_reduceOne 12 = .ok (.aload_n 0, 1) := by decide +kernel
theorem dX2_reduceOne_13 : decode cX2_reduceOne 13 = .ok (.getfield 16, 3) := by decide +kernel
theorem dX2_reduceOne_16 : decode cX2_reduceOne 16 = .ok (.iload_n 3, 1) := by decide +kernel
theorem dX2_reduceOne_17 : decode cX2_reduceOne 17 = .ok (.aload_n 0, 1) := by decide +kernel
theorem dX2_reduceOne_18 : decode cX2_reduceOne 18 = .ok (.getfield 10, 3) := by decide +kernel
theorem dX2_reduceOne_21 : decode cX2_reduceOne 21 = .ok (.iconst 0, 1) := by decide +kernel
theorem dX2_reduceOne_22 : decode cX2_reduceOne 22 = .ok (.invokevirtual 147, 3) := by decide +kernel
theorem dX2_reduceOne_25 : decode cX2_reduceOne 25 = .ok (.aload_n 0, 1) := by decide +kernel
theorem dX2_reduceOne_26 : decode cX2_reduceOne 26 = .ok (.getfield 10, 3) := by decide +kernel
theorem dX2_reduceOne_29 : decode cX2_reduceOne 29 = .ok (.iconst 0, 1) := by decide +kernel
theorem dX2_reduceOne_30 : decode cX2_reduceOne 30 = .ok (.invokevirtual 150, 3) := by decide +kernel
theorem dX2_reduceOne_33 : decode cX2_reduceOne 33 = .ok (.invokevirtual 50, 3) := by decide +kernel
theorem dX2_reduceOne_36 : decode cX2_reduceOne 36 = .ok (.iload_n 1, 1) := by decide +kernel
theorem dX2_reduceOne_37 : decode cX2_reduceOne 37 = .ok (.bipush 29, 2) := by decide +kernel
theorem dX2_reduceOne_39 : decode cX2_reduceOne 39 = .ok (.if_icmp .ne 16, 3) := by decide +kernel
theorem dX2_reduceOne_42 : decode cX2_reduceOne 42 = .ok (.aload_n 0, 1) := by decide +kernel
theorem dX2_reduceOne_43 : decode cX2_reduceOne 43 = .ok (.getfield 36, 3) := by decide +kernel
theorem dX2_reduceOne_46 : decode cX2_reduceOne 46 = .ok (.bipush 17, 2) := by decide +kernel
theorem dX2_reduceOne_48 : decode cX2_reduceOne 48 = .ok (.invokevirtual 69, 3) := by decide +kernel
theorem dX2_reduceOne_51 : decode cX2_reduceOne 51 = .ok (.pop, 1) := by decide +kernel
theorem dX2_reduceOne_52 : decode cX2_reduceOne 52 = .ok (.goto 19, 3) := by decide +kernel
theorem dX2_reduceOne_55 : decode cX2_reduceOne 55 = .ok (.iload_n 1, 1) := by decide +kernel
theorem dX2_reduceOne_56 : decode cX2_reduceOne 56 = .ok (.bipush (-34), 2) := by decide +kernel
theorem dX2_reduceOne_58 : decode cX2_reduceOne 58 = .ok (.if_icmp .ne 13, 3) := by decide +kernel
theorem dX2_reduceOne_61 : decode cX2_reduceOne 61 = .ok (.aload_n 0, 1) := by decide +kernel
theorem dX2_reduceOne_62 : decode cX2_reduceOne 62 = .ok (.getfield 36, 3) := by decide +kernel
theorem dX2_reduceOne_65 : decode cX2_reduceOne 65 = .ok (.bipush 16, 2) := by decide +kernel
theorem dX2_reduceOne_67 : decode cX2_reduceOne 67 = .ok (.invokevirtual 69, 3) := by decide +kernel
theorem dX2_reduceOne_70 : decode cX2_reduceOne 70 = .ok (.pop, 1) := by decide +kernel
theorem dX2_reduceOne_71 : decode cX2_reduceOne 71 = .ok (.aload_n 0, 1) := by decide +kernel
theorem dX2_reduceOne_72 : decode cX2_reduceOne 72 = .ok (.getfield 10, 3) := by decide +kernel
theorem dX2_reduceOne_75 : decode cX2_reduceOne 75 = .ok (.invokevirtual 114, 3) := by decide +kernel
theorem dX2_reduceOne_78 : decode cX2_reduceOne 78 = .ok (.pop, 1) := by decide +kernel
theorem dX2_reduceOne_79 : decode cX2_reduceOne 79 = .ok (.aload_n 0, 1) := by decide +kernel
theorem dX2_reduceOne_80 : decode cX2_reduceOne 80 = .ok (.getfield 10, 3) := by decide +kernel
theorem dX2_reduceOne_83 : decode cX2_reduceOne 83 = .ok (.iload_n 3, 1) := by decide +kernel
theorem dX2_reduceOne_84 : decode cX2_reduceOne 84 = .ok (.iload_n 2, 1) := by decide +kernel
theorem dX2_reduceOne_85 : decode cX2_reduceOne 85 = .ok (.invokevirtual 153, 3) := by decide +kernel
theorem dX2_reduceOne_88 : decode cX2_reduceOne 88 = .ok (.return_, 1) := by decide +kernel
def fX2_reduceOne_71 (a2 : Int32) (a3 : Int32) (w : Wd) : Wd :=
  lt2 (fX10_pop w) fun x1 w2 => lt (fX10_push a3 a2 w2) fun w3 => w3
theorem pX2_reduceOne_71 {q : Gq} {l : Launch} {N : Option Value → Wd → Prop} {X : String → Wd → Prop} {w : Wd} {R : Wd} (hN : N none R) {a2 : Int32} {a3 : Int32} (h : fX2_reduceOne_71 a2 a3 w = R) : RT (GA q) l 5 yX2_reduceOne cX2_reduceOne 4 (none) N X 71 [] [(0, .ref 42), (2, .int a2), (3, .int a3)] w := by
  unfold fX2_reduceOne_71 at h
  refine r_aload_n (pc := 71) dX2_reduceOne_71 rfl 0 rfl ?_
  refine r_get (pc := 72) (j := 4) (v := .ref 43) oA42 cf2 flRX2_10 rfl dX2_reduceOne_72 rfl ?_
  replace h := lt2_e h; obtain ⟨x1, w2, ew2, h⟩ := h
  refine r_cVi (pc := 75) wyX10_pop oA43 rfl mlRX2_114 iyX10_pop syX10_pop ⟨(Nat.le_of_ble_eq_true rfl), (Nat.le_of_ble_eq_true rfl)⟩ rfl rfl (Nat.le_of_ble_eq_true rfl) dX2_reduceOne_75 (mX10_pop ew2 (pI.mk ?_))
  refine r_pop (pc := 78) dX2_reduceOne_78 rfl ?_
  refine r_aload_n (pc := 79) dX2_reduceOne_79 rfl 0 rfl ?_
  refine r_get (pc := 80) (j := 4) (v := .ref 43) oA42 cf2 flRX2_10 rfl dX2_reduceOne_80 rfl ?_
  refine r_iload_n (pc := 83) dX2_reduceOne_83 rfl 2 rfl ?_
  refine r_iload_n (pc := 84) dX2_reduceOne_84 rfl 1 rfl ?_
  replace h := lt_e h; obtain ⟨w3, ew3, h⟩ := h
  refine r_cVv (pc := 85) wyX10_push oA43 rfl mlRX2_153 iyX10_push syX10_push ⟨(Nat.le_of_ble_eq_true rfl), (Nat.le_of_ble_eq_true rfl)⟩ rfl rfl (Nat.le_of_ble_eq_true rfl) dX2_reduceOne_85 (mX10_push ew3 (pV.mk ?_))
  exact rS_v (pc := 88) rfl dX2_reduceOne_88 h hN
def fX2_reduceOne_11 (s0 : Int32) (a1 : Int32) (a2 : Int32) (w : Wd) : Wd :=
  lt (fX10_type 0 w) fun x1 => lt (fX10_start 0 w) fun x2 => lt (fX1_check s0 x1 x2 w) fun w3 => if a1 = 29 then (lt2 (fX0_put__ 17 w3) fun x5 w6 => fX2_reduceOne_71 a2 s0 w6) else (if a1 = (-34) then (lt2 (fX0_put__ 16 w3) fun x8 w9 => fX2_reduceOne_71 a2 s0 w9) else (fX2_reduceOne_71 a2 s0 w3))
theorem pX2_reduceOne_11 {q : Gq} {l : Launch} {N : Option Value → Wd → Prop} {X : String → Wd → Prop} {w : Wd} {R : Wd} (hN : N none R) {s0 : Int32} {a1 : Int32} {a2 : Int32} (h : fX2_reduceOne_11 s0 a1 a2 w = R) : RT (GA q) l 5 yX2_reduceOne cX2_reduceOne 4 (none) N X 11 [.int s0] [(0, .ref 42), (1, .int a1), (2, .int a2)] w := by
  unfold fX2_reduceOne_11 at h
  refine r_istore_n (pc := 11) (loc' := [(3, .int s0), (0, .ref 42), (1, .int a1), (2, .int a2)]) dX2_reduceOne_11 rfl (Nat.le_of_ble_eq_true rfl) rfl ?_
  refine r_aload_n (pc := 12) dX2_reduceOne_12 rfl 1 rfl ?_
  refine r_get (pc := 13) (j := 0) (v := .ref 3) oA42 cf2 flRX2_16 rfl dX2_reduceOne_13 rfl ?_
  refine r_iload_n (pc := 16) dX2_reduceOne_16 rfl 0 rfl ?_
  refine r_aload_n (pc := 17) dX2_reduceOne_17 rfl 1 rfl ?_
  refine r_get (pc := 18) (j := 4) (v := .ref 43) oA42 cf2 flRX2_10 rfl dX2_reduceOne_18 rfl ?_
  refine r_iconst (pc := 21) dX2_reduceOne_21 ki_0 ?_
  replace h := lt_e h; obtain ⟨x1, ex1, h⟩ := h
  refine r_cVi (pc := 22) wyX10_type oA43 rfl mlRX2_147 iyX10_type syX10_type ⟨(Nat.le_of_ble_eq_true rfl), (Nat.le_of_ble_eq_true rfl)⟩ rfl rfl (Nat.le_of_ble_eq_true rfl) dX2_reduceOne_22 (mX10_type ex1 (pI.mk ?_))
  refine r_aload_n (pc := 25) dX2_reduceOne_25 rfl 1 rfl ?_
  refine r_get (pc := 26) (j := 4) (v := .ref 43) oA42 cf2 flRX2_10 rfl dX2_reduceOne_26 rfl ?_
  refine r_iconst (pc := 29) dX2_reduceOne_29 ki_0 ?_
  replace h := lt_e h; obtain ⟨x2, ex2, h⟩ := h
  refine r_cVi (pc := 30) wyX10_start oA43 rfl mlRX2_150 iyX10_start syX10_start ⟨(Nat.le_of_ble_eq_true rfl), (Nat.le_of_ble_eq_true rfl)⟩ rfl rfl (Nat.le_of_ble_eq_true rfl) dX2_reduceOne_30 (mX10_start ex2 (pI.mk ?_))
  replace h := lt_e h; obtain ⟨w3, ew3, h⟩ := h
  refine r_cVv (pc := 33) wyX1_check oA3 rfl mlRX2_50 iyX1_check syX1_check ⟨(Nat.le_of_ble_eq_true rfl), (Nat.le_of_ble_eq_true rfl)⟩ rfl rfl (Nat.le_of_ble_eq_true rfl) dX2_reduceOne_33 (mX1_check ew3 (pV.mk ?_))
  refine r_iload_n (pc := 36) dX2_reduceOne_36 rfl 2 rfl ?_
  refine r_bipush (pc := 37) dX2_reduceOne_37 kb_29 ?_
  refine r_icmp_ne (pc := 39) dX2_reduceOne_39 rfl (fun hc4 => ?_) (fun hc4 => ?_)
  · replace h := if_f hc4 h
    refine r_iload_n (pc := 55) dX2_reduceOne_55 rfl 2 rfl ?_
    refine r_bipush (pc := 56) dX2_reduceOne_56 kb_m34 ?_
    refine r_icmp_ne (pc := 58) dX2_reduceOne_58 rfl (fun hc7 => ?_) (fun hc7 => ?_)
    · replace h := if_f hc7 h
      refine r_drop (loc' := [(0, .ref 42), (2, .int a2), (3, .int s0)]) [1, 3, 0] rfl ?_
      exact pX2_reduceOne_71 hN h
    replace h := if_t hc7 h
    refine r_aload_n (pc := 61) dX2_reduceOne_61 rfl 1 rfl ?_
    refine r_get (pc := 62) (j := 3) (v := .ref 40) oA42 cf2 flRX2_36 rfl dX2_reduceOne_62 rfl ?_
    refine r_bipush (pc := 65) dX2_reduceOne_65 kb_16 ?_
    replace h := lt2_e h; obtain ⟨x8, w9, ew9, h⟩ := h
    refine r_cVi (pc := 67) wyX0_put__ oA40 rfl mlRX2_69 iyX0_put__ syX0_put__ ⟨(Nat.le_of_ble_eq_true rfl), (Nat.le_of_ble_eq_true rfl)⟩ rfl rfl (Nat.le_of_ble_eq_true rfl) dX2_reduceOne_67 (mX0_put__ ew9 (pI.mk ?_))
    refine r_pop (pc := 70) dX2_reduceOne_70 rfl ?_
    refine r_drop (loc' := [(0, .ref 42), (2, .int a2), (3, .int s0)]) [1, 3, 0] rfl ?_
    exact pX2_reduceOne_71 hN h
  replace h := if_t hc4 h
  refine r_aload_n (pc := 42) dX2_reduceOne_42 rfl 1 rfl ?_
  refine r_get (pc := 43) (j := 3) (v := .ref 40) oA42 cf2 flRX2_36 rfl dX2_reduceOne_43 rfl ?_
  refine r_bipush (pc := 46) dX2_reduceOne_46 kb_17 ?_
  replace h := lt2_e h; obtain ⟨x5, w6, ew6, h⟩ := h
  refine r_cVi (pc := 48) wyX0_put__ oA40 rfl mlRX2_69 iyX0_put__ syX0_put__ ⟨(Nat.le_of_ble_eq_true rfl), (Nat.le_of_ble_eq_true rfl)⟩ rfl rfl (Nat.le_of_ble_eq_true rfl) dX2_reduceOne_48 (mX0_put__ ew6 (pI.mk ?_))
  refine r_pop (pc := 51) dX2_reduceOne_51 rfl ?_
  refine r_goto (pc := 52) dX2_reduceOne_52 rfl ?_
  refine r_drop (loc' := [(0, .ref 42), (2, .int a2), (3, .int s0)]) [1, 3, 0] rfl ?_
  exact pX2_reduceOne_71 hN h
def fX2_reduceOne (a1 : Int32) (a2 : Int32) (w : Wd) : Wd :=
  if a1 = 29 then (fX2_reduceOne_11 2 a1 a2 w) else (fX2_reduceOne_11 1 a1 a2 w)
theorem pX2_reduceOne {q : Gq} {l : Launch} {N : Option Value → Wd → Prop} {X : String → Wd → Prop} {w : Wd} {R : Wd} (hN : N none R) {a1 : Int32} {a2 : Int32} (h : fX2_reduceOne a1 a2 w = R) : RT (GA q) l 5 yX2_reduceOne cX2_reduceOne 4 (none) N X 0 [] [(0, .ref 42), (1, .int a1), (2, .int a2)] w := by
  unfold fX2_reduceOne at h
  refine r_iload_n (pc := 0) dX2_reduceOne_0 rfl 1 rfl ?_
  refine r_bipush (pc := 1) dX2_reduceOne_1 kb_29 ?_
  refine r_icmp_ne (pc := 3) dX2_reduceOne_3 rfl (fun hc1 => ?_) (fun hc1 => ?_)
  · replace h := if_f hc1 h
    refine r_iconst (pc := 10) dX2_reduceOne_10 ki_1 ?_
    exact pX2_reduceOne_11 hN h
  replace h := if_t hc1 h
  refine r_iconst (pc := 6) dX2_reduceOne_6 ki_2 ?_
  refine r_goto (pc := 7) dX2_reduceOne_7 rfl ?_
  exact pX2_reduceOne_11 hN h
theorem mX2_reduceOne {q : Gq} {l : Launch} {N : Option Value → Wd → Prop} {X : String → Wd → Prop} {a1 : Int32} {a2 : Int32} {w : Wd} {u : Wd} (h : fX2_reduceOne a1 a2 w = u) (hN : N none u) : Ct (GA q) l 5 yX2_reduceOne cX2_reduceOne 4 (none) [.ref 42, .int a1, .int a2] w N X := Ct.of (by decide) (Nat.le_of_ble_eq_true rfl) (pX2_reduceOne hN h)
/-! AlgolMill$Expressions.operation (I)I: P, 0 -/
theorem dX2_operation_0 : decode cX2_operation 0 = .ok (.iload_n 0, 1) := by decide +kernel
theorem dX2_operation_1 : decode cX2_operation 1 = .ok (.tableswitch 152 25 49 #[143, 146, 149, 152, 152, 121, 123, 152, 115, 117, 119, 125, 128, 152, 137, 152, 152, 152, 152, 152, 152, 152, 131, 134, 140], 115) := by decide +kernel
theorem dX2_operation_116 : decode cX2_operation 116 = .ok (.iconst 1, 1) := by decide +kernel
theorem dX2_operation_117 : decode cX2_operation 117 = .ok (.ireturn, 1) := by decide +kernel
theorem dX2_operation_118 : decode cX2_operation 118 = .ok (.iconst 2, 1) := by decide +kernel
theorem dX2_operation_119 : decode cX2_operation 119 = .ok (.ireturn, 1) := by decide +kernel
theorem dX2_operation_120 : decode cX2_operation 120 = .ok (.iconst 3, 1) := by decide +kernel
theorem dX2_operation_121 : decode cX2_operation 121 = .ok (.ireturn, 1) := by decide +kernel
theorem dX2_operation_122 : decode cX2_operation 122 = .ok (.iconst 4, 1) := by decide +kernel
theorem dX2_operation_123 : decode cX2_operation 123 = .ok (.ireturn, 1) := by decide +kernel
theorem dX2_operation_124 : decode cX2_operation 124 = .ok (.iconst 5, 1) := by decide +kernel
theorem dX2_operation_125 : decode cX2_operation 125 = .ok (.ireturn, 1) := by decide +kernel
theorem dX2_operation_126 : decode cX2_operation 126 = .ok (.bipush 6, 2) := by decide +kernel
theorem dX2_operation_128 : decode cX2_operation 128 = .ok (.ireturn, 1) := by decide +kernel
theorem dX2_operation_129 : decode cX2_operation 129 = .ok (.bipush 7, 2) := by decide +kernel
theorem dX2_operation_131 : decode cX2_operation 131 = .ok (.ireturn, 1) := by decide +kernel
theorem dX2_operation_132 : decode cX2_operation 132 = .ok (.bipush 8, 2) := by decide +kernel
theorem dX2_operation_134 : decode cX2_operation 134 = .ok (.ireturn, 1) := by decide +kernel
theorem dX2_operation_135 : decode cX2_operation 135 = .ok (.bipush 10, 2) := by decide +kernel
theorem dX2_operation_137 : decode cX2_operation 137 = .ok (.ireturn, 1) := by decide +kernel
theorem dX2_operation_138 : decode cX2_operation 138 = .ok (.bipush 11, 2) := by decide +kernel
theorem dX2_operation_140 : decode cX2_operation 140 = .ok (.ireturn, 1) := by decide +kernel
theorem dX2_operation_141 : decode cX2_operation 141 = .ok (.bipush 12, 2) := by decide +kernel
theorem dX2_operation_143 : decode cX2_operation 143 = .ok (.ireturn, 1) := by decide +kernel
theorem dX2_operation_144 : decode cX2_operation 144 = .ok (.bipush 13, 2) := by decide +kernel
theorem dX2_operation_146 : decode cX2_operation 146 = .ok (.ireturn, 1) := by decide +kernel
theorem dX2_operation_147 : decode cX2_operation 147 = .ok (.bipush 14, 2) := by decide +kernel
theorem dX2_operation_149 : decode cX2_operation 149 = .ok (.ireturn, 1) := by decide +kernel
theorem dX2_operation_150 : decode cX2_operation 150 = .ok (.bipush 15, 2) := by decide +kernel
theorem dX2_operation_152 : decode cX2_operation 152 = .ok (.ireturn, 1) := by decide +kernel
theorem dX2_operation_153 : decode cX2_operation 153 = .ok (.bipush 9, 2) := by decide +kernel
theorem dX2_operation_155 : decode cX2_operation 155 = .ok (.ireturn, 1) := by decide +kernel
def fX2_operation (a0 : Int32) (w : Wd) : Int32 :=
  if a0 = 25 then (13) else if a0 = 26 then (14) else if a0 = 27 then (15) else if a0 = 30 then (4) else if a0 = 31 then (5) else if a0 = 33 then (1) else if a0 = 34 then (2) else if a0 = 35 then (3) else if a0 = 36 then (6) else if a0 = 37 then (7) else if a0 = 39 then (11) else if a0 = 47 then (8) else if a0 = 48 then (10) else if a0 = 49 then (12) else (9)
theorem pX2_operation {q : Gq} {l : Launch} {N : Option Value → Wd → Prop} {X : String → Wd → Prop} {w : Wd} {R : Int32} (hN : N (some (.int R)) w) {a0 : Int32} (h : fX2_operation a0 w = R) : RT (GA q) l 0 yX2_operation cX2_operation 1 ((some .int)) N X 0 [] [(0, .int a0)] w := by
  unfold fX2_operation at h
  refine r_iload_n (pc := 0) dX2_operation_0 rfl 0 rfl ?_
  by_cases hc1 : a0 = 25
  · refine r_tabC (pc := 1) (off := 143) (tgt := 144) (L := [25]) dX2_operation_1 hc1 (by decide) rfl ?_
    replace h := if_t hc1 h
    refine r_bipush (pc := 144) dX2_operation_144 kb_13 ?_
    exact rP_i (pc := 146) rfl dX2_operation_146 h hN
  replace h := if_f hc1 h
  by_cases hc2 : a0 = 26
  · refine r_tabC (pc := 1) (off := 146) (tgt := 147) (L := [26]) dX2_operation_1 hc2 (by decide) rfl ?_
    replace h := if_t hc2 h
    refine r_bipush (pc := 147) dX2_operation_147 kb_14 ?_
    exact rP_i (pc := 149) rfl dX2_operation_149 h hN
  replace h := if_f hc2 h
  by_cases hc3 : a0 = 27
  · refine r_tabC (pc := 1) (off := 149) (tgt := 150) (L := [27]) dX2_operation_1 hc3 (by decide) rfl ?_
    replace h := if_t hc3 h
    refine r_bipush (pc := 150) dX2_operation_150 kb_15 ?_
    exact rP_i (pc := 152) rfl dX2_operation_152 h hN
  replace h := if_f hc3 h
  by_cases hc4 : a0 = 30
  · refine r_tabC (pc := 1) (off := 121) (tgt := 122) (L := [30]) dX2_operation_1 hc4 (by decide) rfl ?_
    replace h := if_t hc4 h
    refine r_iconst (pc := 122) dX2_operation_122 ki_4 ?_
    exact rP_i (pc := 123) rfl dX2_operation_123 h hN
  replace h := if_f hc4 h
  by_cases hc5 : a0 = 31
  · refine r_tabC (pc := 1) (off := 123) (tgt := 124) (L := [31]) dX2_operation_1 hc5 (by decide) rfl ?_
    replace h := if_t hc5 h
    refine r_iconst (pc := 124) dX2_operation_124 ki_5 ?_
    exact rP_i (pc := 125) rfl dX2_operation_125 h hN
  replace h := if_f hc5 h
  by_cases hc6 : a0 = 33
  · refine r_tabC (pc := 1) (off := 115) (tgt := 116) (L := [33]) dX2_operation_1 hc6 (by decide) rfl ?_
    replace h := if_t hc6 h
    refine r_iconst (pc := 116) dX2_operation_116 ki_1 ?_
    exact rP_i (pc := 117) rfl dX2_operation_117 h hN
  replace h := if_f hc6 h
  by_cases hc7 : a0 = 34
  · refine r_tabC (pc := 1) (off := 117) (tgt := 118) (L := [34]) dX2_operation_1 hc7 (by decide) rfl ?_
    replace h := if_t hc7 h
    refine r_iconst (pc := 118) dX2_operation_118 ki_2 ?_
    exact rP_i (pc := 119) rfl dX2_operation_119 h hN
  replace h := if_f hc7 h
  by_cases hc8 : a0 = 35
  · refine r_tabC (pc := 1) (off := 119) (tgt := 120) (L := [35]) dX2_operation_1 hc8 (by decide) rfl ?_
    replace h := if_t hc8 h
    refine r_iconst (pc := 120) dX2_operation_120 ki_3 ?_
    exact rP_i (pc := 121) rfl dX2_operation_121 h hN
  replace h := if_f hc8 h
  by_cases hc9 : a0 = 36
  · refine r_tabC (pc := 1) (off := 125) (tgt := 126) (L := [36]) dX2_operation_1 hc9 (by decide) rfl ?_
    replace h := if_t hc9 h
    refine r_bipush (pc := 126) dX2_operation_126 kb_6 ?_
    exact rP_i (pc := 128) rfl dX2_operation_128 h hN
  replace h := if_f hc9 h
  by_cases hc10 : a0 = 37
  · refine r_tabC (pc := 1) (off := 128) (tgt := 129) (L := [37]) dX2_operation_1 hc10 (by decide) rfl ?_
    replace h := if_t hc10 h
    refine r_bipush (pc := 129) dX2_operation_129 kb_7 ?_
    exact rP_i (pc := 131) rfl dX2_operation_131 h hN
  replace h := if_f hc10 h
  by_cases hc11 : a0 = 39
  · refine r_tabC (pc := 1) (off := 137) (tgt := 138) (L := [39]) dX2_operation_1 hc11 (by decide) rfl ?_
    replace h := if_t hc11 h
    refine r_bipush (pc := 138) dX2_operation_138 kb_11 ?_
    exact rP_i (pc := 140) rfl dX2_operation_140 h hN
  replace h := if_f hc11 h
  by_cases hc12 : a0 = 47
  · refine r_tabC (pc := 1) (off := 131) (tgt := 132) (L := [47]) dX2_operation_1 hc12 (by decide) rfl ?_
    replace h := if_t hc12 h
    refine r_bipush (pc := 132) dX2_operation_132 kb_8 ?_
    exact rP_i (pc := 134) rfl dX2_operation_134 h hN
  replace h := if_f hc12 h
  by_cases hc13 : a0 = 48
  · refine r_tabC (pc := 1) (off := 134) (tgt := 135) (L := [48]) dX2_operation_1 hc13 (by decide) rfl ?_
    replace h := if_t hc13 h
    refine r_bipush (pc := 135) dX2_operation_135 kb_10 ?_
    exact rP_i (pc := 137) rfl dX2_operation_137 h hN
  replace h := if_f hc13 h
  by_cases hc14 : a0 = 49
  · refine r_tabC (pc := 1) (off := 140) (tgt := 141) (L := [49]) dX2_operation_1 hc14 (by decide) rfl ?_
    replace h := if_t hc14 h
    refine r_bipush (pc := 141) dX2_operation_141 kb_12 ?_
    exact rP_i (pc := 143) rfl dX2_operation_143 h hN
  replace h := if_f hc14 h
  refine r_tabD (pc := 1) (tgt := 153) (K := [[25], [26], [27], [30], [31], [33], [34], [35], [36], [37], [39], [47], [48], [49]]) dX2_operation_1 ⟨hc1, hc2, hc3, hc4, hc5, hc6, hc7, hc8, hc9, hc10, hc11, hc12, hc13, hc14, trivial⟩ (by decide) (by decide) rfl ?_
  refine r_bipush (pc := 153) dX2_operation_153 kb_9 ?_
  exact rP_i (pc := 155) rfl dX2_operation_155 h hN
theorem mX2_operation {q : Gq} {l : Launch} {N : Option Value → Wd → Prop} {X : String → Wd → Prop} {a0 : Int32} {w : Wd} {x : Int32} (h : fX2_operation a0 w = x) (hN : N (some (.int x)) w) : Ct (GA q) l 0 yX2_operation cX2_operation 1 ((some .int)) [.int a0] w N X := Ct.of (by decide) (Nat.le_of_ble_eq_true rfl) (pX2_operation hN h)
/-! AlgolMill$Expressions.reduceTwo (I)V: S, 5 -/
theorem dX2_reduceTwo_0 : decode cX2_reduceTwo 0 = .ok (.iload_n 1, 1) := by decide +kernel
theorem dX2_reduceTwo_1 : decode cX2_reduceTwo 1 = .ok (.invokestatic 126, 3) := by decide +kernel
theorem dX2_reduceTwo_4 : decode cX2_reduceTwo 4 = .ok (.istore_n 2, 1) := by decide +kernel
theorem dX2_reduceTwo_5 : decode cX2_reduceTwo 5 = .ok (.iload_n 1, 1) := by decide +kernel
theorem dX2_reduceTwo_6 : decode cX2_reduceTwo 6 = .ok (.bipush 38, 2) := by decide +kernel
theorem dX2_reduceTwo_8 : decode cX2_reduceTwo 8 = .ok (.if_icmp .eq 9, 3) := by decide +kernel
theorem dX2_reduceTwo_11 : decode cX2_reduceTwo 11 = .ok (.iload_n 1, 1) := by decide +kernel
theorem dX2_reduceTwo_12 : decode cX2_reduceTwo 12 = .ok (.bipush 49, 2) := by decide +kernel
theorem dX2_reduceTwo_14 : decode cX2_reduceTwo 14 = .ok (.if_icmp .ne 37, 3) := by decide +kernel
theorem dX2_reduceTwo_17 : decode cX2_reduceTwo 17 = .ok (.aload_n 0, 1) := by decide +kernel
theorem dX2_reduceTwo_18 : decode cX2_reduceTwo 18 = .ok (.getfield 16, 3) := by decide +kernel
theorem dX2_reduceTwo_21 : decode cX2_reduceTwo 21 = .ok (.aload_n 0, 1) := by decide +kernel
theorem dX2_reduceTwo_22 : decode cX2_reduceTwo 22 = .ok (.getfield 10, 3) := by decide +kernel
theorem dX2_reduceTwo_25 : decode cX2_reduceTwo 25 = .ok (.iconst 1, 1) := by decide +kernel
theorem dX2_reduceTwo_26 : decode cX2_reduceTwo 26 = .ok (.invokevirtual 147, 3) := by decide +kernel
theorem dX2_reduceTwo_29 : decode cX2_reduceTwo 29 = .ok (.aload_n 0, 1) := by decide +kernel
theorem dX2_reduceTwo_30 : decode cX2_reduceTwo 30 = .ok (.getfield 10, 3) := by decide +kernel
theorem dX2_reduceTwo_33 : decode cX2_reduceTwo 33 = .ok (.iconst 0, 1) := by decide +kernel
theorem dX2_reduceTwo_34 : decode cX2_reduceTwo 34 = .ok (.invokevirtual 147, 3) := by decide +kernel
theorem dX2_reduceTwo_37 : decode cX2_reduceTwo 37 = .ok (.aload_n 0, 1) := by decide +kernel
theorem dX2_reduceTwo_38 : decode cX2_reduceTwo 38 = .ok (.getfield 10, 3) := by decide +kernel
theorem dX2_reduceTwo_41 : decode cX2_reduceTwo 41 = .ok (.iconst 0, 1) := by decide +kernel
theorem dX2_reduceTwo_42 : decode cX2_reduceTwo 42 = .ok (.invokevirtual 150, 3) := by decide +kernel
theorem dX2_reduceTwo_45 : decode cX2_reduceTwo 45 = .ok (.invokevirtual 50, 3) := by decide +kernel
theorem dX2_reduceTwo_48 : decode cX2_reduceTwo 48 = .ok (.goto 62, 3) := by decide +kernel
theorem dX2_reduceTwo_51 : decode cX2_reduceTwo 51 = .ok (.iload_n 2, 1) := by decide +kernel
theorem dX2_reduceTwo_52 : decode cX2_reduceTwo 52 = .ok (.iconst 5, 1) := by decide +kernel
theorem dX2_reduceTwo_53 : decode cX2_reduceTwo 53 = .ok (.if_icmp .ge 7, 3) := by decide +kernel
theorem dX2_reduceTwo_56 : decode cX2_reduceTwo 56 = .ok (.iconst 2, 1) := by decide +kernel
theorem dX2_reduceTwo_57 : decode cX2_reduceTwo 57 = .ok (.goto 4, 3) := by decide +kernel
theorem dX2_reduceTwo_60 : decode cX2_reduceTwo 60 = .ok (.iconst 1, 1) := by decide +kernel
theorem dX2_reduceTwo_61 : decode cX2_reduceTwo 61 = .ok (.istore_n 3, 1) := by decide +kernel
theorem dX2_reduceTwo_62 : decode cX2_reduceTwo 62 = .ok (.aload_n 0, 1) := by decide +kernel
theorem dX2_reduceTwo_63 : decode cX2_reduceTwo 63 = .ok (.getfield 16, 3) := by decide +kernel
theorem dX2_reduceTwo_66 : decode cX2_reduceTwo 66 = .ok (.iload_n 3, 1) := by decide +kernel
theorem dX2_reduceTwo_67 : decode cX2_reduceTwo 67 = .ok (.aload_n 0, 1) := by decide +kernel
theorem dX2_reduceTwo_68 : decode cX2_reduceTwo 68 = .ok (.getfield 10, 3) := by decide +kernel
theorem dX2_reduceTwo_71 : decode cX2_reduceTwo 71 = .ok (.iconst 1, 1) := by decide +kernel
theorem dX2_reduceTwo_72 : decode cX2_reduceTwo 72 = .ok (.invokevirtual 147, 3) := by decide +kernel
theorem dX2_reduceTwo_75 : decode cX2_reduceTwo 75 = .ok (.aload_n 0, 1) := by decide +kernel
theorem dX2_reduceTwo_76 : decode cX2_reduceTwo 76 = .ok (.getfield 10, 3) := by decide +kernel
theorem dX2_reduceTwo_79 : decode cX2_reduceTwo 79 = .ok (.iconst 1, 1) := by decide +kernel
theorem dX2_reduceTwo_80 : decode cX2_reduceTwo 80 = .ok (.invokevirtual 150, 3) := by decide +kernel
theorem dX2_reduceTwo_83 : decode cX2_reduceTwo 83 = .ok (.invokevirtual 50, 3) := by decide +kernel
theorem dX2_reduceTwo_86 : decode cX2_reduceTwo 86 = .ok (.aload_n 0, 1) := by decide +kernel
theorem dX2_reduceTwo_87 : decode cX2_reduceTwo 87 = .ok (.getfield 16, 3) := by decide +kernel
theorem dX2_reduceTwo_90 : decode cX2_reduceTwo 90 = .ok (.iload_n 3, 1) := by decide +kernel
theorem dX2_reduceTwo_91 : decode cX2_reduceTwo 91 = .ok (.aload_n 0, 1) := by decide +kernel
theorem dX2_reduceTwo_92 : decode cX2_reduceTwo 92 = .ok (.getfield 10, 3) := by decide +kernel
theorem dX2_reduceTwo_95 : decode cX2_reduceTwo 95 = .ok (.iconst 0, 1) := by decide +kernel
theorem dX2_reduceTwo_96 : decode cX2_reduceTwo 96 = .ok (.invokevirtual 147, 3) := by decide +kernel
theorem dX2_reduceTwo_99 : decode cX2_reduceTwo 99 = .ok (.aload_n 0, 1) := by decide +kernel
theorem dX2_reduceTwo_100 : decode cX2_reduceTwo 100 = .ok (.getfield 10, 3) := by decide +kernel
theorem dX2_reduceTwo_103 : decode cX2_reduceTwo 103 = .ok (.iconst 0, 1) := by decide +kernel
theorem dX2_reduceTwo_104 : decode cX2_reduceTwo 104 = .ok (.invokevirtual 150, 3) := by decide +kernel
theorem dX2_reduceTwo_107 : decode cX2_reduceTwo 107 = .ok (.invokevirtual 50, 3) := by decide +kernel
theorem dX2_reduceTwo_110 : decode cX2_reduceTwo 110 = .ok (.aload_n 0, 1) := by decide +kernel
theorem dX2_reduceTwo_111 : decode cX2_reduceTwo 111 = .ok (.getfield 36, 3) := by decide +kernel
theorem dX2_reduceTwo_114 : decode cX2_reduceTwo 114 = .ok (.iload_n 1, 1) := by decide +kernel
theorem dX2_reduceTwo_115 : decode cX2_reduceTwo 115 = .ok (.invokestatic 156, 3) := by decide +kernel
theorem dX2_reduceTwo_118 : decode cX2_reduceTwo 118 = .ok (.invokevirtual 69, 3) := by decide +kernel
theorem dX2_reduceTwo_121 : decode cX2_reduceTwo 121 = .ok (.pop, 1) := by decide +kernel
theorem dX2_reduceTwo_122 : decode cX2_reduceTwo 122 = .ok (.aload_n 0, 1) := by decide +kernel
theorem dX2_reduceTwo_123 : decode cX2_reduceTwo 123 = .ok (.getfield 10, 3) := by decide +kernel
theorem dX2_reduceTwo_126 : decode cX2_reduceTwo 126 = .ok (.iconst 1, 1) := by decide +kernel
theorem dX2_reduceTwo_127 : decode cX2_reduceTwo 127 = .ok (.invokevirtual 150, 3) := by decide +kernel
theorem dX2_reduceTwo_130 : decode cX2_reduceTwo 130 = .ok (.istore_n 3, 1) := by decide +kernel
theorem dX2_reduceTwo_131 : decode cX2_reduceTwo 131 = .ok (.aload_n 0, 1) := by decide +kernel
theorem dX2_reduceTwo_132 : decode cX2_reduceTwo 132 = .ok (.getfield 10, 3) := by decide +kernel
theorem dX2_reduceTwo_135 : decode cX2_reduceTwo 135 = .ok (.invokevirtual 114, 3) := by decide +kernel
theorem dX2_reduceTwo_138 : decode cX2_reduceTwo 138 = .ok (.pop, 1) := by decide +kernel
theorem dX2_reduceTwo_139 : decode cX2_reduceTwo 139 = .ok (.aload_n 0, 1) := by decide +kernel
theorem dX2_reduceTwo_140 : decode cX2_reduceTwo 140 = .ok (.getfield 10, 3) := by decide +kernel
theorem dX2_reduceTwo_143 : decode cX2_reduceTwo 143 = .ok (.invokevirtual 114, 3) := by decide +kernel
theorem dX2_reduceTwo_146 : decode cX2_reduceTwo 146 = .ok (.pop, 1) := by decide +kernel
theorem dX2_reduceTwo_147 : decode cX2_reduceTwo 147 = .ok (.aload_n 0, 1) := by decide +kernel
theorem dX2_reduceTwo_148 : decode cX2_reduceTwo 148 = .ok (.getfield 10, 3) := by decide +kernel
theorem dX2_reduceTwo_151 : decode cX2_reduceTwo 151 = .ok (.iload_n 2, 1) := by decide +kernel
theorem dX2_reduceTwo_152 : decode cX2_reduceTwo 152 = .ok (.bipush 6, 2) := by decide +kernel
theorem dX2_reduceTwo_154 : decode cX2_reduceTwo 154 = .ok (.if_icmp .le 7, 3) := by decide +kernel
theorem dX2_reduceTwo_157 : decode cX2_reduceTwo 157 = .ok (.iconst 1, 1) := by decide +kernel
theorem dX2_reduceTwo_158 : decode cX2_reduceTwo 158 = .ok (.goto 4, 3) := by decide +kernel
theorem dX2_reduceTwo_161 : decode cX2_reduceTwo 161 = .ok (.iconst 2, 1) := by decide +kernel
theorem dX2_reduceTwo_162 : decode cX2_reduceTwo 162 = .ok (.iload_n 3, 1) := by decide +kernel
theorem dX2_reduceTwo_163 : decode cX2_reduceTwo 163 = .ok (.invokevirtual 153, 3) := by decide +kernel
theorem dX2_reduceTwo_166 : decode cX2_reduceTwo 166 = .ok (.return_, 1) := by decide +kernel
def fX2_reduceTwo_110 (a1 : Int32) (a2 : Int32) (w : Wd) : Wd :=
  lt (fX2_operation a1 w) fun x1 => lt2 (fX0_put__ x1 w) fun x2 w3 => lt (fX10_start 1 w3) fun x4 => lt2 (fX10_pop w3) fun x5 w6 => lt2 (fX10_pop w6) fun x7 w8 => if a2 ≤ 6 then (lt (fX10_push 2 x4 w8) fun w10 => w10) else (lt (fX10_push 1 x4 w8) fun w11 => w11)
theorem pX2_reduceTwo_110 {q : Gq} {l : Launch} {N : Option Value → Wd → Prop} {X : String → Wd → Prop} {w : Wd} {R : Wd} (hN : N none R) {a1 : Int32} {a2 : Int32} (h : fX2_reduceTwo_110 a1 a2 w = R) : RT (GA q) l 5 yX2_reduceTwo cX2_reduceTwo 4 (none) N X 110 [] [(0, .ref 42), (1, .int a1), (2, .int a2)] w := by
  unfold fX2_reduceTwo_110 at h
  refine r_aload_n (pc := 110) dX2_reduceTwo_110 rfl 0 rfl ?_
  refine r_get (pc := 111) (j := 3) (v := .ref 40) oA42 cf2 flRX2_36 rfl dX2_reduceTwo_111 rfl ?_
  refine r_iload_n (pc := 114) dX2_reduceTwo_114 rfl 1 rfl ?_
  replace h := lt_e h; obtain ⟨x1, ex1, h⟩ := h
  refine r_cSi (pc := 115) wyX2_operation mlRX2_156 tyX2_operation ⟨(Nat.le_of_ble_eq_true rfl), (Nat.le_of_ble_eq_true rfl)⟩ rfl rfl (Nat.le_of_ble_eq_true rfl) dX2_reduceTwo_115 (mX2_operation ex1 (pI.mk ?_))
  replace h := lt2_e h; obtain ⟨x2, w3, ew3, h⟩ := h
  refine r_cVi (pc := 118) wyX0_put__ oA40 rfl mlRX2_69 iyX0_put__ syX0_put__ ⟨(Nat.le_of_ble_eq_true rfl), (Nat.le_of_ble_eq_true rfl)⟩ rfl rfl (Nat.le_of_ble_eq_true rfl) dX2_reduceTwo_118 (mX0_put__ ew3 (pI.mk ?_))
  refine r_pop (pc := 121) dX2_reduceTwo_121 rfl ?_
  refine r_aload_n (pc := 122) dX2_reduceTwo_122 rfl 0 rfl ?_
  refine r_get (pc := 123) (j := 4) (v := .ref 43) oA42 cf2 flRX2_10 rfl dX2_reduceTwo_123 rfl ?_
  refine r_iconst (pc := 126) dX2_reduceTwo_126 ki_1 ?_
  replace h := lt_e h; obtain ⟨x4, ex4, h⟩ := h
  refine r_cVi (pc := 127) wyX10_start oA43 rfl mlRX2_150 iyX10_start syX10_start ⟨(Nat.le_of_ble_eq_true rfl), (Nat.le_of_ble_eq_true rfl)⟩ rfl rfl (Nat.le_of_ble_eq_true rfl) dX2_reduceTwo_127 (mX10_start ex4 (pI.mk ?_))
  refine r_istore_n (pc := 130) (loc' := [(3, .int x4), (0, .ref 42), (1, .int a1), (2, .int a2)]) dX2_reduceTwo_130 rfl (Nat.le_of_ble_eq_true rfl) rfl ?_
  refine r_aload_n (pc := 131) dX2_reduceTwo_131 rfl 1 rfl ?_
  refine r_get (pc := 132) (j := 4) (v := .ref 43) oA42 cf2 flRX2_10 rfl dX2_reduceTwo_132 rfl ?_
  replace h := lt2_e h; obtain ⟨x5, w6, ew6, h⟩ := h
  refine r_cVi (pc := 135) wyX10_pop oA43 rfl mlRX2_114 iyX10_pop syX10_pop ⟨(Nat.le_of_ble_eq_true rfl), (Nat.le_of_ble_eq_true rfl)⟩ rfl rfl (Nat.le_of_ble_eq_true rfl) dX2_reduceTwo_135 (mX10_pop ew6 (pI.mk ?_))
  refine r_pop (pc := 138) dX2_reduceTwo_138 rfl ?_
  refine r_aload_n (pc := 139) dX2_reduceTwo_139 rfl 1 rfl ?_
  refine r_get (pc := 140) (j := 4) (v := .ref 43) oA42 cf2 flRX2_10 rfl dX2_reduceTwo_140 rfl ?_
  replace h := lt2_e h; obtain ⟨x7, w8, ew8, h⟩ := h
  refine r_cVi (pc := 143) wyX10_pop oA43 rfl mlRX2_114 iyX10_pop syX10_pop ⟨(Nat.le_of_ble_eq_true rfl), (Nat.le_of_ble_eq_true rfl)⟩ rfl rfl (Nat.le_of_ble_eq_true rfl) dX2_reduceTwo_143 (mX10_pop ew8 (pI.mk ?_))
  refine r_pop (pc := 146) dX2_reduceTwo_146 rfl ?_
  refine r_aload_n (pc := 147) dX2_reduceTwo_147 rfl 1 rfl ?_
  refine r_get (pc := 148) (j := 4) (v := .ref 43) oA42 cf2 flRX2_10 rfl dX2_reduceTwo_148 rfl ?_
  refine r_iload_n (pc := 151) dX2_reduceTwo_151 rfl 3 rfl ?_
  refine r_bipush (pc := 152) dX2_reduceTwo_152 kb_6 ?_
  refine r_icmp_le (pc := 154) dX2_reduceTwo_154 rfl (fun hc9 => ?_) (fun hc9 => ?_)
  · replace h := if_t hc9 h
    refine r_iconst (pc := 161) dX2_reduceTwo_161 ki_2 ?_
    refine r_iload_n (pc := 162) dX2_reduceTwo_162 rfl 0 rfl ?_
    replace h := lt_e h; obtain ⟨w10, ew10, h⟩ := h
    refine r_cVv (pc := 163) wyX10_push oA43 rfl mlRX2_153 iyX10_push syX10_push ⟨(Nat.le_of_ble_eq_true rfl), (Nat.le_of_ble_eq_true rfl)⟩ rfl rfl (Nat.le_of_ble_eq_true rfl) dX2_reduceTwo_163 (mX10_push ew10 (pV.mk ?_))
    exact rS_v (pc := 166) rfl dX2_reduceTwo_166 h hN
  replace h := if_f hc9 h
  refine r_iconst (pc := 157) dX2_reduceTwo_157 ki_1 ?_
  refine r_goto (pc := 158) dX2_reduceTwo_158 rfl ?_
  refine r_iload_n (pc := 162) dX2_reduceTwo_162 rfl 0 rfl ?_
  replace h := lt_e h; obtain ⟨w11, ew11, h⟩ := h
  refine r_cVv (pc := 163) wyX10_push oA43 rfl mlRX2_153 iyX10_push syX10_push ⟨(Nat.le_of_ble_eq_true rfl), (Nat.le_of_ble_eq_true rfl)⟩ rfl rfl (Nat.le_of_ble_eq_true rfl) dX2_reduceTwo_163 (mX10_push ew11 (pV.mk ?_))
  exact rS_v (pc := 166) rfl dX2_reduceTwo_166 h hN
def fX2_reduceTwo_17 (a1 : Int32) (a2 : Int32) (w : Wd) : Wd :=
  lt (fX10_type 1 w) fun x1 => lt (fX10_type 0 w) fun x2 => lt (fX10_start 0 w) fun x3 => lt (fX1_check x1 x2 x3 w) fun w4 => fX2_reduceTwo_110 a1 a2 w4
theorem pX2_reduceTwo_17 {q : Gq} {l : Launch} {N : Option Value → Wd → Prop} {X : String → Wd → Prop} {w : Wd} {R : Wd} (hN : N none R) {a1 : Int32} {a2 : Int32} (h : fX2_reduceTwo_17 a1 a2 w = R) : RT (GA q) l 5 yX2_reduceTwo cX2_reduceTwo 4 (none) N X 17 [] [(0, .ref 42), (1, .int a1), (2, .int a2)] w := by
  unfold fX2_reduceTwo_17 at h
  refine r_aload_n (pc := 17) dX2_reduceTwo_17 rfl 0 rfl ?_
  refine r_get (pc := 18) (j := 0) (v := .ref 3) oA42 cf2 flRX2_16 rfl dX2_reduceTwo_18 rfl ?_
  refine r_aload_n (pc := 21) dX2_reduceTwo_21 rfl 0 rfl ?_
  refine r_get (pc := 22) (j := 4) (v := .ref 43) oA42 cf2 flRX2_10 rfl dX2_reduceTwo_22 rfl ?_
  refine r_iconst (pc := 25) dX2_reduceTwo_25 ki_1 ?_
  replace h := lt_e h; obtain ⟨x1, ex1, h⟩ := h
  refine r_cVi (pc := 26) wyX10_type oA43 rfl mlRX2_147 iyX10_type syX10_type ⟨(Nat.le_of_ble_eq_true rfl), (Nat.le_of_ble_eq_true rfl)⟩ rfl rfl (Nat.le_of_ble_eq_true rfl) dX2_reduceTwo_26 (mX10_type ex1 (pI.mk ?_))
  refine r_aload_n (pc := 29) dX2_reduceTwo_29 rfl 0 rfl ?_
  refine r_get (pc := 30) (j := 4) (v := .ref 43) oA42 cf2 flRX2_10 rfl dX2_reduceTwo_30 rfl ?_
  refine r_iconst (pc := 33) dX2_reduceTwo_33 ki_0 ?_
  replace h := lt_e h; obtain ⟨x2, ex2, h⟩ := h
  refine r_cVi (pc := 34) wyX10_type oA43 rfl mlRX2_147 iyX10_type syX10_type ⟨(Nat.le_of_ble_eq_true rfl), (Nat.le_of_ble_eq_true rfl)⟩ rfl rfl (Nat.le_of_ble_eq_true rfl) dX2_reduceTwo_34 (mX10_type ex2 (pI.mk ?_))
  refine r_aload_n (pc := 37) dX2_reduceTwo_37 rfl 0 rfl ?_
  refine r_get (pc := 38) (j := 4) (v := .ref 43) oA42 cf2 flRX2_10 rfl dX2_reduceTwo_38 rfl ?_
  refine r_iconst (pc := 41) dX2_reduceTwo_41 ki_0 ?_
  replace h := lt_e h; obtain ⟨x3, ex3, h⟩ := h
  refine r_cVi (pc := 42) wyX10_start oA43 rfl mlRX2_150 iyX10_start syX10_start ⟨(Nat.le_of_ble_eq_true rfl), (Nat.le_of_ble_eq_true rfl)⟩ rfl rfl (Nat.le_of_ble_eq_true rfl) dX2_reduceTwo_42 (mX10_start ex3 (pI.mk ?_))
  replace h := lt_e h; obtain ⟨w4, ew4, h⟩ := h
  refine r_cVv (pc := 45) wyX1_check oA3 rfl mlRX2_50 iyX1_check syX1_check ⟨(Nat.le_of_ble_eq_true rfl), (Nat.le_of_ble_eq_true rfl)⟩ rfl rfl (Nat.le_of_ble_eq_true rfl) dX2_reduceTwo_45 (mX1_check ew4 (pV.mk ?_))
  refine r_goto (pc := 48) dX2_reduceTwo_48 rfl ?_
  exact pX2_reduceTwo_110 hN h
def fX2_reduceTwo_61 (s0 : Int32) (a1 : Int32) (a2 : Int32) (w : Wd) : Wd :=
  lt (fX10_type 1 w) fun x1 => lt (fX10_start 1 w) fun x2 => lt (fX1_check s0 x1 x2 w) fun w3 => lt (fX10_type 0 w3) fun x4 => lt (fX10_start 0 w3) fun x5 => lt (fX1_check s0 x4 x5 w3) fun w6 => fX2_reduceTwo_110 a1 a2 w6
theorem pX2_reduceTwo_61 {q : Gq} {l : Launch} {N : Option Value → Wd → Prop} {X : String → Wd → Prop} {w : Wd} {R : Wd} (hN : N none R) {s0 : Int32} {a1 : Int32} {a2 : Int32} (h : fX2_reduceTwo_61 s0 a1 a2 w = R) : RT (GA q) l 5 yX2_reduceTwo cX2_reduceTwo 4 (none) N X 61 [.int s0] [(0, .ref 42), (1, .int a1), (2, .int a2)] w := by
  unfold fX2_reduceTwo_61 at h
  refine r_istore_n (pc := 61) (loc' := [(3, .int s0), (0, .ref 42), (1, .int a1), (2, .int a2)]) dX2_reduceTwo_61 rfl (Nat.le_of_ble_eq_true rfl) rfl ?_
  refine r_aload_n (pc := 62) dX2_reduceTwo_62 rfl 1 rfl ?_
  refine r_get (pc := 63) (j := 0) (v := .ref 3) oA42 cf2 flRX2_16 rfl dX2_reduceTwo_63 rfl ?_
  refine r_iload_n (pc := 66) dX2_reduceTwo_66 rfl 0 rfl ?_
  refine r_aload_n (pc := 67) dX2_reduceTwo_67 rfl 1 rfl ?_
  refine r_get (pc := 68) (j := 4) (v := .ref 43) oA42 cf2 flRX2_10 rfl dX2_reduceTwo_68 rfl ?_
  refine r_iconst (pc := 71) dX2_reduceTwo_71 ki_1 ?_
  replace h := lt_e h; obtain ⟨x1, ex1, h⟩ := h
  refine r_cVi (pc := 72) wyX10_type oA43 rfl mlRX2_147 iyX10_type syX10_type ⟨(Nat.le_of_ble_eq_true rfl), (Nat.le_of_ble_eq_true rfl)⟩ rfl rfl (Nat.le_of_ble_eq_true rfl) dX2_reduceTwo_72 (mX10_type ex1 (pI.mk ?_))
  refine r_aload_n (pc := 75) dX2_reduceTwo_75 rfl 1 rfl ?_
  refine r_get (pc := 76) (j := 4) (v := .ref 43) oA42 cf2 flRX2_10 rfl dX2_reduceTwo_76 rfl ?_
  refine r_iconst (pc := 79) dX2_reduceTwo_79 ki_1 ?_
  replace h := lt_e h; obtain ⟨x2, ex2, h⟩ := h
  refine r_cVi (pc := 80) wyX10_start oA43 rfl mlRX2_150 iyX10_start syX10_start ⟨(Nat.le_of_ble_eq_true rfl), (Nat.le_of_ble_eq_true rfl)⟩ rfl rfl (Nat.le_of_ble_eq_true rfl) dX2_reduceTwo_80 (mX10_start ex2 (pI.mk ?_))
  replace h := lt_e h; obtain ⟨w3, ew3, h⟩ := h
  refine r_cVv (pc := 83) wyX1_check oA3 rfl mlRX2_50 iyX1_check syX1_check ⟨(Nat.le_of_ble_eq_true rfl), (Nat.le_of_ble_eq_true rfl)⟩ rfl rfl (Nat.le_of_ble_eq_true rfl) dX2_reduceTwo_83 (mX1_check ew3 (pV.mk ?_))
  refine r_aload_n (pc := 86) dX2_reduceTwo_86 rfl 1 rfl ?_
  refine r_get (pc := 87) (j := 0) (v := .ref 3) oA42 cf2 flRX2_16 rfl dX2_reduceTwo_87 rfl ?_
  refine r_iload_n (pc := 90) dX2_reduceTwo_90 rfl 0 rfl ?_
  refine r_aload_n (pc := 91) dX2_reduceTwo_91 rfl 1 rfl ?_
  refine r_get (pc := 92) (j := 4) (v := .ref 43) oA42 cf2 flRX2_10 rfl dX2_reduceTwo_92 rfl ?_
  refine r_iconst (pc := 95) dX2_reduceTwo_95 ki_0 ?_
  replace h := lt_e h; obtain ⟨x4, ex4, h⟩ := h
  refine r_cVi (pc := 96) wyX10_type oA43 rfl mlRX2_147 iyX10_type syX10_type ⟨(Nat.le_of_ble_eq_true rfl), (Nat.le_of_ble_eq_true rfl)⟩ rfl rfl (Nat.le_of_ble_eq_true rfl) dX2_reduceTwo_96 (mX10_type ex4 (pI.mk ?_))
  refine r_aload_n (pc := 99) dX2_reduceTwo_99 rfl 1 rfl ?_
  refine r_get (pc := 100) (j := 4) (v := .ref 43) oA42 cf2 flRX2_10 rfl dX2_reduceTwo_100 rfl ?_
  refine r_iconst (pc := 103) dX2_reduceTwo_103 ki_0 ?_
  replace h := lt_e h; obtain ⟨x5, ex5, h⟩ := h
  refine r_cVi (pc := 104) wyX10_start oA43 rfl mlRX2_150 iyX10_start syX10_start ⟨(Nat.le_of_ble_eq_true rfl), (Nat.le_of_ble_eq_true rfl)⟩ rfl rfl (Nat.le_of_ble_eq_true rfl) dX2_reduceTwo_104 (mX10_start ex5 (pI.mk ?_))
  replace h := lt_e h; obtain ⟨w6, ew6, h⟩ := h
  refine r_cVv (pc := 107) wyX1_check oA3 rfl mlRX2_50 iyX1_check syX1_check ⟨(Nat.le_of_ble_eq_true rfl), (Nat.le_of_ble_eq_true rfl)⟩ rfl rfl (Nat.le_of_ble_eq_true rfl) dX2_reduceTwo_107 (mX1_check ew6 (pV.mk ?_))
  refine r_drop (loc' := [(0, .ref 42), (1, .int a1), (2, .int a2)]) [1, 2, 3] rfl ?_
  exact pX2_reduceTwo_110 hN h
def fX2_reduceTwo (a1 : Int32) (w : Wd) : Wd :=
  lt (fX10_strength a1 w) fun x1 => if a1 = 38 then (fX2_reduceTwo_17 a1 x1 w) else (if a1 = 49 then (fX2_reduceTwo_17 a1 x1 w) else (if 5 ≤ x1 then (fX2_reduceTwo_61 1 a1 x1 w) else (fX2_reduceTwo_61 2 a1 x1 w)))
theorem pX2_reduceTwo {q : Gq} {l : Launch} {N : Option Value → Wd → Prop} {X : String → Wd → Prop} {w : Wd} {R : Wd} (hN : N none R) {a1 : Int32} (h : fX2_reduceTwo a1 w = R) : RT (GA q) l 5 yX2_reduceTwo cX2_reduceTwo 4 (none) N X 0 [] [(0, .ref 42), (1, .int a1)] w := by
  unfold fX2_reduceTwo at h
  refine r_iload_n (pc := 0) dX2_reduceTwo_0 rfl 1 rfl ?_
  replace h := lt_e h; obtain ⟨x1, ex1, h⟩ := h
  refine r_cSi (pc := 1) wyX10_strength mlRX2_126 tyX10_strength ⟨(Nat.le_of_ble_eq_true rfl), (Nat.le_of_ble_eq_true rfl)⟩ rfl rfl (Nat.le_of_ble_eq_true rfl) dX2_reduceTwo_1 (mX10_strength ex1 (pI.mk ?_))
  refine r_istore_n (pc := 4) (loc' := [(2, .int x1), (0, .ref 42), (1, .int a1)]) dX2_reduceTwo_4 rfl (Nat.le_of_ble_eq_true rfl) rfl ?_
  refine r_iload_n (pc := 5) dX2_reduceTwo_5 rfl 2 rfl ?_
  refine r_bipush (pc := 6) dX2_reduceTwo_6 kb_38 ?_
  refine r_icmp_eq (pc := 8) dX2_reduceTwo_8 rfl (fun hc2 => ?_) (fun hc2 => ?_)
  · replace h := if_t hc2 h
    refine r_drop (loc' := [(0, .ref 42), (1, .int a1), (2, .int x1)]) [1, 2, 0] rfl ?_
    exact pX2_reduceTwo_17 hN h
  replace h := if_f hc2 h
  refine r_iload_n (pc := 11) dX2_reduceTwo_11 rfl 2 rfl ?_
  refine r_bipush (pc := 12) dX2_reduceTwo_12 kb_49 ?_
  refine r_icmp_ne (pc := 14) dX2_reduceTwo_14 rfl (fun hc3 => ?_) (fun hc3 => ?_)
  · replace h := if_f hc3 h
    refine r_iload_n (pc := 51) dX2_reduceTwo_51 rfl 0 rfl ?_
    refine r_iconst (pc := 52) dX2_reduceTwo_52 ki_5 ?_
    refine r_icmp_ge (pc := 53) dX2_reduceTwo_53 rfl (fun hc4 => ?_) (fun hc4 => ?_)
    · replace h := if_t hc4 h
      refine r_iconst (pc := 60) dX2_reduceTwo_60 ki_1 ?_
      refine r_drop (loc' := [(0, .ref 42), (1, .int a1), (2, .int x1)]) [1, 2, 0] rfl ?_
      exact pX2_reduceTwo_61 hN h
    replace h := if_f hc4 h
    refine r_iconst (pc := 56) dX2_reduceTwo_56 ki_2 ?_
    refine r_goto (pc := 57) dX2_reduceTwo_57 rfl ?_
    refine r_drop (loc' := [(0, .ref 42), (1, .int a1), (2, .int x1)]) [1, 2, 0] rfl ?_
    exact pX2_reduceTwo_61 hN h
  replace h := if_t hc3 h
  refine r_drop (loc' := [(0, .ref 42), (1, .int a1), (2, .int x1)]) [1, 2, 0] rfl ?_
  exact pX2_reduceTwo_17 hN h
theorem mX2_reduceTwo {q : Gq} {l : Launch} {N : Option Value → Wd → Prop} {X : String → Wd → Prop} {a1 : Int32} {w : Wd} {u : Wd} (h : fX2_reduceTwo a1 w = u) (hN : N none u) : Ct (GA q) l 5 yX2_reduceTwo cX2_reduceTwo 4 (none) [.ref 42, .int a1] w N X := Ct.of (by decide) (Nat.le_of_ble_eq_true rfl) (pX2_reduceTwo hN h)
/-! AlgolMill$Expressions.reduce (II)V: O, 6 -/
theorem dX2_reduce_0 : decode cX2_reduce 0 = .ok (.iconst 0, 1) := by decide +kernel
theorem dX2_reduce_1 : decode cX2_reduce 1 = .ok (.istore_n 3, 1) := by decide +kernel
theorem dX2_reduce_2 : decode cX2_reduce 2 = .ok (.iload_n 3, 1) := by decide +kernel
theorem dX2_reduce_3 : decode cX2_reduce 3 = .ok (.sipush 512, 3) := by decide +kernel
theorem dX2_reduce_6 : decode cX2_reduce 6 = .ok (.if_icmp .ge 86, 3) := by decide +kernel
theorem dX2_reduce_9 : decode cX2_reduce 9 = .ok (.aload_n 0, 1) := by decide +kernel
theorem dX2_reduce_10 : decode cX2_reduce 10 = .ok (.getfield 10, 3) := by decide +kernel
theorem dX2_reduce_13 : decode cX2_reduce 13 = .ok (.invokevirtual 95, 3) := by decide +kernel
theorem dX2_reduce_16 : decode cX2_reduce 16 = .ok (.iload_n 1, 1) := by decide +kernel
theorem dX2_reduce_17 : decode cX2_reduce 17 = .ok (.if_icmp .le 75, 3) := by decide +kernel
theorem dX2_reduce_20 : decode cX2_reduce 20 = .ok (.aload_n 0, 1) := by decide +kernel
theorem dX2_reduce_21 : decode cX2_reduce 21 = .ok (.getfield 10, 3) := by decide +kernel
theorem dX2_reduce_24 : decode cX2_reduce 24 = .ok (.iload_n 1, 1) := by decide +kernel
theorem dX2_reduce_25 : decode cX2_reduce 25 = .ok (.invokevirtual 117, 3) := by decide +kernel
theorem dX2_reduce_28 : decode cX2_reduce 28 = .ok (.iload_n 2, 1) := by decide +kernel
theorem dX2_reduce_29 : decode cX2_reduce 29 = .ok (.if_icmp .lt 63, 3) := by decide +kernel
theorem dX2_reduce_32 : decode cX2_reduce 32 = .ok (.aload_n 0, 1) := by decide +kernel
theorem dX2_reduce_33 : decode cX2_reduce 33 = .ok (.getfield 10, 3) := by decide +kernel
theorem dX2_reduce_36 : decode cX2_reduce 36 = .ok (.invokevirtual 132, 3) := by decide +kernel
theorem dX2_reduce_39 : decode cX2_reduce 39 = .ok (.istore 4, 2) := by decide +kernel
theorem dX2_reduce_41 : decode cX2_reduce 41 = .ok (.aload_n 0, 1) := by decide +kernel
theorem dX2_reduce_42 : decode cX2_reduce 42 = .ok (.getfield 10, 3) := by decide +kernel
theorem dX2_reduce_45 : decode cX2_reduce 45 = .ok (.invokevirtual 135, 3) := by decide +kernel
theorem dX2_reduce_48 : decode cX2_reduce 48 = .ok (.istore 5, 2) := by decide +kernel
theorem dX2_reduce_50 : decode cX2_reduce 50 = .ok (.aload_n 0, 1) := by decide +kernel
theorem dX2_reduce_51 : decode cX2_reduce 51 = .ok (.getfield 10, 3) := by decide +kernel
theorem dX2_reduce_54 : decode cX2_reduce 54 = .ok (.invokevirtual 138, 3) := by decide +kernel
theorem dX2_reduce_57 : decode cX2_reduce 57 = .ok (.iload 4, 2) := by decide +kernel
theorem dX2_reduce_59 : decode cX2_reduce 59 = .ok (.bipush 29, 2) := by decide +kernel
theorem dX2_reduce_61 : decode cX2_reduce 61 = .ok (.if_icmp .eq 8, 3) := by decide +kernel
theorem dX2_reduce_64 : decode cX2_reduce 64 = .ok (.iload 4, 2) := by decide +kernel
theorem dX2_reduce_66 : decode cX2_reduce 66 = .ok (.ifCond .ge 14, 3) := by decide +kernel
theorem dX2_reduce_69 : decode cX2_reduce 69 = .ok (.aload_n 0, 1) := by decide +kernel
theorem dX2_reduce_70 : decode cX2_reduce 70 = .ok (.iload 4, 2) := by decide +kernel
theorem dX2_reduce_72 : decode cX2_reduce 72 = .ok (.iload 5, 2) := by decide +kernel
theorem dX2_reduce_74 : decode cX2_reduce 74 = .ok (.invokevirtual 141, 3) := by decide +kernel
theorem dX2_reduce_77 : decode cX2_reduce 77 = .ok (.goto 9, 3) := by decide +kernel
theorem dX2_reduce_80 : decode cX2_reduce 80 = .ok (.aload_n 0, 1) := by decide +kernel
theorem dX2_reduce_81 : decode cX2_reduce 81 = .ok (.iload 4, 2) := by decide +kernel
theorem dX2_reduce_83 : decode cX2_reduce 83 = .ok (.invokevirtual 144, 3) := by decide +kernel
theorem dX2_reduce_86 : decode cX2_reduce 86 = .ok (.iinc 3 1, 3) := by decide +kernel
theorem dX2_reduce_89 : decode cX2_reduce 89 = .ok (.goto (-87), 3) := by decide +kernel
theorem dX2_reduce_92 : decode cX2_reduce 92 = .ok (.return_, 1) := by decide +kernel
def fX2_reduce_2 (k_2 : Int32 → Int32 → Int32 → Wd → Option Wd) (a1 : Int32) (a2 : Int32) (a3 : Int32) (w : Wd) : Option Wd :=
  if 512 ≤ a3 then (some w) else (lt (fX10_waiting w) fun x2 => if x2 ≤ a1 then (some w) else (lt (fX10_strongest a1 w) fun x4 => if x4 < a2 then (some w) else (lt (fX10_sign w) fun x6 => lt (fX10_signToken w) fun x7 => lt (fX10_dropSign w) fun w8 => if x6 = 29 then (lt (fX2_reduceOne x6 x7 w8) fun w10 => lt (a3 + 1) fun x11 => k_2 a1 a2 x11 w10) else (if 0 ≤ x6 then (lt (fX2_reduceTwo x6 w8) fun w13 => lt (a3 + 1) fun x14 => k_2 a1 a2 x14 w13) else (lt (fX2_reduceOne x6 x7 w8) fun w15 => lt (a3 + 1) fun x16 => k_2 a1 a2 x16 w15)))))
theorem pX2_reduce_2 {q : Gq} {l : Launch} {N : Option Value → Wd → Prop} {X : String → Wd → Prop} {w : Wd} {R : Wd} (hN : N none R) {k_2 : Int32 → Int32 → Int32 → Wd → Option Wd} (hk_2 : ∀ (a1 : Int32) (a2 : Int32) (a3 : Int32) (w : Wd), k_2 a1 a2 a3 w = some R → RT (GA q) l 6 yX2_reduce cX2_reduce 6 (none) N X 2 [] [(0, .ref 42), (1, .int a1), (2, .int a2), (3, .int a3)] w) {a1 : Int32} {a2 : Int32} {a3 : Int32} (h : fX2_reduce_2 k_2 a1 a2 a3 w = some R) : RT (GA q) l 6 yX2_reduce cX2_reduce 6 (none) N X 2 [] [(0, .ref 42), (1, .int a1), (2, .int a2), (3, .int a3)] w := by
  unfold fX2_reduce_2 at h
  refine r_iload_n (pc := 2) dX2_reduce_2 rfl 3 rfl ?_
  refine r_sipush (pc := 3) dX2_reduce_3 ks_512 ?_
  refine r_icmp_ge (pc := 6) dX2_reduce_6 rfl (fun hc1 => ?_) (fun hc1 => ?_)
  · replace h := if_t hc1 h
    exact rO_v (pc := 92) rfl dX2_reduce_92 h hN
  replace h := if_f hc1 h
  refine r_aload_n (pc := 9) dX2_reduce_9 rfl 0 rfl ?_
  refine r_get (pc := 10) (j := 4) (v := .ref 43) oA42 cf2 flRX2_10 rfl dX2_reduce_10 rfl ?_
  replace h := lt_e h; obtain ⟨x2, ex2, h⟩ := h
  refine r_cVi (pc := 13) wyX10_waiting oA43 rfl mlRX2_95 iyX10_waiting syX10_waiting ⟨(Nat.le_of_ble_eq_true rfl), (Nat.le_of_ble_eq_true rfl)⟩ rfl rfl (Nat.le_of_ble_eq_true rfl) dX2_reduce_13 (mX10_waiting ex2 (pI.mk ?_))
  refine r_iload_n (pc := 16) dX2_reduce_16 rfl 1 rfl ?_
  refine r_icmp_le (pc := 17) dX2_reduce_17 rfl (fun hc3 => ?_) (fun hc3 => ?_)
  · replace h := if_t hc3 h
    exact rO_v (pc := 92) rfl dX2_reduce_92 h hN
  replace h := if_f hc3 h
  refine r_aload_n (pc := 20) dX2_reduce_20 rfl 0 rfl ?_
  refine r_get (pc := 21) (j := 4) (v := .ref 43) oA42 cf2 flRX2_10 rfl dX2_reduce_21 rfl ?_
  refine r_iload_n (pc := 24) dX2_reduce_24 rfl 1 rfl ?_
  replace h := lt_e h; obtain ⟨x4, ex4, h⟩ := h
  refine r_cVi (pc := 25) wyX10_strongest oA43 rfl mlRX2_117 iyX10_strongest syX10_strongest ⟨(Nat.le_of_ble_eq_true rfl), (Nat.le_of_ble_eq_true rfl)⟩ rfl rfl (Nat.le_of_ble_eq_true rfl) dX2_reduce_25 (mX10_strongest ex4 (pI.mk ?_))
  refine r_iload_n (pc := 28) dX2_reduce_28 rfl 2 rfl ?_
  refine r_icmp_lt (pc := 29) dX2_reduce_29 rfl (fun hc5 => ?_) (fun hc5 => ?_)
  · replace h := if_t hc5 h
    exact rO_v (pc := 92) rfl dX2_reduce_92 h hN
  replace h := if_f hc5 h
  refine r_aload_n (pc := 32) dX2_reduce_32 rfl 0 rfl ?_
  refine r_get (pc := 33) (j := 4) (v := .ref 43) oA42 cf2 flRX2_10 rfl dX2_reduce_33 rfl ?_
  replace h := lt_e h; obtain ⟨x6, ex6, h⟩ := h
  refine r_cVi (pc := 36) wyX10_sign oA43 rfl mlRX2_132 iyX10_sign syX10_sign ⟨(Nat.le_of_ble_eq_true rfl), (Nat.le_of_ble_eq_true rfl)⟩ rfl rfl (Nat.le_of_ble_eq_true rfl) dX2_reduce_36 (mX10_sign ex6 (pI.mk ?_))
  refine r_istore (pc := 39) (loc' := [(4, .int x6), (0, .ref 42), (1, .int a1), (2, .int a2), (3, .int a3)]) dX2_reduce_39 (Nat.le_of_ble_eq_true rfl) rfl ?_
  refine r_aload_n (pc := 41) dX2_reduce_41 rfl 1 rfl ?_
  refine r_get (pc := 42) (j := 4) (v := .ref 43) oA42 cf2 flRX2_10 rfl dX2_reduce_42 rfl ?_
  replace h := lt_e h; obtain ⟨x7, ex7, h⟩ := h
  refine r_cVi (pc := 45) wyX10_signToken oA43 rfl mlRX2_135 iyX10_signToken syX10_signToken ⟨(Nat.le_of_ble_eq_true rfl), (Nat.le_of_ble_eq_true rfl)⟩ rfl rfl (Nat.le_of_ble_eq_true rfl) dX2_reduce_45 (mX10_signToken ex7 (pI.mk ?_))
  refine r_istore (pc := 48) (loc' := [(5, .int x7), (4, .int x6), (0, .ref 42), (1, .int a1), (2, .int a2), (3, .int a3)]) dX2_reduce_48 (Nat.le_of_ble_eq_true rfl) rfl ?_
  refine r_aload_n (pc := 50) dX2_reduce_50 rfl 2 rfl ?_
  refine r_get (pc := 51) (j := 4) (v := .ref 43) oA42 cf2 flRX2_10 rfl dX2_reduce_51 rfl ?_
  replace h := lt_e h; obtain ⟨w8, ew8, h⟩ := h
  refine r_cVv (pc := 54) wyX10_dropSign oA43 rfl mlRX2_138 iyX10_dropSign syX10_dropSign ⟨(Nat.le_of_ble_eq_true rfl), (Nat.le_of_ble_eq_true rfl)⟩ rfl rfl (Nat.le_of_ble_eq_true rfl) dX2_reduce_54 (mX10_dropSign ew8 (pV.mk ?_))
  refine r_iload (pc := 57) dX2_reduce_57 1 rfl ?_
  refine r_bipush (pc := 59) dX2_reduce_59 kb_29 ?_
  refine r_icmp_eq (pc := 61) dX2_reduce_61 rfl (fun hc9 => ?_) (fun hc9 => ?_)
  · replace h := if_t hc9 h
    refine r_aload_n (pc := 69) dX2_reduce_69 rfl 2 rfl ?_
    refine r_iload (pc := 70) dX2_reduce_70 1 rfl ?_
    refine r_iload (pc := 72) dX2_reduce_72 0 rfl ?_
    replace h := lt_e h; obtain ⟨w10, ew10, h⟩ := h
    refine r_cVv (pc := 74) wyX2_reduceOne oA42 rfl mlRX2_141 iyX2_reduceOne syX2_reduceOne ⟨(Nat.le_of_ble_eq_true rfl), (Nat.le_of_ble_eq_true rfl)⟩ rfl rfl (Nat.le_of_ble_eq_true rfl) dX2_reduce_74 (mX2_reduceOne ew10 (pV.mk ?_))
    refine r_goto (pc := 77) dX2_reduce_77 rfl ?_
    replace h := lt_e h; obtain ⟨x11, ex11, h⟩ := h
    refine r_inc (pc := 86) (loc' := [(3, .int x11), (5, .int x7), (4, .int x6), (0, .ref 42), (1, .int a1), (2, .int a2)]) dX2_reduce_86 ki_1 ex11 5 rfl (Nat.le_of_ble_eq_true rfl) rfl ?_
    refine r_goto (pc := 89) dX2_reduce_89 rfl ?_
    refine r_drop (loc' := [(0, .ref 42), (1, .int a1), (2, .int a2), (3, .int x11)]) [3, 4, 5, 0] rfl ?_
    exact hk_2 a1 a2 x11 w10 h
  replace h := if_f hc9 h
  refine r_iload (pc := 64) dX2_reduce_64 1 rfl ?_
  refine r_if_ge (pc := 66) dX2_reduce_66 rfl (fun hc12 => ?_) (fun hc12 => ?_)
  · replace h := if_t hc12 h
    refine r_aload_n (pc := 80) dX2_reduce_80 rfl 2 rfl ?_
    refine r_iload (pc := 81) dX2_reduce_81 1 rfl ?_
    replace h := lt_e h; obtain ⟨w13, ew13, h⟩ := h
    refine r_cVv (pc := 83) wyX2_reduceTwo oA42 rfl mlRX2_144 iyX2_reduceTwo syX2_reduceTwo ⟨(Nat.le_of_ble_eq_true rfl), (Nat.le_of_ble_eq_true rfl)⟩ rfl rfl (Nat.le_of_ble_eq_true rfl) dX2_reduce_83 (mX2_reduceTwo ew13 (pV.mk ?_))
    replace h := lt_e h; obtain ⟨x14, ex14, h⟩ := h
    refine r_inc (pc := 86) (loc' := [(3, .int x14), (5, .int x7), (4, .int x6), (0, .ref 42), (1, .int a1), (2, .int a2)]) dX2_reduce_86 ki_1 ex14 5 rfl (Nat.le_of_ble_eq_true rfl) rfl ?_
    refine r_goto (pc := 89) dX2_reduce_89 rfl ?_
    refine r_drop (loc' := [(0, .ref 42), (1, .int a1), (2, .int a2), (3, .int x14)]) [3, 4, 5, 0] rfl ?_
    exact hk_2 a1 a2 x14 w13 h
  replace h := if_f hc12 h
  refine r_aload_n (pc := 69) dX2_reduce_69 rfl 2 rfl ?_
  refine r_iload (pc := 70) dX2_reduce_70 1 rfl ?_
  refine r_iload (pc := 72) dX2_reduce_72 0 rfl ?_
  replace h := lt_e h; obtain ⟨w15, ew15, h⟩ := h
  refine r_cVv (pc := 74) wyX2_reduceOne oA42 rfl mlRX2_141 iyX2_reduceOne syX2_reduceOne ⟨(Nat.le_of_ble_eq_true rfl), (Nat.le_of_ble_eq_true rfl)⟩ rfl rfl (Nat.le_of_ble_eq_true rfl) dX2_reduce_74 (mX2_reduceOne ew15 (pV.mk ?_))
  refine r_goto (pc := 77) dX2_reduce_77 rfl ?_
  replace h := lt_e h; obtain ⟨x16, ex16, h⟩ := h
  refine r_inc (pc := 86) (loc' := [(3, .int x16), (5, .int x7), (4, .int x6), (0, .ref 42), (1, .int a1), (2, .int a2)]) dX2_reduce_86 ki_1 ex16 5 rfl (Nat.le_of_ble_eq_true rfl) rfl ?_
  refine r_goto (pc := 89) dX2_reduce_89 rfl ?_
  refine r_drop (loc' := [(0, .ref 42), (1, .int a1), (2, .int a2), (3, .int x16)]) [3, 4, 5, 0] rfl ?_
  exact hk_2 a1 a2 x16 w15 h
def oX2_reduce_2 : Nat → Int32 → Int32 → Int32 → Wd → Option Wd
  | 0 => fun _ _ _ _ => none
  | n + 1 => fX2_reduce_2 (oX2_reduce_2 n)
theorem qX2_reduce_2 {q : Gq} {l : Launch} {N : Option Value → Wd → Prop} {X : String → Wd → Prop} {R : Wd} (hN : N none R) : ∀ (n : Nat) (a1 : Int32) (a2 : Int32) (a3 : Int32) (w : Wd), oX2_reduce_2 n a1 a2 a3 w = some R → RT (GA q) l 6 yX2_reduce cX2_reduce 6 (none) N X 2 [] [(0, .ref 42), (1, .int a1), (2, .int a2), (3, .int a3)] w := by
  intro n
  induction n with
  | zero =>
    intro a1 a2 a3 w h
    exact absurd h (fun q => nomatch q)
  | succ n ih =>
    intro a1 a2 a3 w h
    exact pX2_reduce_2 hN ih h
def fX2_reduce (a1 : Int32) (a2 : Int32) (w : Wd) : Option Wd :=
  oX2_reduce_2 FU a1 a2 0 w
theorem pX2_reduce {q : Gq} {l : Launch} {N : Option Value → Wd → Prop} {X : String → Wd → Prop} {w : Wd} {R : Wd} (hN : N none R) {a1 : Int32} {a2 : Int32} (h : fX2_reduce a1 a2 w = some R) : RT (GA q) l 6 yX2_reduce cX2_reduce 6 (none) N X 0 [] [(0, .ref 42), (1, .int a1), (2, .int a2)] w := by
  unfold fX2_reduce at h
  refine r_iconst (pc := 0) dX2_reduce_0 ki_0 ?_
  refine r_istore_n (pc := 1) (loc' := [(3, .int 0), (0, .ref 42), (1, .int a1), (2, .int a2)]) dX2_reduce_1 rfl (Nat.le_of_ble_eq_true rfl) rfl ?_
  refine r_drop (loc' := [(0, .ref 42), (1, .int a1), (2, .int a2), (3, .int 0)]) [1, 2, 3, 0] rfl ?_
  exact qX2_reduce_2 hN FU a1 a2 0 w h
theorem mX2_reduce {q : Gq} {l : Launch} {N : Option Value → Wd → Prop} {X : String → Wd → Prop} {a1 : Int32} {a2 : Int32} {w : Wd} {u : Wd} (h : fX2_reduce a1 a2 w = some u) (hN : N none u) : Ct (GA q) l 6 yX2_reduce cX2_reduce 6 (none) [.ref 42, .int a1, .int a2] w N X := Ct.of (by decide) (Nat.le_of_ble_eq_true rfl) (pX2_reduce hN h)
/-! AlgolMill$Expressions.between (I)Z: O, 7 -/
theorem dX2_between_0 : decode cX2_between 0 = .ok (.aload_n 0, 1) := by decide +kernel
theorem dX2_between_1 : decode cX2_between 1 = .ok (.getfield 26, 3) := by decide +kernel
theorem dX2_between_4 : decode cX2_between 4 = .ok (.invokevirtual 75, 3) := by decide +kernel
theorem dX2_between_7 : decode cX2_between 7 = .ok (.istore_n 2, 1) := by decide +kernel
theorem dX2_between_8 : decode cX2_between 8 = .ok (.iload_n 2, 1) := by decide +kernel
theorem dX2_between_9 : decode cX2_between 9 = .ok (.bipush 29, 2) := by decide +kernel
theorem dX2_between_11 : decode cX2_between 11 = .ok (.if_icmp .ne 7, 3) := by decide +kernel
theorem dX2_between_14 : decode cX2_between 14 = .ok (.iconst 0, 1) := by decide +kernel
theorem dX2_between_15 : decode cX2_between 15 = .ok (.goto 7, 3) := by decide +kernel
theorem dX2_between_18 : decode cX2_between 18 = .ok (.iload_n 2, 1) := by decide +kernel
theorem dX2_between_19 : decode cX2_between 19 = .ok (.invokestatic 126, 3) := by decide +kernel
theorem dX2_between_22 : decode cX2_between 22 = .ok (.istore_n 3, 1) := by decide +kernel
theorem dX2_between_23 : decode cX2_between 23 = .ok (.iload_n 3, 1) := by decide +kernel
theorem dX2_between_24 : decode cX2_between 24 = .ok (.bipush 6, 2) := by decide +kernel
theorem dX2_between_26 : decode cX2_between 26 = .ok (.if_icmp .ne 8, 3) := by decide +kernel
theorem dX2_between_29 : decode cX2_between 29 = .ok (.bipush 7, 2) := by decide +kernel
theorem dX2_between_31 : decode cX2_between 31 = .ok (.goto 4, 3) := by decide +kernel
theorem dX2_between_34 : decode cX2_between 34 = .ok (.iload_n 3, 1) := by decide +kernel
theorem dX2_between_35 : decode cX2_between 35 = .ok (.istore 4, 2) := by decide +kernel
theorem dX2_between_37 : decode cX2_between 37 = .ok (.aload_n 0, 1) := by decide +kernel
theorem dX2_between_38 : decode cX2_between 38 = .ok (.iload_n 1, 1) := by decide +kernel
theorem dX2_between_39 : decode cX2_between 39 = .ok (.iload 4, 2) := by decide +kernel
theorem dX2_between_41 : decode cX2_between 41 = .ok (.invokevirtual 129, 3) := by decide +kernel
theorem dX2_between_44 : decode cX2_between 44 = .ok (.iload_n 3, 1) := by decide +kernel
theorem dX2_between_45 : decode cX2_between 45 = .ok (.ifCond .eq 15, 3) := by decide +kernel
theorem dX2_between_48 : decode cX2_between 48 = .ok (.iload_n 3, 1) := by decide +kernel
theorem dX2_between_49 : decode cX2_between 49 = .ok (.aload_n 0, 1) := by decide +kernel
theorem dX2_between_50 : decode cX2_between 50 = .ok (.getfield 10, 3) := by decide +kernel
theorem dX2_between_53 : decode cX2_between 53 = .ok (.iload_n 1, 1) := by decide +kernel
theorem dX2_between_54 : decode cX2_between 54 = .ok (.invokevirtual 117, 3) := by decide +kernel
theorem dX2_between_57 : decode cX2_between 57 = .ok (.if_icmp .ne 11, 3) := by decide +kernel
theorem dX2_between_60 : decode cX2_between 60 = .ok (.aload_n 0, 1) := by decide +kernel
theorem dX2_between_61 : decode cX2_between 61 = .ok (.iload_n 1, 1) := by decide +kernel
theorem dX2_between_62 : decode cX2_between 62 = .ok (.iconst 0, 1) := by decide +kernel
theorem dX2_between_63 : decode cX2_between 63 = .ok (.invokevirtual 129, 3) := by decide +kernel
theorem dX2_between_66 : decode cX2_between 66 = .ok (.iconst 0, 1) := by decide +kernel
theorem dX2_between_67 : decode cX2_between 67 = .ok (.ireturn, 1) := by decide +kernel
theorem dX2_between_68 : decode cX2_between 68 = .ok (.aload_n 0, 1) := by decide +kernel
theorem dX2_between_69 : decode cX2_between 69 = .ok (.getfield 10, 3) := by decide +kernel
theorem dX2_between_72 : decode cX2_between 72 = .ok (.iload_n 2, 1) := by decide +kernel
theorem dX2_between_73 : decode cX2_between 73 = .ok (.aload_n 0, 1) := by decide +kernel
theorem dX2_between_74 : decode cX2_between 74 = .ok (.getfield 26, 3) := by decide +kernel
theorem dX2_between_77 : decode cX2_between 77 = .ok (.invokevirtual 40, 3) := by decide +kernel
theorem dX2_between_80 : decode cX2_between 80 = .ok (.invokevirtual 120, 3) := by decide +kernel
theorem dX2_between_83 : decode cX2_between 83 = .ok (.aload_n 0, 1) := by decide +kernel
theorem dX2_between_84 : decode cX2_between 84 = .ok (.getfield 26, 3) := by decide +kernel
theorem dX2_between_87 : decode cX2_between 87 = .ok (.iload_n 2, 1) := by decide +kernel
theorem dX2_between_88 : decode cX2_between 88 = .ok (.invokevirtual 123, 3) := by decide +kernel
theorem dX2_between_91 : decode cX2_between 91 = .ok (.pop, 1) := by decide +kernel
theorem dX2_between_92 : decode cX2_between 92 = .ok (.iconst 1, 1) := by decide +kernel
theorem dX2_between_93 : decode cX2_between 93 = .ok (.ireturn, 1) := by decide +kernel
def fX2_between_35 (s0 : Int32) (a1 : Int32) (a2 : Int32) (a3 : Int32) (w : Wd) : Option (Bool × Wd) :=
  bn (fX2_reduce a1 s0 w) fun w1 => if a3 = 0 then (bn (fX2_reduce a1 0 w1) fun w3 => some (false, w3)) else (lt (fX10_strongest a1 w1) fun x4 => if a3 = x4 then (bn (fX2_reduce a1 0 w1) fun w6 => some (false, w6)) else (lt (fX9_at w1) fun x7 => lt (fX10_hold a2 x7 w1) fun w8 => lt2 (fX9_take a2 w8) fun x9 w10 => some (true, w10)))
theorem pX2_between_35 {q : Gq} {l : Launch} {N : Option Value → Wd → Prop} {X : String → Wd → Prop} {w : Wd} {R : Bool × Wd} (hN : N (some (.int (b2i R.1))) R.2) {s0 : Int32} {a1 : Int32} {a2 : Int32} {a3 : Int32} (h : fX2_between_35 s0 a1 a2 a3 w = some R) : RT (GA q) l 7 yX2_between cX2_between 5 ((some .boolean)) N X 35 [.int s0] [(0, .ref 42), (1, .int a1), (2, .int a2), (3, .int a3)] w := by
  unfold fX2_between_35 at h
  refine r_istore (pc := 35) (loc' := [(4, .int s0), (0, .ref 42), (1, .int a1), (2, .int a2), (3, .int a3)]) dX2_between_35 (Nat.le_of_ble_eq_true rfl) rfl ?_
  refine r_aload_n (pc := 37) dX2_between_37 rfl 1 rfl ?_
  refine r_iload_n (pc := 38) dX2_between_38 rfl 2 rfl ?_
  refine r_iload (pc := 39) dX2_between_39 0 rfl ?_
  replace h := bn_e h; obtain ⟨w1, ew1, h⟩ := h
  refine r_cVv (pc := 41) wyX2_reduce oA42 rfl mlRX2_129 iyX2_reduce syX2_reduce ⟨(Nat.le_of_ble_eq_true rfl), (Nat.le_of_ble_eq_true rfl)⟩ rfl rfl (Nat.le_of_ble_eq_true rfl) dX2_between_41 (mX2_reduce ew1 (pV.mk ?_))
  refine r_iload_n (pc := 44) dX2_between_44 rfl 4 rfl ?_
  refine r_if_eq (pc := 45) dX2_between_45 rfl (fun hc2 => ?_) (fun hc2 => ?_)
  · replace h := if_t hc2 h
    refine r_aload_n (pc := 60) dX2_between_60 rfl 1 rfl ?_
    refine r_iload_n (pc := 61) dX2_between_61 rfl 2 rfl ?_
    refine r_iconst (pc := 62) dX2_between_62 ki_0 ?_
    replace h := bn_e h; obtain ⟨w3, ew3, h⟩ := h
    refine r_cVv (pc := 63) wyX2_reduce oA42 rfl mlRX2_129 iyX2_reduce syX2_reduce ⟨(Nat.le_of_ble_eq_true rfl), (Nat.le_of_ble_eq_true rfl)⟩ rfl rfl (Nat.le_of_ble_eq_true rfl) dX2_between_63 (mX2_reduce ew3 (pV.mk ?_))
    refine r_iconst (pc := 66) dX2_between_66 ki_0 ?_
    exact rO_z (pc := 67) (x := false) rfl dX2_between_67 h hN
  replace h := if_f hc2 h
  refine r_iload_n (pc := 48) dX2_between_48 rfl 4 rfl ?_
  refine r_aload_n (pc := 49) dX2_between_49 rfl 1 rfl ?_
  refine r_get (pc := 50) (j := 4) (v := .ref 43) oA42 cf2 flRX2_10 rfl dX2_between_50 rfl ?_
  refine r_iload_n (pc := 53) dX2_between_53 rfl 2 rfl ?_
  replace h := lt_e h; obtain ⟨x4, ex4, h⟩ := h
  refine r_cVi (pc := 54) wyX10_strongest oA43 rfl mlRX2_117 iyX10_strongest syX10_strongest ⟨(Nat.le_of_ble_eq_true rfl), (Nat.le_of_ble_eq_true rfl)⟩ rfl rfl (Nat.le_of_ble_eq_true rfl) dX2_between_54 (mX10_strongest ex4 (pI.mk ?_))
  refine r_icmp_ne (pc := 57) dX2_between_57 rfl (fun hc5 => ?_) (fun hc5 => ?_)
  · replace h := if_f hc5 h
    refine r_aload_n (pc := 68) dX2_between_68 rfl 1 rfl ?_
    refine r_get (pc := 69) (j := 4) (v := .ref 43) oA42 cf2 flRX2_10 rfl dX2_between_69 rfl ?_
    refine r_iload_n (pc := 72) dX2_between_72 rfl 3 rfl ?_
    refine r_aload_n (pc := 73) dX2_between_73 rfl 1 rfl ?_
    refine r_get (pc := 74) (j := 1) (v := .ref 4) oA42 cf2 flRX2_26 rfl dX2_between_74 rfl ?_
    replace h := lt_e h; obtain ⟨x7, ex7, h⟩ := h
    refine r_cVi (pc := 77) wyX9_at oA4 rfl mlRX2_40 iyX9_at syX9_at ⟨(Nat.le_of_ble_eq_true rfl), (Nat.le_of_ble_eq_true rfl)⟩ rfl rfl (Nat.le_of_ble_eq_true rfl) dX2_between_77 (mX9_at ex7 (pI.mk ?_))
    replace h := lt_e h; obtain ⟨w8, ew8, h⟩ := h
    refine r_cVv (pc := 80) wyX10_hold oA43 rfl mlRX2_120 iyX10_hold syX10_hold ⟨(Nat.le_of_ble_eq_true rfl), (Nat.le_of_ble_eq_true rfl)⟩ rfl rfl (Nat.le_of_ble_eq_true rfl) dX2_between_80 (mX10_hold ew8 (pV.mk ?_))
    refine r_aload_n (pc := 83) dX2_between_83 rfl 1 rfl ?_
    refine r_get (pc := 84) (j := 1) (v := .ref 4) oA42 cf2 flRX2_26 rfl dX2_between_84 rfl ?_
    refine r_iload_n (pc := 87) dX2_between_87 rfl 3 rfl ?_
    replace h := lt2_e h; obtain ⟨x9, w10, ew10, h⟩ := h
    refine r_cVi (pc := 88) wyX9_take oA4 rfl mlRX2_123 iyX9_take syX9_take ⟨(Nat.le_of_ble_eq_true rfl), (Nat.le_of_ble_eq_true rfl)⟩ rfl rfl (Nat.le_of_ble_eq_true rfl) dX2_between_88 (mX9_take ew10 (pI.mk ?_))
    refine r_pop (pc := 91) dX2_between_91 rfl ?_
    refine r_iconst (pc := 92) dX2_between_92 ki_1 ?_
    exact rO_z (pc := 93) (x := true) rfl dX2_between_93 h hN
  replace h := if_t hc5 h
  refine r_aload_n (pc := 60) dX2_between_60 rfl 1 rfl ?_
  refine r_iload_n (pc := 61) dX2_between_61 rfl 2 rfl ?_
  refine r_iconst (pc := 62) dX2_between_62 ki_0 ?_
  replace h := bn_e h; obtain ⟨w6, ew6, h⟩ := h
  refine r_cVv (pc := 63) wyX2_reduce oA42 rfl mlRX2_129 iyX2_reduce syX2_reduce ⟨(Nat.le_of_ble_eq_true rfl), (Nat.le_of_ble_eq_true rfl)⟩ rfl rfl (Nat.le_of_ble_eq_true rfl) dX2_between_63 (mX2_reduce ew6 (pV.mk ?_))
  refine r_iconst (pc := 66) dX2_between_66 ki_0 ?_
  exact rO_z (pc := 67) (x := false) rfl dX2_between_67 h hN
def fX2_between (a1 : Int32) (w : Wd) : Option (Bool × Wd) :=
  lt (fX9_kind w) fun x1 => if x1 = 29 then (if (0 : Int32) = 6 then (fX2_between_35 7 a1 x1 0 w) else (fX2_between_35 0 a1 x1 0 w)) else (lt (fX10_strength x1 w) fun x4 => if x4 = 6 then (fX2_between_35 7 a1 x1 x4 w) else (fX2_between_35 x4 a1 x1 x4 w))
theorem pX2_between {q : Gq} {l : Launch} {N : Option Value → Wd → Prop} {X : String → Wd → Prop} {w : Wd} {R : Bool × Wd} (hN : N (some (.int (b2i R.1))) R.2) {a1 : Int32} (h : fX2_between a1 w = some R) : RT (GA q) l 7 yX2_between cX2_between 5 ((some .boolean)) N X 0 [] [(0, .ref 42), (1, .int a1)] w := by
  unfold fX2_between at h
  refine r_aload_n (pc := 0) dX2_between_0 rfl 0 rfl ?_
  refine r_get (pc := 1) (j := 1) (v := .ref 4) oA42 cf2 flRX2_26 rfl dX2_between_1 rfl ?_
  replace h := lt_e h; obtain ⟨x1, ex1, h⟩ := h
  refine r_cVi (pc := 4) wyX9_kind oA4 rfl mlRX2_75 iyX9_kind syX9_kind ⟨(Nat.le_of_ble_eq_true rfl), (Nat.le_of_ble_eq_true rfl)⟩ rfl rfl (Nat.le_of_ble_eq_true rfl) dX2_between_4 (mX9_kind ex1 (pI.mk ?_))
  refine r_istore_n (pc := 7) (loc' := [(2, .int x1), (0, .ref 42), (1, .int a1)]) dX2_between_7 rfl (Nat.le_of_ble_eq_true rfl) rfl ?_
  refine r_iload_n (pc := 8) dX2_between_8 rfl 0 rfl ?_
  refine r_bipush (pc := 9) dX2_between_9 kb_29 ?_
  refine r_icmp_ne (pc := 11) dX2_between_11 rfl (fun hc2 => ?_) (fun hc2 => ?_)
  · replace h := if_f hc2 h
    refine r_iload_n (pc := 18) dX2_between_18 rfl 0 rfl ?_
    replace h := lt_e h; obtain ⟨x4, ex4, h⟩ := h
    refine r_cSi (pc := 19) wyX10_strength mlRX2_126 tyX10_strength ⟨(Nat.le_of_ble_eq_true rfl), (Nat.le_of_ble_eq_true rfl)⟩ rfl rfl (Nat.le_of_ble_eq_true rfl) dX2_between_19 (mX10_strength ex4 (pI.mk ?_))
    refine r_istore_n (pc := 22) (loc' := [(3, .int x4), (2, .int x1), (0, .ref 42), (1, .int a1)]) dX2_between_22 rfl (Nat.le_of_ble_eq_true rfl) rfl ?_
    refine r_iload_n (pc := 23) dX2_between_23 rfl 0 rfl ?_
    refine r_bipush (pc := 24) dX2_between_24 kb_6 ?_
    refine r_icmp_ne (pc := 26) dX2_between_26 rfl (fun hc5 => ?_) (fun hc5 => ?_)
    · replace h := if_f hc5 h
      refine r_iload_n (pc := 34) dX2_between_34 rfl 0 rfl ?_
      refine r_drop (loc' := [(0, .ref 42), (1, .int a1), (2, .int x1), (3, .int x4)]) [2, 3, 1, 0] rfl ?_
      exact pX2_between_35 hN h
    replace h := if_t hc5 h
    refine r_bipush (pc := 29) dX2_between_29 kb_7 ?_
    refine r_goto (pc := 31) dX2_between_31 rfl ?_
    refine r_drop (loc' := [(0, .ref 42), (1, .int a1), (2, .int x1), (3, .int x4)]) [2, 3, 1, 0] rfl ?_
    exact pX2_between_35 hN h
  replace h := if_t hc2 h
  refine r_iconst (pc := 14) dX2_between_14 ki_0 ?_
  refine r_goto (pc := 15) dX2_between_15 rfl ?_
  refine r_istore_n (pc := 22) (loc' := [(3, .int 0), (2, .int x1), (0, .ref 42), (1, .int a1)]) dX2_between_22 rfl (Nat.le_of_ble_eq_true rfl) rfl ?_
  refine r_iload_n (pc := 23) dX2_between_23 rfl 0 rfl ?_
  refine r_bipush (pc := 24) dX2_between_24 kb_6 ?_
  refine r_icmp_ne (pc := 26) dX2_between_26 rfl (fun hc3 => ?_) (fun hc3 => ?_)
  · replace h := if_f hc3 h
    refine r_iload_n (pc := 34) dX2_between_34 rfl 0 rfl ?_
    refine r_drop (loc' := [(0, .ref 42), (1, .int a1), (2, .int x1), (3, .int 0)]) [2, 3, 1, 0] rfl ?_
    exact pX2_between_35 hN h
  replace h := if_t hc3 h
  refine r_bipush (pc := 29) dX2_between_29 kb_7 ?_
  refine r_goto (pc := 31) dX2_between_31 rfl ?_
  refine r_drop (loc' := [(0, .ref 42), (1, .int a1), (2, .int x1), (3, .int 0)]) [2, 3, 1, 0] rfl ?_
  exact pX2_between_35 hN h
theorem mX2_between {q : Gq} {l : Launch} {N : Option Value → Wd → Prop} {X : String → Wd → Prop} {a1 : Int32} {w : Wd} {x : Bool} {u : Wd} (h : fX2_between a1 w = some (x, u)) (hN : N (some (.int (b2i x))) u) : Ct (GA q) l 7 yX2_between cX2_between 5 ((some .boolean)) [.ref 42, .int a1] w N X := Ct.of (by decide) (Nat.le_of_ble_eq_true rfl) (pX2_between hN h)
/-! AlgolMill$Expressions.typeIf (II)I: P, 2 -/
theorem dX2_typeIf_0 : decode cX2_typeIf 0 = .ok (.aload_n 0, 1) := by decide +kernel
theorem dX2_typeIf_1 : decode cX2_typeIf 1 = .ok (.getfield 31, 3) := by decide +kernel
theorem dX2_typeIf_4 : decode cX2_typeIf 4 = .ok (.iload_n 1, 1) := by decide +kernel
theorem dX2_typeIf_5 : decode cX2_typeIf 5 = .ok (.invokevirtual 180, 3) := by decide +kernel
theorem dX2_typeIf_8 : decode cX2_typeIf 8 = .ok (.iload_n 2, 1) := by decide +kernel
theorem dX2_typeIf_9 : decode cX2_typeIf 9 = .ok (.if_icmp .ne 14, 3) := by decide +kernel
theorem dX2_typeIf_12 : decode cX2_typeIf 12 = .ok (.aload_n 0, 1) := by decide +kernel
theorem dX2_typeIf_13 : decode cX2_typeIf 13 = .ok (.getfield 31, 3) := by decide +kernel
theorem dX2_typeIf_16 : decode cX2_typeIf 16 = .ok (.iload_n 1, 1) := by decide +kernel
theorem dX2_typeIf_17 : decode cX2_typeIf 17 = .ok (.invokevirtual 183, 3) := by decide +kernel
theorem dX2_typeIf_20 : decode cX2_typeIf 20 = .ok (.goto 4, 3) := by decide +kernel
theorem dX2_typeIf_23 : decode cX2_typeIf 23 = .ok (.iconst 0, 1) := by decide +kernel
theorem dX2_typeIf_24 : decode cX2_typeIf 24 = .ok (.ireturn, 1) := by decide +kernel
def fX2_typeIf (a1 : Int32) (a2 : Int32) (w : Wd) : Int32 :=
  lt (fX8_sort a1 w) fun x1 => if x1 = a2 then (lt (fX8_type a1 w) fun x3 => x3) else (0)
theorem pX2_typeIf {q : Gq} {l : Launch} {N : Option Value → Wd → Prop} {X : String → Wd → Prop} {w : Wd} {R : Int32} (hN : N (some (.int R)) w) {a1 : Int32} {a2 : Int32} (h : fX2_typeIf a1 a2 w = R) : RT (GA q) l 2 yX2_typeIf cX2_typeIf 3 ((some .int)) N X 0 [] [(0, .ref 42), (1, .int a1), (2, .int a2)] w := by
  unfold fX2_typeIf at h
  refine r_aload_n (pc := 0) dX2_typeIf_0 rfl 0 rfl ?_
  refine r_get (pc := 1) (j := 2) (v := .ref 13) oA42 cf2 flRX2_31 rfl dX2_typeIf_1 rfl ?_
  refine r_iload_n (pc := 4) dX2_typeIf_4 rfl 1 rfl ?_
  replace h := lt_e h; obtain ⟨x1, ex1, h⟩ := h
  refine r_cVi (pc := 5) wyX8_sort oA13 rfl mlRX2_180 iyX8_sort syX8_sort ⟨(Nat.le_of_ble_eq_true rfl), (Nat.le_of_ble_eq_true rfl)⟩ rfl rfl (Nat.le_of_ble_eq_true rfl) dX2_typeIf_5 (mX8_sort ex1 (pI.mk ?_))
  refine r_iload_n (pc := 8) dX2_typeIf_8 rfl 2 rfl ?_
  refine r_icmp_ne (pc := 9) dX2_typeIf_9 rfl (fun hc2 => ?_) (fun hc2 => ?_)
  · replace h := if_f hc2 h
    refine r_iconst (pc := 23) dX2_typeIf_23 ki_0 ?_
    exact rP_i (pc := 24) rfl dX2_typeIf_24 h hN
  replace h := if_t hc2 h
  refine r_aload_n (pc := 12) dX2_typeIf_12 rfl 0 rfl ?_
  refine r_get (pc := 13) (j := 2) (v := .ref 13) oA42 cf2 flRX2_31 rfl dX2_typeIf_13 rfl ?_
  refine r_iload_n (pc := 16) dX2_typeIf_16 rfl 1 rfl ?_
  replace h := lt_e h; obtain ⟨x3, ex3, h⟩ := h
  refine r_cVi (pc := 17) wyX8_type oA13 rfl mlRX2_183 iyX8_type syX8_type ⟨(Nat.le_of_ble_eq_true rfl), (Nat.le_of_ble_eq_true rfl)⟩ rfl rfl (Nat.le_of_ble_eq_true rfl) dX2_typeIf_17 (mX8_type ex3 (pI.mk ?_))
  refine r_goto (pc := 20) dX2_typeIf_20 rfl ?_
  exact rP_i (pc := 24) rfl dX2_typeIf_24 h hN
theorem mX2_typeIf {q : Gq} {l : Launch} {N : Option Value → Wd → Prop} {X : String → Wd → Prop} {a1 : Int32} {a2 : Int32} {w : Wd} {x : Int32} (h : fX2_typeIf a1 a2 w = x) (hN : N (some (.int x)) w) : Ct (GA q) l 2 yX2_typeIf cX2_typeIf 3 ((some .int)) [.ref 42, .int a1, .int a2] w N X := Ct.of (by decide) (Nat.le_of_ble_eq_true rfl) (pX2_typeIf hN h)
/-! AlgolMill$Expressions.use (II)V: S, 4 -/
theorem dX2_use_0 : decode cX2_use 0 = .ok (.aload_n 0, 1) := by decide +kernel
theorem dX2_use_1 : decode cX2_use 1 = .ok (.getfield 36, 3) := by decide +kernel
theorem dX2_use_4 : decode cX2_use 4 = .ok (.bipush 21, 2) := by decide +kernel
theorem dX2_use_6 : decode cX2_use 6 = .ok (.aload_n 0, 1) := by decide +kernel
theorem dX2_use_7 : decode cX2_use 7 = .ok (.getfield 16, 3) := by decide +kernel
theorem dX2_use_10 : decode cX2_use 10 = .ok (.iload_n 1, 1) := by decide +kernel
theorem dX2_use_11 : decode cX2_use 11 = .ok (.invokevirtual 203, 3) := by decide +kernel
theorem dX2_use_14 : decode cX2_use 14 = .ok (.aload_n 0, 1) := by decide +kernel
theorem dX2_use_15 : decode cX2_use 15 = .ok (.getfield 31, 3) := by decide +kernel
theorem dX2_use_18 : decode cX2_use 18 = .ok (.iload_n 1, 1) := by decide +kernel
theorem dX2_use_19 : decode cX2_use 19 = .ok (.invokevirtual 206, 3) := by decide +kernel
theorem dX2_use_22 : decode cX2_use 22 = .ok (.invokevirtual 209, 3) := by decide +kernel
theorem dX2_use_25 : decode cX2_use 25 = .ok (.pop, 1) := by decide +kernel
theorem dX2_use_26 : decode cX2_use 26 = .ok (.aload_n 0, 1) := by decide +kernel
theorem dX2_use_27 : decode cX2_use 27 = .ok (.getfield 36, 3) := by decide +kernel
theorem dX2_use_30 : decode cX2_use 30 = .ok (.bipush 44, 2) := by decide +kernel
theorem dX2_use_32 : decode cX2_use 32 = .ok (.iload_n 2, 1) := by decide +kernel
theorem dX2_use_33 : decode cX2_use 33 = .ok (.invokevirtual 211, 3) := by decide +kernel
theorem dX2_use_36 : decode cX2_use 36 = .ok (.pop, 1) := by decide +kernel
theorem dX2_use_37 : decode cX2_use 37 = .ok (.return_, 1) := by decide +kernel
def fX2_use (a1 : Int32) (a2 : Int32) (w : Wd) : Wd :=
  lt (fX1_hops a1 w) fun x1 => lt (fX8_slot a1 w) fun x2 => lt2 (fX0_put 21 x1 x2 w) fun x3 w4 => lt2 (fX0_put_ 44 a2 w4) fun x5 w6 => w6
theorem pX2_use {q : Gq} {l : Launch} {N : Option Value → Wd → Prop} {X : String → Wd → Prop} {w : Wd} {R : Wd} (hN : N none R) {a1 : Int32} {a2 : Int32} (h : fX2_use a1 a2 w = R) : RT (GA q) l 4 yX2_use cX2_use 3 (none) N X 0 [] [(0, .ref 42), (1, .int a1), (2, .int a2)] w := by
  unfold fX2_use at h
  refine r_aload_n (pc := 0) dX2_use_0 rfl 0 rfl ?_
  refine r_get (pc := 1) (j := 3) (v := .ref 40) oA42 cf2 flRX2_36 rfl dX2_use_1 rfl ?_
  refine r_bipush (pc := 4) dX2_use_4 kb_21 ?_
  refine r_aload_n (pc := 6) dX2_use_6 rfl 0 rfl ?_
  refine r_get (pc := 7) (j := 0) (v := .ref 3) oA42 cf2 flRX2_16 rfl dX2_use_7 rfl ?_
  refine r_iload_n (pc := 10) dX2_use_10 rfl 1 rfl ?_
  replace h := lt_e h; obtain ⟨x1, ex1, h⟩ := h
  refine r_cVi (pc := 11) wyX1_hops oA3 rfl mlRX2_203 iyX1_hops syX1_hops ⟨(Nat.le_of_ble_eq_true rfl), (Nat.le_of_ble_eq_true rfl)⟩ rfl rfl (Nat.le_of_ble_eq_true rfl) dX2_use_11 (mX1_hops ex1 (pI.mk ?_))
  refine r_aload_n (pc := 14) dX2_use_14 rfl 0 rfl ?_
  refine r_get (pc := 15) (j := 2) (v := .ref 13) oA42 cf2 flRX2_31 rfl dX2_use_15 rfl ?_
  refine r_iload_n (pc := 18) dX2_use_18 rfl 1 rfl ?_
  replace h := lt_e h; obtain ⟨x2, ex2, h⟩ := h
  refine r_cVi (pc := 19) wyX8_slot oA13 rfl mlRX2_206 iyX8_slot syX8_slot ⟨(Nat.le_of_ble_eq_true rfl), (Nat.le_of_ble_eq_true rfl)⟩ rfl rfl (Nat.le_of_ble_eq_true rfl) dX2_use_19 (mX8_slot ex2 (pI.mk ?_))
  replace h := lt2_e h; obtain ⟨x3, w4, ew4, h⟩ := h
  refine r_cVi (pc := 22) wyX0_put oA40 rfl mlRX2_209 iyX0_put syX0_put ⟨(Nat.le_of_ble_eq_true rfl), (Nat.le_of_ble_eq_true rfl)⟩ rfl rfl (Nat.le_of_ble_eq_true rfl) dX2_use_22 (mX0_put ew4 (pI.mk ?_))
  refine r_pop (pc := 25) dX2_use_25 rfl ?_
  refine r_aload_n (pc := 26) dX2_use_26 rfl 0 rfl ?_
  refine r_get (pc := 27) (j := 3) (v := .ref 40) oA42 cf2 flRX2_36 rfl dX2_use_27 rfl ?_
  refine r_bipush (pc := 30) dX2_use_30 kb_44 ?_
  refine r_iload_n (pc := 32) dX2_use_32 rfl 2 rfl ?_
  replace h := lt2_e h; obtain ⟨x5, w6, ew6, h⟩ := h
  refine r_cVi (pc := 33) wyX0_put_ oA40 rfl mlRX2_211 iyX0_put_ syX0_put_ ⟨(Nat.le_of_ble_eq_true rfl), (Nat.le_of_ble_eq_true rfl)⟩ rfl rfl (Nat.le_of_ble_eq_true rfl) dX2_use_33 (mX0_put_ ew6 (pI.mk ?_))
  refine r_pop (pc := 36) dX2_use_36 rfl ?_
  exact rS_v (pc := 37) rfl dX2_use_37 h hN
theorem mX2_use {q : Gq} {l : Launch} {N : Option Value → Wd → Prop} {X : String → Wd → Prop} {a1 : Int32} {a2 : Int32} {w : Wd} {u : Wd} (h : fX2_use a1 a2 w = u) (hN : N none u) : Ct (GA q) l 4 yX2_use cX2_use 3 (none) [.ref 42, .int a1, .int a2] w N X := Ct.of (by decide) (Nat.le_of_ble_eq_true rfl) (pX2_use hN h)
/-! AlgolMill$Expressions.variable (II)V: S, 5 -/
theorem dX2_variable_0 : decode cX2_variable 0 = .ok (.aload_n 0, 1) := by decide +kernel
theorem dX2_variable_1 : decode cX2_variable 1 = .ok (.getfield 16, 3) := by decide +kernel
theorem dX2_variable_4 : decode cX2_variable 4 = .ok (.iload_n 1, 1) := by decide +kernel
theorem dX2_variable_5 : decode cX2_variable 5 = .ok (.iconst 1, 1) := by decide +kernel
theorem dX2_variable_6 : decode cX2_variable 6 = .ok (.invokevirtual 193, 3) := by decide +kernel
theorem dX2_variable_9 : decode cX2_variable 9 = .ok (.ifCond .ne 12, 3) := by decide +kernel
theorem dX2_variable_12 : decode cX2_variable 12 = .ok (.aload_n 0, 1) := by decide +kernel
theorem dX2_variable_13 : decode cX2_variable 13 = .ok (.getfield 16, 3) := by decide +kernel
theorem dX2_variable_16 : decode cX2_variable 16 = .ok (.iload_n 2, 1) := by decide +kernel
theorem dX2_variable_17 : decode cX2_variable 17 = .ok (.iconst 4, 1) := by decide +kernel
theorem dX2_variable_18 : decode cX2_variable 18 = .ok (.invokevirtual 184, 3) := by decide +kernel
theorem dX2_variable_21 : decode cX2_variable 21 = .ok (.aload_n 0, 1) := by decide +kernel
theorem dX2_variable_22 : decode cX2_variable 22 = .ok (.getfield 31, 3) := by decide +kernel
theorem dX2_variable_25 : decode cX2_variable 25 = .ok (.iload_n 1, 1) := by decide +kernel
theorem dX2_variable_26 : decode cX2_variable 26 = .ok (.invokevirtual 197, 3) := by decide +kernel
theorem dX2_variable_29 : decode cX2_variable 29 = .ok (.ifCond .eq 12, 3) := by decide +kernel
theorem dX2_variable_32 : decode cX2_variable 32 = .ok (.aload_n 0, 1) := by decide +kernel
theorem dX2_variable_33 : decode cX2_variable 33 = .ok (.iload_n 1, 1) := by decide +kernel
theorem dX2_variable_34 : decode cX2_variable 34 = .ok (.iconst 0, 1) := by decide +kernel
theorem dX2_variable_35 : decode cX2_variable 35 = .ok (.invokevirtual 200, 3) := by decide +kernel
theorem dX2_variable_38 : decode cX2_variable 38 = .ok (.goto 29, 3) := by decide +kernel
theorem dX2_variable_41 : decode cX2_variable 41 = .ok (.aload_n 0, 1) := by decide +kernel
theorem dX2_variable_42 : decode cX2_variable 42 = .ok (.getfield 36, 3) := by decide +kernel
theorem dX2_variable_45 : decode cX2_variable 45 = .ok (.bipush 19, 2) := by decide +kernel
theorem dX2_variable_47 : decode cX2_variable 47 = .ok (.aload_n 0, 1) := by decide +kernel
theorem dX2_variable_48 : decode cX2_variable 48 = .ok (.getfield 16, 3) := by decide +kernel
theorem dX2_variable_51 : decode cX2_variable 51 = .ok (.iload_n 1, 1) := by decide +kernel
theorem dX2_variable_52 : decode cX2_variable 52 = .ok (.invokevirtual 203, 3) := by decide +kernel
theorem dX2_variable_55 : decode cX2_variable 55 = .ok (.aload_n 0, 1) := by decide +kernel
theorem dX2_variable_56 : decode cX2_variable 56 = .ok (.getfield 31, 3) := by decide +kernel
theorem dX2_variable_59 : decode cX2_variable 59 = .ok (.iload_n 1, 1) := by decide +kernel
theorem dX2_variable_60 : decode cX2_variable 60 = .ok (.invokevirtual 206, 3) := by decide +kernel
theorem dX2_variable_63 : decode cX2_variable 63 = .ok (.invokevirtual 209, 3) := by decide +kernel
theorem dX2_variable_66 : decode cX2_variable 66 = .ok (.pop, 1) := by decide +kernel
theorem dX2_variable_67 : decode cX2_variable 67 = .ok (.return_, 1) := by decide +kernel
def fX2_variable_21 (a1 : Int32) (w : Wd) : Wd :=
  lt (fX8_isFormal a1 w) fun x1 => if x1 = true then (lt (fX2_use a1 0 w) fun w3 => w3) else (lt (fX1_hops a1 w) fun x4 => lt (fX8_slot a1 w) fun x5 => lt2 (fX0_put 19 x4 x5 w) fun x6 w7 => w7)
theorem pX2_variable_21 {q : Gq} {l : Launch} {N : Option Value → Wd → Prop} {X : String → Wd → Prop} {w : Wd} {R : Wd} (hN : N none R) {a1 : Int32} (h : fX2_variable_21 a1 w = R) : RT (GA q) l 5 yX2_variable cX2_variable 3 (none) N X 21 [] [(0, .ref 42), (1, .int a1)] w := by
  unfold fX2_variable_21 at h
  refine r_aload_n (pc := 21) dX2_variable_21 rfl 0 rfl ?_
  refine r_get (pc := 22) (j := 2) (v := .ref 13) oA42 cf2 flRX2_31 rfl dX2_variable_22 rfl ?_
  refine r_iload_n (pc := 25) dX2_variable_25 rfl 1 rfl ?_
  replace h := lt_e h; obtain ⟨x1, ex1, h⟩ := h
  refine r_cVi (pc := 26) wyX8_isFormal oA13 rfl mlRX2_197 iyX8_isFormal syX8_isFormal ⟨(Nat.le_of_ble_eq_true rfl), (Nat.le_of_ble_eq_true rfl)⟩ rfl rfl (Nat.le_of_ble_eq_true rfl) dX2_variable_26 (mX8_isFormal ex1 (pI.mk ?_))
  refine r_z_eq (pc := 29) dX2_variable_29 rfl (fun hc2 => ?_) (fun hc2 => ?_)
  · replace h := if_f hc2 h
    refine r_aload_n (pc := 41) dX2_variable_41 rfl 0 rfl ?_
    refine r_get (pc := 42) (j := 3) (v := .ref 40) oA42 cf2 flRX2_36 rfl dX2_variable_42 rfl ?_
    refine r_bipush (pc := 45) dX2_variable_45 kb_19 ?_
    refine r_aload_n (pc := 47) dX2_variable_47 rfl 0 rfl ?_
    refine r_get (pc := 48) (j := 0) (v := .ref 3) oA42 cf2 flRX2_16 rfl dX2_variable_48 rfl ?_
    refine r_iload_n (pc := 51) dX2_variable_51 rfl 1 rfl ?_
    replace h := lt_e h; obtain ⟨x4, ex4, h⟩ := h
    refine r_cVi (pc := 52) wyX1_hops oA3 rfl mlRX2_203 iyX1_hops syX1_hops ⟨(Nat.le_of_ble_eq_true rfl), (Nat.le_of_ble_eq_true rfl)⟩ rfl rfl (Nat.le_of_ble_eq_true rfl) dX2_variable_52 (mX1_hops ex4 (pI.mk ?_))
    refine r_aload_n (pc := 55) dX2_variable_55 rfl 0 rfl ?_
    refine r_get (pc := 56) (j := 2) (v := .ref 13) oA42 cf2 flRX2_31 rfl dX2_variable_56 rfl ?_
    refine r_iload_n (pc := 59) dX2_variable_59 rfl 1 rfl ?_
    replace h := lt_e h; obtain ⟨x5, ex5, h⟩ := h
    refine r_cVi (pc := 60) wyX8_slot oA13 rfl mlRX2_206 iyX8_slot syX8_slot ⟨(Nat.le_of_ble_eq_true rfl), (Nat.le_of_ble_eq_true rfl)⟩ rfl rfl (Nat.le_of_ble_eq_true rfl) dX2_variable_60 (mX8_slot ex5 (pI.mk ?_))
    replace h := lt2_e h; obtain ⟨x6, w7, ew7, h⟩ := h
    refine r_cVi (pc := 63) wyX0_put oA40 rfl mlRX2_209 iyX0_put syX0_put ⟨(Nat.le_of_ble_eq_true rfl), (Nat.le_of_ble_eq_true rfl)⟩ rfl rfl (Nat.le_of_ble_eq_true rfl) dX2_variable_63 (mX0_put ew7 (pI.mk ?_))
    refine r_pop (pc := 66) dX2_variable_66 rfl ?_
    exact rS_v (pc := 67) rfl dX2_variable_67 h hN
  replace h := if_t hc2 h
  refine r_aload_n (pc := 32) dX2_variable_32 rfl 0 rfl ?_
  refine r_iload_n (pc := 33) dX2_variable_33 rfl 1 rfl ?_
  refine r_iconst (pc := 34) dX2_variable_34 ki_0 ?_
  replace h := lt_e h; obtain ⟨w3, ew3, h⟩ := h
  refine r_cVv (pc := 35) wyX2_use oA42 rfl mlRX2_200 iyX2_use syX2_use ⟨(Nat.le_of_ble_eq_true rfl), (Nat.le_of_ble_eq_true rfl)⟩ rfl rfl (Nat.le_of_ble_eq_true rfl) dX2_variable_35 (mX2_use ew3 (pV.mk ?_))
  refine r_goto (pc := 38) dX2_variable_38 rfl ?_
  exact rS_v (pc := 67) rfl dX2_variable_67 h hN
def fX2_variable (a1 : Int32) (a2 : Int32) (w : Wd) : Wd :=
  lt (fX1_isSort a1 1 w) fun x1 => if x1 = true then (fX2_variable_21 a1 w) else (lt (fX1_wrong a2 4 w) fun w3 => fX2_variable_21 a1 w3)
theorem pX2_variable {q : Gq} {l : Launch} {N : Option Value → Wd → Prop} {X : String → Wd → Prop} {w : Wd} {R : Wd} (hN : N none R) {a1 : Int32} {a2 : Int32} (h : fX2_variable a1 a2 w = R) : RT (GA q) l 5 yX2_variable cX2_variable 3 (none) N X 0 [] [(0, .ref 42), (1, .int a1), (2, .int a2)] w := by
  unfold fX2_variable at h
  refine r_aload_n (pc := 0) dX2_variable_0 rfl 0 rfl ?_
  refine r_get (pc := 1) (j := 0) (v := .ref 3) oA42 cf2 flRX2_16 rfl dX2_variable_1 rfl ?_
  refine r_iload_n (pc := 4) dX2_variable_4 rfl 1 rfl ?_
  refine r_iconst (pc := 5) dX2_variable_5 ki_1 ?_
  replace h := lt_e h; obtain ⟨x1, ex1, h⟩ := h
  refine r_cVi (pc := 6) wyX1_isSort oA3 rfl mlRX2_193 iyX1_isSort syX1_isSort ⟨(Nat.le_of_ble_eq_true rfl), (Nat.le_of_ble_eq_true rfl)⟩ rfl rfl (Nat.le_of_ble_eq_true rfl) dX2_variable_6 (mX1_isSort ex1 (pI.mk ?_))
  refine r_z_ne (pc := 9) dX2_variable_9 rfl (fun hc2 => ?_) (fun hc2 => ?_)
  · replace h := if_t hc2 h
    refine r_drop (loc' := [(0, .ref 42), (1, .int a1)]) [0, 1] rfl ?_
    exact pX2_variable_21 hN h
  replace h := if_f hc2 h
  refine r_aload_n (pc := 12) dX2_variable_12 rfl 0 rfl ?_
  refine r_get (pc := 13) (j := 0) (v := .ref 3) oA42 cf2 flRX2_16 rfl dX2_variable_13 rfl ?_
  refine r_iload_n (pc := 16) dX2_variable_16 rfl 2 rfl ?_
  refine r_iconst (pc := 17) dX2_variable_17 ki_4 ?_
  replace h := lt_e h; obtain ⟨w3, ew3, h⟩ := h
  refine r_cVv (pc := 18) wyX1_wrong oA3 rfl mlRX2_184 iyX1_wrong syX1_wrong ⟨(Nat.le_of_ble_eq_true rfl), (Nat.le_of_ble_eq_true rfl)⟩ rfl rfl (Nat.le_of_ble_eq_true rfl) dX2_variable_18 (mX1_wrong ew3 (pV.mk ?_))
  refine r_drop (loc' := [(0, .ref 42), (1, .int a1)]) [0, 1] rfl ?_
  exact pX2_variable_21 hN h
theorem mX2_variable {q : Gq} {l : Launch} {N : Option Value → Wd → Prop} {X : String → Wd → Prop} {a1 : Int32} {a2 : Int32} {w : Wd} {u : Wd} (h : fX2_variable a1 a2 w = u) (hN : N none u) : Ct (GA q) l 5 yX2_variable cX2_variable 3 (none) [.ref 42, .int a1, .int a2] w N X := Ct.of (by decide) (Nat.le_of_ble_eq_true rfl) (pX2_variable hN h)
/-! AlgolMill$Expressions.result (IIZ)I: S, 4 -/
theorem dX2_result_0 : decode cX2_result 0 = .ok (.aload_n 0, 1) := by decide +kernel
theorem dX2_result_1 : decode cX2_result 1 = .ok (.getfield 31, 3) := by decide +kernel
theorem dX2_result_4 : decode cX2_result 4 = .ok (.iload_n 1, 1) := by decide +kernel
theorem dX2_result_5 : decode cX2_result 5 = .ok (.invokevirtual 223, 3) := by decide +kernel
theorem dX2_result_8 : decode cX2_result 8 = .ok (.iconst 1, 1) := by decide +kernel
theorem dX2_result_9 : decode cX2_result 9 = .ok (.iadd, 1) := by decide +kernel
theorem dX2_result_10 : decode cX2_result 10 = .ok (.istore 4, 2) := by decide +kernel
theorem dX2_result_12 : decode cX2_result 12 = .ok (.aload_n 0, 1) := by decide +kernel
theorem dX2_result_13 : decode cX2_result 13 = .ok (.getfield 31, 3) := by decide +kernel
theorem dX2_result_16 : decode cX2_result 16 = .ok (.iload_n 1, 1) := by decide +kernel
theorem dX2_result_17 : decode cX2_result 17 = .ok (.invokevirtual 197, 3) := by decide +kernel
theorem dX2_result_20 : decode cX2_result 20 = .ok (.ifCond .ne 23, 3) := by decide +kernel
theorem dX2_result_23 : decode cX2_result 23 = .ok (.aload_n 0, 1) := by decide +kernel
theorem dX2_result_24 : decode cX2_result 24 = .ok (.getfield 16, 3) := by decide +kernel
theorem dX2_result_27 : decode cX2_result 27 = .ok (.getfield 226, 3) := by decide +kernel
theorem dX2_result_30 : decode cX2_result 30 = .ok (.iload 4, 2) := by decide +kernel
theorem dX2_result_32 : decode cX2_result 32 = .ok (.invokevirtual 230, 3) := by decide +kernel
theorem dX2_result_35 : decode cX2_result 35 = .ok (.iload_n 1, 1) := by decide +kernel
theorem dX2_result_36 : decode cX2_result 36 = .ok (.if_icmp .ne 7, 3) := by decide +kernel
theorem dX2_result_39 : decode cX2_result 39 = .ok (.iconst 1, 1) := by decide +kernel
theorem dX2_result_40 : decode cX2_result 40 = .ok (.goto 4, 3) := by decide +kernel
theorem dX2_result_43 : decode cX2_result 43 = .ok (.iconst 0, 1) := by decide +kernel
theorem dX2_result_44 : decode cX2_result 44 = .ok (.istore 5, 2) := by decide +kernel
theorem dX2_result_46 : decode cX2_result 46 = .ok (.iload_n 3, 1) := by decide +kernel
theorem dX2_result_47 : decode cX2_result 47 = .ok (.ifCond .eq 19, 3) := by decide +kernel
theorem dX2_result_50 : decode cX2_result 50 = .ok (.iload 5, 2) := by decide +kernel
theorem dX2_result_52 : decode cX2_result 52 = .ok (.ifCond .eq 14, 3) := by decide +kernel
theorem dX2_result_55 : decode cX2_result 55 = .ok (.aload_n 0, 1) := by decide +kernel
theorem dX2_result_56 : decode cX2_result 56 = .ok (.getfield 31, 3) := by decide +kernel
theorem dX2_result_59 : decode cX2_result 59 = .ok (.iload_n 1, 1) := by decide +kernel
theorem dX2_result_60 : decode cX2_result 60 = .ok (.invokevirtual 183, 3) := by decide +kernel
theorem dX2_result_63 : decode cX2_result 63 = .ok (.ifCond .ne 14, 3) := by decide +kernel
theorem dX2_result_66 : decode cX2_result 66 = .ok (.aload_n 0, 1) := by decide +kernel
theorem dX2_result_67 : decode cX2_result 67 = .ok (.getfield 16, 3) := by decide +kernel
theorem dX2_result_70 : decode cX2_result 70 = .ok (.iload_n 2, 1) := by decide +kernel
theorem dX2_result_71 : decode cX2_result 71 = .ok (.iconst 4, 1) := by decide +kernel
theorem dX2_result_72 : decode cX2_result 72 = .ok (.invokevirtual 184, 3) := by decide +kernel
theorem dX2_result_75 : decode cX2_result 75 = .ok (.iconst 0, 1) := by decide +kernel
theorem dX2_result_76 : decode cX2_result 76 = .ok (.ireturn, 1) := by decide +kernel
theorem dX2_result_77 : decode cX2_result 77 = .ok (.aload_n 0, 1) := by decide +kernel
theorem dX2_result_78 : decode cX2_result 78 = .ok (.getfield 36, 3) := by decide +kernel
theorem dX2_result_81 : decode cX2_result 81 = .ok (.bipush 20, 2) := by decide +kernel
theorem dX2_result_83 : decode cX2_result 83 = .ok (.aload_n 0, 1) := by decide +kernel
theorem dX2_result_84 : decode cX2_result 84 = .ok (.getfield 16, 3) := by decide +kernel
theorem dX2_result_87 : decode cX2_result 87 = .ok (.getfield 226, 3) := by decide +kernel
theorem dX2_result_90 : decode cX2_result 90 = .ok (.invokevirtual 235, 3) := by decide +kernel
theorem dX2_result_93 : decode cX2_result 93 = .ok (.iload 4, 2) := by decide +kernel
theorem dX2_result_95 : decode cX2_result 95 = .ok (.isub, 1) := by decide +kernel
theorem dX2_result_96 : decode cX2_result 96 = .ok (.iconst 5, 1) := by decide +kernel
theorem dX2_result_97 : decode cX2_result 97 = .ok (.invokevirtual 209, 3) := by decide +kernel
theorem dX2_result_100 : decode cX2_result 100 = .ok (.pop, 1) := by decide +kernel
theorem dX2_result_101 : decode cX2_result 101 = .ok (.aload_n 0, 1) := by decide +kernel
theorem dX2_result_102 : decode cX2_result 102 = .ok (.getfield 31, 3) := by decide +kernel
theorem dX2_result_105 : decode cX2_result 105 = .ok (.iload_n 1, 1) := by decide +kernel
theorem dX2_result_106 : decode cX2_result 106 = .ok (.invokevirtual 183, 3) := by decide +kernel
theorem dX2_result_109 : decode cX2_result 109 = .ok (.ireturn, 1) := by decide +kernel
def fX2_result_44 (s0 : Bool) (a1 : Int32) (a2 : Int32) (a3 : Int32) (a4 : Int32) (w : Wd) : Int32 × Wd :=
  if a3 = 0 then (lt (fX1_wrong a2 4 w) fun w2 => (0, w2)) else (if s0 = true then (lt (fX8_type a1 w) fun x4 => if x4 = 0 then (lt (fX1_wrong a2 4 w) fun w6 => (0, w6)) else (lt (fX5_level w) fun x7 => lt2 (fX0_put 20 (x7 - a4) 5 w) fun x8 w9 => lt (fX8_type a1 w9) fun x10 => (x10, w9))) else (lt (fX1_wrong a2 4 w) fun w11 => (0, w11)))
theorem pX2_result_44 {q : Gq} {l : Launch} {N : Option Value → Wd → Prop} {X : String → Wd → Prop} {w : Wd} {R : Int32 × Wd} (hN : N (some (.int R.1)) R.2) {s0 : Bool} {a1 : Int32} {a2 : Int32} {a3 : Int32} {a4 : Int32} (h : fX2_result_44 s0 a1 a2 a3 a4 w = R) : RT (GA q) l 4 yX2_result cX2_result 6 ((some .int)) N X 44 [.int (b2i s0)] [(0, .ref 42), (1, .int a1), (2, .int a2), (3, .int a3), (4, .int a4)] w := by
  unfold fX2_result_44 at h
  refine r_istore (pc := 44) (loc' := [(5, .int (b2i s0)), (0, .ref 42), (1, .int a1), (2, .int a2), (3, .int a3), (4, .int a4)]) dX2_result_44 (Nat.le_of_ble_eq_true rfl) rfl ?_
  refine r_iload_n (pc := 46) dX2_result_46 rfl 4 rfl ?_
  refine r_if_eq (pc := 47) dX2_result_47 rfl (fun hc1 => ?_) (fun hc1 => ?_)
  · replace h := if_t hc1 h
    refine r_aload_n (pc := 66) dX2_result_66 rfl 1 rfl ?_
    refine r_get (pc := 67) (j := 0) (v := .ref 3) oA42 cf2 flRX2_16 rfl dX2_result_67 rfl ?_
    refine r_iload_n (pc := 70) dX2_result_70 rfl 3 rfl ?_
    refine r_iconst (pc := 71) dX2_result_71 ki_4 ?_
    replace h := lt_e h; obtain ⟨w2, ew2, h⟩ := h
    refine r_cVv (pc := 72) wyX1_wrong oA3 rfl mlRX2_184 iyX1_wrong syX1_wrong ⟨(Nat.le_of_ble_eq_true rfl), (Nat.le_of_ble_eq_true rfl)⟩ rfl rfl (Nat.le_of_ble_eq_true rfl) dX2_result_72 (mX1_wrong ew2 (pV.mk ?_))
    refine r_iconst (pc := 75) dX2_result_75 ki_0 ?_
    exact rS_i (pc := 76) rfl dX2_result_76 h hN
  replace h := if_f hc1 h
  refine r_iload (pc := 50) dX2_result_50 0 rfl ?_
  refine r_z_eq (pc := 52) dX2_result_52 rfl (fun hc3 => ?_) (fun hc3 => ?_)
  · replace h := if_f hc3 h
    refine r_aload_n (pc := 66) dX2_result_66 rfl 1 rfl ?_
    refine r_get (pc := 67) (j := 0) (v := .ref 3) oA42 cf2 flRX2_16 rfl dX2_result_67 rfl ?_
    refine r_iload_n (pc := 70) dX2_result_70 rfl 3 rfl ?_
    refine r_iconst (pc := 71) dX2_result_71 ki_4 ?_
    replace h := lt_e h; obtain ⟨w11, ew11, h⟩ := h
    refine r_cVv (pc := 72) wyX1_wrong oA3 rfl mlRX2_184 iyX1_wrong syX1_wrong ⟨(Nat.le_of_ble_eq_true rfl), (Nat.le_of_ble_eq_true rfl)⟩ rfl rfl (Nat.le_of_ble_eq_true rfl) dX2_result_72 (mX1_wrong ew11 (pV.mk ?_))
    refine r_iconst (pc := 75) dX2_result_75 ki_0 ?_
    exact rS_i (pc := 76) rfl dX2_result_76 h hN
  replace h := if_t hc3 h
  refine r_aload_n (pc := 55) dX2_result_55 rfl 1 rfl ?_
  refine r_get (pc := 56) (j := 2) (v := .ref 13) oA42 cf2 flRX2_31 rfl dX2_result_56 rfl ?_
  refine r_iload_n (pc := 59) dX2_result_59 rfl 2 rfl ?_
  replace h := lt_e h; obtain ⟨x4, ex4, h⟩ := h
  refine r_cVi (pc := 60) wyX8_type oA13 rfl mlRX2_183 iyX8_type syX8_type ⟨(Nat.le_of_ble_eq_true rfl), (Nat.le_of_ble_eq_true rfl)⟩ rfl rfl (Nat.le_of_ble_eq_true rfl) dX2_result_60 (mX8_type ex4 (pI.mk ?_))
  refine r_if_ne (pc := 63) dX2_result_63 rfl (fun hc5 => ?_) (fun hc5 => ?_)
  · replace h := if_f hc5 h
    refine r_aload_n (pc := 77) dX2_result_77 rfl 1 rfl ?_
    refine r_get (pc := 78) (j := 3) (v := .ref 40) oA42 cf2 flRX2_36 rfl dX2_result_78 rfl ?_
    refine r_bipush (pc := 81) dX2_result_81 kb_20 ?_
    refine r_aload_n (pc := 83) dX2_result_83 rfl 1 rfl ?_
    refine r_get (pc := 84) (j := 0) (v := .ref 3) oA42 cf2 flRX2_16 rfl dX2_result_84 rfl ?_
    refine r_get (pc := 87) (j := 3) (v := .ref 34) oA3 cf1 flRX2_226 rfl dX2_result_87 rfl ?_
    replace h := lt_e h; obtain ⟨x7, ex7, h⟩ := h
    refine r_cVi (pc := 90) wyX5_level oA34 rfl mlRX2_235 iyX5_level syX5_level ⟨(Nat.le_of_ble_eq_true rfl), (Nat.le_of_ble_eq_true rfl)⟩ rfl rfl (Nat.le_of_ble_eq_true rfl) dX2_result_90 (mX5_level ex7 (pI.mk ?_))
    refine r_iload (pc := 93) dX2_result_93 5 rfl ?_
    refine r_isub (pc := 95) dX2_result_95 ?_
    refine r_iconst (pc := 96) dX2_result_96 ki_5 ?_
    replace h := lt2_e h; obtain ⟨x8, w9, ew9, h⟩ := h
    refine r_cVi (pc := 97) wyX0_put oA40 rfl mlRX2_209 iyX0_put syX0_put ⟨(Nat.le_of_ble_eq_true rfl), (Nat.le_of_ble_eq_true rfl)⟩ rfl rfl (Nat.le_of_ble_eq_true rfl) dX2_result_97 (mX0_put ew9 (pI.mk ?_))
    refine r_pop (pc := 100) dX2_result_100 rfl ?_
    refine r_aload_n (pc := 101) dX2_result_101 rfl 1 rfl ?_
    refine r_get (pc := 102) (j := 2) (v := .ref 13) oA42 cf2 flRX2_31 rfl dX2_result_102 rfl ?_
    refine r_iload_n (pc := 105) dX2_result_105 rfl 2 rfl ?_
    replace h := lt_e h; obtain ⟨x10, ex10, h⟩ := h
    refine r_cVi (pc := 106) wyX8_type oA13 rfl mlRX2_183 iyX8_type syX8_type ⟨(Nat.le_of_ble_eq_true rfl), (Nat.le_of_ble_eq_true rfl)⟩ rfl rfl (Nat.le_of_ble_eq_true rfl) dX2_result_106 (mX8_type ex10 (pI.mk ?_))
    exact rS_i (pc := 109) rfl dX2_result_109 h hN
  replace h := if_t hc5 h
  refine r_aload_n (pc := 66) dX2_result_66 rfl 1 rfl ?_
  refine r_get (pc := 67) (j := 0) (v := .ref 3) oA42 cf2 flRX2_16 rfl dX2_result_67 rfl ?_
  refine r_iload_n (pc := 70) dX2_result_70 rfl 3 rfl ?_
  refine r_iconst (pc := 71) dX2_result_71 ki_4 ?_
  replace h := lt_e h; obtain ⟨w6, ew6, h⟩ := h
  refine r_cVv (pc := 72) wyX1_wrong oA3 rfl mlRX2_184 iyX1_wrong syX1_wrong ⟨(Nat.le_of_ble_eq_true rfl), (Nat.le_of_ble_eq_true rfl)⟩ rfl rfl (Nat.le_of_ble_eq_true rfl) dX2_result_72 (mX1_wrong ew6 (pV.mk ?_))
  refine r_iconst (pc := 75) dX2_result_75 ki_0 ?_
  exact rS_i (pc := 76) rfl dX2_result_76 h hN
def fX2_result (a1 : Int32) (a2 : Int32) (a3 : Int32) (w : Wd) : Int32 × Wd :=
  lt (fX8_level a1 w) fun x1 => lt ((x1 + 1)) fun x2 => lt (fX8_isFormal a1 w) fun x3 => if x3 = true then (fX2_result_44 false a1 a2 a3 x2 w) else (lt (fX5_procedureAt x2 w) fun x5 => if x5 = a1 then (fX2_result_44 true a1 a2 a3 x2 w) else (fX2_result_44 false a1 a2 a3 x2 w))
theorem pX2_result {q : Gq} {l : Launch} {N : Option Value → Wd → Prop} {X : String → Wd → Prop} {w : Wd} {R : Int32 × Wd} (hN : N (some (.int R.1)) R.2) {a1 : Int32} {a2 : Int32} {a3 : Int32} (h : fX2_result a1 a2 a3 w = R) : RT (GA q) l 4 yX2_result cX2_result 6 ((some .int)) N X 0 [] [(0, .ref 42), (1, .int a1), (2, .int a2), (3, .int a3)] w := by
  unfold fX2_result at h
  refine r_aload_n (pc := 0) dX2_result_0 rfl 0 rfl ?_
  refine r_get (pc := 1) (j := 2) (v := .ref 13) oA42 cf2 flRX2_31 rfl dX2_result_1 rfl ?_
  refine r_iload_n (pc := 4) dX2_result_4 rfl 1 rfl ?_
  replace h := lt_e h; obtain ⟨x1, ex1, h⟩ := h
  refine r_cVi (pc := 5) wyX8_level oA13 rfl mlRX2_223 iyX8_level syX8_level ⟨(Nat.le_of_ble_eq_true rfl), (Nat.le_of_ble_eq_true rfl)⟩ rfl rfl (Nat.le_of_ble_eq_true rfl) dX2_result_5 (mX8_level ex1 (pI.mk ?_))
  refine r_iconst (pc := 8) dX2_result_8 ki_1 ?_
  refine r_iadd (pc := 9) dX2_result_9 ?_
  replace h := lt_e h; obtain ⟨x2, ex2, h⟩ := h
  refine r_topi ex2 ?_
  refine r_istore (pc := 10) (loc' := [(4, .int x2), (0, .ref 42), (1, .int a1), (2, .int a2), (3, .int a3)]) dX2_result_10 (Nat.le_of_ble_eq_true rfl) rfl ?_
  refine r_aload_n (pc := 12) dX2_result_12 rfl 1 rfl ?_
  refine r_get (pc := 13) (j := 2) (v := .ref 13) oA42 cf2 flRX2_31 rfl dX2_result_13 rfl ?_
  refine r_iload_n (pc := 16) dX2_result_16 rfl 2 rfl ?_
  replace h := lt_e h; obtain ⟨x3, ex3, h⟩ := h
  refine r_cVi (pc := 17) wyX8_isFormal oA13 rfl mlRX2_197 iyX8_isFormal syX8_isFormal ⟨(Nat.le_of_ble_eq_true rfl), (Nat.le_of_ble_eq_true rfl)⟩ rfl rfl (Nat.le_of_ble_eq_true rfl) dX2_result_17 (mX8_isFormal ex3 (pI.mk ?_))
  refine r_z_ne (pc := 20) dX2_result_20 rfl (fun hc4 => ?_) (fun hc4 => ?_)
  · replace h := if_t hc4 h
    refine r_iconst (pc := 43) dX2_result_43 ki_0 ?_
    refine r_drop (loc' := [(0, .ref 42), (1, .int a1), (2, .int a2), (3, .int a3), (4, .int x2)]) [1, 2, 3, 4, 0] rfl ?_
    exact pX2_result_44 hN h
  replace h := if_f hc4 h
  refine r_aload_n (pc := 23) dX2_result_23 rfl 1 rfl ?_
  refine r_get (pc := 24) (j := 0) (v := .ref 3) oA42 cf2 flRX2_16 rfl dX2_result_24 rfl ?_
  refine r_get (pc := 27) (j := 3) (v := .ref 34) oA3 cf1 flRX2_226 rfl dX2_result_27 rfl ?_
  refine r_iload (pc := 30) dX2_result_30 0 rfl ?_
  replace h := lt_e h; obtain ⟨x5, ex5, h⟩ := h
  refine r_cVi (pc := 32) wyX5_procedureAt oA34 rfl mlRX2_230 iyX5_procedureAt syX5_procedureAt ⟨(Nat.le_of_ble_eq_true rfl), (Nat.le_of_ble_eq_true rfl)⟩ rfl rfl (Nat.le_of_ble_eq_true rfl) dX2_result_32 (mX5_procedureAt ex5 (pI.mk ?_))
  refine r_iload_n (pc := 35) dX2_result_35 rfl 2 rfl ?_
  refine r_icmp_ne (pc := 36) dX2_result_36 rfl (fun hc6 => ?_) (fun hc6 => ?_)
  · replace h := if_f hc6 h
    refine r_iconst (pc := 43) dX2_result_43 ki_0 ?_
    refine r_drop (loc' := [(0, .ref 42), (1, .int a1), (2, .int a2), (3, .int a3), (4, .int x2)]) [1, 2, 3, 4, 0] rfl ?_
    exact pX2_result_44 hN h
  replace h := if_t hc6 h
  refine r_iconst (pc := 39) dX2_result_39 ki_1 ?_
  refine r_goto (pc := 40) dX2_result_40 rfl ?_
  refine r_drop (loc' := [(0, .ref 42), (1, .int a1), (2, .int a2), (3, .int a3), (4, .int x2)]) [1, 2, 3, 4, 0] rfl ?_
  exact pX2_result_44 hN h
theorem mX2_result {q : Gq} {l : Launch} {N : Option Value → Wd → Prop} {X : String → Wd → Prop} {a1 : Int32} {a2 : Int32} {a3 : Int32} {w : Wd} {x : Int32} {u : Wd} (h : fX2_result a1 a2 a3 w = (x, u)) (hN : N (some (.int x)) u) : Ct (GA q) l 4 yX2_result cX2_result 6 ((some .int)) [.ref 42, .int a1, .int a2, .int a3] w N X := Ct.of (by decide) (Nat.le_of_ble_eq_true rfl) (pX2_result hN h)
/-! AlgolMill$Expressions.endThunk (I)V: S, 4 -/
theorem dX2_endThunk_0 : decode cX2_endThunk 0 = .ok (.aload_n 0, 1) := by decide +kernel
theorem dX2_endThunk_1 : decode cX2_endThunk 1 = .ok (.getfield 36, 3) := by decide +kernel
theorem dX2_endThunk_4 : decode cX2_endThunk 4 = .ok (.iload_n 1, 1) := by decide +kernel
theorem dX2_endThunk_5 : decode cX2_endThunk 5 = .ok (.invokevirtual 72, 3) := by decide +kernel
theorem dX2_endThunk_8 : decode cX2_endThunk 8 = .ok (.pop, 1) := by decide +kernel
theorem dX2_endThunk_9 : decode cX2_endThunk 9 = .ok (.aload_n 0, 1) := by decide +kernel
theorem dX2_endThunk_10 : decode cX2_endThunk 10 = .ok (.getfield 36, 3) := by decide +kernel
theorem dX2_endThunk_13 : decode cX2_endThunk 13 = .ok (.bipush 23, 2) := by decide +kernel
theorem dX2_endThunk_15 : decode cX2_endThunk 15 = .ok (.iload_n 1, 1) := by decide +kernel
theorem dX2_endThunk_16 : decode cX2_endThunk 16 = .ok (.iconst 1, 1) := by decide +kernel
theorem dX2_endThunk_17 : decode cX2_endThunk 17 = .ok (.iadd, 1) := by decide +kernel
theorem dX2_endThunk_18 : decode cX2_endThunk 18 = .ok (.invokevirtual 211, 3) := by decide +kernel
theorem dX2_endThunk_21 : decode cX2_endThunk 21 = .ok (.pop, 1) := by decide +kernel
theorem dX2_endThunk_22 : decode cX2_endThunk 22 = .ok (.return_, 1) := by decide +kernel
def fX2_endThunk (a1 : Int32) (w : Wd) : Wd :=
  lt2 (fX0_patch a1 w) fun x1 w2 => lt2 (fX0_put_ 23 (a1 + 1) w2) fun x3 w4 => w4
theorem pX2_endThunk {q : Gq} {l : Launch} {N : Option Value → Wd → Prop} {X : String → Wd → Prop} {w : Wd} {R : Wd} (hN : N none R) {a1 : Int32} (h : fX2_endThunk a1 w = R) : RT (GA q) l 4 yX2_endThunk cX2_endThunk 2 (none) N X 0 [] [(0, .ref 42), (1, .int a1)] w := by
  unfold fX2_endThunk at h
  refine r_aload_n (pc := 0) dX2_endThunk_0 rfl 0 rfl ?_
  refine r_get (pc := 1) (j := 3) (v := .ref 40) oA42 cf2 flRX2_36 rfl dX2_endThunk_1 rfl ?_
  refine r_iload_n (pc := 4) dX2_endThunk_4 rfl 1 rfl ?_
  replace h := lt2_e h; obtain ⟨x1, w2, ew2, h⟩ := h
  refine r_cVi (pc := 5) wyX0_patch oA40 rfl mlRX2_72 iyX0_patch syX0_patch ⟨(Nat.le_of_ble_eq_true rfl), (Nat.le_of_ble_eq_true rfl)⟩ rfl rfl (Nat.le_of_ble_eq_true rfl) dX2_endThunk_5 (mX0_patch ew2 (pI.mk ?_))
  refine r_pop (pc := 8) dX2_endThunk_8 rfl ?_
  refine r_aload_n (pc := 9) dX2_endThunk_9 rfl 0 rfl ?_
  refine r_get (pc := 10) (j := 3) (v := .ref 40) oA42 cf2 flRX2_36 rfl dX2_endThunk_10 rfl ?_
  refine r_bipush (pc := 13) dX2_endThunk_13 kb_23 ?_
  refine r_iload_n (pc := 15) dX2_endThunk_15 rfl 1 rfl ?_
  refine r_iconst (pc := 16) dX2_endThunk_16 ki_1 ?_
  refine r_iadd (pc := 17) dX2_endThunk_17 ?_
  replace h := lt2_e h; obtain ⟨x3, w4, ew4, h⟩ := h
  refine r_cVi (pc := 18) wyX0_put_ oA40 rfl mlRX2_211 iyX0_put_ syX0_put_ ⟨(Nat.le_of_ble_eq_true rfl), (Nat.le_of_ble_eq_true rfl)⟩ rfl rfl (Nat.le_of_ble_eq_true rfl) dX2_endThunk_18 (mX0_put_ ew4 (pI.mk ?_))
  refine r_pop (pc := 21) dX2_endThunk_21 rfl ?_
  exact rS_v (pc := 22) rfl dX2_endThunk_22 h hN
theorem mX2_endThunk {q : Gq} {l : Launch} {N : Option Value → Wd → Prop} {X : String → Wd → Prop} {a1 : Int32} {w : Wd} {u : Wd} (h : fX2_endThunk a1 w = u) (hN : N none u) : Ct (GA q) l 4 yX2_endThunk cX2_endThunk 2 (none) [.ref 42, .int a1] w N X := Ct.of (by decide) (Nat.le_of_ble_eq_true rfl) (pX2_endThunk hN h)
/-! AlgolMill$Expressions.misfit (I)V: S, 4 -/
theorem dX2_misfit_0 : decode cX2_misfit 0 = .ok (.aload_n 0, 1) := by decide +kernel
theorem dX2_misfit_1 : decode cX2_misfit 1 = .ok (.getfield 16, 3) := by decide +kernel
theorem dX2_misfit_4 : decode cX2_misfit 4 = .ok (.iload_n 1, 1) := by decide +kernel
theorem dX2_misfit_5 : decode cX2_misfit 5 = .ok (.iconst 4, 1) := by decide +kernel
theorem dX2_misfit_6 : decode cX2_misfit 6 = .ok (.invokevirtual 184, 3) := by decide +kernel
theorem dX2_misfit_9 : decode cX2_misfit 9 = .ok (.aload_n 0, 1) := by decide +kernel
theorem dX2_misfit_10 : decode cX2_misfit 10 = .ok (.getfield 26, 3) := by decide +kernel
theorem dX2_misfit_13 : decode cX2_misfit 13 = .ok (.iload_n 1, 1) := by decide +kernel
theorem dX2_misfit_14 : decode cX2_misfit 14 = .ok (.invokevirtual 269, 3) := by decide +kernel
theorem dX2_misfit_17 : decode cX2_misfit 17 = .ok (.iconst 2, 1) := by decide +kernel
theorem dX2_misfit_18 : decode cX2_misfit 18 = .ok (.if_icmp .ne 12, 3) := by decide +kernel
theorem dX2_misfit_21 : decode cX2_misfit 21 = .ok (.aload_n 0, 1) := by decide +kernel
theorem dX2_misfit_22 : decode cX2_misfit 22 = .ok (.getfield 16, 3) := by decide +kernel
theorem dX2_misfit_25 : decode cX2_misfit 25 = .ok (.iload_n 1, 1) := by decide +kernel
theorem dX2_misfit_26 : decode cX2_misfit 26 = .ok (.invokevirtual 170, 3) := by decide +kernel
theorem dX2_misfit_29 : decode cX2_misfit 29 = .ok (.pop, 1) := by decide +kernel
theorem dX2_misfit_30 : decode cX2_misfit 30 = .ok (.aload_n 0, 1) := by decide +kernel
theorem dX2_misfit_31 : decode cX2_misfit 31 = .ok (.getfield 26, 3) := by decide +kernel
theorem dX2_misfit_34 : decode cX2_misfit 34 = .ok (.aload_n 0, 1) := by decide +kernel
theorem dX2_misfit_35 : decode cX2_misfit 35 = .ok (.getfield 26, 3) := by decide +kernel
theorem dX2_misfit_38 : decode cX2_misfit 38 = .ok (.iload_n 1, 1) := by decide +kernel
theorem dX2_misfit_39 : decode cX2_misfit 39 = .ok (.invokevirtual 272, 3) := by decide +kernel
theorem dX2_misfit_42 : decode cX2_misfit 42 = .ok (.invokevirtual 275, 3) := by decide +kernel
theorem dX2_misfit_45 : decode cX2_misfit 45 = .ok (.return_, 1) := by decide +kernel
def fX2_misfit_30 (a1 : Int32) (w : Wd) : Wd :=
  lt (fX9_endOf a1 w) fun x1 => lt (fX9_goTo x1 w) fun w2 => w2
theorem pX2_misfit_30 {q : Gq} {l : Launch} {N : Option Value → Wd → Prop} {X : String → Wd → Prop} {w : Wd} {R : Wd} (hN : N none R) {a1 : Int32} (h : fX2_misfit_30 a1 w = R) : RT (GA q) l 4 yX2_misfit cX2_misfit 2 (none) N X 30 [] [(0, .ref 42), (1, .int a1)] w := by
  unfold fX2_misfit_30 at h
  refine r_aload_n (pc := 30) dX2_misfit_30 rfl 0 rfl ?_
  refine r_get (pc := 31) (j := 1) (v := .ref 4) oA42 cf2 flRX2_26 rfl dX2_misfit_31 rfl ?_
  refine r_aload_n (pc := 34) dX2_misfit_34 rfl 0 rfl ?_
  refine r_get (pc := 35) (j := 1) (v := .ref 4) oA42 cf2 flRX2_26 rfl dX2_misfit_35 rfl ?_
  refine r_iload_n (pc := 38) dX2_misfit_38 rfl 1 rfl ?_
  replace h := lt_e h; obtain ⟨x1, ex1, h⟩ := h
  refine r_cVi (pc := 39) wyX9_endOf oA4 rfl mlRX2_272 iyX9_endOf syX9_endOf ⟨(Nat.le_of_ble_eq_true rfl), (Nat.le_of_ble_eq_true rfl)⟩ rfl rfl (Nat.le_of_ble_eq_true rfl) dX2_misfit_39 (mX9_endOf ex1 (pI.mk ?_))
  replace h := lt_e h; obtain ⟨w2, ew2, h⟩ := h
  refine r_cVv (pc := 42) wyX9_goTo oA4 rfl mlRX2_275 iyX9_goTo syX9_goTo ⟨(Nat.le_of_ble_eq_true rfl), (Nat.le_of_ble_eq_true rfl)⟩ rfl rfl (Nat.le_of_ble_eq_true rfl) dX2_misfit_42 (mX9_goTo ew2 (pV.mk ?_))
  exact rS_v (pc := 45) rfl dX2_misfit_45 h hN
def fX2_misfit (a1 : Int32) (w : Wd) : Wd :=
  lt (fX1_wrong a1 4 w) fun w1 => lt (fX9_kindOf a1 w1) fun x2 => if x2 = 2 then (lt2 (fX1_find a1 w1) fun x4 w5 => fX2_misfit_30 a1 w5) else (fX2_misfit_30 a1 w1)
theorem pX2_misfit {q : Gq} {l : Launch} {N : Option Value → Wd → Prop} {X : String → Wd → Prop} {w : Wd} {R : Wd} (hN : N none R) {a1 : Int32} (h : fX2_misfit a1 w = R) : RT (GA q) l 4 yX2_misfit cX2_misfit 2 (none) N X 0 [] [(0, .ref 42), (1, .int a1)] w := by
  unfold fX2_misfit at h
  refine r_aload_n (pc := 0) dX2_misfit_0 rfl 0 rfl ?_
  refine r_get (pc := 1) (j := 0) (v := .ref 3) oA42 cf2 flRX2_16 rfl dX2_misfit_1 rfl ?_
  refine r_iload_n (pc := 4) dX2_misfit_4 rfl 1 rfl ?_
  refine r_iconst (pc := 5) dX2_misfit_5 ki_4 ?_
  replace h := lt_e h; obtain ⟨w1, ew1, h⟩ := h
  refine r_cVv (pc := 6) wyX1_wrong oA3 rfl mlRX2_184 iyX1_wrong syX1_wrong ⟨(Nat.le_of_ble_eq_true rfl), (Nat.le_of_ble_eq_true rfl)⟩ rfl rfl (Nat.le_of_ble_eq_true rfl) dX2_misfit_6 (mX1_wrong ew1 (pV.mk ?_))
  refine r_aload_n (pc := 9) dX2_misfit_9 rfl 0 rfl ?_
  refine r_get (pc := 10) (j := 1) (v := .ref 4) oA42 cf2 flRX2_26 rfl dX2_misfit_10 rfl ?_
  refine r_iload_n (pc := 13) dX2_misfit_13 rfl 1 rfl ?_
  replace h := lt_e h; obtain ⟨x2, ex2, h⟩ := h
  refine r_cVi (pc := 14) wyX9_kindOf oA4 rfl mlRX2_269 iyX9_kindOf syX9_kindOf ⟨(Nat.le_of_ble_eq_true rfl), (Nat.le_of_ble_eq_true rfl)⟩ rfl rfl (Nat.le_of_ble_eq_true rfl) dX2_misfit_14 (mX9_kindOf ex2 (pI.mk ?_))
  refine r_iconst (pc := 17) dX2_misfit_17 ki_2 ?_
  refine r_icmp_ne (pc := 18) dX2_misfit_18 rfl (fun hc3 => ?_) (fun hc3 => ?_)
  · replace h := if_f hc3 h
    exact pX2_misfit_30 hN h
  replace h := if_t hc3 h
  refine r_aload_n (pc := 21) dX2_misfit_21 rfl 0 rfl ?_
  refine r_get (pc := 22) (j := 0) (v := .ref 3) oA42 cf2 flRX2_16 rfl dX2_misfit_22 rfl ?_
  refine r_iload_n (pc := 25) dX2_misfit_25 rfl 1 rfl ?_
  replace h := lt2_e h; obtain ⟨x4, w5, ew5, h⟩ := h
  refine r_cVi (pc := 26) wyX1_find oA3 rfl mlRX2_170 iyX1_find syX1_find ⟨(Nat.le_of_ble_eq_true rfl), (Nat.le_of_ble_eq_true rfl)⟩ rfl rfl (Nat.le_of_ble_eq_true rfl) dX2_misfit_26 (mX1_find ew5 (pI.mk ?_))
  refine r_pop (pc := 29) dX2_misfit_29 rfl ?_
  exact pX2_misfit_30 hN h
theorem mX2_misfit {q : Gq} {l : Launch} {N : Option Value → Wd → Prop} {X : String → Wd → Prop} {a1 : Int32} {w : Wd} {u : Wd} (h : fX2_misfit a1 w = u) (hN : N none u) : Ct (GA q) l 4 yX2_misfit cX2_misfit 2 (none) [.ref 42, .int a1] w N X := Ct.of (by decide) (Nat.le_of_ble_eq_true rfl) (pX2_misfit hN h)
/-! AlgolMill$Expressions.alone (I)V: S, 5 -/
theorem dX2_alone_0 : decode cX2_alone 0 = .ok (.aload_n 0, 1) := by decide +kernel
theorem dX2_alone_1 : decode cX2_alone 1 = .ok (.getfield 26, 3) := by decide +kernel
theorem dX2_alone_4 : decode cX2_alone 4 = .ok (.invokevirtual 40, 3) := by decide +kernel
theorem dX2_alone_7 : decode cX2_alone 7 = .ok (.istore_n 2, 1) := by decide +kernel
theorem dX2_alone_8 : decode cX2_alone 8 = .ok (.aload_n 0, 1) := by decide +kernel
theorem dX2_alone_9 : decode cX2_alone 9 = .ok (.getfield 26, 3) := by decide +kernel
theorem dX2_alone_12 : decode cX2_alone 12 = .ok (.iload_n 2, 1) := by decide +kernel
theorem dX2_alone_13 : decode cX2_alone 13 = .ok (.invokevirtual 259, 3) := by decide +kernel
theorem dX2_alone_16 : decode cX2_alone 16 = .ok (.iconst 1, 1) := by decide +kernel
theorem dX2_alone_17 : decode cX2_alone 17 = .ok (.if_icmp .eq 9, 3) := by decide +kernel
theorem dX2_alone_20 : decode cX2_alone 20 = .ok (.aload_n 0, 1) := by decide +kernel
theorem dX2_alone_21 : decode cX2_alone 21 = .ok (.iload_n 2, 1) := by decide +kernel
theorem dX2_alone_22 : decode cX2_alone 22 = .ok (.invokevirtual 266, 3) := by decide +kernel
theorem dX2_alone_25 : decode cX2_alone 25 = .ok (.return_, 1) := by decide +kernel
theorem dX2_alone_26 : decode cX2_alone 26 = .ok (.aload_n 0, 1) := by decide +kernel
theorem dX2_alone_27 : decode cX2_alone 27 = .ok (.getfield 16, 3) := by decide +kernel
theorem dX2_alone_30 : decode cX2_alone 30 = .ok (.iload_n 2, 1) := by decide +kernel
theorem dX2_alone_31 : decode cX2_alone 31 = .ok (.invokevirtual 170, 3) := by decide +kernel
theorem dX2_alone_34 : decode cX2_alone 34 = .ok (.istore_n 3, 1) := by decide +kernel
theorem dX2_alone_35 : decode cX2_alone 35 = .ok (.aload_n 0, 1) := by decide +kernel
theorem dX2_alone_36 : decode cX2_alone 36 = .ok (.getfield 26, 3) := by decide +kernel
theorem dX2_alone_39 : decode cX2_alone 39 = .ok (.iconst 2, 1) := by decide +kernel
theorem dX2_alone_40 : decode cX2_alone 40 = .ok (.invokevirtual 123, 3) := by decide +kernel
theorem dX2_alone_43 : decode cX2_alone 43 = .ok (.pop, 1) := by decide +kernel
theorem dX2_alone_44 : decode cX2_alone 44 = .ok (.aload_n 0, 1) := by decide +kernel
theorem dX2_alone_45 : decode cX2_alone 45 = .ok (.getfield 31, 3) := by decide +kernel
theorem dX2_alone_48 : decode cX2_alone 48 = .ok (.iload_n 3, 1) := by decide +kernel
theorem dX2_alone_49 : decode cX2_alone 49 = .ok (.invokevirtual 180, 3) := by decide +kernel
theorem dX2_alone_52 : decode cX2_alone 52 = .ok (.ifCond .ne 4, 3) := by decide +kernel
theorem dX2_alone_55 : decode cX2_alone 55 = .ok (.return_, 1) := by decide +kernel
theorem dX2_alone_56 : decode cX2_alone 56 = .ok (.aload_n 0, 1) := by decide +kernel
theorem dX2_alone_57 : decode cX2_alone 57 = .ok (.getfield 31, 3) := by decide +kernel
theorem dX2_alone_60 : decode cX2_alone 60 = .ok (.iload_n 3, 1) := by decide +kernel
theorem dX2_alone_61 : decode cX2_alone 61 = .ok (.invokevirtual 180, 3) := by decide +kernel
theorem dX2_alone_64 : decode cX2_alone 64 = .ok (.aload_n 0, 1) := by decide +kernel
theorem dX2_alone_65 : decode cX2_alone 65 = .ok (.getfield 31, 3) := by decide +kernel
theorem dX2_alone_68 : decode cX2_alone 68 = .ok (.iload_n 1, 1) := by decide +kernel
theorem dX2_alone_69 : decode cX2_alone 69 = .ok (.invokevirtual 180, 3) := by decide +kernel
theorem dX2_alone_72 : decode cX2_alone 72 = .ok (.if_icmp .ne 7, 3) := by decide +kernel
theorem dX2_alone_75 : decode cX2_alone 75 = .ok (.iconst 1, 1) := by decide +kernel
theorem dX2_alone_76 : decode cX2_alone 76 = .ok (.goto 4, 3) := by decide +kernel
theorem dX2_alone_79 : decode cX2_alone 79 = .ok (.iconst 0, 1) := by decide +kernel
theorem dX2_alone_80 : decode cX2_alone 80 = .ok (.istore 4, 2) := by decide +kernel
theorem dX2_alone_82 : decode cX2_alone 82 = .ok (.iload 4, 2) := by decide +kernel
theorem dX2_alone_84 : decode cX2_alone 84 = .ok (.ifCond .eq 22, 3) := by decide +kernel
theorem dX2_alone_87 : decode cX2_alone 87 = .ok (.aload_n 0, 1) := by decide +kernel
theorem dX2_alone_88 : decode cX2_alone 88 = .ok (.getfield 31, 3) := by decide +kernel
theorem dX2_alone_91 : decode cX2_alone 91 = .ok (.iload_n 3, 1) := by decide +kernel
theorem dX2_alone_92 : decode cX2_alone 92 = .ok (.invokevirtual 183, 3) := by decide +kernel
theorem dX2_alone_95 : decode cX2_alone 95 = .ok (.aload_n 0, 1) := by decide +kernel
theorem dX2_alone_96 : decode cX2_alone 96 = .ok (.getfield 31, 3) := by decide +kernel
theorem dX2_alone_99 : decode cX2_alone 99 = .ok (.iload_n 1, 1) := by decide +kernel
theorem dX2_alone_100 : decode cX2_alone 100 = .ok (.invokevirtual 183, 3) := by decide +kernel
theorem dX2_alone_103 : decode cX2_alone 103 = .ok (.if_icmp .eq 15, 3) := by decide +kernel
theorem dX2_alone_106 : decode cX2_alone 106 = .ok (.aload_n 0, 1) := by decide +kernel
theorem dX2_alone_107 : decode cX2_alone 107 = .ok (.getfield 16, 3) := by decide +kernel
theorem dX2_alone_110 : decode cX2_alone 110 = .ok (.iload_n 2, 1) := by decide +kernel
theorem dX2_alone_111 : decode cX2_alone 111 = .ok (.iconst 4, 1) := by decide +kernel
theorem dX2_alone_112 : decode cX2_alone 112 = .ok (.invokevirtual 184, 3) := by decide +kernel
theorem dX2_alone_115 : decode cX2_alone 115 = .ok (.goto 35, 3) := by decide +kernel
theorem dX2_alone_118 : decode cX2_alone 118 = .ok (.aload_n 0, 1) := by decide +kernel
theorem dX2_alone_119 : decode cX2_alone 119 = .ok (.getfield 31, 3) := by decide +kernel
theorem dX2_alone_122 : decode cX2_alone 122 = .ok (.iload_n 3, 1) := by decide +kernel
theorem dX2_alone_123 : decode cX2_alone 123 = .ok (.invokevirtual 180, 3) := by decide +kernel
theorem dX2_alone_126 : decode cX2_alone 126 = .ok (.iconst 3, 1) := by decide +kernel
theorem dX2_alone_127 : decode cX2_alone 127 = .ok (.if_icmp .ne 23, 3) := by decide +kernel
theorem dX2_alone_130 : decode cX2_alone 130 = .ok (.aload_n 0, 1) := by decide +kernel
theorem dX2_alone_131 : decode cX2_alone 131 = .ok (.getfield 31, 3) := by decide +kernel
theorem dX2_alone_134 : decode cX2_alone 134 = .ok (.iload_n 3, 1) := by decide +kernel
theorem dX2_alone_135 : decode cX2_alone 135 = .ok (.invokevirtual 216, 3) := by decide +kernel
theorem dX2_alone_138 : decode cX2_alone 138 = .ok (.ifCond .eq 12, 3) := by decide +kernel
theorem dX2_alone_141 : decode cX2_alone 141 = .ok (.aload_n 0, 1) := by decide +kernel
theorem dX2_alone_142 : decode cX2_alone 142 = .ok (.getfield 16, 3) := by decide +kernel
theorem dX2_alone_145 : decode cX2_alone 145 = .ok (.iload_n 2, 1) := by decide +kernel
theorem dX2_alone_146 : decode cX2_alone 146 = .ok (.iconst 5, 1) := by decide +kernel
theorem dX2_alone_147 : decode cX2_alone 147 = .ok (.invokevirtual 184, 3) := by decide +kernel
theorem dX2_alone_150 : decode cX2_alone 150 = .ok (.aload_n 0, 1) := by decide +kernel
theorem dX2_alone_151 : decode cX2_alone 151 = .ok (.getfield 16, 3) := by decide +kernel
theorem dX2_alone_154 : decode cX2_alone 154 = .ok (.iload_n 3, 1) := by decide +kernel
theorem dX2_alone_155 : decode cX2_alone 155 = .ok (.invokevirtual 213, 3) := by decide +kernel
theorem dX2_alone_158 : decode cX2_alone 158 = .ok (.return_, 1) := by decide +kernel
def fX2_alone_106 (a2 : Int32) (a3 : Int32) (w : Wd) : Wd :=
  lt (fX1_wrong a2 4 w) fun w1 => lt (fX1_putSymbol a3 w1) fun w2 => w2
theorem pX2_alone_106 {q : Gq} {l : Launch} {N : Option Value → Wd → Prop} {X : String → Wd → Prop} {w : Wd} {R : Wd} (hN : N none R) {a2 : Int32} {a3 : Int32} (h : fX2_alone_106 a2 a3 w = R) : RT (GA q) l 5 yX2_alone cX2_alone 5 (none) N X 106 [] [(0, .ref 42), (2, .int a2), (3, .int a3)] w := by
  unfold fX2_alone_106 at h
  refine r_aload_n (pc := 106) dX2_alone_106 rfl 0 rfl ?_
  refine r_get (pc := 107) (j := 0) (v := .ref 3) oA42 cf2 flRX2_16 rfl dX2_alone_107 rfl ?_
  refine r_iload_n (pc := 110) dX2_alone_110 rfl 1 rfl ?_
  refine r_iconst (pc := 111) dX2_alone_111 ki_4 ?_
  replace h := lt_e h; obtain ⟨w1, ew1, h⟩ := h
  refine r_cVv (pc := 112) wyX1_wrong oA3 rfl mlRX2_184 iyX1_wrong syX1_wrong ⟨(Nat.le_of_ble_eq_true rfl), (Nat.le_of_ble_eq_true rfl)⟩ rfl rfl (Nat.le_of_ble_eq_true rfl) dX2_alone_112 (mX1_wrong ew1 (pV.mk ?_))
  refine r_goto (pc := 115) dX2_alone_115 rfl ?_
  refine r_aload_n (pc := 150) dX2_alone_150 rfl 0 rfl ?_
  refine r_get (pc := 151) (j := 0) (v := .ref 3) oA42 cf2 flRX2_16 rfl dX2_alone_151 rfl ?_
  refine r_iload_n (pc := 154) dX2_alone_154 rfl 2 rfl ?_
  replace h := lt_e h; obtain ⟨w2, ew2, h⟩ := h
  refine r_cVv (pc := 155) wyX1_putSymbol oA3 rfl mlRX2_213 iyX1_putSymbol syX1_putSymbol ⟨(Nat.le_of_ble_eq_true rfl), (Nat.le_of_ble_eq_true rfl)⟩ rfl rfl (Nat.le_of_ble_eq_true rfl) dX2_alone_155 (mX1_putSymbol ew2 (pV.mk ?_))
  exact rS_v (pc := 158) rfl dX2_alone_158 h hN
def fX2_alone_80 (s0 : Bool) (a1 : Int32) (a2 : Int32) (a3 : Int32) (w : Wd) : Wd :=
  if s0 = true then (lt (fX8_type a3 w) fun x2 => lt (fX8_type a1 w) fun x3 => if x2 = x3 then (lt (fX8_sort a3 w) fun x5 => if x5 = 3 then (lt (fX8_size_ a3 w) fun x7 => if x7 = 0 then (lt (fX1_putSymbol a3 w) fun w9 => w9) else (lt (fX1_wrong a2 5 w) fun w10 => lt (fX1_putSymbol a3 w10) fun w11 => w11)) else (lt (fX1_putSymbol a3 w) fun w12 => w12)) else (fX2_alone_106 a2 a3 w)) else (fX2_alone_106 a2 a3 w)
theorem pX2_alone_80 {q : Gq} {l : Launch} {N : Option Value → Wd → Prop} {X : String → Wd → Prop} {w : Wd} {R : Wd} (hN : N none R) {s0 : Bool} {a1 : Int32} {a2 : Int32} {a3 : Int32} (h : fX2_alone_80 s0 a1 a2 a3 w = R) : RT (GA q) l 5 yX2_alone cX2_alone 5 (none) N X 80 [.int (b2i s0)] [(0, .ref 42), (1, .int a1), (2, .int a2), (3, .int a3)] w := by
  unfold fX2_alone_80 at h
  refine r_istore (pc := 80) (loc' := [(4, .int (b2i s0)), (0, .ref 42), (1, .int a1), (2, .int a2), (3, .int a3)]) dX2_alone_80 (Nat.le_of_ble_eq_true rfl) rfl ?_
  refine r_iload (pc := 82) dX2_alone_82 0 rfl ?_
  refine r_z_eq (pc := 84) dX2_alone_84 rfl (fun hc1 => ?_) (fun hc1 => ?_)
  · replace h := if_f hc1 h
    refine r_drop (loc' := [(0, .ref 42), (2, .int a2), (3, .int a3)]) [1, 3, 4] rfl ?_
    exact pX2_alone_106 hN h
  replace h := if_t hc1 h
  refine r_aload_n (pc := 87) dX2_alone_87 rfl 1 rfl ?_
  refine r_get (pc := 88) (j := 2) (v := .ref 13) oA42 cf2 flRX2_31 rfl dX2_alone_88 rfl ?_
  refine r_iload_n (pc := 91) dX2_alone_91 rfl 4 rfl ?_
  replace h := lt_e h; obtain ⟨x2, ex2, h⟩ := h
  refine r_cVi (pc := 92) wyX8_type oA13 rfl mlRX2_183 iyX8_type syX8_type ⟨(Nat.le_of_ble_eq_true rfl), (Nat.le_of_ble_eq_true rfl)⟩ rfl rfl (Nat.le_of_ble_eq_true rfl) dX2_alone_92 (mX8_type ex2 (pI.mk ?_))
  refine r_aload_n (pc := 95) dX2_alone_95 rfl 1 rfl ?_
  refine r_get (pc := 96) (j := 2) (v := .ref 13) oA42 cf2 flRX2_31 rfl dX2_alone_96 rfl ?_
  refine r_iload_n (pc := 99) dX2_alone_99 rfl 2 rfl ?_
  replace h := lt_e h; obtain ⟨x3, ex3, h⟩ := h
  refine r_cVi (pc := 100) wyX8_type oA13 rfl mlRX2_183 iyX8_type syX8_type ⟨(Nat.le_of_ble_eq_true rfl), (Nat.le_of_ble_eq_true rfl)⟩ rfl rfl (Nat.le_of_ble_eq_true rfl) dX2_alone_100 (mX8_type ex3 (pI.mk ?_))
  refine r_icmp_eq (pc := 103) dX2_alone_103 rfl (fun hc4 => ?_) (fun hc4 => ?_)
  · replace h := if_t hc4 h
    refine r_aload_n (pc := 118) dX2_alone_118 rfl 1 rfl ?_
    refine r_get (pc := 119) (j := 2) (v := .ref 13) oA42 cf2 flRX2_31 rfl dX2_alone_119 rfl ?_
    refine r_iload_n (pc := 122) dX2_alone_122 rfl 4 rfl ?_
    replace h := lt_e h; obtain ⟨x5, ex5, h⟩ := h
    refine r_cVi (pc := 123) wyX8_sort oA13 rfl mlRX2_180 iyX8_sort syX8_sort ⟨(Nat.le_of_ble_eq_true rfl), (Nat.le_of_ble_eq_true rfl)⟩ rfl rfl (Nat.le_of_ble_eq_true rfl) dX2_alone_123 (mX8_sort ex5 (pI.mk ?_))
    refine r_iconst (pc := 126) dX2_alone_126 ki_3 ?_
    refine r_icmp_ne (pc := 127) dX2_alone_127 rfl (fun hc6 => ?_) (fun hc6 => ?_)
    · replace h := if_f hc6 h
      refine r_aload_n (pc := 150) dX2_alone_150 rfl 1 rfl ?_
      refine r_get (pc := 151) (j := 0) (v := .ref 3) oA42 cf2 flRX2_16 rfl dX2_alone_151 rfl ?_
      refine r_iload_n (pc := 154) dX2_alone_154 rfl 4 rfl ?_
      replace h := lt_e h; obtain ⟨w12, ew12, h⟩ := h
      refine r_cVv (pc := 155) wyX1_putSymbol oA3 rfl mlRX2_213 iyX1_putSymbol syX1_putSymbol ⟨(Nat.le_of_ble_eq_true rfl), (Nat.le_of_ble_eq_true rfl)⟩ rfl rfl (Nat.le_of_ble_eq_true rfl) dX2_alone_155 (mX1_putSymbol ew12 (pV.mk ?_))
      exact rS_v (pc := 158) rfl dX2_alone_158 h hN
    replace h := if_t hc6 h
    refine r_aload_n (pc := 130) dX2_alone_130 rfl 1 rfl ?_
    refine r_get (pc := 131) (j := 2) (v := .ref 13) oA42 cf2 flRX2_31 rfl dX2_alone_131 rfl ?_
    refine r_iload_n (pc := 134) dX2_alone_134 rfl 4 rfl ?_
    replace h := lt_e h; obtain ⟨x7, ex7, h⟩ := h
    refine r_cVi (pc := 135) wyX8_size_ oA13 rfl mlRX2_216 iyX8_size_ syX8_size_ ⟨(Nat.le_of_ble_eq_true rfl), (Nat.le_of_ble_eq_true rfl)⟩ rfl rfl (Nat.le_of_ble_eq_true rfl) dX2_alone_135 (mX8_size_ ex7 (pI.mk ?_))
    refine r_if_eq (pc := 138) dX2_alone_138 rfl (fun hc8 => ?_) (fun hc8 => ?_)
    · replace h := if_t hc8 h
      refine r_aload_n (pc := 150) dX2_alone_150 rfl 1 rfl ?_
      refine r_get (pc := 151) (j := 0) (v := .ref 3) oA42 cf2 flRX2_16 rfl dX2_alone_151 rfl ?_
      refine r_iload_n (pc := 154) dX2_alone_154 rfl 4 rfl ?_
      replace h := lt_e h; obtain ⟨w9, ew9, h⟩ := h
      refine r_cVv (pc := 155) wyX1_putSymbol oA3 rfl mlRX2_213 iyX1_putSymbol syX1_putSymbol ⟨(Nat.le_of_ble_eq_true rfl), (Nat.le_of_ble_eq_true rfl)⟩ rfl rfl (Nat.le_of_ble_eq_true rfl) dX2_alone_155 (mX1_putSymbol ew9 (pV.mk ?_))
      exact rS_v (pc := 158) rfl dX2_alone_158 h hN
    replace h := if_f hc8 h
    refine r_aload_n (pc := 141) dX2_alone_141 rfl 1 rfl ?_
    refine r_get (pc := 142) (j := 0) (v := .ref 3) oA42 cf2 flRX2_16 rfl dX2_alone_142 rfl ?_
    refine r_iload_n (pc := 145) dX2_alone_145 rfl 3 rfl ?_
    refine r_iconst (pc := 146) dX2_alone_146 ki_5 ?_
    replace h := lt_e h; obtain ⟨w10, ew10, h⟩ := h
    refine r_cVv (pc := 147) wyX1_wrong oA3 rfl mlRX2_184 iyX1_wrong syX1_wrong ⟨(Nat.le_of_ble_eq_true rfl), (Nat.le_of_ble_eq_true rfl)⟩ rfl rfl (Nat.le_of_ble_eq_true rfl) dX2_alone_147 (mX1_wrong ew10 (pV.mk ?_))
    refine r_aload_n (pc := 150) dX2_alone_150 rfl 1 rfl ?_
    refine r_get (pc := 151) (j := 0) (v := .ref 3) oA42 cf2 flRX2_16 rfl dX2_alone_151 rfl ?_
    refine r_iload_n (pc := 154) dX2_alone_154 rfl 4 rfl ?_
    replace h := lt_e h; obtain ⟨w11, ew11, h⟩ := h
    refine r_cVv (pc := 155) wyX1_putSymbol oA3 rfl mlRX2_213 iyX1_putSymbol syX1_putSymbol ⟨(Nat.le_of_ble_eq_true rfl), (Nat.le_of_ble_eq_true rfl)⟩ rfl rfl (Nat.le_of_ble_eq_true rfl) dX2_alone_155 (mX1_putSymbol ew11 (pV.mk ?_))
    exact rS_v (pc := 158) rfl dX2_alone_158 h hN
  replace h := if_f hc4 h
  refine r_drop (loc' := [(0, .ref 42), (2, .int a2), (3, .int a3)]) [1, 3, 4] rfl ?_
  exact pX2_alone_106 hN h
def fX2_alone (a1 : Int32) (w : Wd) : Wd :=
  lt (fX9_at w) fun x1 => lt (fX9_formAt x1 w) fun x2 => if x2 = 1 then (lt2 (fX1_find x1 w) fun x4 w5 => lt2 (fX9_take 2 w5) fun x6 w7 => lt (fX8_sort x4 w7) fun x8 => if x8 = 0 then (w7) else (lt (fX8_sort x4 w7) fun x10 => lt (fX8_sort a1 w7) fun x11 => if x10 = x11 then (fX2_alone_80 true a1 x1 x4 w7) else (fX2_alone_80 false a1 x1 x4 w7))) else (lt (fX2_misfit x1 w) fun w13 => w13)
theorem pX2_alone {q : Gq} {l : Launch} {N : Option Value → Wd → Prop} {X : String → Wd → Prop} {w : Wd} {R : Wd} (hN : N none R) {a1 : Int32} (h : fX2_alone a1 w = R) : RT (GA q) l 5 yX2_alone cX2_alone 5 (none) N X 0 [] [(0, .ref 42), (1, .int a1)] w := by
  unfold fX2_alone at h
  refine r_aload_n (pc := 0) dX2_alone_0 rfl 0 rfl ?_
  refine r_get (pc := 1) (j := 1) (v := .ref 4) oA42 cf2 flRX2_26 rfl dX2_alone_1 rfl ?_
  replace h := lt_e h; obtain ⟨x1, ex1, h⟩ := h
  refine r_cVi (pc := 4) wyX9_at oA4 rfl mlRX2_40 iyX9_at syX9_at ⟨(Nat.le_of_ble_eq_true rfl), (Nat.le_of_ble_eq_true rfl)⟩ rfl rfl (Nat.le_of_ble_eq_true rfl) dX2_alone_4 (mX9_at ex1 (pI.mk ?_))
  refine r_istore_n (pc := 7) (loc' := [(2, .int x1), (0, .ref 42), (1, .int a1)]) dX2_alone_7 rfl (Nat.le_of_ble_eq_true rfl) rfl ?_
  refine r_aload_n (pc := 8) dX2_alone_8 rfl 1 rfl ?_
  refine r_get (pc := 9) (j := 1) (v := .ref 4) oA42 cf2 flRX2_26 rfl dX2_alone_9 rfl ?_
  refine r_iload_n (pc := 12) dX2_alone_12 rfl 0 rfl ?_
  replace h := lt_e h; obtain ⟨x2, ex2, h⟩ := h
  refine r_cVi (pc := 13) wyX9_formAt oA4 rfl mlRX2_259 iyX9_formAt syX9_formAt ⟨(Nat.le_of_ble_eq_true rfl), (Nat.le_of_ble_eq_true rfl)⟩ rfl rfl (Nat.le_of_ble_eq_true rfl) dX2_alone_13 (mX9_formAt ex2 (pI.mk ?_))
  refine r_iconst (pc := 16) dX2_alone_16 ki_1 ?_
  refine r_icmp_eq (pc := 17) dX2_alone_17 rfl (fun hc3 => ?_) (fun hc3 => ?_)
  · replace h := if_t hc3 h
    refine r_aload_n (pc := 26) dX2_alone_26 rfl 1 rfl ?_
    refine r_get (pc := 27) (j := 0) (v := .ref 3) oA42 cf2 flRX2_16 rfl dX2_alone_27 rfl ?_
    refine r_iload_n (pc := 30) dX2_alone_30 rfl 0 rfl ?_
    replace h := lt2_e h; obtain ⟨x4, w5, ew5, h⟩ := h
    refine r_cVi (pc := 31) wyX1_find oA3 rfl mlRX2_170 iyX1_find syX1_find ⟨(Nat.le_of_ble_eq_true rfl), (Nat.le_of_ble_eq_true rfl)⟩ rfl rfl (Nat.le_of_ble_eq_true rfl) dX2_alone_31 (mX1_find ew5 (pI.mk ?_))
    refine r_istore_n (pc := 34) (loc' := [(3, .int x4), (2, .int x1), (0, .ref 42), (1, .int a1)]) dX2_alone_34 rfl (Nat.le_of_ble_eq_true rfl) rfl ?_
    refine r_aload_n (pc := 35) dX2_alone_35 rfl 2 rfl ?_
    refine r_get (pc := 36) (j := 1) (v := .ref 4) oA42 cf2 flRX2_26 rfl dX2_alone_36 rfl ?_
    refine r_iconst (pc := 39) dX2_alone_39 ki_2 ?_
    replace h := lt2_e h; obtain ⟨x6, w7, ew7, h⟩ := h
    refine r_cVi (pc := 40) wyX9_take oA4 rfl mlRX2_123 iyX9_take syX9_take ⟨(Nat.le_of_ble_eq_true rfl), (Nat.le_of_ble_eq_true rfl)⟩ rfl rfl (Nat.le_of_ble_eq_true rfl) dX2_alone_40 (mX9_take ew7 (pI.mk ?_))
    refine r_pop (pc := 43) dX2_alone_43 rfl ?_
    refine r_aload_n (pc := 44) dX2_alone_44 rfl 2 rfl ?_
    refine r_get (pc := 45) (j := 2) (v := .ref 13) oA42 cf2 flRX2_31 rfl dX2_alone_45 rfl ?_
    refine r_iload_n (pc := 48) dX2_alone_48 rfl 0 rfl ?_
    replace h := lt_e h; obtain ⟨x8, ex8, h⟩ := h
    refine r_cVi (pc := 49) wyX8_sort oA13 rfl mlRX2_180 iyX8_sort syX8_sort ⟨(Nat.le_of_ble_eq_true rfl), (Nat.le_of_ble_eq_true rfl)⟩ rfl rfl (Nat.le_of_ble_eq_true rfl) dX2_alone_49 (mX8_sort ex8 (pI.mk ?_))
    refine r_if_ne (pc := 52) dX2_alone_52 rfl (fun hc9 => ?_) (fun hc9 => ?_)
    · replace h := if_f hc9 h
      refine r_aload_n (pc := 56) dX2_alone_56 rfl 2 rfl ?_
      refine r_get (pc := 57) (j := 2) (v := .ref 13) oA42 cf2 flRX2_31 rfl dX2_alone_57 rfl ?_
      refine r_iload_n (pc := 60) dX2_alone_60 rfl 0 rfl ?_
      replace h := lt_e h; obtain ⟨x10, ex10, h⟩ := h
      refine r_cVi (pc := 61) wyX8_sort oA13 rfl mlRX2_180 iyX8_sort syX8_sort ⟨(Nat.le_of_ble_eq_true rfl), (Nat.le_of_ble_eq_true rfl)⟩ rfl rfl (Nat.le_of_ble_eq_true rfl) dX2_alone_61 (mX8_sort ex10 (pI.mk ?_))
      refine r_aload_n (pc := 64) dX2_alone_64 rfl 2 rfl ?_
      refine r_get (pc := 65) (j := 2) (v := .ref 13) oA42 cf2 flRX2_31 rfl dX2_alone_65 rfl ?_
      refine r_iload_n (pc := 68) dX2_alone_68 rfl 3 rfl ?_
      replace h := lt_e h; obtain ⟨x11, ex11, h⟩ := h
      refine r_cVi (pc := 69) wyX8_sort oA13 rfl mlRX2_180 iyX8_sort syX8_sort ⟨(Nat.le_of_ble_eq_true rfl), (Nat.le_of_ble_eq_true rfl)⟩ rfl rfl (Nat.le_of_ble_eq_true rfl) dX2_alone_69 (mX8_sort ex11 (pI.mk ?_))
      refine r_icmp_ne (pc := 72) dX2_alone_72 rfl (fun hc12 => ?_) (fun hc12 => ?_)
      · replace h := if_f hc12 h
        refine r_iconst (pc := 79) dX2_alone_79 ki_0 ?_
        refine r_drop (loc' := [(0, .ref 42), (1, .int a1), (2, .int x1), (3, .int x4)]) [2, 3, 1, 0] rfl ?_
        exact pX2_alone_80 hN h
      replace h := if_t hc12 h
      refine r_iconst (pc := 75) dX2_alone_75 ki_1 ?_
      refine r_goto (pc := 76) dX2_alone_76 rfl ?_
      refine r_drop (loc' := [(0, .ref 42), (1, .int a1), (2, .int x1), (3, .int x4)]) [2, 3, 1, 0] rfl ?_
      exact pX2_alone_80 hN h
    replace h := if_t hc9 h
    exact rS_v (pc := 55) rfl dX2_alone_55 h hN
  replace h := if_f hc3 h
  refine r_aload_n (pc := 20) dX2_alone_20 rfl 1 rfl ?_
  refine r_iload_n (pc := 21) dX2_alone_21 rfl 0 rfl ?_
  replace h := lt_e h; obtain ⟨w13, ew13, h⟩ := h
  refine r_cVv (pc := 22) wyX2_misfit oA42 rfl mlRX2_266 iyX2_misfit syX2_misfit ⟨(Nat.le_of_ble_eq_true rfl), (Nat.le_of_ble_eq_true rfl)⟩ rfl rfl (Nat.le_of_ble_eq_true rfl) dX2_alone_22 (mX2_misfit ew13 (pV.mk ?_))
  exact rS_v (pc := 25) rfl dX2_alone_25 h hN
theorem mX2_alone {q : Gq} {l : Launch} {N : Option Value → Wd → Prop} {X : String → Wd → Prop} {a1 : Int32} {w : Wd} {u : Wd} (h : fX2_alone a1 w = u) (hN : N none u) : Ct (GA q) l 5 yX2_alone cX2_alone 5 (none) [.ref 42, .int a1] w N X := Ct.of (by decide) (Nat.le_of_ble_eq_true rfl) (pX2_alone hN h)
