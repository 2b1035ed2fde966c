/-! Symbols -/
theorem ks_8193 : (Int16.ofInt 8193).toInt32 = 8193 := by decide
/-! AlgolMill$Symbols.add (IIIII)I: S, 1 -/
theorem dX8_add_0 : decode cX8_add 0 = .ok (.aload_n 0, 1) := by decide +kernel
theorem dX8_add_1 : decode cX8_add 1 = .ok (.getfield 50, 3) := by decide +kernel
theorem dX8_add_4 : decode cX8_add 4 = .ok (.istore 6, 2) := by decide +kernel
theorem dX8_add_6 : decode cX8_add 6 = .ok (.aload_n 0, 1) := by decide +kernel
theorem dX8_add_7 : decode cX8_add 7 = .ok (.dup, 1) := by decide +kernel
theorem dX8_add_8 : decode cX8_add 8 = .ok (.getfield 50, 3) := by decide +kernel
theorem dX8_add_11 : decode cX8_add 11 = .ok (.iconst 1, 1) := by decide +kernel
theorem dX8_add_12 : decode cX8_add 12 = .ok (.iadd, 1) := by decide +kernel
theorem dX8_add_13 : decode cX8_add 13 = .ok (.putfield 50, 3) := by decide +kernel
theorem dX8_add_16 : decode cX8_add 16 = .ok (.aload_n 0, 1) := by decide +kernel
theorem dX8_add_17 : decode cX8_add 17 = .ok (.getfield 33, 3) := by decide +kernel
theorem dX8_add_20 : decode cX8_add 20 = .ok (.iload 6, 2) := by decide +kernel
theorem dX8_add_22 : decode cX8_add 22 = .ok (.iload_n 1, 1) := by decide +kernel
theorem dX8_add_23 : decode cX8_add 23 = .ok (.invokestatic 76, 3) := by decide +kernel
theorem dX8_add_26 : decode cX8_add 26 = .ok (.aload_n 0, 1) := by decide +kernel
theorem dX8_add_27 : decode cX8_add 27 = .ok (.getfield 36, 3) := by decide +kernel
theorem dX8_add_30 : decode cX8_add 30 = .ok (.iload 6, 2) := by decide +kernel
theorem dX8_add_32 : decode cX8_add 32 = .ok (.iload_n 2, 1) := by decide +kernel
theorem dX8_add_33 : decode cX8_add 33 = .ok (.invokestatic 76, 3) := by decide +kernel
theorem dX8_add_36 : decode cX8_add 36 = .ok (.aload_n 0, 1) := by decide +kernel
theorem dX8_add_37 : decode cX8_add 37 = .ok (.getfield 11, 3) := by decide +kernel
theorem dX8_add_40 : decode cX8_add 40 = .ok (.iload 6, 2) := by decide +kernel
theorem dX8_add_42 : decode cX8_add 42 = .ok (.iload_n 3, 1) := by decide +kernel
theorem dX8_add_43 : decode cX8_add 43 = .ok (.invokestatic 76, 3) := by decide +kernel
theorem dX8_add_46 : decode cX8_add 46 = .ok (.aload_n 0, 1) := by decide +kernel
theorem dX8_add_47 : decode cX8_add 47 = .ok (.getfield 15, 3) := by decide +kernel
theorem dX8_add_50 : decode cX8_add 50 = .ok (.iload 6, 2) := by decide +kernel
theorem dX8_add_52 : decode cX8_add 52 = .ok (.iload 4, 2) := by decide +kernel
theorem dX8_add_54 : decode cX8_add 54 = .ok (.invokestatic 76, 3) := by decide +kernel
theorem dX8_add_57 : decode cX8_add 57 = .ok (.aload_n 0, 1) := by decide +kernel
theorem dX8_add_58 : decode cX8_add 58 = .ok (.getfield 21, 3) := by decide +kernel
theorem dX8_add_61 : decode cX8_add 61 = .ok (.iload 6, 2) := by decide +kernel
theorem dX8_add_63 : decode cX8_add 63 = .ok (.iload 5, 2) := by decide +kernel
theorem dX8_add_65 : decode cX8_add 65 = .ok (.invokestatic 76, 3) := by decide +kernel
theorem dX8_add_68 : decode cX8_add 68 = .ok (.aload_n 0, 1) := by decide +kernel
theorem dX8_add_69 : decode cX8_add 69 = .ok (.getfield 18, 3) := by decide +kernel
theorem dX8_add_72 : decode cX8_add 72 = .ok (.iload 6, 2) := by decide +kernel
theorem dX8_add_74 : decode cX8_add 74 = .ok (.iconst 0, 1) := by decide +kernel
theorem dX8_add_75 : decode cX8_add 75 = .ok (.invokestatic 76, 3) := by decide +kernel
theorem dX8_add_78 : decode cX8_add 78 = .ok (.aload_n 0, 1) := by decide +kernel
theorem dX8_add_79 : decode cX8_add 79 = .ok (.getfield 24, 3) := by decide +kernel
theorem dX8_add_82 : decode cX8_add 82 = .ok (.iload 6, 2) := by decide +kernel
theorem dX8_add_84 : decode cX8_add 84 = .ok (.iconst 0, 1) := by decide +kernel
theorem dX8_add_85 : decode cX8_add 85 = .ok (.invokestatic 76, 3) := by decide +kernel
theorem dX8_add_88 : decode cX8_add 88 = .ok (.aload_n 0, 1) := by decide +kernel
theorem dX8_add_89 : decode cX8_add 89 = .ok (.getfield 27, 3) := by decide +kernel
theorem dX8_add_92 : decode cX8_add 92 = .ok (.iload 6, 2) := by decide +kernel
theorem dX8_add_94 : decode cX8_add 94 = .ok (.iconst 0, 1) := by decide +kernel
theorem dX8_add_95 : decode cX8_add 95 = .ok (.invokestatic 76, 3) := by decide +kernel
theorem dX8_add_98 : decode cX8_add 98 = .ok (.aload_n 0, 1) := by decide +kernel
theorem dX8_add_99 : decode cX8_add 99 = .ok (.getfield 30, 3) := by decide +kernel
theorem dX8_add_102 : decode cX8_add 102 = .ok (.iload 6, 2) := by decide +kernel
theorem dX8_add_104 : decode cX8_add 104 = .ok (.iconst 0, 1) := by decide +kernel
theorem dX8_add_105 : decode cX8_add 105 = .ok (.invokestatic 76, 3) := by decide +kernel
theorem dX8_add_108 : decode cX8_add 108 = .ok (.aload_n 0, 1) := by decide +kernel
theorem dX8_add_109 : decode cX8_add 109 = .ok (.getfield 39, 3) := by decide +kernel
theorem dX8_add_112 : decode cX8_add 112 = .ok (.iload 6, 2) := by decide +kernel
theorem dX8_add_114 : decode cX8_add 114 = .ok (.iconst 0, 1) := by decide +kernel
theorem dX8_add_115 : decode cX8_add 115 = .ok (.invokestatic 76, 3) := by decide +kernel
theorem dX8_add_118 : decode cX8_add 118 = .ok (.aload_n 0, 1) := by decide +kernel
theorem dX8_add_119 : decode cX8_add 119 = .ok (.getfield 42, 3) := by decide +kernel
theorem dX8_add_122 : decode cX8_add 122 = .ok (.iload 6, 2) := by decide +kernel
theorem dX8_add_124 : decode cX8_add 124 = .ok (.iconst 0, 1) := by decide +kernel
theorem dX8_add_125 : decode cX8_add 125 = .ok (.invokestatic 76, 3) := by decide +kernel
theorem dX8_add_128 : decode cX8_add 128 = .ok (.aload_n 0, 1) := by decide +kernel
theorem dX8_add_129 : decode cX8_add 129 = .ok (.getfield 47, 3) := by decide +kernel
theorem dX8_add_132 : decode cX8_add 132 = .ok (.iload_n 1, 1) := by decide +kernel
theorem dX8_add_133 : decode cX8_add 133 = .ok (.iload 6, 2) := by decide +kernel
theorem dX8_add_135 : decode cX8_add 135 = .ok (.invokestatic 76, 3) := by decide +kernel
theorem dX8_add_138 : decode cX8_add 138 = .ok (.aload_n 0, 1) := by decide +kernel
theorem dX8_add_139 : decode cX8_add 139 = .ok (.dup, 1) := by decide +kernel
theorem dX8_add_140 : decode cX8_add 140 = .ok (.getfield 57, 3) := by decide +kernel
theorem dX8_add_143 : decode cX8_add 143 = .ok (.iload_n 3, 1) := by decide +kernel
theorem dX8_add_144 : decode cX8_add 144 = .ok (.iconst 3, 1) := by decide +kernel
theorem dX8_add_145 : decode cX8_add 145 = .ok (.if_icmp .ne 7, 3) := by decide +kernel
theorem dX8_add_148 : decode cX8_add 148 = .ok (.iconst 1, 1) := by decide +kernel
theorem dX8_add_149 : decode cX8_add 149 = .ok (.goto 4, 3) := by decide +kernel
theorem dX8_add_152 : decode cX8_add 152 = .ok (.iconst 0, 1) := by decide +kernel
theorem dX8_add_153 : decode cX8_add 153 = .ok (.iadd, 1) := by decide +kernel
theorem dX8_add_154 : decode cX8_add 154 = .ok (.putfield 57, 3) := by decide +kernel
theorem dX8_add_157 : decode cX8_add 157 = .ok (.iload 6, 2) := by decide +kernel
theorem dX8_add_159 : decode cX8_add 159 = .ok (.ireturn, 1) := by decide +kernel
def fX8_add (a1 : Int32) (a2 : Int32) (a3 : Int32) (a4 : Int32) (a5 : Int32) (w : Wd) : Int32 × Wd :=
  lt ((gi w 13 12)) fun x1 => lt (si w 13 12 ((gi w 13 12) + 1)) fun w2 => lt (rsi w2 21 4104 x1 a1) fun w3 => lt (rsi w3 22 4104 x1 a2) fun w4 => lt (rsi w4 14 4104 x1 a3) fun w5 => lt (rsi w5 15 4104 x1 a4) fun w6 => lt (rsi w6 17 4104 x1 a5) fun w7 => lt (rsi w7 16 4104 x1 0) fun w8 => lt (rsi w8 18 4104 x1 0) fun w9 => lt (rsi w9 19 4104 x1 0) fun w10 => lt (rsi w10 20 4104 x1 0) fun w11 => lt (rsi w11 23 4104 x1 0) fun w12 => lt (rsi w12 24 4104 x1 0) fun w13 => lt (rsi w13 25 8193 a1 x1) fun w14 => if a3 = 3 then (lt (si w14 13 14 ((gi w14 13 14) + 1)) fun w16 => (x1, w16)) else (lt (si w14 13 14 ((gi w14 13 14) + 0)) fun w17 => (x1, w17))
set_option maxHeartbeats 16000000 in
theorem pX8_add {q : Gq} {l : Launch} {N : Option Value → Wd → Prop} {X : String → Wd → Prop} {w : Wd} {R : Int32 × Wd} (hN : N (some (.int R.1)) R.2) {a1 : Int32} {a2 : Int32} {a3 : Int32} {a4 : Int32} {a5 : Int32} (h : fX8_add a1 a2 a3 a4 a5 w = R) : RT (GA q) l 1 yX8_add cX8_add 7 ((some .int)) N X 0 [] [(0, .ref 13), (1, .int a1), (2, .int a2), (3, .int a3), (4, .int a4), (5, .int a5)] w := by
  unfold fX8_add at h
  refine r_aload_n (pc := 0) dX8_add_0 rfl 0 rfl ?_
  refine r_get (pc := 1) (j := 12) (v := .int (gi w 13 12)) oA13 cf8 flRX8_50 rfl dX8_add_1 rfl ?_
  replace h := lt_e h; obtain ⟨x1, ex1, h⟩ := h
  refine r_topi ex1 ?_
  refine r_istore (pc := 4) (loc' := [(6, .int x1), (0, .ref 13), (1, .int a1), (2, .int a2), (3, .int a3), (4, .int a4), (5, .int a5)]) dX8_add_4 (Nat.le_of_ble_eq_true rfl) rfl ?_
  refine r_aload_n (pc := 6) dX8_add_6 rfl 1 rfl ?_
  refine r_dup (pc := 7) dX8_add_7 rfl ?_
  refine r_get (pc := 8) (j := 12) (v := .int (gi w 13 12)) oA13 cf8 flRX8_50 rfl dX8_add_8 rfl ?_
  refine r_iconst (pc := 11) dX8_add_11 ki_1 ?_
  refine r_iadd (pc := 12) dX8_add_12 ?_
  replace h := lt_e h; obtain ⟨w2, ew2, h⟩ := h
  refine r_putI (pc := 13) (j := 12) oA13 cf8 flRX8_50 rfl rfl rfl rfl dX8_add_13 ?_
  refine r_w ew2 ?_
  refine r_aload_n (pc := 16) dX8_add_16 rfl 1 rfl ?_
  refine r_get (pc := 17) (j := 7) (v := .ref 21) oA13 cf8 flRX8_33 rfl dX8_add_17 rfl ?_
  refine r_iload (pc := 20) dX8_add_20 0 rfl ?_
  refine r_iload_n (pc := 22) dX8_add_22 rfl 2 rfl ?_
  replace h := lt_e h; obtain ⟨w3, ew3, h⟩ := h
  refine r_cSv (pc := 23) wyX6_set mlRX8_76 tyX6_set ⟨(Nat.le_of_ble_eq_true rfl), (Nat.le_of_ble_eq_true rfl)⟩ rfl rfl (Nat.le_of_ble_eq_true rfl) dX8_add_23 (mX6_set aA21 (Nat.le_of_ble_eq_true rfl) ew3 (pV.mk ?_))
  refine r_aload_n (pc := 26) dX8_add_26 rfl 1 rfl ?_
  refine r_get (pc := 27) (j := 8) (v := .ref 22) oA13 cf8 flRX8_36 rfl dX8_add_27 rfl ?_
  refine r_iload (pc := 30) dX8_add_30 0 rfl ?_
  refine r_iload_n (pc := 32) dX8_add_32 rfl 3 rfl ?_
  replace h := lt_e h; obtain ⟨w4, ew4, h⟩ := h
  refine r_cSv (pc := 33) wyX6_set mlRX8_76 tyX6_set ⟨(Nat.le_of_ble_eq_true rfl), (Nat.le_of_ble_eq_true rfl)⟩ rfl rfl (Nat.le_of_ble_eq_true rfl) dX8_add_33 (mX6_set aA22 (Nat.le_of_ble_eq_true rfl) ew4 (pV.mk ?_))
  refine r_aload_n (pc := 36) dX8_add_36 rfl 1 rfl ?_
  refine r_get (pc := 37) (j := 0) (v := .ref 14) oA13 cf8 flRX8_11 rfl dX8_add_37 rfl ?_
  refine r_iload (pc := 40) dX8_add_40 0 rfl ?_
  refine r_iload_n (pc := 42) dX8_add_42 rfl 4 rfl ?_
  replace h := lt_e h; obtain ⟨w5, ew5, h⟩ := h
  refine r_cSv (pc := 43) wyX6_set mlRX8_76 tyX6_set ⟨(Nat.le_of_ble_eq_true rfl), (Nat.le_of_ble_eq_true rfl)⟩ rfl rfl (Nat.le_of_ble_eq_true rfl) dX8_add_43 (mX6_set aA14 (Nat.le_of_ble_eq_true rfl) ew5 (pV.mk ?_))
  refine r_aload_n (pc := 46) dX8_add_46 rfl 1 rfl ?_
  refine r_get (pc := 47) (j := 1) (v := .ref 15) oA13 cf8 flRX8_15 rfl dX8_add_47 rfl ?_
  refine r_iload (pc := 50) dX8_add_50 0 rfl ?_
  refine r_iload (pc := 52) dX8_add_52 5 rfl ?_
  replace h := lt_e h; obtain ⟨w6, ew6, h⟩ := h
  refine r_cSv (pc := 54) wyX6_set mlRX8_76 tyX6_set ⟨(Nat.le_of_ble_eq_true rfl), (Nat.le_of_ble_eq_true rfl)⟩ rfl rfl (Nat.le_of_ble_eq_true rfl) dX8_add_54 (mX6_set aA15 (Nat.le_of_ble_eq_true rfl) ew6 (pV.mk ?_))
  refine r_aload_n (pc := 57) dX8_add_57 rfl 1 rfl ?_
  refine r_get (pc := 58) (j := 3) (v := .ref 17) oA13 cf8 flRX8_21 rfl dX8_add_58 rfl ?_
  refine r_iload (pc := 61) dX8_add_61 0 rfl ?_
  refine r_iload (pc := 63) dX8_add_63 6 rfl ?_
  replace h := lt_e h; obtain ⟨w7, ew7, h⟩ := h
  refine r_cSv (pc := 65) wyX6_set mlRX8_76 tyX6_set ⟨(Nat.le_of_ble_eq_true rfl), (Nat.le_of_ble_eq_true rfl)⟩ rfl rfl (Nat.le_of_ble_eq_true rfl) dX8_add_65 (mX6_set aA17 (Nat.le_of_ble_eq_true rfl) ew7 (pV.mk ?_))
  refine r_aload_n (pc := 68) dX8_add_68 rfl 1 rfl ?_
  refine r_get (pc := 69) (j := 2) (v := .ref 16) oA13 cf8 flRX8_18 rfl dX8_add_69 rfl ?_
  refine r_iload (pc := 72) dX8_add_72 0 rfl ?_
  refine r_iconst (pc := 74) dX8_add_74 ki_0 ?_
  replace h := lt_e h; obtain ⟨w8, ew8, h⟩ := h
  refine r_cSv (pc := 75) wyX6_set mlRX8_76 tyX6_set ⟨(Nat.le_of_ble_eq_true rfl), (Nat.le_of_ble_eq_true rfl)⟩ rfl rfl (Nat.le_of_ble_eq_true rfl) dX8_add_75 (mX6_set aA16 (Nat.le_of_ble_eq_true rfl) ew8 (pV.mk ?_))
  refine r_aload_n (pc := 78) dX8_add_78 rfl 1 rfl ?_
  refine r_get (pc := 79) (j := 4) (v := .ref 18) oA13 cf8 flRX8_24 rfl dX8_add_79 rfl ?_
  refine r_iload (pc := 82) dX8_add_82 0 rfl ?_
  refine r_iconst (pc := 84) dX8_add_84 ki_0 ?_
  replace h := lt_e h; obtain ⟨w9, ew9, h⟩ := h
  refine r_cSv (pc := 85) wyX6_set mlRX8_76 tyX6_set ⟨(Nat.le_of_ble_eq_true rfl), (Nat.le_of_ble_eq_true rfl)⟩ rfl rfl (Nat.le_of_ble_eq_true rfl) dX8_add_85 (mX6_set aA18 (Nat.le_of_ble_eq_true rfl) ew9 (pV.mk ?_))
  refine r_aload_n (pc := 88) dX8_add_88 rfl 1 rfl ?_
  refine r_get (pc := 89) (j := 5) (v := .ref 19) oA13 cf8 flRX8_27 rfl dX8_add_89 rfl ?_
  refine r_iload (pc := 92) dX8_add_92 0 rfl ?_
  refine r_iconst (pc := 94) dX8_add_94 ki_0 ?_
  replace h := lt_e h; obtain ⟨w10, ew10, h⟩ := h
  refine r_cSv (pc := 95) wyX6_set mlRX8_76 tyX6_set ⟨(Nat.le_of_ble_eq_true rfl), (Nat.le_of_ble_eq_true rfl)⟩ rfl rfl (Nat.le_of_ble_eq_true rfl) dX8_add_95 (mX6_set aA19 (Nat.le_of_ble_eq_true rfl) ew10 (pV.mk ?_))
  refine r_aload_n (pc := 98) dX8_add_98 rfl 1 rfl ?_
  refine r_get (pc := 99) (j := 6) (v := .ref 20) oA13 cf8 flRX8_30 rfl dX8_add_99 rfl ?_
  refine r_iload (pc := 102) dX8_add_102 0 rfl ?_
  refine r_iconst (pc := 104) dX8_add_104 ki_0 ?_
  replace h := lt_e h; obtain ⟨w11, ew11, h⟩ := h
  refine r_cSv (pc := 105) wyX6_set mlRX8_76 tyX6_set ⟨(Nat.le_of_ble_eq_true rfl), (Nat.le_of_ble_eq_true rfl)⟩ rfl rfl (Nat.le_of_ble_eq_true rfl) dX8_add_105 (mX6_set aA20 (Nat.le_of_ble_eq_true rfl) ew11 (pV.mk ?_))
  refine r_aload_n (pc := 108) dX8_add_108 rfl 1 rfl ?_
  refine r_get (pc := 109) (j := 9) (v := .ref 23) oA13 cf8 flRX8_39 rfl dX8_add_109 rfl ?_
  refine r_iload (pc := 112) dX8_add_112 0 rfl ?_
  refine r_iconst (pc := 114) dX8_add_114 ki_0 ?_
  replace h := lt_e h; obtain ⟨w12, ew12, h⟩ := h
  refine r_cSv (pc := 115) wyX6_set mlRX8_76 tyX6_set ⟨(Nat.le_of_ble_eq_true rfl), (Nat.le_of_ble_eq_true rfl)⟩ rfl rfl (Nat.le_of_ble_eq_true rfl) dX8_add_115 (mX6_set aA23 (Nat.le_of_ble_eq_true rfl) ew12 (pV.mk ?_))
  refine r_aload_n (pc := 118) dX8_add_118 rfl 1 rfl ?_
  refine r_get (pc := 119) (j := 10) (v := .ref 24) oA13 cf8 flRX8_42 rfl dX8_add_119 rfl ?_
  refine r_iload (pc := 122) dX8_add_122 0 rfl ?_
  refine r_iconst (pc := 124) dX8_add_124 ki_0 ?_
  replace h := lt_e h; obtain ⟨w13, ew13, h⟩ := h
  refine r_cSv (pc := 125) wyX6_set mlRX8_76 tyX6_set ⟨(Nat.le_of_ble_eq_true rfl), (Nat.le_of_ble_eq_true rfl)⟩ rfl rfl (Nat.le_of_ble_eq_true rfl) dX8_add_125 (mX6_set aA24 (Nat.le_of_ble_eq_true rfl) ew13 (pV.mk ?_))
  refine r_aload_n (pc := 128) dX8_add_128 rfl 1 rfl ?_
  refine r_get (pc := 129) (j := 11) (v := .ref 25) oA13 cf8 flRX8_47 rfl dX8_add_129 rfl ?_
  refine r_iload_n (pc := 132) dX8_add_132 rfl 2 rfl ?_
  refine r_iload (pc := 133) dX8_add_133 0 rfl ?_
  replace h := lt_e h; obtain ⟨w14, ew14, h⟩ := h
  refine r_cSv (pc := 135) wyX6_set mlRX8_76 tyX6_set ⟨(Nat.le_of_ble_eq_true rfl), (Nat.le_of_ble_eq_true rfl)⟩ rfl rfl (Nat.le_of_ble_eq_true rfl) dX8_add_135 (mX6_set aA25 (Nat.le_of_ble_eq_true rfl) ew14 (pV.mk ?_))
  refine r_aload_n (pc := 138) dX8_add_138 rfl 1 rfl ?_
  refine r_dup (pc := 139) dX8_add_139 rfl ?_
  refine r_get (pc := 140) (j := 14) (v := .int (gi w14 13 14)) oA13 cf8 flRX8_57 rfl dX8_add_140 rfl ?_
  refine r_iload_n (pc := 143) dX8_add_143 rfl 4 rfl ?_
  refine r_iconst (pc := 144) dX8_add_144 ki_3 ?_
  refine r_icmp_ne (pc := 145) dX8_add_145 rfl (fun hc15 => ?_) (fun hc15 => ?_)
  · replace h := if_f hc15 h
    refine r_iconst (pc := 152) dX8_add_152 ki_0 ?_
    refine r_iadd (pc := 153) dX8_add_153 ?_
    replace h := lt_e h; obtain ⟨w17, ew17, h⟩ := h
    refine r_putI (pc := 154) (j := 14) oA13 cf8 flRX8_57 rfl rfl rfl rfl dX8_add_154 ?_
    refine r_w ew17 ?_
    refine r_iload (pc := 157) dX8_add_157 0 rfl ?_
    exact rS_i (pc := 159) rfl dX8_add_159 h hN
  replace h := if_t hc15 h
  refine r_iconst (pc := 148) dX8_add_148 ki_1 ?_
  refine r_goto (pc := 149) dX8_add_149 rfl ?_
  refine r_iadd (pc := 153) dX8_add_153 ?_
  replace h := lt_e h; obtain ⟨w16, ew16, h⟩ := h
  refine r_putI (pc := 154) (j := 14) oA13 cf8 flRX8_57 rfl rfl rfl rfl dX8_add_154 ?_
  refine r_w ew16 ?_
  refine r_iload (pc := 157) dX8_add_157 0 rfl ?_
  exact rS_i (pc := 159) rfl dX8_add_159 h hN
theorem mX8_add {q : Gq} {l : Launch} {N : Option Value → Wd → Prop} {X : String → Wd → Prop} {a1 : Int32} {a2 : Int32} {a3 : Int32} {a4 : Int32} {a5 : Int32} {w : Wd} {x : Int32} {u : Wd} (h : fX8_add a1 a2 a3 a4 a5 w = (x, u)) (hN : N (some (.int x)) u) : Ct (GA q) l 1 yX8_add cX8_add 7 ((some .int)) [.ref 13, .int a1, .int a2, .int a3, .int a4, .int a5] w N X := Ct.of (by decide) (Nat.le_of_ble_eq_true rfl) (pX8_add hN h)
/-! AlgolMill$Symbols.clear (I)V: O, 2 -/
theorem dX8_clear_0 : decode cX8_clear 0 = .ok (.aload_n 0, 1) := by decide +kernel
theorem dX8_clear_1 : decode cX8_clear 1 = .ok (.iconst 0, 1) := by decide +kernel
theorem dX8_clear_2 : decode cX8_clear 2 = .ok (.putfield 50, 3) := by decide +kernel
theorem dX8_clear_5 : decode cX8_clear 5 = .ok (.aload_n 0, 1) := by decide +kernel
theorem dX8_clear_6 : decode cX8_clear 6 = .ok (.iconst 0, 1) := by decide +kernel
theorem dX8_clear_7 : decode cX8_clear 7 = .ok (.putfield 54, 3) := by decide +kernel
theorem dX8_clear_10 : decode cX8_clear 10 = .ok (.aload_n 0, 1) := by decide +kernel
theorem dX8_clear_11 : decode cX8_clear 11 = .ok (.iconst 0, 1) := by decide +kernel
theorem dX8_clear_12 : decode cX8_clear 12 = .ok (.putfield 57, 3) := by decide +kernel
theorem dX8_clear_15 : decode cX8_clear 15 = .ok (.aload_n 0, 1) := by decide +kernel
theorem dX8_clear_16 : decode cX8_clear 16 = .ok (.getfield 47, 3) := by decide +kernel
theorem dX8_clear_19 : decode cX8_clear 19 = .ok (.iconst 0, 1) := by decide +kernel
theorem dX8_clear_20 : decode cX8_clear 20 = .ok (.iload_n 1, 1) := by decide +kernel
theorem dX8_clear_21 : decode cX8_clear 21 = .ok (.sipush 8193, 3) := by decide +kernel
theorem dX8_clear_24 : decode cX8_clear 24 = .ok (.invokestatic 60, 3) := by decide +kernel
theorem dX8_clear_27 : decode cX8_clear 27 = .ok (.iconst 0, 1) := by decide +kernel
theorem dX8_clear_28 : decode cX8_clear 28 = .ok (.invokestatic 66, 3) := by decide +kernel
theorem dX8_clear_31 : decode cX8_clear 31 = .ok (.aload_n 0, 1) := by decide +kernel
theorem dX8_clear_32 : decode cX8_clear 32 = .ok (.iconst 0, 1) := by decide +kernel
theorem dX8_clear_33 : decode cX8_clear 33 = .ok (.iconst 0, 1) := by decide +kernel
theorem dX8_clear_34 : decode cX8_clear 34 = .ok (.iconst 0, 1) := by decide +kernel
theorem dX8_clear_35 : decode cX8_clear 35 = .ok (.iconst 0, 1) := by decide +kernel
theorem dX8_clear_36 : decode cX8_clear 36 = .ok (.iconst 0, 1) := by decide +kernel
theorem dX8_clear_37 : decode cX8_clear 37 = .ok (.invokevirtual 72, 3) := by decide +kernel
theorem dX8_clear_40 : decode cX8_clear 40 = .ok (.pop, 1) := by decide +kernel
theorem dX8_clear_41 : decode cX8_clear 41 = .ok (.return_, 1) := by decide +kernel
def fX8_clear (a1 : Int32) (w : Wd) : Option Wd :=
  lt (si w 13 12 0) fun w1 => lt (si w1 13 13 0) fun w2 => lt (si w2 13 14 0) fun w3 => lt (fJ9_min_7cf53 a1 8193) fun x4 => bn (fJ7_fill_fda19 25 8193 0 x4 0 w3) fun w5 => lt2 (fX8_add 0 0 0 0 0 w5) fun x6 w7 => some w7
theorem pX8_clear {q : Gq} {l : Launch} {N : Option Value → Wd → Prop} {X : String → Wd → Prop} {w : Wd} {R : Wd} (hN : N none R) {a1 : Int32} (h : fX8_clear a1 w = some R) : RT (GA q) l 2 yX8_clear cX8_clear 2 (none) N X 0 [] [(0, .ref 13), (1, .int a1)] w := by
  unfold fX8_clear at h
  refine r_aload_n (pc := 0) dX8_clear_0 rfl 0 rfl ?_
  refine r_iconst (pc := 1) dX8_clear_1 ki_0 ?_
  replace h := lt_e h; obtain ⟨w1, ew1, h⟩ := h
  refine r_putI (pc := 2) (j := 12) oA13 cf8 flRX8_50 rfl rfl rfl rfl dX8_clear_2 ?_
  refine r_w ew1 ?_
  refine r_aload_n (pc := 5) dX8_clear_5 rfl 0 rfl ?_
  refine r_iconst (pc := 6) dX8_clear_6 ki_0 ?_
  replace h := lt_e h; obtain ⟨w2, ew2, h⟩ := h
  refine r_putI (pc := 7) (j := 13) oA13 cf8 flRX8_54 rfl rfl rfl rfl dX8_clear_7 ?_
  refine r_w ew2 ?_
  refine r_aload_n (pc := 10) dX8_clear_10 rfl 0 rfl ?_
  refine r_iconst (pc := 11) dX8_clear_11 ki_0 ?_
  replace h := lt_e h; obtain ⟨w3, ew3, h⟩ := h
  refine r_putI (pc := 12) (j := 14) oA13 cf8 flRX8_57 rfl rfl rfl rfl dX8_clear_12 ?_
  refine r_w ew3 ?_
  refine r_aload_n (pc := 15) dX8_clear_15 rfl 0 rfl ?_
  refine r_get (pc := 16) (j := 11) (v := .ref 25) oA13 cf8 flRX8_47 rfl dX8_clear_16 rfl ?_
  refine r_iconst (pc := 19) dX8_clear_19 ki_0 ?_
  refine r_iload_n (pc := 20) dX8_clear_20 rfl 1 rfl ?_
  refine r_sipush (pc := 21) dX8_clear_21 ks_8193 ?_
  replace h := lt_e h; obtain ⟨x4, ex4, h⟩ := h
  refine r_cSi (pc := 24) wyJ9_min_7cf53 mlRX8_60 tyJ9_min_7cf53 ⟨(Nat.le_of_ble_eq_true rfl), (Nat.le_of_ble_eq_true rfl)⟩ rfl rfl (Nat.le_of_ble_eq_true rfl) dX8_clear_24 (mJ9_min_7cf53 ex4 (pI.mk ?_))
  refine r_iconst (pc := 27) dX8_clear_27 ki_0 ?_
  replace h := bn_e h; obtain ⟨w5, ew5, h⟩ := h
  refine r_cSv (pc := 28) wyJ7_fill_fda19 mlRX8_66 tyJ7_fill_fda19 ⟨(Nat.le_of_ble_eq_true rfl), (Nat.le_of_ble_eq_true rfl)⟩ rfl rfl (Nat.le_of_ble_eq_true rfl) dX8_clear_28 (mJ7_fill_fda19 aA25 ew5 (pV.mk ?_))
  refine r_aload_n (pc := 31) dX8_clear_31 rfl 0 rfl ?_
  refine r_iconst (pc := 32) dX8_clear_32 ki_0 ?_
  refine r_iconst (pc := 33) dX8_clear_33 ki_0 ?_
  refine r_iconst (pc := 34) dX8_clear_34 ki_0 ?_
  refine r_iconst (pc := 35) dX8_clear_35 ki_0 ?_
  refine r_iconst (pc := 36) dX8_clear_36 ki_0 ?_
  replace h := lt2_e h; obtain ⟨x6, w7, ew7, h⟩ := h
  refine r_cVi (pc := 37) wyX8_add oA13 rfl mlRX8_72 iyX8_add syX8_add ⟨(Nat.le_of_ble_eq_true rfl), (Nat.le_of_ble_eq_true rfl)⟩ rfl rfl (Nat.le_of_ble_eq_true rfl) dX8_clear_37 (mX8_add ew7 (pI.mk ?_))
  refine r_pop (pc := 40) dX8_clear_40 rfl ?_
  exact rO_v (pc := 41) rfl dX8_clear_41 h hN
theorem mX8_clear {q : Gq} {l : Launch} {N : Option Value → Wd → Prop} {X : String → Wd → Prop} {a1 : Int32} {w : Wd} {u : Wd} (h : fX8_clear a1 w = some u) (hN : N none u) : Ct (GA q) l 2 yX8_clear cX8_clear 2 (none) [.ref 13, .int a1] w N X := Ct.of (by decide) (Nat.le_of_ble_eq_true rfl) (pX8_clear hN h)
/-! AlgolMill$Symbols.size ()I: P, 0 -/
theorem dX8_size_0 : decode cX8_size 0 = .ok (.aload_n 0, 1) := by decide +kernel
theorem dX8_size_1 : decode cX8_size 1 = .ok (.getfield 50, 3) := by decide +kernel
theorem dX8_size_4 : decode cX8_size 4 = .ok (.ireturn, 1) := by decide +kernel
def fX8_size (w : Wd) : Int32 :=
  (gi w 13 12)
theorem pX8_size {q : Gq} {l : Launch} {N : Option Value → Wd → Prop} {X : String → Wd → Prop} {w : Wd} {R : Int32} (hN : N (some (.int R)) w) (h : fX8_size w = R) : RT (GA q) l 0 yX8_size cX8_size 1 ((some .int)) N X 0 [] [(0, .ref 13)] w := by
  unfold fX8_size at h
  refine r_aload_n (pc := 0) dX8_size_0 rfl 0 rfl ?_
  refine r_get (pc := 1) (j := 12) (v := .int (gi w 13 12)) oA13 cf8 flRX8_50 rfl dX8_size_1 rfl ?_
  exact rP_i (pc := 4) rfl dX8_size_4 h hN
theorem mX8_size {q : Gq} {l : Launch} {N : Option Value → Wd → Prop} {X : String → Wd → Prop} {w : Wd} {x : Int32} (h : fX8_size w = x) (hN : N (some (.int x)) w) : Ct (GA q) l 0 yX8_size cX8_size 1 ((some .int)) [.ref 13] w N X := Ct.of (by decide) (Nat.le_of_ble_eq_true rfl) (pX8_size hN h)
/-! AlgolMill$Symbols.owns ()I: P, 0 -/
theorem dX8_owns_0 : decode cX8_owns 0 = .ok (.aload_n 0, 1) := by decide +kernel
theorem dX8_owns_1 : decode cX8_owns 1 = .ok (.getfield 54, 3) := by decide +kernel
theorem dX8_owns_4 : decode cX8_owns 4 = .ok (.ireturn, 1) := by decide +kernel
def fX8_owns (w : Wd) : Int32 :=
  (gi w 13 13)
theorem pX8_owns {q : Gq} {l : Launch} {N : Option Value → Wd → Prop} {X : String → Wd → Prop} {w : Wd} {R : Int32} (hN : N (some (.int R)) w) (h : fX8_owns w = R) : RT (GA q) l 0 yX8_owns cX8_owns 1 ((some .int)) N X 0 [] [(0, .ref 13)] w := by
  unfold fX8_owns at h
  refine r_aload_n (pc := 0) dX8_owns_0 rfl 0 rfl ?_
  refine r_get (pc := 1) (j := 13) (v := .int (gi w 13 13)) oA13 cf8 flRX8_54 rfl dX8_owns_1 rfl ?_
  exact rP_i (pc := 4) rfl dX8_owns_4 h hN
theorem mX8_owns {q : Gq} {l : Launch} {N : Option Value → Wd → Prop} {X : String → Wd → Prop} {w : Wd} {x : Int32} (h : fX8_owns w = x) (hN : N (some (.int x)) w) : Ct (GA q) l 0 yX8_owns cX8_owns 1 ((some .int)) [.ref 13] w N X := Ct.of (by decide) (Nat.le_of_ble_eq_true rfl) (pX8_owns hN h)
/-! AlgolMill$Symbols.procedures ()I: P, 0 -/
theorem dX8_procedures_0 : decode cX8_procedures 0 = .ok (.aload_n 0, 1) := by decide +kernel
theorem dX8_procedures_1 : decode cX8_procedures 1 = .ok (.getfield 57, 3) := by decide +kernel
theorem dX8_procedures_4 : decode cX8_procedures 4 = .ok (.ireturn, 1) := by decide +kernel
def fX8_procedures (w : Wd) : Int32 :=
  (gi w 13 14)
theorem pX8_procedures {q : Gq} {l : Launch} {N : Option Value → Wd → Prop} {X : String → Wd → Prop} {w : Wd} {R : Int32} (hN : N (some (.int R)) w) (h : fX8_procedures w = R) : RT (GA q) l 0 yX8_procedures cX8_procedures 1 ((some .int)) N X 0 [] [(0, .ref 13)] w := by
  unfold fX8_procedures at h
  refine r_aload_n (pc := 0) dX8_procedures_0 rfl 0 rfl ?_
  refine r_get (pc := 1) (j := 14) (v := .int (gi w 13 14)) oA13 cf8 flRX8_57 rfl dX8_procedures_1 rfl ?_
  exact rP_i (pc := 4) rfl dX8_procedures_4 h hN
theorem mX8_procedures {q : Gq} {l : Launch} {N : Option Value → Wd → Prop} {X : String → Wd → Prop} {w : Wd} {x : Int32} (h : fX8_procedures w = x) (hN : N (some (.int x)) w) : Ct (GA q) l 0 yX8_procedures cX8_procedures 1 ((some .int)) [.ref 13] w N X := Ct.of (by decide) (Nat.le_of_ble_eq_true rfl) (pX8_procedures hN h)
/-! AlgolMill$Symbols.declaredAt (I)I: P, 1 -/
theorem dX8_declaredAt_0 : decode cX8_declaredAt 0 = .ok (.aload_n 0, 1) := by decide +kernel
theorem dX8_declaredAt_1 : decode cX8_declaredAt 1 = .ok (.getfield 47, 3) := by decide +kernel
theorem dX8_declaredAt_4 : decode cX8_declaredAt 4 = .ok (.iload_n 1, 1) := by decide +kernel
theorem dX8_declaredAt_5 : decode cX8_declaredAt 5 = .ok (.invokestatic 82, 3) := by decide +kernel
theorem dX8_declaredAt_8 : decode cX8_declaredAt 8 = .ok (.ireturn, 1) := by decide +kernel
def fX8_declaredAt (a1 : Int32) (w : Wd) : Int32 :=
  lt (rgi w 25 8193 a1) fun x1 => x1
theorem pX8_declaredAt {q : Gq} {l : Launch} {N : Option Value → Wd → Prop} {X : String → Wd → Prop} {w : Wd} {R : Int32} (hN : N (some (.int R)) w) {a1 : Int32} (h : fX8_declaredAt a1 w = R) : RT (GA q) l 1 yX8_declaredAt cX8_declaredAt 2 ((some .int)) N X 0 [] [(0, .ref 13), (1, .int a1)] w := by
  unfold fX8_declaredAt at h
  refine r_aload_n (pc := 0) dX8_declaredAt_0 rfl 0 rfl ?_
  refine r_get (pc := 1) (j := 11) (v := .ref 25) oA13 cf8 flRX8_47 rfl dX8_declaredAt_1 rfl ?_
  refine r_iload_n (pc := 4) dX8_declaredAt_4 rfl 1 rfl ?_
  replace h := lt_e h; obtain ⟨x1, ex1, h⟩ := h
  refine r_cSi (pc := 5) wyX6_get mlRX8_82 tyX6_get ⟨(Nat.le_of_ble_eq_true rfl), (Nat.le_of_ble_eq_true rfl)⟩ rfl rfl (Nat.le_of_ble_eq_true rfl) dX8_declaredAt_5 (mX6_get aA25 (Nat.le_of_ble_eq_true rfl) ex1 (pI.mk ?_))
  exact rP_i (pc := 8) rfl dX8_declaredAt_8 h hN
theorem mX8_declaredAt {q : Gq} {l : Launch} {N : Option Value → Wd → Prop} {X : String → Wd → Prop} {a1 : Int32} {w : Wd} {x : Int32} (h : fX8_declaredAt a1 w = x) (hN : N (some (.int x)) w) : Ct (GA q) l 1 yX8_declaredAt cX8_declaredAt 2 ((some .int)) [.ref 13, .int a1] w N X := Ct.of (by decide) (Nat.le_of_ble_eq_true rfl) (pX8_declaredAt hN h)
/-! AlgolMill$Symbols.token (I)I: P, 1 -/
theorem dX8_token_0 : decode cX8_token 0 = .ok (.aload_n 0, 1) := by decide +kernel
theorem dX8_token_1 : decode cX8_token 1 = .ok (.getfield 33, 3) := by decide +kernel
theorem dX8_token_4 : decode cX8_token 4 = .ok (.iload_n 1, 1) := by decide +kernel
theorem dX8_token_5 : decode cX8_token 5 = .ok (.invokestatic 82, 3) := by decide +kernel
theorem dX8_token_8 : decode cX8_token 8 = .ok (.ireturn, 1) := by decide +kernel
def fX8_token (a1 : Int32) (w : Wd) : Int32 :=
  lt (rgi w 21 4104 a1) fun x1 => x1
theorem pX8_token {q : Gq} {l : Launch} {N : Option Value → Wd → Prop} {X : String → Wd → Prop} {w : Wd} {R : Int32} (hN : N (some (.int R)) w) {a1 : Int32} (h : fX8_token a1 w = R) : RT (GA q) l 1 yX8_token cX8_token 2 ((some .int)) N X 0 [] [(0, .ref 13), (1, .int a1)] w := by
  unfold fX8_token at h
  refine r_aload_n (pc := 0) dX8_token_0 rfl 0 rfl ?_
  refine r_get (pc := 1) (j := 7) (v := .ref 21) oA13 cf8 flRX8_33 rfl dX8_token_1 rfl ?_
  refine r_iload_n (pc := 4) dX8_token_4 rfl 1 rfl ?_
  replace h := lt_e h; obtain ⟨x1, ex1, h⟩ := h
  refine r_cSi (pc := 5) wyX6_get mlRX8_82 tyX6_get ⟨(Nat.le_of_ble_eq_true rfl), (Nat.le_of_ble_eq_true rfl)⟩ rfl rfl (Nat.le_of_ble_eq_true rfl) dX8_token_5 (mX6_get aA21 (Nat.le_of_ble_eq_true rfl) ex1 (pI.mk ?_))
  exact rP_i (pc := 8) rfl dX8_token_8 h hN
theorem mX8_token {q : Gq} {l : Launch} {N : Option Value → Wd → Prop} {X : String → Wd → Prop} {a1 : Int32} {w : Wd} {x : Int32} (h : fX8_token a1 w = x) (hN : N (some (.int x)) w) : Ct (GA q) l 1 yX8_token cX8_token 2 ((some .int)) [.ref 13, .int a1] w N X := Ct.of (by decide) (Nat.le_of_ble_eq_true rfl) (pX8_token hN h)
/-! AlgolMill$Symbols.name (I)I: P, 1 -/
theorem dX8_name_0 : decode cX8_name 0 = .ok (.aload_n 0, 1) := by decide +kernel
theorem dX8_name_1 : decode cX8_name 1 = .ok (.getfield 36, 3) := by decide +kernel
theorem dX8_name_4 : decode cX8_name 4 = .ok (.iload_n 1, 1) := by decide +kernel
theorem dX8_name_5 : decode cX8_name 5 = .ok (.invokestatic 82, 3) := by decide +kernel
theorem dX8_name_8 : decode cX8_name 8 = .ok (.ireturn, 1) := by decide +kernel
def fX8_name (a1 : Int32) (w : Wd) : Int32 :=
  lt (rgi w 22 4104 a1) fun x1 => x1
theorem pX8_name {q : Gq} {l : Launch} {N : Option Value → Wd → Prop} {X : String → Wd → Prop} {w : Wd} {R : Int32} (hN : N (some (.int R)) w) {a1 : Int32} (h : fX8_name a1 w = R) : RT (GA q) l 1 yX8_name cX8_name 2 ((some .int)) N X 0 [] [(0, .ref 13), (1, .int a1)] w := by
  unfold fX8_name at h
  refine r_aload_n (pc := 0) dX8_name_0 rfl 0 rfl ?_
  refine r_get (pc := 1) (j := 8) (v := .ref 22) oA13 cf8 flRX8_36 rfl dX8_name_1 rfl ?_
  refine r_iload_n (pc := 4) dX8_name_4 rfl 1 rfl ?_
  replace h := lt_e h; obtain ⟨x1, ex1, h⟩ := h
  refine r_cSi (pc := 5) wyX6_get mlRX8_82 tyX6_get ⟨(Nat.le_of_ble_eq_true rfl), (Nat.le_of_ble_eq_true rfl)⟩ rfl rfl (Nat.le_of_ble_eq_true rfl) dX8_name_5 (mX6_get aA22 (Nat.le_of_ble_eq_true rfl) ex1 (pI.mk ?_))
  exact rP_i (pc := 8) rfl dX8_name_8 h hN
theorem mX8_name {q : Gq} {l : Launch} {N : Option Value → Wd → Prop} {X : String → Wd → Prop} {a1 : Int32} {w : Wd} {x : Int32} (h : fX8_name a1 w = x) (hN : N (some (.int x)) w) : Ct (GA q) l 1 yX8_name cX8_name 2 ((some .int)) [.ref 13, .int a1] w N X := Ct.of (by decide) (Nat.le_of_ble_eq_true rfl) (pX8_name hN h)
/-! AlgolMill$Symbols.sort (I)I: P, 1 -/
theorem dX8_sort_0 : decode cX8_sort 0 = .ok (.aload_n 0, 1) := by decide +kernel
theorem dX8_sort_1 : decode cX8_sort 1 = .ok (.getfield 11, 3) := by decide +kernel
theorem dX8_sort_4 : decode cX8_sort 4 = .ok (.iload_n 1, 1) := by decide +kernel
theorem dX8_sort_5 : decode cX8_sort 5 = .ok (.invokestatic 82, 3) := by decide +kernel
theorem dX8_sort_8 : decode cX8_sort 8 = .ok (.ireturn, 1) := by decide +kernel
def fX8_sort (a1 : Int32) (w : Wd) : Int32 :=
  lt (rgi w 14 4104 a1) fun x1 => x1
theorem pX8_sort {q : Gq} {l : Launch} {N : Option Value → Wd → Prop} {X : String → Wd → Prop} {w : Wd} {R : Int32} (hN : N (some (.int R)) w) {a1 : Int32} (h : fX8_sort a1 w = R) : RT (GA q) l 1 yX8_sort cX8_sort 2 ((some .int)) N X 0 [] [(0, .ref 13), (1, .int a1)] w := by
  unfold fX8_sort at h
  refine r_aload_n (pc := 0) dX8_sort_0 rfl 0 rfl ?_
  refine r_get (pc := 1) (j := 0) (v := .ref 14) oA13 cf8 flRX8_11 rfl dX8_sort_1 rfl ?_
  refine r_iload_n (pc := 4) dX8_sort_4 rfl 1 rfl ?_
  replace h := lt_e h; obtain ⟨x1, ex1, h⟩ := h
  refine r_cSi (pc := 5) wyX6_get mlRX8_82 tyX6_get ⟨(Nat.le_of_ble_eq_true rfl), (Nat.le_of_ble_eq_true rfl)⟩ rfl rfl (Nat.le_of_ble_eq_true rfl) dX8_sort_5 (mX6_get aA14 (Nat.le_of_ble_eq_true rfl) ex1 (pI.mk ?_))
  exact rP_i (pc := 8) rfl dX8_sort_8 h hN
theorem mX8_sort {q : Gq} {l : Launch} {N : Option Value → Wd → Prop} {X : String → Wd → Prop} {a1 : Int32} {w : Wd} {x : Int32} (h : fX8_sort a1 w = x) (hN : N (some (.int x)) w) : Ct (GA q) l 1 yX8_sort cX8_sort 2 ((some .int)) [.ref 13, .int a1] w N X := Ct.of (by decide) (Nat.le_of_ble_eq_true rfl) (pX8_sort hN h)
/-! AlgolMill$Symbols.type (I)I: P, 1 -/
theorem dX8_type_0 : decode cX8_type 0 = .ok (.aload_n 0, 1) := by decide +kernel
theorem dX8_type_1 : decode cX8_type 1 = .ok (.getfield 15, 3) := by decide +kernel
theorem dX8_type_4 : decode cX8_type 4 = .ok (.iload_n 1, 1) := by decide +kernel
theorem dX8_type_5 : decode cX8_type 5 = .ok (.invokestatic 82, 3) := by decide +kernel
theorem dX8_type_8 : decode cX8_type 8 = .ok (.ireturn, 1) := by decide +kernel
def fX8_type (a1 : Int32) (w : Wd) : Int32 :=
  lt (rgi w 15 4104 a1) fun x1 => x1
theorem pX8_type {q : Gq} {l : Launch} {N : Option Value → Wd → Prop} {X : String → Wd → Prop} {w : Wd} {R : Int32} (hN : N (some (.int R)) w) {a1 : Int32} (h : fX8_type a1 w = R) : RT (GA q) l 1 yX8_type cX8_type 2 ((some .int)) N X 0 [] [(0, .ref 13), (1, .int a1)] w := by
  unfold fX8_type at h
  refine r_aload_n (pc := 0) dX8_type_0 rfl 0 rfl ?_
  refine r_get (pc := 1) (j := 1) (v := .ref 15) oA13 cf8 flRX8_15 rfl dX8_type_1 rfl ?_
  refine r_iload_n (pc := 4) dX8_type_4 rfl 1 rfl ?_
  replace h := lt_e h; obtain ⟨x1, ex1, h⟩ := h
  refine r_cSi (pc := 5) wyX6_get mlRX8_82 tyX6_get ⟨(Nat.le_of_ble_eq_true rfl), (Nat.le_of_ble_eq_true rfl)⟩ rfl rfl (Nat.le_of_ble_eq_true rfl) dX8_type_5 (mX6_get aA15 (Nat.le_of_ble_eq_true rfl) ex1 (pI.mk ?_))
  exact rP_i (pc := 8) rfl dX8_type_8 h hN
theorem mX8_type {q : Gq} {l : Launch} {N : Option Value → Wd → Prop} {X : String → Wd → Prop} {a1 : Int32} {w : Wd} {x : Int32} (h : fX8_type a1 w = x) (hN : N (some (.int x)) w) : Ct (GA q) l 1 yX8_type cX8_type 2 ((some .int)) [.ref 13, .int a1] w N X := Ct.of (by decide) (Nat.le_of_ble_eq_true rfl) (pX8_type hN h)
/-! AlgolMill$Symbols.level (I)I: P, 1 -/
theorem dX8_level_0 : decode cX8_level 0 = .ok (.aload_n 0, 1) := by decide +kernel
theorem dX8_level_1 : decode cX8_level 1 = .ok (.getfield 21, 3) := by decide +kernel
theorem dX8_level_4 : decode cX8_level 4 = .ok (.iload_n 1, 1) := by decide +kernel
theorem dX8_level_5 : decode cX8_level 5 = .ok (.invokestatic 82, 3) := by decide +kernel
theorem dX8_level_8 : decode cX8_level 8 = .ok (.ireturn, 1) := by decide +kernel
def fX8_level (a1 : Int32) (w : Wd) : Int32 :=
  lt (rgi w 17 4104 a1) fun x1 => x1
theorem pX8_level {q : Gq} {l : Launch} {N : Option Value → Wd → Prop} {X : String → Wd → Prop} {w : Wd} {R : Int32} (hN : N (some (.int R)) w) {a1 : Int32} (h : fX8_level a1 w = R) : RT (GA q) l 1 yX8_level cX8_level 2 ((some .int)) N X 0 [] [(0, .ref 13), (1, .int a1)] w := by
  unfold fX8_level at h
  refine r_aload_n (pc := 0) dX8_level_0 rfl 0 rfl ?_
  refine r_get (pc := 1) (j := 3) (v := .ref 17) oA13 cf8 flRX8_21 rfl dX8_level_1 rfl ?_
  refine r_iload_n (pc := 4) dX8_level_4 rfl 1 rfl ?_
  replace h := lt_e h; obtain ⟨x1, ex1, h⟩ := h
  refine r_cSi (pc := 5) wyX6_get mlRX8_82 tyX6_get ⟨(Nat.le_of_ble_eq_true rfl), (Nat.le_of_ble_eq_true rfl)⟩ rfl rfl (Nat.le_of_ble_eq_true rfl) dX8_level_5 (mX6_get aA17 (Nat.le_of_ble_eq_true rfl) ex1 (pI.mk ?_))
  exact rP_i (pc := 8) rfl dX8_level_8 h hN
theorem mX8_level {q : Gq} {l : Launch} {N : Option Value → Wd → Prop} {X : String → Wd → Prop} {a1 : Int32} {w : Wd} {x : Int32} (h : fX8_level a1 w = x) (hN : N (some (.int x)) w) : Ct (GA q) l 1 yX8_level cX8_level 2 ((some .int)) [.ref 13, .int a1] w N X := Ct.of (by decide) (Nat.le_of_ble_eq_true rfl) (pX8_level hN h)
/-! AlgolMill$Symbols.slot (I)I: P, 1 -/
theorem dX8_slot_0 : decode cX8_slot 0 = .ok (.aload_n 0, 1) := by decide +kernel
theorem dX8_slot_1 : decode cX8_slot 1 = .ok (.getfield 24, 3) := by decide +kernel
theorem dX8_slot_4 : decode cX8_slot 4 = .ok (.iload_n 1, 1) := by decide +kernel
theorem dX8_slot_5 : decode cX8_slot 5 = .ok (.invokestatic 82, 3) := by decide +kernel
theorem dX8_slot_8 : decode cX8_slot 8 = .ok (.ireturn, 1) := by decide +kernel
def fX8_slot (a1 : Int32) (w : Wd) : Int32 :=
  lt (rgi w 18 4104 a1) fun x1 => x1
theorem pX8_slot {q : Gq} {l : Launch} {N : Option Value → Wd → Prop} {X : String → Wd → Prop} {w : Wd} {R : Int32} (hN : N (some (.int R)) w) {a1 : Int32} (h : fX8_slot a1 w = R) : RT (GA q) l 1 yX8_slot cX8_slot 2 ((some .int)) N X 0 [] [(0, .ref 13), (1, .int a1)] w := by
  unfold fX8_slot at h
  refine r_aload_n (pc := 0) dX8_slot_0 rfl 0 rfl ?_
  refine r_get (pc := 1) (j := 4) (v := .ref 18) oA13 cf8 flRX8_24 rfl dX8_slot_1 rfl ?_
  refine r_iload_n (pc := 4) dX8_slot_4 rfl 1 rfl ?_
  replace h := lt_e h; obtain ⟨x1, ex1, h⟩ := h
  refine r_cSi (pc := 5) wyX6_get mlRX8_82 tyX6_get ⟨(Nat.le_of_ble_eq_true rfl), (Nat.le_of_ble_eq_true rfl)⟩ rfl rfl (Nat.le_of_ble_eq_true rfl) dX8_slot_5 (mX6_get aA18 (Nat.le_of_ble_eq_true rfl) ex1 (pI.mk ?_))
  exact rP_i (pc := 8) rfl dX8_slot_8 h hN
theorem mX8_slot {q : Gq} {l : Launch} {N : Option Value → Wd → Prop} {X : String → Wd → Prop} {a1 : Int32} {w : Wd} {x : Int32} (h : fX8_slot a1 w = x) (hN : N (some (.int x)) w) : Ct (GA q) l 1 yX8_slot cX8_slot 2 ((some .int)) [.ref 13, .int a1] w N X := Ct.of (by decide) (Nat.le_of_ble_eq_true rfl) (pX8_slot hN h)
/-! AlgolMill$Symbols.size (I)I: P, 1 -/
theorem dX8_size__0 : decode cX8_size_ 0 = .ok (.aload_n 0, 1) := by decide +kernel
theorem dX8_size__1 : decode cX8_size_ 1 = .ok (.getfield 27, 3) := by decide +kernel
theorem dX8_size__4 : decode cX8_size_ 4 = .ok (.iload_n 1, 1) := by decide +kernel
theorem dX8_size__5 : decode cX8_size_ 5 = .ok (.invokestatic 82, 3) := by decide +kernel
theorem dX8_size__8 : decode cX8_size_ 8 = .ok (.ireturn, 1) := by decide +kernel
def fX8_size_ (a1 : Int32) (w : Wd) : Int32 :=
  lt (rgi w 19 4104 a1) fun x1 => x1
theorem pX8_size_ {q : Gq} {l : Launch} {N : Option Value → Wd → Prop} {X : String → Wd → Prop} {w : Wd} {R : Int32} (hN : N (some (.int R)) w) {a1 : Int32} (h : fX8_size_ a1 w = R) : RT (GA q) l 1 yX8_size_ cX8_size_ 2 ((some .int)) N X 0 [] [(0, .ref 13), (1, .int a1)] w := by
  unfold fX8_size_ at h
  refine r_aload_n (pc := 0) dX8_size__0 rfl 0 rfl ?_
  refine r_get (pc := 1) (j := 5) (v := .ref 19) oA13 cf8 flRX8_27 rfl dX8_size__1 rfl ?_
  refine r_iload_n (pc := 4) dX8_size__4 rfl 1 rfl ?_
  replace h := lt_e h; obtain ⟨x1, ex1, h⟩ := h
  refine r_cSi (pc := 5) wyX6_get mlRX8_82 tyX6_get ⟨(Nat.le_of_ble_eq_true rfl), (Nat.le_of_ble_eq_true rfl)⟩ rfl rfl (Nat.le_of_ble_eq_true rfl) dX8_size__5 (mX6_get aA19 (Nat.le_of_ble_eq_true rfl) ex1 (pI.mk ?_))
  exact rP_i (pc := 8) rfl dX8_size__8 h hN
theorem mX8_size_ {q : Gq} {l : Launch} {N : Option Value → Wd → Prop} {X : String → Wd → Prop} {a1 : Int32} {w : Wd} {x : Int32} (h : fX8_size_ a1 w = x) (hN : N (some (.int x)) w) : Ct (GA q) l 1 yX8_size_ cX8_size_ 2 ((some .int)) [.ref 13, .int a1] w N X := Ct.of (by decide) (Nat.le_of_ble_eq_true rfl) (pX8_size_ hN h)
/-! AlgolMill$Symbols.body (I)I: P, 1 -/
theorem dX8_body_0 : decode cX8_body 0 = .ok (.aload_n 0, 1) := by decide +kernel
theorem dX8_body_1 : decode cX8_body 1 = .ok (.getfield 42, 3) := by decide +kernel
theorem dX8_body_4 : decode cX8_body 4 = .ok (.iload_n 1, 1) := by decide +kernel
theorem dX8_body_5 : decode cX8_body 5 = .ok (.invokestatic 82, 3) := by decide +kernel
theorem dX8_body_8 : decode cX8_body 8 = .ok (.ireturn, 1) := by decide +kernel
def fX8_body (a1 : Int32) (w : Wd) : Int32 :=
  lt (rgi w 24 4104 a1) fun x1 => x1
theorem pX8_body {q : Gq} {l : Launch} {N : Option Value → Wd → Prop} {X : String → Wd → Prop} {w : Wd} {R : Int32} (hN : N (some (.int R)) w) {a1 : Int32} (h : fX8_body a1 w = R) : RT (GA q) l 1 yX8_body cX8_body 2 ((some .int)) N X 0 [] [(0, .ref 13), (1, .int a1)] w := by
  unfold fX8_body at h
  refine r_aload_n (pc := 0) dX8_body_0 rfl 0 rfl ?_
  refine r_get (pc := 1) (j := 10) (v := .ref 24) oA13 cf8 flRX8_42 rfl dX8_body_1 rfl ?_
  refine r_iload_n (pc := 4) dX8_body_4 rfl 1 rfl ?_
  replace h := lt_e h; obtain ⟨x1, ex1, h⟩ := h
  refine r_cSi (pc := 5) wyX6_get mlRX8_82 tyX6_get ⟨(Nat.le_of_ble_eq_true rfl), (Nat.le_of_ble_eq_true rfl)⟩ rfl rfl (Nat.le_of_ble_eq_true rfl) dX8_body_5 (mX6_get aA24 (Nat.le_of_ble_eq_true rfl) ex1 (pI.mk ?_))
  exact rP_i (pc := 8) rfl dX8_body_8 h hN
theorem mX8_body {q : Gq} {l : Launch} {N : Option Value → Wd → Prop} {X : String → Wd → Prop} {a1 : Int32} {w : Wd} {x : Int32} (h : fX8_body a1 w = x) (hN : N (some (.int x)) w) : Ct (GA q) l 1 yX8_body cX8_body 2 ((some .int)) [.ref 13, .int a1] w N X := Ct.of (by decide) (Nat.le_of_ble_eq_true rfl) (pX8_body hN h)
/-! AlgolMill$Symbols.isOwn (I)Z: P, 1 -/
theorem dX8_isOwn_0 : decode cX8_isOwn 0 = .ok (.aload_n 0, 1) := by decide +kernel
theorem dX8_isOwn_1 : decode cX8_isOwn 1 = .ok (.getfield 18, 3) := by decide +kernel
theorem dX8_isOwn_4 : decode cX8_isOwn 4 = .ok (.iload_n 1, 1) := by decide +kernel
theorem dX8_isOwn_5 : decode cX8_isOwn 5 = .ok (.invokestatic 82, 3) := by decide +kernel
theorem dX8_isOwn_8 : decode cX8_isOwn 8 = .ok (.iconst 1, 1) := by decide +kernel
theorem dX8_isOwn_9 : decode cX8_isOwn 9 = .ok (.if_icmp .ne 7, 3) := by decide +kernel
theorem dX8_isOwn_12 : decode cX8_isOwn 12 = .ok (.iconst 1, 1) := by decide +kernel
theorem dX8_isOwn_13 : decode cX8_isOwn 13 = .ok (.goto 4, 3) := by decide +kernel
theorem dX8_isOwn_16 : decode cX8_isOwn 16 = .ok (.iconst 0, 1) := by decide +kernel
theorem dX8_isOwn_17 : decode cX8_isOwn 17 = .ok (.ireturn, 1) := by decide +kernel
def fX8_isOwn (a1 : Int32) (w : Wd) : Bool :=
  lt (rgi w 16 4104 a1) fun x1 => if x1 = 1 then (true) else (false)
theorem pX8_isOwn {q : Gq} {l : Launch} {N : Option Value → Wd → Prop} {X : String → Wd → Prop} {w : Wd} {R : Bool} (hN : N (some (.int (b2i R))) w) {a1 : Int32} (h : fX8_isOwn a1 w = R) : RT (GA q) l 1 yX8_isOwn cX8_isOwn 2 ((some .boolean)) N X 0 [] [(0, .ref 13), (1, .int a1)] w := by
  unfold fX8_isOwn at h
  refine r_aload_n (pc := 0) dX8_isOwn_0 rfl 0 rfl ?_
  refine r_get (pc := 1) (j := 2) (v := .ref 16) oA13 cf8 flRX8_18 rfl dX8_isOwn_1 rfl ?_
  refine r_iload_n (pc := 4) dX8_isOwn_4 rfl 1 rfl ?_
  replace h := lt_e h; obtain ⟨x1, ex1, h⟩ := h
  refine r_cSi (pc := 5) wyX6_get mlRX8_82 tyX6_get ⟨(Nat.le_of_ble_eq_true rfl), (Nat.le_of_ble_eq_true rfl)⟩ rfl rfl (Nat.le_of_ble_eq_true rfl) dX8_isOwn_5 (mX6_get aA16 (Nat.le_of_ble_eq_true rfl) ex1 (pI.mk ?_))
  refine r_iconst (pc := 8) dX8_isOwn_8 ki_1 ?_
  refine r_icmp_ne (pc := 9) dX8_isOwn_9 rfl (fun hc2 => ?_) (fun hc2 => ?_)
  · replace h := if_f hc2 h
    refine r_iconst (pc := 16) dX8_isOwn_16 ki_0 ?_
    exact rP_z (pc := 17) (x := false) rfl dX8_isOwn_17 h hN
  replace h := if_t hc2 h
  refine r_iconst (pc := 12) dX8_isOwn_12 ki_1 ?_
  refine r_goto (pc := 13) dX8_isOwn_13 rfl ?_
  exact rP_z (pc := 17) (x := true) rfl dX8_isOwn_17 h hN
theorem mX8_isOwn {q : Gq} {l : Launch} {N : Option Value → Wd → Prop} {X : String → Wd → Prop} {a1 : Int32} {w : Wd} {x : Bool} (h : fX8_isOwn a1 w = x) (hN : N (some (.int (b2i x))) w) : Ct (GA q) l 1 yX8_isOwn cX8_isOwn 2 ((some .boolean)) [.ref 13, .int a1] w N X := Ct.of (by decide) (Nat.le_of_ble_eq_true rfl) (pX8_isOwn hN h)
/-! AlgolMill$Symbols.isValue (I)Z: P, 1 -/
theorem dX8_isValue_0 : decode cX8_isValue 0 = .ok (.aload_n 0, 1) := by decide +kernel
theorem dX8_isValue_1 : decode cX8_isValue 1 = .ok (.getfield 18, 3) := by decide +kernel
theorem dX8_isValue_4 : decode cX8_isValue 4 = .ok (.iload_n 1, 1) := by decide +kernel
theorem dX8_isValue_5 : decode cX8_isValue 5 = .ok (.invokestatic 82, 3) := by decide +kernel
theorem dX8_isValue_8 : decode cX8_isValue 8 = .ok (.iconst 2, 1) := by decide +kernel
theorem dX8_isValue_9 : decode cX8_isValue 9 = .ok (.if_icmp .ne 7, 3) := by decide +kernel
theorem dX8_isValue_12 : decode cX8_isValue 12 = .ok (.iconst 1, 1) := by decide +kernel
theorem dX8_isValue_13 : decode cX8_isValue 13 = .ok (.goto 4, 3) := by decide +kernel
theorem dX8_isValue_16 : decode cX8_isValue 16 = .ok (.iconst 0, 1) := by decide +kernel
theorem dX8_isValue_17 : decode cX8_isValue 17 = .ok (.ireturn, 1) := by decide +kernel
def fX8_isValue (a1 : Int32) (w : Wd) : Bool :=
  lt (rgi w 16 4104 a1) fun x1 => if x1 = 2 then (true) else (false)
theorem pX8_isValue {q : Gq} {l : Launch} {N : Option Value → Wd → Prop} {X : String → Wd → Prop} {w : Wd} {R : Bool} (hN : N (some (.int (b2i R))) w) {a1 : Int32} (h : fX8_isValue a1 w = R) : RT (GA q) l 1 yX8_isValue cX8_isValue 2 ((some .boolean)) N X 0 [] [(0, .ref 13), (1, .int a1)] w := by
  unfold fX8_isValue at h
  refine r_aload_n (pc := 0) dX8_isValue_0 rfl 0 rfl ?_
  refine r_get (pc := 1) (j := 2) (v := .ref 16) oA13 cf8 flRX8_18 rfl dX8_isValue_1 rfl ?_
  refine r_iload_n (pc := 4) dX8_isValue_4 rfl 1 rfl ?_
  replace h := lt_e h; obtain ⟨x1, ex1, h⟩ := h
  refine r_cSi (pc := 5) wyX6_get mlRX8_82 tyX6_get ⟨(Nat.le_of_ble_eq_true rfl), (Nat.le_of_ble_eq_true rfl)⟩ rfl rfl (Nat.le_of_ble_eq_true rfl) dX8_isValue_5 (mX6_get aA16 (Nat.le_of_ble_eq_true rfl) ex1 (pI.mk ?_))
  refine r_iconst (pc := 8) dX8_isValue_8 ki_2 ?_
  refine r_icmp_ne (pc := 9) dX8_isValue_9 rfl (fun hc2 => ?_) (fun hc2 => ?_)
  · replace h := if_f hc2 h
    refine r_iconst (pc := 16) dX8_isValue_16 ki_0 ?_
    exact rP_z (pc := 17) (x := false) rfl dX8_isValue_17 h hN
  replace h := if_t hc2 h
  refine r_iconst (pc := 12) dX8_isValue_12 ki_1 ?_
  refine r_goto (pc := 13) dX8_isValue_13 rfl ?_
  exact rP_z (pc := 17) (x := true) rfl dX8_isValue_17 h hN
theorem mX8_isValue {q : Gq} {l : Launch} {N : Option Value → Wd → Prop} {X : String → Wd → Prop} {a1 : Int32} {w : Wd} {x : Bool} (h : fX8_isValue a1 w = x) (hN : N (some (.int (b2i x))) w) : Ct (GA q) l 1 yX8_isValue cX8_isValue 2 ((some .boolean)) [.ref 13, .int a1] w N X := Ct.of (by decide) (Nat.le_of_ble_eq_true rfl) (pX8_isValue hN h)
/-! AlgolMill$Symbols.isFormal (I)Z: P, 1 -/
theorem dX8_isFormal_0 : decode cX8_isFormal 0 = .ok (.aload_n 0, 1) := by decide +kernel
theorem dX8_isFormal_1 : decode cX8_isFormal 1 = .ok (.getfield 18, 3) := by decide +kernel
theorem dX8_isFormal_4 : decode cX8_isFormal 4 = .ok (.iload_n 1, 1) := by decide +kernel
theorem dX8_isFormal_5 : decode cX8_isFormal 5 = .ok (.invokestatic 82, 3) := by decide +kernel
theorem dX8_isFormal_8 : decode cX8_isFormal 8 = .ok (.iconst 3, 1) := by decide +kernel
theorem dX8_isFormal_9 : decode cX8_isFormal 9 = .ok (.if_icmp .ne 7, 3) := by decide +kernel
theorem dX8_isFormal_12 : decode cX8_isFormal 12 = .ok (.iconst 1, 1) := by decide +kernel
theorem dX8_isFormal_13 : decode cX8_isFormal 13 = .ok (.goto 4, 3) := by decide +kernel
theorem dX8_isFormal_16 : decode cX8_isFormal 16 = .ok (.iconst 0, 1) := by decide +kernel
theorem dX8_isFormal_17 : decode cX8_isFormal 17 = .ok (.ireturn, 1) := by decide +kernel
def fX8_isFormal (a1 : Int32) (w : Wd) : Bool :=
  lt (rgi w 16 4104 a1) fun x1 => if x1 = 3 then (true) else (false)
theorem pX8_isFormal {q : Gq} {l : Launch} {N : Option Value → Wd → Prop} {X : String → Wd → Prop} {w : Wd} {R : Bool} (hN : N (some (.int (b2i R))) w) {a1 : Int32} (h : fX8_isFormal a1 w = R) : RT (GA q) l 1 yX8_isFormal cX8_isFormal 2 ((some .boolean)) N X 0 [] [(0, .ref 13), (1, .int a1)] w := by
  unfold fX8_isFormal at h
  refine r_aload_n (pc := 0) dX8_isFormal_0 rfl 0 rfl ?_
  refine r_get (pc := 1) (j := 2) (v := .ref 16) oA13 cf8 flRX8_18 rfl dX8_isFormal_1 rfl ?_
  refine r_iload_n (pc := 4) dX8_isFormal_4 rfl 1 rfl ?_
  replace h := lt_e h; obtain ⟨x1, ex1, h⟩ := h
  refine r_cSi (pc := 5) wyX6_get mlRX8_82 tyX6_get ⟨(Nat.le_of_ble_eq_true rfl), (Nat.le_of_ble_eq_true rfl)⟩ rfl rfl (Nat.le_of_ble_eq_true rfl) dX8_isFormal_5 (mX6_get aA16 (Nat.le_of_ble_eq_true rfl) ex1 (pI.mk ?_))
  refine r_iconst (pc := 8) dX8_isFormal_8 ki_3 ?_
  refine r_icmp_ne (pc := 9) dX8_isFormal_9 rfl (fun hc2 => ?_) (fun hc2 => ?_)
  · replace h := if_f hc2 h
    refine r_iconst (pc := 16) dX8_isFormal_16 ki_0 ?_
    exact rP_z (pc := 17) (x := false) rfl dX8_isFormal_17 h hN
  replace h := if_t hc2 h
  refine r_iconst (pc := 12) dX8_isFormal_12 ki_1 ?_
  refine r_goto (pc := 13) dX8_isFormal_13 rfl ?_
  exact rP_z (pc := 17) (x := true) rfl dX8_isFormal_17 h hN
theorem mX8_isFormal {q : Gq} {l : Launch} {N : Option Value → Wd → Prop} {X : String → Wd → Prop} {a1 : Int32} {w : Wd} {x : Bool} (h : fX8_isFormal a1 w = x) (hN : N (some (.int (b2i x))) w) : Ct (GA q) l 1 yX8_isFormal cX8_isFormal 2 ((some .boolean)) [.ref 13, .int a1] w N X := Ct.of (by decide) (Nat.le_of_ble_eq_true rfl) (pX8_isFormal hN h)
/-! AlgolMill$Symbols.place (II)V: S, 1 -/
theorem dX8_place_0 : decode cX8_place 0 = .ok (.aload_n 0, 1) := by decide +kernel
theorem dX8_place_1 : decode cX8_place 1 = .ok (.getfield 24, 3) := by decide +kernel
theorem dX8_place_4 : decode cX8_place 4 = .ok (.iload_n 1, 1) := by decide +kernel
theorem dX8_place_5 : decode cX8_place 5 = .ok (.iload_n 2, 1) := by decide +kernel
theorem dX8_place_6 : decode cX8_place 6 = .ok (.invokestatic 76, 3) := by decide +kernel
theorem dX8_place_9 : decode cX8_place 9 = .ok (.return_, 1) := by decide +kernel
def fX8_place (a1 : Int32) (a2 : Int32) (w : Wd) : Wd :=
  lt (rsi w 18 4104 a1 a2) fun w1 => w1
theorem pX8_place {q : Gq} {l : Launch} {N : Option Value → Wd → Prop} {X : String → Wd → Prop} {w : Wd} {R : Wd} (hN : N none R) {a1 : Int32} {a2 : Int32} (h : fX8_place a1 a2 w = R) : RT (GA q) l 1 yX8_place cX8_place 3 (none) N X 0 [] [(0, .ref 13), (1, .int a1), (2, .int a2)] w := by
  unfold fX8_place at h
  refine r_aload_n (pc := 0) dX8_place_0 rfl 0 rfl ?_
  refine r_get (pc := 1) (j := 4) (v := .ref 18) oA13 cf8 flRX8_24 rfl dX8_place_1 rfl ?_
  refine r_iload_n (pc := 4) dX8_place_4 rfl 1 rfl ?_
  refine r_iload_n (pc := 5) dX8_place_5 rfl 2 rfl ?_
  replace h := lt_e h; obtain ⟨w1, ew1, h⟩ := h
  refine r_cSv (pc := 6) wyX6_set mlRX8_76 tyX6_set ⟨(Nat.le_of_ble_eq_true rfl), (Nat.le_of_ble_eq_true rfl)⟩ rfl rfl (Nat.le_of_ble_eq_true rfl) dX8_place_6 (mX6_set aA18 (Nat.le_of_ble_eq_true rfl) ew1 (pV.mk ?_))
  exact rS_v (pc := 9) rfl dX8_place_9 h hN
theorem mX8_place {q : Gq} {l : Launch} {N : Option Value → Wd → Prop} {X : String → Wd → Prop} {a1 : Int32} {a2 : Int32} {w : Wd} {u : Wd} (h : fX8_place a1 a2 w = u) (hN : N none u) : Ct (GA q) l 1 yX8_place cX8_place 3 (none) [.ref 13, .int a1, .int a2] w N X := Ct.of (by decide) (Nat.le_of_ble_eq_true rfl) (pX8_place hN h)
/-! AlgolMill$Symbols.placeOwn (I)V: S, 1 -/
theorem dX8_placeOwn_0 : decode cX8_placeOwn 0 = .ok (.aload_n 0, 1) := by decide +kernel
theorem dX8_placeOwn_1 : decode cX8_placeOwn 1 = .ok (.getfield 18, 3) := by decide +kernel
theorem dX8_placeOwn_4 : decode cX8_placeOwn 4 = .ok (.iload_n 1, 1) := by decide +kernel
theorem dX8_placeOwn_5 : decode cX8_placeOwn 5 = .ok (.iconst 1, 1) := by decide +kernel
theorem dX8_placeOwn_6 : decode cX8_placeOwn 6 = .ok (.invokestatic 76, 3) := by decide +kernel
theorem dX8_placeOwn_9 : decode cX8_placeOwn 9 = .ok (.aload_n 0, 1) := by decide +kernel
theorem dX8_placeOwn_10 : decode cX8_placeOwn 10 = .ok (.getfield 24, 3) := by decide +kernel
theorem dX8_placeOwn_13 : decode cX8_placeOwn 13 = .ok (.iload_n 1, 1) := by decide +kernel
theorem dX8_placeOwn_14 : decode cX8_placeOwn 14 = .ok (.aload_n 0, 1) := by decide +kernel
theorem dX8_placeOwn_15 : decode cX8_placeOwn 15 = .ok (.getfield 54, 3) := by decide +kernel
theorem dX8_placeOwn_18 : decode cX8_placeOwn 18 = .ok (.invokestatic 76, 3) := by decide +kernel
theorem dX8_placeOwn_21 : decode cX8_placeOwn 21 = .ok (.aload_n 0, 1) := by decide +kernel
theorem dX8_placeOwn_22 : decode cX8_placeOwn 22 = .ok (.dup, 1) := by decide +kernel
theorem dX8_placeOwn_23 : decode cX8_placeOwn 23 = .ok (.getfield 54, 3) := by decide +kernel
theorem dX8_placeOwn_26 : decode cX8_placeOwn 26 = .ok (.iconst 1, 1) := by decide +kernel
theorem dX8_placeOwn_27 : decode cX8_placeOwn 27 = .ok (.iadd, 1) := by decide +kernel
theorem dX8_placeOwn_28 : decode cX8_placeOwn 28 = .ok (.putfield 54, 3) := by decide +kernel
theorem dX8_placeOwn_31 : decode cX8_placeOwn 31 = .ok (.return_, 1) := by decide +kernel
def fX8_placeOwn (a1 : Int32) (w : Wd) : Wd :=
  lt (rsi w 16 4104 a1 1) fun w1 => lt (rsi w1 18 4104 a1 (gi w1 13 13)) fun w2 => lt (si w2 13 13 ((gi w2 13 13) + 1)) fun w3 => w3
theorem pX8_placeOwn {q : Gq} {l : Launch} {N : Option Value → Wd → Prop} {X : String → Wd → Prop} {w : Wd} {R : Wd} (hN : N none R) {a1 : Int32} (h : fX8_placeOwn a1 w = R) : RT (GA q) l 1 yX8_placeOwn cX8_placeOwn 2 (none) N X 0 [] [(0, .ref 13), (1, .int a1)] w := by
  unfold fX8_placeOwn at h
  refine r_aload_n (pc := 0) dX8_placeOwn_0 rfl 0 rfl ?_
  refine r_get (pc := 1) (j := 2) (v := .ref 16) oA13 cf8 flRX8_18 rfl dX8_placeOwn_1 rfl ?_
  refine r_iload_n (pc := 4) dX8_placeOwn_4 rfl 1 rfl ?_
  refine r_iconst (pc := 5) dX8_placeOwn_5 ki_1 ?_
  replace h := lt_e h; obtain ⟨w1, ew1, h⟩ := h
  refine r_cSv (pc := 6) wyX6_set mlRX8_76 tyX6_set ⟨(Nat.le_of_ble_eq_true rfl), (Nat.le_of_ble_eq_true rfl)⟩ rfl rfl (Nat.le_of_ble_eq_true rfl) dX8_placeOwn_6 (mX6_set aA16 (Nat.le_of_ble_eq_true rfl) ew1 (pV.mk ?_))
  refine r_aload_n (pc := 9) dX8_placeOwn_9 rfl 0 rfl ?_
  refine r_get (pc := 10) (j := 4) (v := .ref 18) oA13 cf8 flRX8_24 rfl dX8_placeOwn_10 rfl ?_
  refine r_iload_n (pc := 13) dX8_placeOwn_13 rfl 1 rfl ?_
  refine r_aload_n (pc := 14) dX8_placeOwn_14 rfl 0 rfl ?_
  refine r_get (pc := 15) (j := 13) (v := .int (gi w1 13 13)) oA13 cf8 flRX8_54 rfl dX8_placeOwn_15 rfl ?_
  replace h := lt_e h; obtain ⟨w2, ew2, h⟩ := h
  refine r_cSv (pc := 18) wyX6_set mlRX8_76 tyX6_set ⟨(Nat.le_of_ble_eq_true rfl), (Nat.le_of_ble_eq_true rfl)⟩ rfl rfl (Nat.le_of_ble_eq_true rfl) dX8_placeOwn_18 (mX6_set aA18 (Nat.le_of_ble_eq_true rfl) ew2 (pV.mk ?_))
  refine r_aload_n (pc := 21) dX8_placeOwn_21 rfl 0 rfl ?_
  refine r_dup (pc := 22) dX8_placeOwn_22 rfl ?_
  refine r_get (pc := 23) (j := 13) (v := .int (gi w2 13 13)) oA13 cf8 flRX8_54 rfl dX8_placeOwn_23 rfl ?_
  refine r_iconst (pc := 26) dX8_placeOwn_26 ki_1 ?_
  refine r_iadd (pc := 27) dX8_placeOwn_27 ?_
  replace h := lt_e h; obtain ⟨w3, ew3, h⟩ := h
  refine r_putI (pc := 28) (j := 13) oA13 cf8 flRX8_54 rfl rfl rfl rfl dX8_placeOwn_28 ?_
  refine r_w ew3 ?_
  exact rS_v (pc := 31) rfl dX8_placeOwn_31 h hN
theorem mX8_placeOwn {q : Gq} {l : Launch} {N : Option Value → Wd → Prop} {X : String → Wd → Prop} {a1 : Int32} {w : Wd} {u : Wd} (h : fX8_placeOwn a1 w = u) (hN : N none u) : Ct (GA q) l 1 yX8_placeOwn cX8_placeOwn 2 (none) [.ref 13, .int a1] w N X := Ct.of (by decide) (Nat.le_of_ble_eq_true rfl) (pX8_placeOwn hN h)
/-! AlgolMill$Symbols.bound (II)V: S, 1 -/
theorem dX8_bound_0 : decode cX8_bound 0 = .ok (.aload_n 0, 1) := by decide +kernel
theorem dX8_bound_1 : decode cX8_bound 1 = .ok (.getfield 27, 3) := by decide +kernel
theorem dX8_bound_4 : decode cX8_bound 4 = .ok (.iload_n 1, 1) := by decide +kernel
theorem dX8_bound_5 : decode cX8_bound 5 = .ok (.iload_n 2, 1) := by decide +kernel
theorem dX8_bound_6 : decode cX8_bound 6 = .ok (.invokestatic 76, 3) := by decide +kernel
theorem dX8_bound_9 : decode cX8_bound 9 = .ok (.return_, 1) := by decide +kernel
def fX8_bound (a1 : Int32) (a2 : Int32) (w : Wd) : Wd :=
  lt (rsi w 19 4104 a1 a2) fun w1 => w1
theorem pX8_bound {q : Gq} {l : Launch} {N : Option Value → Wd → Prop} {X : String → Wd → Prop} {w : Wd} {R : Wd} (hN : N none R) {a1 : Int32} {a2 : Int32} (h : fX8_bound a1 a2 w = R) : RT (GA q) l 1 yX8_bound cX8_bound 3 (none) N X 0 [] [(0, .ref 13), (1, .int a1), (2, .int a2)] w := by
  unfold fX8_bound at h
  refine r_aload_n (pc := 0) dX8_bound_0 rfl 0 rfl ?_
  refine r_get (pc := 1) (j := 5) (v := .ref 19) oA13 cf8 flRX8_27 rfl dX8_bound_1 rfl ?_
  refine r_iload_n (pc := 4) dX8_bound_4 rfl 1 rfl ?_
  refine r_iload_n (pc := 5) dX8_bound_5 rfl 2 rfl ?_
  replace h := lt_e h; obtain ⟨w1, ew1, h⟩ := h
  refine r_cSv (pc := 6) wyX6_set mlRX8_76 tyX6_set ⟨(Nat.le_of_ble_eq_true rfl), (Nat.le_of_ble_eq_true rfl)⟩ rfl rfl (Nat.le_of_ble_eq_true rfl) dX8_bound_6 (mX6_set aA19 (Nat.le_of_ble_eq_true rfl) ew1 (pV.mk ?_))
  exact rS_v (pc := 9) rfl dX8_bound_9 h hN
theorem mX8_bound {q : Gq} {l : Launch} {N : Option Value → Wd → Prop} {X : String → Wd → Prop} {a1 : Int32} {a2 : Int32} {w : Wd} {u : Wd} (h : fX8_bound a1 a2 w = u) (hN : N none u) : Ct (GA q) l 1 yX8_bound cX8_bound 3 (none) [.ref 13, .int a1, .int a2] w N X := Ct.of (by decide) (Nat.le_of_ble_eq_true rfl) (pX8_bound hN h)
/-! AlgolMill$Symbols.formals (III)V: S, 1 -/
theorem dX8_formals_0 : decode cX8_formals 0 = .ok (.aload_n 0, 1) := by decide +kernel
theorem dX8_formals_1 : decode cX8_formals 1 = .ok (.getfield 30, 3) := by decide +kernel
theorem dX8_formals_4 : decode cX8_formals 4 = .ok (.iload_n 1, 1) := by decide +kernel
theorem dX8_formals_5 : decode cX8_formals 5 = .ok (.iload_n 2, 1) := by decide +kernel
theorem dX8_formals_6 : decode cX8_formals 6 = .ok (.invokestatic 76, 3) := by decide +kernel
theorem dX8_formals_9 : decode cX8_formals 9 = .ok (.aload_n 0, 1) := by decide +kernel
theorem dX8_formals_10 : decode cX8_formals 10 = .ok (.getfield 27, 3) := by decide +kernel
theorem dX8_formals_13 : decode cX8_formals 13 = .ok (.iload_n 1, 1) := by decide +kernel
theorem dX8_formals_14 : decode cX8_formals 14 = .ok (.iload_n 3, 1) := by decide +kernel
theorem dX8_formals_15 : decode cX8_formals 15 = .ok (.invokestatic 76, 3) := by decide +kernel
theorem dX8_formals_18 : decode cX8_formals 18 = .ok (.return_, 1) := by decide +kernel
def fX8_formals (a1 : Int32) (a2 : Int32) (a3 : Int32) (w : Wd) : Wd :=
  lt (rsi w 20 4104 a1 a2) fun w1 => lt (rsi w1 19 4104 a1 a3) fun w2 => w2
theorem pX8_formals {q : Gq} {l : Launch} {N : Option Value → Wd → Prop} {X : String → Wd → Prop} {w : Wd} {R : Wd} (hN : N none R) {a1 : Int32} {a2 : Int32} {a3 : Int32} (h : fX8_formals a1 a2 a3 w = R) : RT (GA q) l 1 yX8_formals cX8_formals 4 (none) N X 0 [] [(0, .ref 13), (1, .int a1), (2, .int a2), (3, .int a3)] w := by
  unfold fX8_formals at h
  refine r_aload_n (pc := 0) dX8_formals_0 rfl 0 rfl ?_
  refine r_get (pc := 1) (j := 6) (v := .ref 20) oA13 cf8 flRX8_30 rfl dX8_formals_1 rfl ?_
  refine r_iload_n (pc := 4) dX8_formals_4 rfl 1 rfl ?_
  refine r_iload_n (pc := 5) dX8_formals_5 rfl 2 rfl ?_
  replace h := lt_e h; obtain ⟨w1, ew1, h⟩ := h
  refine r_cSv (pc := 6) wyX6_set mlRX8_76 tyX6_set ⟨(Nat.le_of_ble_eq_true rfl), (Nat.le_of_ble_eq_true rfl)⟩ rfl rfl (Nat.le_of_ble_eq_true rfl) dX8_formals_6 (mX6_set aA20 (Nat.le_of_ble_eq_true rfl) ew1 (pV.mk ?_))
  refine r_aload_n (pc := 9) dX8_formals_9 rfl 0 rfl ?_
  refine r_get (pc := 10) (j := 5) (v := .ref 19) oA13 cf8 flRX8_27 rfl dX8_formals_10 rfl ?_
  refine r_iload_n (pc := 13) dX8_formals_13 rfl 1 rfl ?_
  refine r_iload_n (pc := 14) dX8_formals_14 rfl 3 rfl ?_
  replace h := lt_e h; obtain ⟨w2, ew2, h⟩ := h
  refine r_cSv (pc := 15) wyX6_set mlRX8_76 tyX6_set ⟨(Nat.le_of_ble_eq_true rfl), (Nat.le_of_ble_eq_true rfl)⟩ rfl rfl (Nat.le_of_ble_eq_true rfl) dX8_formals_15 (mX6_set aA19 (Nat.le_of_ble_eq_true rfl) ew2 (pV.mk ?_))
  exact rS_v (pc := 18) rfl dX8_formals_18 h hN
theorem mX8_formals {q : Gq} {l : Launch} {N : Option Value → Wd → Prop} {X : String → Wd → Prop} {a1 : Int32} {a2 : Int32} {a3 : Int32} {w : Wd} {u : Wd} (h : fX8_formals a1 a2 a3 w = u) (hN : N none u) : Ct (GA q) l 1 yX8_formals cX8_formals 4 (none) [.ref 13, .int a1, .int a2, .int a3] w N X := Ct.of (by decide) (Nat.le_of_ble_eq_true rfl) (pX8_formals hN h)
/-! AlgolMill$Symbols.body (II)V: S, 1 -/
theorem dX8_body__0 : decode cX8_body_ 0 = .ok (.aload_n 0, 1) := by decide +kernel
theorem dX8_body__1 : decode cX8_body_ 1 = .ok (.getfield 42, 3) := by decide +kernel
theorem dX8_body__4 : decode cX8_body_ 4 = .ok (.iload_n 1, 1) := by decide +kernel
theorem dX8_body__5 : decode cX8_body_ 5 = .ok (.iload_n 2, 1) := by decide +kernel
theorem dX8_body__6 : decode cX8_body_ 6 = .ok (.invokestatic 76, 3) := by decide +kernel
theorem dX8_body__9 : decode cX8_body_ 9 = .ok (.return_, 1) := by decide +kernel
def fX8_body_ (a1 : Int32) (a2 : Int32) (w : Wd) : Wd :=
  lt (rsi w 24 4104 a1 a2) fun w1 => w1
theorem pX8_body_ {q : Gq} {l : Launch} {N : Option Value → Wd → Prop} {X : String → Wd → Prop} {w : Wd} {R : Wd} (hN : N none R) {a1 : Int32} {a2 : Int32} (h : fX8_body_ a1 a2 w = R) : RT (GA q) l 1 yX8_body_ cX8_body_ 3 (none) N X 0 [] [(0, .ref 13), (1, .int a1), (2, .int a2)] w := by
  unfold fX8_body_ at h
  refine r_aload_n (pc := 0) dX8_body__0 rfl 0 rfl ?_
  refine r_get (pc := 1) (j := 10) (v := .ref 24) oA13 cf8 flRX8_42 rfl dX8_body__1 rfl ?_
  refine r_iload_n (pc := 4) dX8_body__4 rfl 1 rfl ?_
  refine r_iload_n (pc := 5) dX8_body__5 rfl 2 rfl ?_
  replace h := lt_e h; obtain ⟨w1, ew1, h⟩ := h
  refine r_cSv (pc := 6) wyX6_set mlRX8_76 tyX6_set ⟨(Nat.le_of_ble_eq_true rfl), (Nat.le_of_ble_eq_true rfl)⟩ rfl rfl (Nat.le_of_ble_eq_true rfl) dX8_body__6 (mX6_set aA24 (Nat.le_of_ble_eq_true rfl) ew1 (pV.mk ?_))
  exact rS_v (pc := 9) rfl dX8_body__9 h hN
theorem mX8_body_ {q : Gq} {l : Launch} {N : Option Value → Wd → Prop} {X : String → Wd → Prop} {a1 : Int32} {a2 : Int32} {w : Wd} {u : Wd} (h : fX8_body_ a1 a2 w = u) (hN : N none u) : Ct (GA q) l 1 yX8_body_ cX8_body_ 3 (none) [.ref 13, .int a1, .int a2] w N X := Ct.of (by decide) (Nat.le_of_ble_eq_true rfl) (pX8_body_ hN h)
/-! AlgolMill$Symbols.how (II)V: S, 1 -/
theorem dX8_how_0 : decode cX8_how 0 = .ok (.aload_n 0, 1) := by decide +kernel
theorem dX8_how_1 : decode cX8_how 1 = .ok (.getfield 18, 3) := by decide +kernel
theorem dX8_how_4 : decode cX8_how 4 = .ok (.iload_n 1, 1) := by decide +kernel
theorem dX8_how_5 : decode cX8_how 5 = .ok (.iload_n 2, 1) := by decide +kernel
theorem dX8_how_6 : decode cX8_how 6 = .ok (.invokestatic 76, 3) := by decide +kernel
theorem dX8_how_9 : decode cX8_how 9 = .ok (.return_, 1) := by decide +kernel
def fX8_how (a1 : Int32) (a2 : Int32) (w : Wd) : Wd :=
  lt (rsi w 16 4104 a1 a2) fun w1 => w1
theorem pX8_how {q : Gq} {l : Launch} {N : Option Value → Wd → Prop} {X : String → Wd → Prop} {w : Wd} {R : Wd} (hN : N none R) {a1 : Int32} {a2 : Int32} (h : fX8_how a1 a2 w = R) : RT (GA q) l 1 yX8_how cX8_how 3 (none) N X 0 [] [(0, .ref 13), (1, .int a1), (2, .int a2)] w := by
  unfold fX8_how at h
  refine r_aload_n (pc := 0) dX8_how_0 rfl 0 rfl ?_
  refine r_get (pc := 1) (j := 2) (v := .ref 16) oA13 cf8 flRX8_18 rfl dX8_how_1 rfl ?_
  refine r_iload_n (pc := 4) dX8_how_4 rfl 1 rfl ?_
  refine r_iload_n (pc := 5) dX8_how_5 rfl 2 rfl ?_
  replace h := lt_e h; obtain ⟨w1, ew1, h⟩ := h
  refine r_cSv (pc := 6) wyX6_set mlRX8_76 tyX6_set ⟨(Nat.le_of_ble_eq_true rfl), (Nat.le_of_ble_eq_true rfl)⟩ rfl rfl (Nat.le_of_ble_eq_true rfl) dX8_how_6 (mX6_set aA16 (Nat.le_of_ble_eq_true rfl) ew1 (pV.mk ?_))
  exact rS_v (pc := 9) rfl dX8_how_9 h hN
theorem mX8_how {q : Gq} {l : Launch} {N : Option Value → Wd → Prop} {X : String → Wd → Prop} {a1 : Int32} {a2 : Int32} {w : Wd} {u : Wd} (h : fX8_how a1 a2 w = u) (hN : N none u) : Ct (GA q) l 1 yX8_how cX8_how 3 (none) [.ref 13, .int a1, .int a2] w N X := Ct.of (by decide) (Nat.le_of_ble_eq_true rfl) (pX8_how hN h)
/-! AlgolMill$Symbols.spec (III)V: S, 1 -/
theorem dX8_spec_0 : decode cX8_spec 0 = .ok (.aload_n 0, 1) := by decide +kernel
theorem dX8_spec_1 : decode cX8_spec 1 = .ok (.getfield 11, 3) := by decide +kernel
theorem dX8_spec_4 : decode cX8_spec 4 = .ok (.iload_n 1, 1) := by decide +kernel
theorem dX8_spec_5 : decode cX8_spec 5 = .ok (.iload_n 2, 1) := by decide +kernel
theorem dX8_spec_6 : decode cX8_spec 6 = .ok (.invokestatic 76, 3) := by decide +kernel
theorem dX8_spec_9 : decode cX8_spec 9 = .ok (.aload_n 0, 1) := by decide +kernel
theorem dX8_spec_10 : decode cX8_spec 10 = .ok (.getfield 15, 3) := by decide +kernel
theorem dX8_spec_13 : decode cX8_spec 13 = .ok (.iload_n 1, 1) := by decide +kernel
theorem dX8_spec_14 : decode cX8_spec 14 = .ok (.iload_n 3, 1) := by decide +kernel
theorem dX8_spec_15 : decode cX8_spec 15 = .ok (.invokestatic 76, 3) := by decide +kernel
theorem dX8_spec_18 : decode cX8_spec 18 = .ok (.aload_n 0, 1) := by decide +kernel
theorem dX8_spec_19 : decode cX8_spec 19 = .ok (.getfield 39, 3) := by decide +kernel
theorem dX8_spec_22 : decode cX8_spec 22 = .ok (.iload_n 1, 1) := by decide +kernel
theorem dX8_spec_23 : decode cX8_spec 23 = .ok (.aload_n 0, 1) := by decide +kernel
theorem dX8_spec_24 : decode cX8_spec 24 = .ok (.getfield 39, 3) := by decide +kernel
theorem dX8_spec_27 : decode cX8_spec 27 = .ok (.iload_n 1, 1) := by decide +kernel
theorem dX8_spec_28 : decode cX8_spec 28 = .ok (.invokestatic 82, 3) := by decide +kernel
theorem dX8_spec_31 : decode cX8_spec 31 = .ok (.iconst 1, 1) := by decide +kernel
theorem dX8_spec_32 : decode cX8_spec 32 = .ok (.iadd, 1) := by decide +kernel
theorem dX8_spec_33 : decode cX8_spec 33 = .ok (.invokestatic 76, 3) := by decide +kernel
theorem dX8_spec_36 : decode cX8_spec 36 = .ok (.return_, 1) := by decide +kernel
def fX8_spec (a1 : Int32) (a2 : Int32) (a3 : Int32) (w : Wd) : Wd :=
  lt (rsi w 14 4104 a1 a2) fun w1 => lt (rsi w1 15 4104 a1 a3) fun w2 => lt (rgi w2 23 4104 a1) fun x3 => lt (rsi w2 23 4104 a1 (x3 + 1)) fun w4 => w4
theorem pX8_spec {q : Gq} {l : Launch} {N : Option Value → Wd → Prop} {X : String → Wd → Prop} {w : Wd} {R : Wd} (hN : N none R) {a1 : Int32} {a2 : Int32} {a3 : Int32} (h : fX8_spec a1 a2 a3 w = R) : RT (GA q) l 1 yX8_spec cX8_spec 4 (none) N X 0 [] [(0, .ref 13), (1, .int a1), (2, .int a2), (3, .int a3)] w := by
  unfold fX8_spec at h
  refine r_aload_n (pc := 0) dX8_spec_0 rfl 0 rfl ?_
  refine r_get (pc := 1) (j := 0) (v := .ref 14) oA13 cf8 flRX8_11 rfl dX8_spec_1 rfl ?_
  refine r_iload_n (pc := 4) dX8_spec_4 rfl 1 rfl ?_
  refine r_iload_n (pc := 5) dX8_spec_5 rfl 2 rfl ?_
  replace h := lt_e h; obtain ⟨w1, ew1, h⟩ := h
  refine r_cSv (pc := 6) wyX6_set mlRX8_76 tyX6_set ⟨(Nat.le_of_ble_eq_true rfl), (Nat.le_of_ble_eq_true rfl)⟩ rfl rfl (Nat.le_of_ble_eq_true rfl) dX8_spec_6 (mX6_set aA14 (Nat.le_of_ble_eq_true rfl) ew1 (pV.mk ?_))
  refine r_aload_n (pc := 9) dX8_spec_9 rfl 0 rfl ?_
  refine r_get (pc := 10) (j := 1) (v := .ref 15) oA13 cf8 flRX8_15 rfl dX8_spec_10 rfl ?_
  refine r_iload_n (pc := 13) dX8_spec_13 rfl 1 rfl ?_
  refine r_iload_n (pc := 14) dX8_spec_14 rfl 3 rfl ?_
  replace h := lt_e h; obtain ⟨w2, ew2, h⟩ := h
  refine r_cSv (pc := 15) wyX6_set mlRX8_76 tyX6_set ⟨(Nat.le_of_ble_eq_true rfl), (Nat.le_of_ble_eq_true rfl)⟩ rfl rfl (Nat.le_of_ble_eq_true rfl) dX8_spec_15 (mX6_set aA15 (Nat.le_of_ble_eq_true rfl) ew2 (pV.mk ?_))
  refine r_aload_n (pc := 18) dX8_spec_18 rfl 0 rfl ?_
  refine r_get (pc := 19) (j := 9) (v := .ref 23) oA13 cf8 flRX8_39 rfl dX8_spec_19 rfl ?_
  refine r_iload_n (pc := 22) dX8_spec_22 rfl 1 rfl ?_
  refine r_aload_n (pc := 23) dX8_spec_23 rfl 0 rfl ?_
  refine r_get (pc := 24) (j := 9) (v := .ref 23) oA13 cf8 flRX8_39 rfl dX8_spec_24 rfl ?_
  refine r_iload_n (pc := 27) dX8_spec_27 rfl 1 rfl ?_
  replace h := lt_e h; obtain ⟨x3, ex3, h⟩ := h
  refine r_cSi (pc := 28) wyX6_get mlRX8_82 tyX6_get ⟨(Nat.le_of_ble_eq_true rfl), (Nat.le_of_ble_eq_true rfl)⟩ rfl rfl (Nat.le_of_ble_eq_true rfl) dX8_spec_28 (mX6_get aA23 (Nat.le_of_ble_eq_true rfl) ex3 (pI.mk ?_))
  refine r_iconst (pc := 31) dX8_spec_31 ki_1 ?_
  refine r_iadd (pc := 32) dX8_spec_32 ?_
  replace h := lt_e h; obtain ⟨w4, ew4, h⟩ := h
  refine r_cSv (pc := 33) wyX6_set mlRX8_76 tyX6_set ⟨(Nat.le_of_ble_eq_true rfl), (Nat.le_of_ble_eq_true rfl)⟩ rfl rfl (Nat.le_of_ble_eq_true rfl) dX8_spec_33 (mX6_set aA23 (Nat.le_of_ble_eq_true rfl) ew4 (pV.mk ?_))
  exact rS_v (pc := 36) rfl dX8_spec_36 h hN
theorem mX8_spec {q : Gq} {l : Launch} {N : Option Value → Wd → Prop} {X : String → Wd → Prop} {a1 : Int32} {a2 : Int32} {a3 : Int32} {w : Wd} {u : Wd} (h : fX8_spec a1 a2 a3 w = u) (hN : N none u) : Ct (GA q) l 1 yX8_spec cX8_spec 4 (none) [.ref 13, .int a1, .int a2, .int a3] w N X := Ct.of (by decide) (Nat.le_of_ble_eq_true rfl) (pX8_spec hN h)
/-! AlgolMill$Symbols.specs (I)I: P, 1 -/
theorem dX8_specs_0 : decode cX8_specs 0 = .ok (.aload_n 0, 1) := by decide +kernel
theorem dX8_specs_1 : decode cX8_specs 1 = .ok (.getfield 39, 3) := by decide +kernel
theorem dX8_specs_4 : decode cX8_specs 4 = .ok (.iload_n 1, 1) := by decide +kernel
theorem dX8_specs_5 : decode cX8_specs 5 = .ok (.invokestatic 82, 3) := by decide +kernel
theorem dX8_specs_8 : decode cX8_specs 8 = .ok (.ireturn, 1) := by decide +kernel
def fX8_specs (a1 : Int32) (w : Wd) : Int32 :=
  lt (rgi w 23 4104 a1) fun x1 => x1
theorem pX8_specs {q : Gq} {l : Launch} {N : Option Value → Wd → Prop} {X : String → Wd → Prop} {w : Wd} {R : Int32} (hN : N (some (.int R)) w) {a1 : Int32} (h : fX8_specs a1 w = R) : RT (GA q) l 1 yX8_specs cX8_specs 2 ((some .int)) N X 0 [] [(0, .ref 13), (1, .int a1)] w := by
  unfold fX8_specs at h
  refine r_aload_n (pc := 0) dX8_specs_0 rfl 0 rfl ?_
  refine r_get (pc := 1) (j := 9) (v := .ref 23) oA13 cf8 flRX8_39 rfl dX8_specs_1 rfl ?_
  refine r_iload_n (pc := 4) dX8_specs_4 rfl 1 rfl ?_
  replace h := lt_e h; obtain ⟨x1, ex1, h⟩ := h
  refine r_cSi (pc := 5) wyX6_get mlRX8_82 tyX6_get ⟨(Nat.le_of_ble_eq_true rfl), (Nat.le_of_ble_eq_true rfl)⟩ rfl rfl (Nat.le_of_ble_eq_true rfl) dX8_specs_5 (mX6_get aA23 (Nat.le_of_ble_eq_true rfl) ex1 (pI.mk ?_))
  exact rP_i (pc := 8) rfl dX8_specs_8 h hN
theorem mX8_specs {q : Gq} {l : Launch} {N : Option Value → Wd → Prop} {X : String → Wd → Prop} {a1 : Int32} {w : Wd} {x : Int32} (h : fX8_specs a1 w = x) (hN : N (some (.int x)) w) : Ct (GA q) l 1 yX8_specs cX8_specs 2 ((some .int)) [.ref 13, .int a1] w N X := Ct.of (by decide) (Nat.le_of_ble_eq_true rfl) (pX8_specs hN h)
/-! AlgolMill$Symbols.formal (II)I: P, 2 -/
theorem dX8_formal_0 : decode cX8_formal 0 = .ok (.aload_n 0, 1) := by decide +kernel
theorem dX8_formal_1 : decode cX8_formal 1 = .ok (.iload_n 1, 1) := by decide +kernel
theorem dX8_formal_2 : decode cX8_formal 2 = .ok (.invokevirtual 86, 3) := by decide +kernel
theorem dX8_formal_5 : decode cX8_formal 5 = .ok (.iconst 3, 1) := by decide +kernel
theorem dX8_formal_6 : decode cX8_formal 6 = .ok (.if_icmp .ne 16, 3) := by decide +kernel
theorem dX8_formal_9 : decode cX8_formal 9 = .ok (.iload_n 2, 1) := by decide +kernel
theorem dX8_formal_10 : decode cX8_formal 10 = .ok (.aload_n 0, 1) := by decide +kernel
theorem dX8_formal_11 : decode cX8_formal 11 = .ok (.iload_n 1, 1) := by decide +kernel
theorem dX8_formal_12 : decode cX8_formal 12 = .ok (.invokevirtual 90, 3) := by decide +kernel
theorem dX8_formal_15 : decode cX8_formal 15 = .ok (.if_icmp .ge 7, 3) := by decide +kernel
theorem dX8_formal_18 : decode cX8_formal 18 = .ok (.iconst 1, 1) := by decide +kernel
theorem dX8_formal_19 : decode cX8_formal 19 = .ok (.goto 4, 3) := by decide +kernel
theorem dX8_formal_22 : decode cX8_formal 22 = .ok (.iconst 0, 1) := by decide +kernel
theorem dX8_formal_23 : decode cX8_formal 23 = .ok (.istore_n 3, 1) := by decide +kernel
theorem dX8_formal_24 : decode cX8_formal 24 = .ok (.iload_n 3, 1) := by decide +kernel
theorem dX8_formal_25 : decode cX8_formal 25 = .ok (.ifCond .eq 16, 3) := by decide +kernel
theorem dX8_formal_28 : decode cX8_formal 28 = .ok (.aload_n 0, 1) := by decide +kernel
theorem dX8_formal_29 : decode cX8_formal 29 = .ok (.getfield 30, 3) := by decide +kernel
theorem dX8_formal_32 : decode cX8_formal 32 = .ok (.iload_n 1, 1) := by decide +kernel
theorem dX8_formal_33 : decode cX8_formal 33 = .ok (.invokestatic 82, 3) := by decide +kernel
theorem dX8_formal_36 : decode cX8_formal 36 = .ok (.iload_n 2, 1) := by decide +kernel
theorem dX8_formal_37 : decode cX8_formal 37 = .ok (.iadd, 1) := by decide +kernel
theorem dX8_formal_38 : decode cX8_formal 38 = .ok (.goto 4, 3) := by decide +kernel
theorem dX8_formal_41 : decode cX8_formal 41 = .ok (.iconst 0, 1) := by decide +kernel
theorem dX8_formal_42 : decode cX8_formal 42 = .ok (.ireturn, 1) := by decide +kernel
def fX8_formal_23 (s0 : Bool) (a1 : Int32) (a2 : Int32) (w : Wd) : Int32 :=
  if s0 = true then (lt (rgi w 20 4104 a1) fun x2 => (x2 + a2)) else (0)
theorem pX8_formal_23 {q : Gq} {l : Launch} {N : Option Value → Wd → Prop} {X : String → Wd → Prop} {w : Wd} {R : Int32} (hN : N (some (.int R)) w) {s0 : Bool} {a1 : Int32} {a2 : Int32} (h : fX8_formal_23 s0 a1 a2 w = R) : RT (GA q) l 2 yX8_formal cX8_formal 4 ((some .int)) N X 23 [.int (b2i s0)] [(0, .ref 13), (1, .int a1), (2, .int a2)] w := by
  unfold fX8_formal_23 at h
  refine r_istore_n (pc := 23) (loc' := [(3, .int (b2i s0)), (0, .ref 13), (1, .int a1), (2, .int a2)]) dX8_formal_23 rfl (Nat.le_of_ble_eq_true rfl) rfl ?_
  refine r_iload_n (pc := 24) dX8_formal_24 rfl 0 rfl ?_
  refine r_z_eq (pc := 25) dX8_formal_25 rfl (fun hc1 => ?_) (fun hc1 => ?_)
  · replace h := if_f hc1 h
    refine r_iconst (pc := 41) dX8_formal_41 ki_0 ?_
    exact rP_i (pc := 42) rfl dX8_formal_42 h hN
  replace h := if_t hc1 h
  refine r_aload_n (pc := 28) dX8_formal_28 rfl 1 rfl ?_
  refine r_get (pc := 29) (j := 6) (v := .ref 20) oA13 cf8 flRX8_30 rfl dX8_formal_29 rfl ?_
  refine r_iload_n (pc := 32) dX8_formal_32 rfl 2 rfl ?_
  replace h := lt_e h; obtain ⟨x2, ex2, h⟩ := h
  refine r_cSi (pc := 33) wyX6_get mlRX8_82 tyX6_get ⟨(Nat.le_of_ble_eq_true rfl), (Nat.le_of_ble_eq_true rfl)⟩ rfl rfl (Nat.le_of_ble_eq_true rfl) dX8_formal_33 (mX6_get aA20 (Nat.le_of_ble_eq_true rfl) ex2 (pI.mk ?_))
  refine r_iload_n (pc := 36) dX8_formal_36 rfl 3 rfl ?_
  refine r_iadd (pc := 37) dX8_formal_37 ?_
  refine r_goto (pc := 38) dX8_formal_38 rfl ?_
  exact rP_i (pc := 42) rfl dX8_formal_42 h hN
def fX8_formal (a1 : Int32) (a2 : Int32) (w : Wd) : Int32 :=
  lt (fX8_sort a1 w) fun x1 => if x1 = 3 then (lt (fX8_size_ a1 w) fun x3 => if x3 ≤ a2 then (fX8_formal_23 false a1 a2 w) else (fX8_formal_23 true a1 a2 w)) else (fX8_formal_23 false a1 a2 w)
theorem pX8_formal {q : Gq} {l : Launch} {N : Option Value → Wd → Prop} {X : String → Wd → Prop} {w : Wd} {R : Int32} (hN : N (some (.int R)) w) {a1 : Int32} {a2 : Int32} (h : fX8_formal a1 a2 w = R) : RT (GA q) l 2 yX8_formal cX8_formal 4 ((some .int)) N X 0 [] [(0, .ref 13), (1, .int a1), (2, .int a2)] w := by
  unfold fX8_formal at h
  refine r_aload_n (pc := 0) dX8_formal_0 rfl 0 rfl ?_
  refine r_iload_n (pc := 1) dX8_formal_1 rfl 1 rfl ?_
  replace h := lt_e h; obtain ⟨x1, ex1, h⟩ := h
  refine r_cVi (pc := 2) wyX8_sort oA13 rfl mlRX8_86 iyX8_sort syX8_sort ⟨(Nat.le_of_ble_eq_true rfl), (Nat.le_of_ble_eq_true rfl)⟩ rfl rfl (Nat.le_of_ble_eq_true rfl) dX8_formal_2 (mX8_sort ex1 (pI.mk ?_))
  refine r_iconst (pc := 5) dX8_formal_5 ki_3 ?_
  refine r_icmp_ne (pc := 6) dX8_formal_6 rfl (fun hc2 => ?_) (fun hc2 => ?_)
  · replace h := if_f hc2 h
    refine r_iconst (pc := 22) dX8_formal_22 ki_0 ?_
    exact pX8_formal_23 hN h
  replace h := if_t hc2 h
  refine r_iload_n (pc := 9) dX8_formal_9 rfl 2 rfl ?_
  refine r_aload_n (pc := 10) dX8_formal_10 rfl 0 rfl ?_
  refine r_iload_n (pc := 11) dX8_formal_11 rfl 1 rfl ?_
  replace h := lt_e h; obtain ⟨x3, ex3, h⟩ := h
  refine r_cVi (pc := 12) wyX8_size_ oA13 rfl mlRX8_90 iyX8_size_ syX8_size_ ⟨(Nat.le_of_ble_eq_true rfl), (Nat.le_of_ble_eq_true rfl)⟩ rfl rfl (Nat.le_of_ble_eq_true rfl) dX8_formal_12 (mX8_size_ ex3 (pI.mk ?_))
  refine r_icmp_ge (pc := 15) dX8_formal_15 rfl (fun hc4 => ?_) (fun hc4 => ?_)
  · replace h := if_t hc4 h
    refine r_iconst (pc := 22) dX8_formal_22 ki_0 ?_
    exact pX8_formal_23 hN h
  replace h := if_f hc4 h
  refine r_iconst (pc := 18) dX8_formal_18 ki_1 ?_
  refine r_goto (pc := 19) dX8_formal_19 rfl ?_
  exact pX8_formal_23 hN h
theorem mX8_formal {q : Gq} {l : Launch} {N : Option Value → Wd → Prop} {X : String → Wd → Prop} {a1 : Int32} {a2 : Int32} {w : Wd} {x : Int32} (h : fX8_formal a1 a2 w = x) (hN : N (some (.int x)) w) : Ct (GA q) l 2 yX8_formal cX8_formal 4 ((some .int)) [.ref 13, .int a1, .int a2] w N X := Ct.of (by decide) (Nat.le_of_ble_eq_true rfl) (pX8_formal hN h)
/-! AlgolMill$Symbols.formalNamed (II)I: O, 3 -/
theorem dX8_formalNamed_0 : decode cX8_formalNamed 0 = .ok (.iconst 0, 1) := by decide +kernel
theorem dX8_formalNamed_1 : decode cX8_formalNamed 1 = .ok (.istore_n 3, 1) := by decide +kernel
theorem dX8_formalNamed_2 : decode cX8_formalNamed 2 = .ok (.iload_n 3, 1) := by decide +kernel
theorem dX8_formalNamed_3 : decode cX8_formalNamed 3 = .ok (.aload_n 0, 1) := by decide +kernel
theorem dX8_formalNamed_4 : decode cX8_formalNamed 4 = .ok (.iload_n 1, 1) := by decide +kernel
theorem dX8_formalNamed_5 : decode cX8_formalNamed 5 = .ok (.invokevirtual 90, 3) := by decide +kernel
theorem dX8_formalNamed_8 : decode cX8_formalNamed 8 = .ok (.if_icmp .ge 30, 3) := by decide +kernel
theorem dX8_formalNamed_11 : decode cX8_formalNamed 11 = .ok (.aload_n 0, 1) := by decide +kernel
theorem dX8_formalNamed_12 : decode cX8_formalNamed 12 = .ok (.iload_n 1, 1) := by decide +kernel
theorem dX8_formalNamed_13 : decode cX8_formalNamed 13 = .ok (.iload_n 3, 1) := by decide +kernel
theorem dX8_formalNamed_14 : decode cX8_formalNamed 14 = .ok (.invokevirtual 92, 3) := by decide +kernel
theorem dX8_formalNamed_17 : decode cX8_formalNamed 17 = .ok (.istore 4, 2) := by decide +kernel
theorem dX8_formalNamed_19 : decode cX8_formalNamed 19 = .ok (.aload_n 0, 1) := by decide +kernel
theorem dX8_formalNamed_20 : decode cX8_formalNamed 20 = .ok (.iload 4, 2) := by decide +kernel
theorem dX8_formalNamed_22 : decode cX8_formalNamed 22 = .ok (.invokevirtual 95, 3) := by decide +kernel
theorem dX8_formalNamed_25 : decode cX8_formalNamed 25 = .ok (.iload_n 2, 1) := by decide +kernel
theorem dX8_formalNamed_26 : decode cX8_formalNamed 26 = .ok (.if_icmp .ne 6, 3) := by decide +kernel
theorem dX8_formalNamed_29 : decode cX8_formalNamed 29 = .ok (.iload 4, 2) := by decide +kernel
theorem dX8_formalNamed_31 : decode cX8_formalNamed 31 = .ok (.ireturn, 1) := by decide +kernel
theorem dX8_formalNamed_32 : decode cX8_formalNamed 32 = .ok (.iinc 3 1, 3) := by decide +kernel
theorem dX8_formalNamed_35 : decode cX8_formalNamed 35 = .ok (.goto (-33), 3) := by decide +kernel
theorem dX8_formalNamed_38 : decode cX8_formalNamed 38 = .ok (.iconst 0, 1) := by decide +kernel
theorem dX8_formalNamed_39 : decode cX8_formalNamed 39 = .ok (.ireturn, 1) := by decide +kernel
def fX8_formalNamed_2 (k_2 : Int32 → Int32 → Int32 → Wd → Option (Int32 × Wd)) (a1 : Int32) (a2 : Int32) (a3 : Int32) (w : Wd) : Option (Int32 × Wd) :=
  lt (fX8_size_ a1 w) fun x1 => if x1 ≤ a3 then (some (0, w)) else (lt (fX8_formal a1 a3 w) fun x3 => lt (fX8_name x3 w) fun x4 => if x4 = a2 then (some (x3, w)) else (lt (a3 + 1) fun x6 => k_2 a1 a2 x6 w))
theorem pX8_formalNamed_2 {q : Gq} {l : Launch} {N : Option Value → Wd → Prop} {X : String → Wd → Prop} {w : Wd} {R : Int32 × Wd} (hN : N (some (.int R.1)) R.2) {k_2 : Int32 → Int32 → Int32 → Wd → Option (Int32 × Wd)} (hk_2 : ∀ (a1 : Int32) (a2 : Int32) (a3 : Int32) (w : Wd), k_2 a1 a2 a3 w = some R → RT (GA q) l 3 yX8_formalNamed cX8_formalNamed 5 ((some .int)) N X 2 [] [(0, .ref 13), (1, .int a1), (2, .int a2), (3, .int a3)] w) {a1 : Int32} {a2 : Int32} {a3 : Int32} (h : fX8_formalNamed_2 k_2 a1 a2 a3 w = some R) : RT (GA q) l 3 yX8_formalNamed cX8_formalNamed 5 ((some .int)) N X 2 [] [(0, .ref 13), (1, .int a1), (2, .int a2), (3, .int a3)] w := by
  unfold fX8_formalNamed_2 at h
  refine r_iload_n (pc := 2) dX8_formalNamed_2 rfl 3 rfl ?_
  refine r_aload_n (pc := 3) dX8_formalNamed_3 rfl 0 rfl ?_
  refine r_iload_n (pc := 4) dX8_formalNamed_4 rfl 1 rfl ?_
  replace h := lt_e h; obtain ⟨x1, ex1, h⟩ := h
  refine r_cVi (pc := 5) wyX8_size_ oA13 rfl mlRX8_90 iyX8_size_ syX8_size_ ⟨(Nat.le_of_ble_eq_true rfl), (Nat.le_of_ble_eq_true rfl)⟩ rfl rfl (Nat.le_of_ble_eq_true rfl) dX8_formalNamed_5 (mX8_size_ ex1 (pI.mk ?_))
  refine r_icmp_ge (pc := 8) dX8_formalNamed_8 rfl (fun hc2 => ?_) (fun hc2 => ?_)
  · replace h := if_t hc2 h
    refine r_iconst (pc := 38) dX8_formalNamed_38 ki_0 ?_
    exact rO_i (pc := 39) rfl dX8_formalNamed_39 h hN
  replace h := if_f hc2 h
  refine r_aload_n (pc := 11) dX8_formalNamed_11 rfl 0 rfl ?_
  refine r_iload_n (pc := 12) dX8_formalNamed_12 rfl 1 rfl ?_
  refine r_iload_n (pc := 13) dX8_formalNamed_13 rfl 3 rfl ?_
  replace h := lt_e h; obtain ⟨x3, ex3, h⟩ := h
  refine r_cVi (pc := 14) wyX8_formal oA13 rfl mlRX8_92 iyX8_formal syX8_formal ⟨(Nat.le_of_ble_eq_true rfl), (Nat.le_of_ble_eq_true rfl)⟩ rfl rfl (Nat.le_of_ble_eq_true rfl) dX8_formalNamed_14 (mX8_formal ex3 (pI.mk ?_))
  refine r_istore (pc := 17) (loc' := [(4, .int x3), (0, .ref 13), (1, .int a1), (2, .int a2), (3, .int a3)]) dX8_formalNamed_17 (Nat.le_of_ble_eq_true rfl) rfl ?_
  refine r_aload_n (pc := 19) dX8_formalNamed_19 rfl 1 rfl ?_
  refine r_iload (pc := 20) dX8_formalNamed_20 0 rfl ?_
  replace h := lt_e h; obtain ⟨x4, ex4, h⟩ := h
  refine r_cVi (pc := 22) wyX8_name oA13 rfl mlRX8_95 iyX8_name syX8_name ⟨(Nat.le_of_ble_eq_true rfl), (Nat.le_of_ble_eq_true rfl)⟩ rfl rfl (Nat.le_of_ble_eq_true rfl) dX8_formalNamed_22 (mX8_name ex4 (pI.mk ?_))
  refine r_iload_n (pc := 25) dX8_formalNamed_25 rfl 3 rfl ?_
  refine r_icmp_ne (pc := 26) dX8_formalNamed_26 rfl (fun hc5 => ?_) (fun hc5 => ?_)
  · replace h := if_f hc5 h
    replace h := lt_e h; obtain ⟨x6, ex6, h⟩ := h
    refine r_inc (pc := 32) (loc' := [(3, .int x6), (4, .int x3), (0, .ref 13), (1, .int a1), (2, .int a2)]) dX8_formalNamed_32 ki_1 ex6 4 rfl (Nat.le_of_ble_eq_true rfl) rfl ?_
    refine r_goto (pc := 35) dX8_formalNamed_35 rfl ?_
    refine r_drop (loc' := [(0, .ref 13), (1, .int a1), (2, .int a2), (3, .int x6)]) [2, 3, 4, 0] rfl ?_
    exact hk_2 a1 a2 x6 w h
  replace h := if_t hc5 h
  refine r_iload (pc := 29) dX8_formalNamed_29 0 rfl ?_
  exact rO_i (pc := 31) rfl dX8_formalNamed_31 h hN
def oX8_formalNamed_2 : Nat → Int32 → Int32 → Int32 → Wd → Option (Int32 × Wd)
  | 0 => fun _ _ _ _ => none
  | n + 1 => fX8_formalNamed_2 (oX8_formalNamed_2 n)
theorem qX8_formalNamed_2 {q : Gq} {l : Launch} {N : Option Value → Wd → Prop} {X : String → Wd → Prop} {R : Int32 × Wd} (hN : N (some (.int R.1)) R.2) : ∀ (n : Nat) (a1 : Int32) (a2 : Int32) (a3 : Int32) (w : Wd), oX8_formalNamed_2 n a1 a2 a3 w = some R → RT (GA q) l 3 yX8_formalNamed cX8_formalNamed 5 ((some .int)) N X 2 [] [(0, .ref 13), (1, .int a1), (2, .int a2), (3, .int a3)] w := by
  intro n
  induction n with
  | zero =>
    intro a1 a2 a3 w h
    exact absurd h (fun q => nomatch q)
  | succ n ih =>
    intro a1 a2 a3 w h
    exact pX8_formalNamed_2 hN ih h
def fX8_formalNamed (a1 : Int32) (a2 : Int32) (w : Wd) : Option (Int32 × Wd) :=
  oX8_formalNamed_2 FU a1 a2 0 w
theorem pX8_formalNamed {q : Gq} {l : Launch} {N : Option Value → Wd → Prop} {X : String → Wd → Prop} {w : Wd} {R : Int32 × Wd} (hN : N (some (.int R.1)) R.2) {a1 : Int32} {a2 : Int32} (h : fX8_formalNamed a1 a2 w = some R) : RT (GA q) l 3 yX8_formalNamed cX8_formalNamed 5 ((some .int)) N X 0 [] [(0, .ref 13), (1, .int a1), (2, .int a2)] w := by
  unfold fX8_formalNamed at h
  refine r_iconst (pc := 0) dX8_formalNamed_0 ki_0 ?_
  refine r_istore_n (pc := 1) (loc' := [(3, .int 0), (0, .ref 13), (1, .int a1), (2, .int a2)]) dX8_formalNamed_1 rfl (Nat.le_of_ble_eq_true rfl) rfl ?_
  refine r_drop (loc' := [(0, .ref 13), (1, .int a1), (2, .int a2), (3, .int 0)]) [1, 2, 3, 0] rfl ?_
  exact qX8_formalNamed_2 hN FU a1 a2 0 w h
theorem mX8_formalNamed {q : Gq} {l : Launch} {N : Option Value → Wd → Prop} {X : String → Wd → Prop} {a1 : Int32} {a2 : Int32} {w : Wd} {x : Int32} {u : Wd} (h : fX8_formalNamed a1 a2 w = some (x, u)) (hN : N (some (.int x)) u) : Ct (GA q) l 3 yX8_formalNamed cX8_formalNamed 5 ((some .int)) [.ref 13, .int a1, .int a2] w N X := Ct.of (by decide) (Nat.le_of_ble_eq_true rfl) (pX8_formalNamed hN h)
