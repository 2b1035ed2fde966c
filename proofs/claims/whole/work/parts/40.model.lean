/-! the reference -/
theorem ks_20000 : (Int16.ofInt 20000).toInt32 = 20000 := by decide
/-! AlgolMillModel.aimed (II)V: O, 2 -/
theorem dX12_aimed_0 : decode cX12_aimed 0 = .ok (.aload_n 0, 1) := by decide +kernel
theorem dX12_aimed_1 : decode cX12_aimed 1 = .ok (.invokevirtual 810, 3) := by decide +kernel
theorem dX12_aimed_4 : decode cX12_aimed 4 = .ok (.lstore_n 3, 1) := by decide +kernel
theorem dX12_aimed_5 : decode cX12_aimed 5 = .ok (.iload_n 2, 1) := by decide +kernel
theorem dX12_aimed_6 : decode cX12_aimed 6 = .ok (.ifCond .ge 38, 3) := by decide +kernel
theorem dX12_aimed_9 : decode cX12_aimed 9 = .ok (.aload_n 0, 1) := by decide +kernel
theorem dX12_aimed_10 : decode cX12_aimed 10 = .ok (.iload_n 1, 1) := by decide +kernel
theorem dX12_aimed_11 : decode cX12_aimed 11 = .ok (.iconst (-1), 1) := by decide +kernel
theorem dX12_aimed_12 : decode cX12_aimed 12 = .ok (.iload_n 2, 1) := by decide +kernel
theorem dX12_aimed_13 : decode cX12_aimed 13 = .ok (.isub, 1) := by decide +kernel
theorem dX12_aimed_14 : decode cX12_aimed 14 = .ok (.invokevirtual 850, 3) := by decide +kernel
theorem dX12_aimed_17 : decode cX12_aimed 17 = .ok (.istore 7, 2) := by decide +kernel
theorem dX12_aimed_19 : decode cX12_aimed 19 = .ok (.aload_n 0, 1) := by decide +kernel
theorem dX12_aimed_20 : decode cX12_aimed 20 = .ok (.getfield 330, 3) := by decide +kernel
theorem dX12_aimed_23 : decode cX12_aimed 23 = .ok (.iload 7, 2) := by decide +kernel
theorem dX12_aimed_25 : decode cX12_aimed 25 = .ok (.laload, 1) := by decide +kernel
theorem dX12_aimed_26 : decode cX12_aimed 26 = .ok (.l2i, 1) := by decide +kernel
theorem dX12_aimed_27 : decode cX12_aimed 27 = .ok (.istore 5, 2) := by decide +kernel
theorem dX12_aimed_29 : decode cX12_aimed 29 = .ok (.aload_n 0, 1) := by decide +kernel
theorem dX12_aimed_30 : decode cX12_aimed 30 = .ok (.getfield 330, 3) := by decide +kernel
theorem dX12_aimed_33 : decode cX12_aimed 33 = .ok (.iload 7, 2) := by decide +kernel
theorem dX12_aimed_35 : decode cX12_aimed 35 = .ok (.iconst 1, 1) := by decide +kernel
theorem dX12_aimed_36 : decode cX12_aimed 36 = .ok (.iadd, 1) := by decide +kernel
theorem dX12_aimed_37 : decode cX12_aimed 37 = .ok (.laload, 1) := by decide +kernel
theorem dX12_aimed_38 : decode cX12_aimed 38 = .ok (.l2i, 1) := by decide +kernel
theorem dX12_aimed_39 : decode cX12_aimed 39 = .ok (.istore 6, 2) := by decide +kernel
theorem dX12_aimed_41 : decode cX12_aimed 41 = .ok (.goto 13, 3) := by decide +kernel
theorem dX12_aimed_44 : decode cX12_aimed 44 = .ok (.iload_n 2, 1) := by decide +kernel
theorem dX12_aimed_45 : decode cX12_aimed 45 = .ok (.istore 5, 2) := by decide +kernel
theorem dX12_aimed_47 : decode cX12_aimed 47 = .ok (.aload_n 0, 1) := by decide +kernel
theorem dX12_aimed_48 : decode cX12_aimed 48 = .ok (.iload_n 1, 1) := by decide +kernel
theorem dX12_aimed_49 : decode cX12_aimed 49 = .ok (.invokevirtual 774, 3) := by decide +kernel
theorem dX12_aimed_52 : decode cX12_aimed 52 = .ok (.istore 6, 2) := by decide +kernel
theorem dX12_aimed_54 : decode cX12_aimed 54 = .ok (.aload_n 0, 1) := by decide +kernel
theorem dX12_aimed_55 : decode cX12_aimed 55 = .ok (.invokevirtual 795, 3) := by decide +kernel
theorem dX12_aimed_58 : decode cX12_aimed 58 = .ok (.ifCond .eq 10, 3) := by decide +kernel
theorem dX12_aimed_61 : decode cX12_aimed 61 = .ok (.aload_n 0, 1) := by decide +kernel
theorem dX12_aimed_62 : decode cX12_aimed 62 = .ok (.invokevirtual 798, 3) := by decide +kernel
theorem dX12_aimed_65 : decode cX12_aimed 65 = .ok (.ifCond .ne 4, 3) := by decide +kernel
theorem dX12_aimed_68 : decode cX12_aimed 68 = .ok (.return_, 1) := by decide +kernel
theorem dX12_aimed_69 : decode cX12_aimed 69 = .ok (.lload_n 3, 1) := by decide +kernel
theorem dX12_aimed_70 : decode cX12_aimed 70 = .ok (.lconst 1, 1) := by decide +kernel
theorem dX12_aimed_71 : decode cX12_aimed 71 = .ok (.lcmp, 1) := by decide +kernel
theorem dX12_aimed_72 : decode cX12_aimed 72 = .ok (.ifCond .lt 16, 3) := by decide +kernel
theorem dX12_aimed_75 : decode cX12_aimed 75 = .ok (.lload_n 3, 1) := by decide +kernel
theorem dX12_aimed_76 : decode cX12_aimed 76 = .ok (.aload_n 0, 1) := by decide +kernel
theorem dX12_aimed_77 : decode cX12_aimed 77 = .ok (.getfield 314, 3) := by decide +kernel
theorem dX12_aimed_80 : decode cX12_aimed 80 = .ok (.iload 5, 2) := by decide +kernel
theorem dX12_aimed_82 : decode cX12_aimed 82 = .ok (.iaload, 1) := by decide +kernel
theorem dX12_aimed_83 : decode cX12_aimed 83 = .ok (.i2l, 1) := by decide +kernel
theorem dX12_aimed_84 : decode cX12_aimed 84 = .ok (.lcmp, 1) := by decide +kernel
theorem dX12_aimed_85 : decode cX12_aimed 85 = .ok (.ifCond .le 26, 3) := by decide +kernel
theorem dX12_aimed_88 : decode cX12_aimed 88 = .ok (.aload_n 0, 1) := by decide +kernel
theorem dX12_aimed_89 : decode cX12_aimed 89 = .ok (.aload_n 0, 1) := by decide +kernel
theorem dX12_aimed_90 : decode cX12_aimed 90 = .ok (.getfield 801, 3) := by decide +kernel
theorem dX12_aimed_93 : decode cX12_aimed 93 = .ok (.aload_n 0, 1) := by decide +kernel
theorem dX12_aimed_94 : decode cX12_aimed 94 = .ok (.getfield 789, 3) := by decide +kernel
theorem dX12_aimed_97 : decode cX12_aimed 97 = .ok (.iconst 1, 1) := by decide +kernel
theorem dX12_aimed_98 : decode cX12_aimed 98 = .ok (.iadd, 1) := by decide +kernel
theorem dX12_aimed_99 : decode cX12_aimed 99 = .ok (.invokestatic 804, 3) := by decide +kernel
theorem dX12_aimed_102 : decode cX12_aimed 102 = .ok (.putfield 801, 3) := by decide +kernel
theorem dX12_aimed_105 : decode cX12_aimed 105 = .ok (.aload_n 0, 1) := by decide +kernel
theorem dX12_aimed_106 : decode cX12_aimed 106 = .ok (.iconst 1, 1) := by decide +kernel
theorem dX12_aimed_107 : decode cX12_aimed 107 = .ok (.invokevirtual 792, 3) := by decide +kernel
theorem dX12_aimed_110 : decode cX12_aimed 110 = .ok (.return_, 1) := by decide +kernel
theorem dX12_aimed_111 : decode cX12_aimed 111 = .ok (.aload_n 0, 1) := by decide +kernel
theorem dX12_aimed_112 : decode cX12_aimed 112 = .ok (.iconst 1, 1) := by decide +kernel
theorem dX12_aimed_113 : decode cX12_aimed 113 = .ok (.iconst 0, 1) := by decide +kernel
theorem dX12_aimed_114 : decode cX12_aimed 114 = .ok (.iconst (-1), 1) := by decide +kernel
theorem dX12_aimed_115 : decode cX12_aimed 115 = .ok (.invokevirtual 807, 3) := by decide +kernel
theorem dX12_aimed_118 : decode cX12_aimed 118 = .ok (.aload_n 0, 1) := by decide +kernel
theorem dX12_aimed_119 : decode cX12_aimed 119 = .ok (.dup, 1) := by decide +kernel
theorem dX12_aimed_120 : decode cX12_aimed 120 = .ok (.getfield 789, 3) := by decide +kernel
theorem dX12_aimed_123 : decode cX12_aimed 123 = .ok (.iconst 1, 1) := by decide +kernel
theorem dX12_aimed_124 : decode cX12_aimed 124 = .ok (.iadd, 1) := by decide +kernel
theorem dX12_aimed_125 : decode cX12_aimed 125 = .ok (.putfield 789, 3) := by decide +kernel
theorem dX12_aimed_128 : decode cX12_aimed 128 = .ok (.aload_n 0, 1) := by decide +kernel
theorem dX12_aimed_129 : decode cX12_aimed 129 = .ok (.aload_n 0, 1) := by decide +kernel
theorem dX12_aimed_130 : decode cX12_aimed 130 = .ok (.getfield 801, 3) := by decide +kernel
theorem dX12_aimed_133 : decode cX12_aimed 133 = .ok (.aload_n 0, 1) := by decide +kernel
theorem dX12_aimed_134 : decode cX12_aimed 134 = .ok (.getfield 789, 3) := by decide +kernel
theorem dX12_aimed_137 : decode cX12_aimed 137 = .ok (.invokestatic 804, 3) := by decide +kernel
theorem dX12_aimed_140 : decode cX12_aimed 140 = .ok (.putfield 801, 3) := by decide +kernel
theorem dX12_aimed_143 : decode cX12_aimed 143 = .ok (.aload_n 0, 1) := by decide +kernel
theorem dX12_aimed_144 : decode cX12_aimed 144 = .ok (.iload 6, 2) := by decide +kernel
theorem dX12_aimed_146 : decode cX12_aimed 146 = .ok (.putfield 771, 3) := by decide +kernel
theorem dX12_aimed_149 : decode cX12_aimed 149 = .ok (.aload_n 0, 1) := by decide +kernel
theorem dX12_aimed_150 : decode cX12_aimed 150 = .ok (.aload_n 0, 1) := by decide +kernel
theorem dX12_aimed_151 : decode cX12_aimed 151 = .ok (.getfield 317, 3) := by decide +kernel
theorem dX12_aimed_154 : decode cX12_aimed 154 = .ok (.aload_n 0, 1) := by decide +kernel
theorem dX12_aimed_155 : decode cX12_aimed 155 = .ok (.getfield 311, 3) := by decide +kernel
theorem dX12_aimed_158 : decode cX12_aimed 158 = .ok (.iload 5, 2) := by decide +kernel
theorem dX12_aimed_160 : decode cX12_aimed 160 = .ok (.iaload, 1) := by decide +kernel
theorem dX12_aimed_161 : decode cX12_aimed 161 = .ok (.lload_n 3, 1) := by decide +kernel
theorem dX12_aimed_162 : decode cX12_aimed 162 = .ok (.l2i, 1) := by decide +kernel
theorem dX12_aimed_163 : decode cX12_aimed 163 = .ok (.iadd, 1) := by decide +kernel
theorem dX12_aimed_164 : decode cX12_aimed 164 = .ok (.iconst 1, 1) := by decide +kernel
theorem dX12_aimed_165 : decode cX12_aimed 165 = .ok (.isub, 1) := by decide +kernel
theorem dX12_aimed_166 : decode cX12_aimed 166 = .ok (.iaload, 1) := by decide +kernel
theorem dX12_aimed_167 : decode cX12_aimed 167 = .ok (.putfield 786, 3) := by decide +kernel
theorem dX12_aimed_170 : decode cX12_aimed 170 = .ok (.return_, 1) := by decide +kernel
def fX12_aimed_88 (w : Wd) : Option Wd :=
  lt (fJ9_max_7cf53 (gi w 0 135) ((gi w 0 134) + 1)) fun x1 => lt (si w 0 135 x1) fun w2 => lt (fX12_fail 1 w2) fun w3 => some w3
theorem pX12_aimed_88 {q : Gq} {l : Launch} {N : Option Value → Wd → Prop} {X : String → Wd → Prop} {w : Wd} {R : Wd} (hN : N none R) (h : fX12_aimed_88 w = some R) : RT (GM q) l 2 yX12_aimed cX12_aimed 8 (none) N X 88 [] [(0, .ref 0)] w := by
  unfold fX12_aimed_88 at h
  refine r_aload_n (pc := 88) dX12_aimed_88 rfl 0 rfl ?_
  refine r_aload_n (pc := 89) dX12_aimed_89 rfl 0 rfl ?_
  refine r_get (pc := 90) (j := 135) (v := .int (gi w 0 135)) oM0 cf12 flRX12_801 rfl dX12_aimed_90 rfl ?_
  refine r_aload_n (pc := 93) dX12_aimed_93 rfl 0 rfl ?_
  refine r_get (pc := 94) (j := 134) (v := .int (gi w 0 134)) oM0 cf12 flRX12_789 rfl dX12_aimed_94 rfl ?_
  refine r_iconst (pc := 97) dX12_aimed_97 ki_1 ?_
  refine r_iadd (pc := 98) dX12_aimed_98 ?_
  replace h := lt_e h; obtain ⟨x1, ex1, h⟩ := h
  refine r_cSi (pc := 99) wyJ9_max_7cf53 mlRX12_804 tyJ9_max_7cf53 ⟨(Nat.le_of_ble_eq_true rfl), (Nat.le_of_ble_eq_true rfl)⟩ rfl rfl (Nat.le_of_ble_eq_true rfl) dX12_aimed_99 (mJ9_max_7cf53 ex1 (pI.mk ?_))
  replace h := lt_e h; obtain ⟨w2, ew2, h⟩ := h
  refine r_putI (pc := 102) (j := 135) oM0 cf12 flRX12_801 rfl rfl rfl rfl dX12_aimed_102 ?_
  refine r_w ew2 ?_
  refine r_aload_n (pc := 105) dX12_aimed_105 rfl 0 rfl ?_
  refine r_iconst (pc := 106) dX12_aimed_106 ki_1 ?_
  replace h := lt_e h; obtain ⟨w3, ew3, h⟩ := h
  refine r_cVv (pc := 107) wyX12_fail oM0 rfl mlRX12_792 iyX12_fail syX12_fail ⟨(Nat.le_of_ble_eq_true rfl), (Nat.le_of_ble_eq_true rfl)⟩ rfl rfl (Nat.le_of_ble_eq_true rfl) dX12_aimed_107 (mX12_fail ew3 (pV.mk ?_))
  exact rO_v (pc := 110) rfl dX12_aimed_110 h hN
def fX12_aimed_54 (a3 : Int64) (a5 : Int32) (a6 : Int32) (w : Wd) : Option Wd :=
  lt2 (fX12_pay w) fun x1 w2 => if x1 = true then (lt2 (fX12_deeper w2) fun x4 w5 => if x4 = true then (if a3 < 1 then (fX12_aimed_88 w5) else (if inb a5 5000 = true then if a3 ≤ (Int32.toInt64 (gi w5 78 (Int32.toNatClampNeg a5))) then (bn (fX12_control 1 0 (-1) w5) fun w10 => lt (si w10 0 134 ((gi w10 0 134) + 1)) fun w11 => lt (fJ9_max_7cf53 (gi w11 0 135) (gi w11 0 134)) fun x12 => lt (si w11 0 135 x12) fun w13 => lt (si w13 0 129 a6) fun w14 => if inb a5 5000 = true then if inb (((gi w14 77 (Int32.toNatClampNeg a5)) + (Int64.toInt32 a3)) - 1) 24000 = true then lt (si w14 0 128 (gi w14 79 (Int32.toNatClampNeg (((gi w14 77 (Int32.toNatClampNeg a5)) + (Int64.toInt32 a3)) - 1)))) fun w17 => some w17 else none else none) else (fX12_aimed_88 w5) else none)) else (some w5)) else (some w2)
theorem pX12_aimed_54 {q : Gq} {l : Launch} {N : Option Value → Wd → Prop} {X : String → Wd → Prop} {w : Wd} {R : Wd} (hN : N none R) {a3 : Int64} {a5 : Int32} {a6 : Int32} (h : fX12_aimed_54 a3 a5 a6 w = some R) : RT (GM q) l 2 yX12_aimed cX12_aimed 8 (none) N X 54 [] [(0, .ref 0), (3, .long a3), (5, .int a5), (6, .int a6)] w := by
  unfold fX12_aimed_54 at h
  refine r_aload_n (pc := 54) dX12_aimed_54 rfl 0 rfl ?_
  replace h := lt2_e h; obtain ⟨x1, w2, ew2, h⟩ := h
  refine r_cVi (pc := 55) wyX12_pay oM0 rfl mlRX12_795 iyX12_pay syX12_pay ⟨(Nat.le_of_ble_eq_true rfl), (Nat.le_of_ble_eq_true rfl)⟩ rfl rfl (Nat.le_of_ble_eq_true rfl) dX12_aimed_55 (mX12_pay ew2 (pI.mk ?_))
  refine r_z_eq (pc := 58) dX12_aimed_58 rfl (fun hc3 => ?_) (fun hc3 => ?_)
  · replace h := if_f hc3 h
    exact rO_v (pc := 68) rfl dX12_aimed_68 h hN
  replace h := if_t hc3 h
  refine r_aload_n (pc := 61) dX12_aimed_61 rfl 0 rfl ?_
  replace h := lt2_e h; obtain ⟨x4, w5, ew5, h⟩ := h
  refine r_cVi (pc := 62) wyX12_deeper oM0 rfl mlRX12_798 iyX12_deeper syX12_deeper ⟨(Nat.le_of_ble_eq_true rfl), (Nat.le_of_ble_eq_true rfl)⟩ rfl rfl (Nat.le_of_ble_eq_true rfl) dX12_aimed_62 (mX12_deeper ew5 (pI.mk ?_))
  refine r_z_ne (pc := 65) dX12_aimed_65 rfl (fun hc6 => ?_) (fun hc6 => ?_)
  · replace h := if_t hc6 h
    refine r_lload_n (pc := 69) dX12_aimed_69 rfl 1 rfl ?_
    refine r_lconst (pc := 70) dX12_aimed_70 kl_1 ?_
    refine r_l_lt (pc := 71) dX12_aimed_71 dX12_aimed_72 rfl (fun hc7 => ?_) (fun hc7 => ?_)
    · replace h := if_t hc7 h
      refine r_drop (loc' := [(0, .ref 0)]) [0] rfl ?_
      exact pX12_aimed_88 hN h
    replace h := if_f hc7 h
    refine r_lload_n (pc := 75) dX12_aimed_75 rfl 1 rfl ?_
    refine r_aload_n (pc := 76) dX12_aimed_76 rfl 0 rfl ?_
    refine r_get (pc := 77) (j := 106) (v := .ref 78) oM0 cf12 flRX12_314 rfl dX12_aimed_77 rfl ?_
    refine r_iload (pc := 80) dX12_aimed_80 2 rfl ?_
    replace h := if_n h; obtain ⟨hb8, h⟩ := h
    refine r_iald (pc := 82) aM78 (inb_in hb8) dX12_aimed_82 ?_
    refine r_i2l (pc := 83) dX12_aimed_83 ?_
    refine r_l_le (pc := 84) dX12_aimed_84 dX12_aimed_85 rfl (fun hc9 => ?_) (fun hc9 => ?_)
    · replace h := if_t hc9 h
      refine r_aload_n (pc := 111) dX12_aimed_111 rfl 0 rfl ?_
      refine r_iconst (pc := 112) dX12_aimed_112 ki_1 ?_
      refine r_iconst (pc := 113) dX12_aimed_113 ki_0 ?_
      refine r_iconst (pc := 114) dX12_aimed_114 ki_m1 ?_
      replace h := bn_e h; obtain ⟨w10, ew10, h⟩ := h
      refine r_cVv (pc := 115) wyX12_control oM0 rfl mlRX12_807 iyX12_control syX12_control ⟨(Nat.le_of_ble_eq_true rfl), (Nat.le_of_ble_eq_true rfl)⟩ rfl rfl (Nat.le_of_ble_eq_true rfl) dX12_aimed_115 (mX12_control ew10 (pV.mk ?_))
      refine r_aload_n (pc := 118) dX12_aimed_118 rfl 0 rfl ?_
      refine r_dup (pc := 119) dX12_aimed_119 rfl ?_
      refine r_get (pc := 120) (j := 134) (v := .int (gi w10 0 134)) oM0 cf12 flRX12_789 rfl dX12_aimed_120 rfl ?_
      refine r_iconst (pc := 123) dX12_aimed_123 ki_1 ?_
      refine r_iadd (pc := 124) dX12_aimed_124 ?_
      replace h := lt_e h; obtain ⟨w11, ew11, h⟩ := h
      refine r_putI (pc := 125) (j := 134) oM0 cf12 flRX12_789 rfl rfl rfl rfl dX12_aimed_125 ?_
      refine r_w ew11 ?_
      refine r_aload_n (pc := 128) dX12_aimed_128 rfl 0 rfl ?_
      refine r_aload_n (pc := 129) dX12_aimed_129 rfl 0 rfl ?_
      refine r_get (pc := 130) (j := 135) (v := .int (gi w11 0 135)) oM0 cf12 flRX12_801 rfl dX12_aimed_130 rfl ?_
      refine r_aload_n (pc := 133) dX12_aimed_133 rfl 0 rfl ?_
      refine r_get (pc := 134) (j := 134) (v := .int (gi w11 0 134)) oM0 cf12 flRX12_789 rfl dX12_aimed_134 rfl ?_
      replace h := lt_e h; obtain ⟨x12, ex12, h⟩ := h
      refine r_cSi (pc := 137) wyJ9_max_7cf53 mlRX12_804 tyJ9_max_7cf53 ⟨(Nat.le_of_ble_eq_true rfl), (Nat.le_of_ble_eq_true rfl)⟩ rfl rfl (Nat.le_of_ble_eq_true rfl) dX12_aimed_137 (mJ9_max_7cf53 ex12 (pI.mk ?_))
      replace h := lt_e h; obtain ⟨w13, ew13, h⟩ := h
      refine r_putI (pc := 140) (j := 135) oM0 cf12 flRX12_801 rfl rfl rfl rfl dX12_aimed_140 ?_
      refine r_w ew13 ?_
      refine r_aload_n (pc := 143) dX12_aimed_143 rfl 0 rfl ?_
      refine r_iload (pc := 144) dX12_aimed_144 3 rfl ?_
      replace h := lt_e h; obtain ⟨w14, ew14, h⟩ := h
      refine r_putI (pc := 146) (j := 129) oM0 cf12 flRX12_771 rfl rfl rfl rfl dX12_aimed_146 ?_
      refine r_w ew14 ?_
      refine r_aload_n (pc := 149) dX12_aimed_149 rfl 0 rfl ?_
      refine r_aload_n (pc := 150) dX12_aimed_150 rfl 0 rfl ?_
      refine r_get (pc := 151) (j := 107) (v := .ref 79) oM0 cf12 flRX12_317 rfl dX12_aimed_151 rfl ?_
      refine r_aload_n (pc := 154) dX12_aimed_154 rfl 0 rfl ?_
      refine r_get (pc := 155) (j := 105) (v := .ref 77) oM0 cf12 flRX12_311 rfl dX12_aimed_155 rfl ?_
      refine r_iload (pc := 158) dX12_aimed_158 2 rfl ?_
      replace h := if_n h; obtain ⟨hb15, h⟩ := h
      refine r_iald (pc := 160) aM77 (inb_in hb15) dX12_aimed_160 ?_
      refine r_lload_n (pc := 161) dX12_aimed_161 rfl 1 rfl ?_
      refine r_l2i (pc := 162) dX12_aimed_162 ?_
      refine r_iadd (pc := 163) dX12_aimed_163 ?_
      refine r_iconst (pc := 164) dX12_aimed_164 ki_1 ?_
      refine r_isub (pc := 165) dX12_aimed_165 ?_
      replace h := if_n h; obtain ⟨hb16, h⟩ := h
      refine r_iald (pc := 166) aM79 (inb_in hb16) dX12_aimed_166 ?_
      replace h := lt_e h; obtain ⟨w17, ew17, h⟩ := h
      refine r_putI (pc := 167) (j := 128) oM0 cf12 flRX12_786 rfl rfl rfl rfl dX12_aimed_167 ?_
      refine r_w ew17 ?_
      exact rO_v (pc := 170) rfl dX12_aimed_170 h hN
    replace h := if_f hc9 h
    refine r_drop (loc' := [(0, .ref 0)]) [0] rfl ?_
    exact pX12_aimed_88 hN h
  replace h := if_f hc6 h
  exact rO_v (pc := 68) rfl dX12_aimed_68 h hN
def fX12_aimed (a1 : Int32) (a2 : Int32) (w : Wd) : Option Wd :=
  bn2 (fX12_pop w) fun x1 w2 => if 0 ≤ a2 then (bn2 (fX12_envUp a1 w2) fun x4 w5 => fX12_aimed_54 x1 a2 x4 w5) else (bn2 (fX12_address a1 ((-1) - a2) w2) fun x6 w7 => if inb x6 200000 = true then lt ((Int64.toInt32 (gl w7 83 (Int32.toNatClampNeg x6)))) fun x9 => if inb (x6 + 1) 200000 = true then lt ((Int64.toInt32 (gl w7 83 (Int32.toNatClampNeg (x6 + 1))))) fun x11 => fX12_aimed_54 x1 x9 x11 w7 else none else none)
theorem pX12_aimed {q : Gq} {l : Launch} {N : Option Value → Wd → Prop} {X : String → Wd → Prop} {w : Wd} {R : Wd} (hN : N none R) {a1 : Int32} {a2 : Int32} (h : fX12_aimed a1 a2 w = some R) : RT (GM q) l 2 yX12_aimed cX12_aimed 8 (none) N X 0 [] [(0, .ref 0), (1, .int a1), (2, .int a2)] w := by
  unfold fX12_aimed at h
  refine r_aload_n (pc := 0) dX12_aimed_0 rfl 0 rfl ?_
  replace h := bn2_e h; obtain ⟨x1, w2, ew2, h⟩ := h
  refine r_cVl (pc := 1) wyX12_pop oM0 rfl mlRX12_810 iyX12_pop syX12_pop ⟨(Nat.le_of_ble_eq_true rfl), (Nat.le_of_ble_eq_true rfl)⟩ rfl rfl (Nat.le_of_ble_eq_true rfl) dX12_aimed_1 (mX12_pop ew2 (pL.mk ?_))
  refine r_lstore_n (pc := 4) (loc' := [(3, .long x1), (0, .ref 0), (1, .int a1), (2, .int a2)]) dX12_aimed_4 rfl (Nat.le_of_ble_eq_true rfl) rfl ?_
  refine r_iload_n (pc := 5) dX12_aimed_5 rfl 3 rfl ?_
  refine r_if_ge (pc := 6) dX12_aimed_6 rfl (fun hc3 => ?_) (fun hc3 => ?_)
  · replace h := if_t hc3 h
    refine r_iload_n (pc := 44) dX12_aimed_44 rfl 3 rfl ?_
    refine r_istore (pc := 45) (loc' := [(5, .int a2), (3, .long x1), (0, .ref 0), (1, .int a1), (2, .int a2)]) dX12_aimed_45 (Nat.le_of_ble_eq_true rfl) rfl ?_
    refine r_aload_n (pc := 47) dX12_aimed_47 rfl 2 rfl ?_
    refine r_iload_n (pc := 48) dX12_aimed_48 rfl 3 rfl ?_
    replace h := bn2_e h; obtain ⟨x4, w5, ew5, h⟩ := h
    refine r_cVi (pc := 49) wyX12_envUp oM0 rfl mlRX12_774 iyX12_envUp syX12_envUp ⟨(Nat.le_of_ble_eq_true rfl), (Nat.le_of_ble_eq_true rfl)⟩ rfl rfl (Nat.le_of_ble_eq_true rfl) dX12_aimed_49 (mX12_envUp ew5 (pI.mk ?_))
    refine r_istore (pc := 52) (loc' := [(6, .int x4), (5, .int a2), (3, .long x1), (0, .ref 0), (1, .int a1), (2, .int a2)]) dX12_aimed_52 (Nat.le_of_ble_eq_true rfl) rfl ?_
    refine r_drop (loc' := [(0, .ref 0), (3, .long x1), (5, .int a2), (6, .int x4)]) [3, 2, 1, 0] rfl ?_
    exact pX12_aimed_54 hN h
  replace h := if_f hc3 h
  refine r_aload_n (pc := 9) dX12_aimed_9 rfl 1 rfl ?_
  refine r_iload_n (pc := 10) dX12_aimed_10 rfl 2 rfl ?_
  refine r_iconst (pc := 11) dX12_aimed_11 ki_m1 ?_
  refine r_iload_n (pc := 12) dX12_aimed_12 rfl 3 rfl ?_
  refine r_isub (pc := 13) dX12_aimed_13 ?_
  replace h := bn2_e h; obtain ⟨x6, w7, ew7, h⟩ := h
  refine r_cVi (pc := 14) wyX12_address oM0 rfl mlRX12_850 iyX12_address syX12_address ⟨(Nat.le_of_ble_eq_true rfl), (Nat.le_of_ble_eq_true rfl)⟩ rfl rfl (Nat.le_of_ble_eq_true rfl) dX12_aimed_14 (mX12_address ew7 (pI.mk ?_))
  refine r_istore (pc := 17) (loc' := [(7, .int x6), (3, .long x1), (0, .ref 0), (1, .int a1), (2, .int a2)]) dX12_aimed_17 (Nat.le_of_ble_eq_true rfl) rfl ?_
  refine r_aload_n (pc := 19) dX12_aimed_19 rfl 2 rfl ?_
  refine r_get (pc := 20) (j := 112) (v := .ref 83) oM0 cf12 flRX12_330 rfl dX12_aimed_20 rfl ?_
  refine r_iload (pc := 23) dX12_aimed_23 0 rfl ?_
  replace h := if_n h; obtain ⟨hb8, h⟩ := h
  refine r_lald (pc := 25) aM83 (inb_in hb8) dX12_aimed_25 ?_
  refine r_l2i (pc := 26) dX12_aimed_26 ?_
  replace h := lt_e h; obtain ⟨x9, ex9, h⟩ := h
  refine r_topi ex9 ?_
  refine r_istore (pc := 27) (loc' := [(5, .int x9), (7, .int x6), (3, .long x1), (0, .ref 0), (1, .int a1), (2, .int a2)]) dX12_aimed_27 (Nat.le_of_ble_eq_true rfl) rfl ?_
  refine r_aload_n (pc := 29) dX12_aimed_29 rfl 3 rfl ?_
  refine r_get (pc := 30) (j := 112) (v := .ref 83) oM0 cf12 flRX12_330 rfl dX12_aimed_30 rfl ?_
  refine r_iload (pc := 33) dX12_aimed_33 1 rfl ?_
  refine r_iconst (pc := 35) dX12_aimed_35 ki_1 ?_
  refine r_iadd (pc := 36) dX12_aimed_36 ?_
  replace h := if_n h; obtain ⟨hb10, h⟩ := h
  refine r_lald (pc := 37) aM83 (inb_in hb10) dX12_aimed_37 ?_
  refine r_l2i (pc := 38) dX12_aimed_38 ?_
  replace h := lt_e h; obtain ⟨x11, ex11, h⟩ := h
  refine r_topi ex11 ?_
  refine r_istore (pc := 39) (loc' := [(6, .int x11), (5, .int x9), (7, .int x6), (3, .long x1), (0, .ref 0), (1, .int a1), (2, .int a2)]) dX12_aimed_39 (Nat.le_of_ble_eq_true rfl) rfl ?_
  refine r_goto (pc := 41) dX12_aimed_41 rfl ?_
  refine r_drop (loc' := [(0, .ref 0), (3, .long x1), (5, .int x9), (6, .int x11)]) [4, 3, 1, 0] rfl ?_
  exact pX12_aimed_54 hN h
theorem mX12_aimed {q : Gq} {l : Launch} {N : Option Value → Wd → Prop} {X : String → Wd → Prop} {a1 : Int32} {a2 : Int32} {w : Wd} {u : Wd} (h : fX12_aimed a1 a2 w = some u) (hN : N none u) : Ct (GM q) l 2 yX12_aimed cX12_aimed 8 (none) [.ref 0, .int a1, .int a2] w N X := Ct.of (by decide) (Nat.le_of_ble_eq_true rfl) (pX12_aimed hN h)
/-! AlgolMillModel.other (IIII)V: O, 3 -/
theorem dX12_other_0 : decode cX12_other 0 = .ok (.iload_n 1, 1) := by decide +kernel
theorem dX12_other_1 : decode cX12_other 1 = .ok (.tableswitch 524 13 32 #[95, 135, 144, 159, 166, 183, 238, 245, 264, 273, 287, 364, 383, 396, 427, 524, 456, 503, 480, 495], 95) := by decide +kernel
theorem dX12_other_96 : decode cX12_other 96 = .ok (.aload_n 0, 1) := by decide +kernel
theorem dX12_other_97 : decode cX12_other 97 = .ok (.invokevirtual 810, 3) := by decide +kernel
theorem dX12_other_100 : decode cX12_other 100 = .ok (.lstore 5, 2) := by decide +kernel
theorem dX12_other_102 : decode cX12_other 102 = .ok (.aload_n 0, 1) := by decide +kernel
theorem dX12_other_103 : decode cX12_other 103 = .ok (.getfield 868, 3) := by decide +kernel
theorem dX12_other_106 : decode cX12_other 106 = .ok (.sipush 500, 3) := by decide +kernel
theorem dX12_other_109 : decode cX12_other 109 = .ok (.if_icmp .ge 14, 3) := by decide +kernel
theorem dX12_other_112 : decode cX12_other 112 = .ok (.aload_n 0, 1) := by decide +kernel
theorem dX12_other_113 : decode cX12_other 113 = .ok (.getfield 339, 3) := by decide +kernel
theorem dX12_other_116 : decode cX12_other 116 = .ok (.aload_n 0, 1) := by decide +kernel
theorem dX12_other_117 : decode cX12_other 117 = .ok (.getfield 868, 3) := by decide +kernel
theorem dX12_other_120 : decode cX12_other 120 = .ok (.lload 5, 2) := by decide +kernel
theorem dX12_other_122 : decode cX12_other 122 = .ok (.lastore, 1) := by decide +kernel
theorem dX12_other_123 : decode cX12_other 123 = .ok (.aload_n 0, 1) := by decide +kernel
theorem dX12_other_124 : decode cX12_other 124 = .ok (.dup, 1) := by decide +kernel
theorem dX12_other_125 : decode cX12_other 125 = .ok (.getfield 868, 3) := by decide +kernel
theorem dX12_other_128 : decode cX12_other 128 = .ok (.iconst 1, 1) := by decide +kernel
theorem dX12_other_129 : decode cX12_other 129 = .ok (.iadd, 1) := by decide +kernel
theorem dX12_other_130 : decode cX12_other 130 = .ok (.putfield 868, 3) := by decide +kernel
theorem dX12_other_133 : decode cX12_other 133 = .ok (.goto 445, 3) := by decide +kernel
theorem dX12_other_136 : decode cX12_other 136 = .ok (.aload_n 0, 1) := by decide +kernel
theorem dX12_other_137 : decode cX12_other 137 = .ok (.iload_n 2, 1) := by decide +kernel
theorem dX12_other_138 : decode cX12_other 138 = .ok (.iload_n 3, 1) := by decide +kernel
theorem dX12_other_139 : decode cX12_other 139 = .ok (.invokevirtual 871, 3) := by decide +kernel
theorem dX12_other_142 : decode cX12_other 142 = .ok (.goto 436, 3) := by decide +kernel
theorem dX12_other_145 : decode cX12_other 145 = .ok (.aload_n 0, 1) := by decide +kernel
theorem dX12_other_146 : decode cX12_other 146 = .ok (.aload_n 0, 1) := by decide +kernel
theorem dX12_other_147 : decode cX12_other 147 = .ok (.iload_n 2, 1) := by decide +kernel
theorem dX12_other_148 : decode cX12_other 148 = .ok (.iload_n 3, 1) := by decide +kernel
theorem dX12_other_149 : decode cX12_other 149 = .ok (.invokevirtual 850, 3) := by decide +kernel
theorem dX12_other_152 : decode cX12_other 152 = .ok (.iload 4, 2) := by decide +kernel
theorem dX12_other_154 : decode cX12_other 154 = .ok (.invokevirtual 873, 3) := by decide +kernel
theorem dX12_other_157 : decode cX12_other 157 = .ok (.goto 421, 3) := by decide +kernel
theorem dX12_other_160 : decode cX12_other 160 = .ok (.aload_n 0, 1) := by decide +kernel
theorem dX12_other_161 : decode cX12_other 161 = .ok (.invokevirtual 876, 3) := by decide +kernel
theorem dX12_other_164 : decode cX12_other 164 = .ok (.goto 414, 3) := by decide +kernel
theorem dX12_other_167 : decode cX12_other 167 = .ok (.aload_n 0, 1) := by decide +kernel
theorem dX12_other_168 : decode cX12_other 168 = .ok (.iload_n 2, 1) := by decide +kernel
theorem dX12_other_169 : decode cX12_other 169 = .ok (.iconst 1, 1) := by decide +kernel
theorem dX12_other_170 : decode cX12_other 170 = .ok (.if_icmp .ne 7, 3) := by decide +kernel
theorem dX12_other_173 : decode cX12_other 173 = .ok (.iconst 1, 1) := by decide +kernel
theorem dX12_other_174 : decode cX12_other 174 = .ok (.goto 4, 3) := by decide +kernel
theorem dX12_other_177 : decode cX12_other 177 = .ok (.iconst 0, 1) := by decide +kernel
theorem dX12_other_178 : decode cX12_other 178 = .ok (.invokevirtual 879, 3) := by decide +kernel
theorem dX12_other_181 : decode cX12_other 181 = .ok (.goto 397, 3) := by decide +kernel
theorem dX12_other_184 : decode cX12_other 184 = .ok (.aload_n 0, 1) := by decide +kernel
theorem dX12_other_185 : decode cX12_other 185 = .ok (.getfield 342, 3) := by decide +kernel
theorem dX12_other_188 : decode cX12_other 188 = .ok (.aload_n 0, 1) := by decide +kernel
theorem dX12_other_189 : decode cX12_other 189 = .ok (.getfield 771, 3) := by decide +kernel
theorem dX12_other_192 : decode cX12_other 192 = .ok (.iaload, 1) := by decide +kernel
theorem dX12_other_193 : decode cX12_other 193 = .ok (.iload_n 2, 1) := by decide +kernel
theorem dX12_other_194 : decode cX12_other 194 = .ok (.iadd, 1) := by decide +kernel
theorem dX12_other_195 : decode cX12_other 195 = .ok (.istore 5, 2) := by decide +kernel
theorem dX12_other_197 : decode cX12_other 197 = .ok (.aload_n 0, 1) := by decide +kernel
theorem dX12_other_198 : decode cX12_other 198 = .ok (.iconst 2, 1) := by decide +kernel
theorem dX12_other_199 : decode cX12_other 199 = .ok (.iconst 0, 1) := by decide +kernel
theorem dX12_other_200 : decode cX12_other 200 = .ok (.iload 5, 2) := by decide +kernel
theorem dX12_other_202 : decode cX12_other 202 = .ok (.invokevirtual 807, 3) := by decide +kernel
theorem dX12_other_205 : decode cX12_other 205 = .ok (.aload_n 0, 1) := by decide +kernel
theorem dX12_other_206 : decode cX12_other 206 = .ok (.aload_n 0, 1) := by decide +kernel
theorem dX12_other_207 : decode cX12_other 207 = .ok (.getfield 330, 3) := by decide +kernel
theorem dX12_other_210 : decode cX12_other 210 = .ok (.iload 5, 2) := by decide +kernel
theorem dX12_other_212 : decode cX12_other 212 = .ok (.iconst 1, 1) := by decide +kernel
theorem dX12_other_213 : decode cX12_other 213 = .ok (.iadd, 1) := by decide +kernel
theorem dX12_other_214 : decode cX12_other 214 = .ok (.laload, 1) := by decide +kernel
theorem dX12_other_215 : decode cX12_other 215 = .ok (.l2i, 1) := by decide +kernel
theorem dX12_other_216 : decode cX12_other 216 = .ok (.putfield 771, 3) := by decide +kernel
theorem dX12_other_219 : decode cX12_other 219 = .ok (.aload_n 0, 1) := by decide +kernel
theorem dX12_other_220 : decode cX12_other 220 = .ok (.aload_n 0, 1) := by decide +kernel
theorem dX12_other_221 : decode cX12_other 221 = .ok (.getfield 263, 3) := by decide +kernel
theorem dX12_other_224 : decode cX12_other 224 = .ok (.aload_n 0, 1) := by decide +kernel
theorem dX12_other_225 : decode cX12_other 225 = .ok (.getfield 330, 3) := by decide +kernel
theorem dX12_other_228 : decode cX12_other 228 = .ok (.iload 5, 2) := by decide +kernel
theorem dX12_other_230 : decode cX12_other 230 = .ok (.laload, 1) := by decide +kernel
theorem dX12_other_231 : decode cX12_other 231 = .ok (.l2i, 1) := by decide +kernel
theorem dX12_other_232 : decode cX12_other 232 = .ok (.iaload, 1) := by decide +kernel
theorem dX12_other_233 : decode cX12_other 233 = .ok (.putfield 786, 3) := by decide +kernel
theorem dX12_other_236 : decode cX12_other 236 = .ok (.goto 342, 3) := by decide +kernel
theorem dX12_other_239 : decode cX12_other 239 = .ok (.aload_n 0, 1) := by decide +kernel
theorem dX12_other_240 : decode cX12_other 240 = .ok (.invokevirtual 883, 3) := by decide +kernel
theorem dX12_other_243 : decode cX12_other 243 = .ok (.goto 335, 3) := by decide +kernel
theorem dX12_other_246 : decode cX12_other 246 = .ok (.aload_n 0, 1) := by decide +kernel
theorem dX12_other_247 : decode cX12_other 247 = .ok (.iload_n 2, 1) := by decide +kernel
theorem dX12_other_248 : decode cX12_other 248 = .ok (.i2l, 1) := by decide +kernel
theorem dX12_other_249 : decode cX12_other 249 = .ok (.invokevirtual 817, 3) := by decide +kernel
theorem dX12_other_252 : decode cX12_other 252 = .ok (.aload_n 0, 1) := by decide +kernel
theorem dX12_other_253 : decode cX12_other 253 = .ok (.aload_n 0, 1) := by decide +kernel
theorem dX12_other_254 : decode cX12_other 254 = .ok (.iload_n 3, 1) := by decide +kernel
theorem dX12_other_255 : decode cX12_other 255 = .ok (.invokevirtual 774, 3) := by decide +kernel
theorem dX12_other_258 : decode cX12_other 258 = .ok (.i2l, 1) := by decide +kernel
theorem dX12_other_259 : decode cX12_other 259 = .ok (.invokevirtual 817, 3) := by decide +kernel
theorem dX12_other_262 : decode cX12_other 262 = .ok (.goto 316, 3) := by decide +kernel
theorem dX12_other_265 : decode cX12_other 265 = .ok (.aload_n 0, 1) := by decide +kernel
theorem dX12_other_266 : decode cX12_other 266 = .ok (.iload_n 2, 1) := by decide +kernel
theorem dX12_other_267 : decode cX12_other 267 = .ok (.iload_n 3, 1) := by decide +kernel
theorem dX12_other_268 : decode cX12_other 268 = .ok (.invokevirtual 886, 3) := by decide +kernel
theorem dX12_other_271 : decode cX12_other 271 = .ok (.goto 307, 3) := by decide +kernel
theorem dX12_other_274 : decode cX12_other 274 = .ok (.aload_n 0, 1) := by decide +kernel
theorem dX12_other_275 : decode cX12_other 275 = .ok (.aload_n 0, 1) := by decide +kernel
theorem dX12_other_276 : decode cX12_other 276 = .ok (.iload_n 2, 1) := by decide +kernel
theorem dX12_other_277 : decode cX12_other 277 = .ok (.iload_n 3, 1) := by decide +kernel
theorem dX12_other_278 : decode cX12_other 278 = .ok (.invokevirtual 850, 3) := by decide +kernel
theorem dX12_other_281 : decode cX12_other 281 = .ok (.iconst 0, 1) := by decide +kernel
theorem dX12_other_282 : decode cX12_other 282 = .ok (.invokevirtual 853, 3) := by decide +kernel
theorem dX12_other_285 : decode cX12_other 285 = .ok (.goto 293, 3) := by decide +kernel
theorem dX12_other_288 : decode cX12_other 288 = .ok (.aload_n 0, 1) := by decide +kernel
theorem dX12_other_289 : decode cX12_other 289 = .ok (.getfield 323, 3) := by decide +kernel
theorem dX12_other_292 : decode cX12_other 292 = .ok (.iload_n 2, 1) := by decide +kernel
theorem dX12_other_293 : decode cX12_other 293 = .ok (.iaload, 1) := by decide +kernel
theorem dX12_other_294 : decode cX12_other 294 = .ok (.istore 5, 2) := by decide +kernel
theorem dX12_other_296 : decode cX12_other 296 = .ok (.iload 5, 2) := by decide +kernel
theorem dX12_other_298 : decode cX12_other 298 = .ok (.ifCond .lt 38, 3) := by decide +kernel
theorem dX12_other_301 : decode cX12_other 301 = .ok (.aload_n 0, 1) := by decide +kernel
theorem dX12_other_302 : decode cX12_other 302 = .ok (.getfield 330, 3) := by decide +kernel
theorem dX12_other_305 : decode cX12_other 305 = .ok (.aload_n 0, 1) := by decide +kernel
theorem dX12_other_306 : decode cX12_other 306 = .ok (.getfield 342, 3) := by decide +kernel
theorem dX12_other_309 : decode cX12_other 309 = .ok (.aload_n 0, 1) := by decide +kernel
theorem dX12_other_310 : decode cX12_other 310 = .ok (.getfield 771, 3) := by decide +kernel
theorem dX12_other_313 : decode cX12_other 313 = .ok (.iaload, 1) := by decide +kernel
theorem dX12_other_314 : decode cX12_other 314 = .ok (.aload_n 0, 1) := by decide +kernel
theorem dX12_other_315 : decode cX12_other 315 = .ok (.getfield 302, 3) := by decide +kernel
theorem dX12_other_318 : decode cX12_other 318 = .ok (.iload 5, 2) := by decide +kernel
theorem dX12_other_320 : decode cX12_other 320 = .ok (.iaload, 1) := by decide +kernel
theorem dX12_other_321 : decode cX12_other 321 = .ok (.iadd, 1) := by decide +kernel
theorem dX12_other_322 : decode cX12_other 322 = .ok (.lconst 0, 1) := by decide +kernel
theorem dX12_other_323 : decode cX12_other 323 = .ok (.lastore, 1) := by decide +kernel
theorem dX12_other_324 : decode cX12_other 324 = .ok (.aload_n 0, 1) := by decide +kernel
theorem dX12_other_325 : decode cX12_other 325 = .ok (.getfield 326, 3) := by decide +kernel
theorem dX12_other_328 : decode cX12_other 328 = .ok (.iload 5, 2) := by decide +kernel
theorem dX12_other_330 : decode cX12_other 330 = .ok (.iaload, 1) := by decide +kernel
theorem dX12_other_331 : decode cX12_other 331 = .ok (.istore 5, 2) := by decide +kernel
theorem dX12_other_333 : decode cX12_other 333 = .ok (.goto (-37), 3) := by decide +kernel
theorem dX12_other_336 : decode cX12_other 336 = .ok (.aload_n 0, 1) := by decide +kernel
theorem dX12_other_337 : decode cX12_other 337 = .ok (.getfield 330, 3) := by decide +kernel
theorem dX12_other_340 : decode cX12_other 340 = .ok (.aload_n 0, 1) := by decide +kernel
theorem dX12_other_341 : decode cX12_other 341 = .ok (.getfield 342, 3) := by decide +kernel
theorem dX12_other_344 : decode cX12_other 344 = .ok (.aload_n 0, 1) := by decide +kernel
theorem dX12_other_345 : decode cX12_other 345 = .ok (.getfield 771, 3) := by decide +kernel
theorem dX12_other_348 : decode cX12_other 348 = .ok (.iaload, 1) := by decide +kernel
theorem dX12_other_349 : decode cX12_other 349 = .ok (.aload_n 0, 1) := by decide +kernel
theorem dX12_other_350 : decode cX12_other 350 = .ok (.getfield 320, 3) := by decide +kernel
theorem dX12_other_353 : decode cX12_other 353 = .ok (.iload_n 2, 1) := by decide +kernel
theorem dX12_other_354 : decode cX12_other 354 = .ok (.iaload, 1) := by decide +kernel
theorem dX12_other_355 : decode cX12_other 355 = .ok (.iadd, 1) := by decide +kernel
theorem dX12_other_356 : decode cX12_other 356 = .ok (.aload_n 0, 1) := by decide +kernel
theorem dX12_other_357 : decode cX12_other 357 = .ok (.getfield 827, 3) := by decide +kernel
theorem dX12_other_360 : decode cX12_other 360 = .ok (.i2l, 1) := by decide +kernel
theorem dX12_other_361 : decode cX12_other 361 = .ok (.lastore, 1) := by decide +kernel
theorem dX12_other_362 : decode cX12_other 362 = .ok (.goto 216, 3) := by decide +kernel
theorem dX12_other_365 : decode cX12_other 365 = .ok (.aload_n 0, 1) := by decide +kernel
theorem dX12_other_366 : decode cX12_other 366 = .ok (.aload_n 0, 1) := by decide +kernel
theorem dX12_other_367 : decode cX12_other 367 = .ok (.getfield 342, 3) := by decide +kernel
theorem dX12_other_370 : decode cX12_other 370 = .ok (.aload_n 0, 1) := by decide +kernel
theorem dX12_other_371 : decode cX12_other 371 = .ok (.getfield 771, 3) := by decide +kernel
theorem dX12_other_374 : decode cX12_other 374 = .ok (.iaload, 1) := by decide +kernel
theorem dX12_other_375 : decode cX12_other 375 = .ok (.iload_n 2, 1) := by decide +kernel
theorem dX12_other_376 : decode cX12_other 376 = .ok (.iadd, 1) := by decide +kernel
theorem dX12_other_377 : decode cX12_other 377 = .ok (.iload_n 3, 1) := by decide +kernel
theorem dX12_other_378 : decode cX12_other 378 = .ok (.invokevirtual 889, 3) := by decide +kernel
theorem dX12_other_381 : decode cX12_other 381 = .ok (.goto 197, 3) := by decide +kernel
theorem dX12_other_384 : decode cX12_other 384 = .ok (.aload_n 0, 1) := by decide +kernel
theorem dX12_other_385 : decode cX12_other 385 = .ok (.dup, 1) := by decide +kernel
theorem dX12_other_386 : decode cX12_other 386 = .ok (.getfield 780, 3) := by decide +kernel
theorem dX12_other_389 : decode cX12_other 389 = .ok (.iload_n 2, 1) := by decide +kernel
theorem dX12_other_390 : decode cX12_other 390 = .ok (.isub, 1) := by decide +kernel
theorem dX12_other_391 : decode cX12_other 391 = .ok (.putfield 780, 3) := by decide +kernel
theorem dX12_other_394 : decode cX12_other 394 = .ok (.goto 184, 3) := by decide +kernel
theorem dX12_other_397 : decode cX12_other 397 = .ok (.aload_n 0, 1) := by decide +kernel
theorem dX12_other_398 : decode cX12_other 398 = .ok (.getfield 330, 3) := by decide +kernel
theorem dX12_other_401 : decode cX12_other 401 = .ok (.aload_n 0, 1) := by decide +kernel
theorem dX12_other_402 : decode cX12_other 402 = .ok (.getfield 342, 3) := by decide +kernel
theorem dX12_other_405 : decode cX12_other 405 = .ok (.aload_n 0, 1) := by decide +kernel
theorem dX12_other_406 : decode cX12_other 406 = .ok (.getfield 771, 3) := by decide +kernel
theorem dX12_other_409 : decode cX12_other 409 = .ok (.iaload, 1) := by decide +kernel
theorem dX12_other_410 : decode cX12_other 410 = .ok (.aload_n 0, 1) := by decide +kernel
theorem dX12_other_411 : decode cX12_other 411 = .ok (.getfield 320, 3) := by decide +kernel
theorem dX12_other_414 : decode cX12_other 414 = .ok (.iload_n 2, 1) := by decide +kernel
theorem dX12_other_415 : decode cX12_other 415 = .ok (.iaload, 1) := by decide +kernel
theorem dX12_other_416 : decode cX12_other 416 = .ok (.iadd, 1) := by decide +kernel
theorem dX12_other_417 : decode cX12_other 417 = .ok (.iconst 1, 1) := by decide +kernel
theorem dX12_other_418 : decode cX12_other 418 = .ok (.iadd, 1) := by decide +kernel
theorem dX12_other_419 : decode cX12_other 419 = .ok (.aload_n 0, 1) := by decide +kernel
theorem dX12_other_420 : decode cX12_other 420 = .ok (.getfield 827, 3) := by decide +kernel
theorem dX12_other_423 : decode cX12_other 423 = .ok (.i2l, 1) := by decide +kernel
theorem dX12_other_424 : decode cX12_other 424 = .ok (.lastore, 1) := by decide +kernel
theorem dX12_other_425 : decode cX12_other 425 = .ok (.goto 153, 3) := by decide +kernel
theorem dX12_other_428 : decode cX12_other 428 = .ok (.aload_n 0, 1) := by decide +kernel
theorem dX12_other_429 : decode cX12_other 429 = .ok (.aload_n 0, 1) := by decide +kernel
theorem dX12_other_430 : decode cX12_other 430 = .ok (.getfield 330, 3) := by decide +kernel
theorem dX12_other_433 : decode cX12_other 433 = .ok (.aload_n 0, 1) := by decide +kernel
theorem dX12_other_434 : decode cX12_other 434 = .ok (.getfield 342, 3) := by decide +kernel
theorem dX12_other_437 : decode cX12_other 437 = .ok (.aload_n 0, 1) := by decide +kernel
theorem dX12_other_438 : decode cX12_other 438 = .ok (.getfield 771, 3) := by decide +kernel
theorem dX12_other_441 : decode cX12_other 441 = .ok (.iaload, 1) := by decide +kernel
theorem dX12_other_442 : decode cX12_other 442 = .ok (.aload_n 0, 1) := by decide +kernel
theorem dX12_other_443 : decode cX12_other 443 = .ok (.getfield 320, 3) := by decide +kernel
theorem dX12_other_446 : decode cX12_other 446 = .ok (.iload_n 2, 1) := by decide +kernel
theorem dX12_other_447 : decode cX12_other 447 = .ok (.iaload, 1) := by decide +kernel
theorem dX12_other_448 : decode cX12_other 448 = .ok (.iadd, 1) := by decide +kernel
theorem dX12_other_449 : decode cX12_other 449 = .ok (.laload, 1) := by decide +kernel
theorem dX12_other_450 : decode cX12_other 450 = .ok (.l2i, 1) := by decide +kernel
theorem dX12_other_451 : decode cX12_other 451 = .ok (.putfield 827, 3) := by decide +kernel
theorem dX12_other_454 : decode cX12_other 454 = .ok (.goto 124, 3) := by decide +kernel
theorem dX12_other_457 : decode cX12_other 457 = .ok (.aload_n 0, 1) := by decide +kernel
theorem dX12_other_458 : decode cX12_other 458 = .ok (.aload_n 0, 1) := by decide +kernel
theorem dX12_other_459 : decode cX12_other 459 = .ok (.getfield 330, 3) := by decide +kernel
theorem dX12_other_462 : decode cX12_other 462 = .ok (.aload_n 0, 1) := by decide +kernel
theorem dX12_other_463 : decode cX12_other 463 = .ok (.getfield 342, 3) := by decide +kernel
theorem dX12_other_466 : decode cX12_other 466 = .ok (.aload_n 0, 1) := by decide +kernel
theorem dX12_other_467 : decode cX12_other 467 = .ok (.getfield 771, 3) := by decide +kernel
theorem dX12_other_470 : decode cX12_other 470 = .ok (.iaload, 1) := by decide +kernel
theorem dX12_other_471 : decode cX12_other 471 = .ok (.iload_n 2, 1) := by decide +kernel
theorem dX12_other_472 : decode cX12_other 472 = .ok (.iadd, 1) := by decide +kernel
theorem dX12_other_473 : decode cX12_other 473 = .ok (.laload, 1) := by decide +kernel
theorem dX12_other_474 : decode cX12_other 474 = .ok (.l2i, 1) := by decide +kernel
theorem dX12_other_475 : decode cX12_other 475 = .ok (.putfield 786, 3) := by decide +kernel
theorem dX12_other_478 : decode cX12_other 478 = .ok (.goto 100, 3) := by decide +kernel
theorem dX12_other_481 : decode cX12_other 481 = .ok (.aload_n 0, 1) := by decide +kernel
theorem dX12_other_482 : decode cX12_other 482 = .ok (.iconst 2, 1) := by decide +kernel
theorem dX12_other_483 : decode cX12_other 483 = .ok (.iconst 0, 1) := by decide +kernel
theorem dX12_other_484 : decode cX12_other 484 = .ok (.iconst (-1), 1) := by decide +kernel
theorem dX12_other_485 : decode cX12_other 485 = .ok (.invokevirtual 807, 3) := by decide +kernel
theorem dX12_other_488 : decode cX12_other 488 = .ok (.aload_n 0, 1) := by decide +kernel
theorem dX12_other_489 : decode cX12_other 489 = .ok (.iload_n 2, 1) := by decide +kernel
theorem dX12_other_490 : decode cX12_other 490 = .ok (.putfield 786, 3) := by decide +kernel
theorem dX12_other_493 : decode cX12_other 493 = .ok (.goto 85, 3) := by decide +kernel
theorem dX12_other_496 : decode cX12_other 496 = .ok (.aload_n 0, 1) := by decide +kernel
theorem dX12_other_497 : decode cX12_other 497 = .ok (.iconst 0, 1) := by decide +kernel
theorem dX12_other_498 : decode cX12_other 498 = .ok (.invokevirtual 879, 3) := by decide +kernel
theorem dX12_other_501 : decode cX12_other 501 = .ok (.goto 77, 3) := by decide +kernel
theorem dX12_other_504 : decode cX12_other 504 = .ok (.aload_n 0, 1) := by decide +kernel
theorem dX12_other_505 : decode cX12_other 505 = .ok (.getfield 330, 3) := by decide +kernel
theorem dX12_other_508 : decode cX12_other 508 = .ok (.aload_n 0, 1) := by decide +kernel
theorem dX12_other_509 : decode cX12_other 509 = .ok (.getfield 342, 3) := by decide +kernel
theorem dX12_other_512 : decode cX12_other 512 = .ok (.aload_n 0, 1) := by decide +kernel
theorem dX12_other_513 : decode cX12_other 513 = .ok (.getfield 771, 3) := by decide +kernel
theorem dX12_other_516 : decode cX12_other 516 = .ok (.iaload, 1) := by decide +kernel
theorem dX12_other_517 : decode cX12_other 517 = .ok (.iload_n 2, 1) := by decide +kernel
theorem dX12_other_518 : decode cX12_other 518 = .ok (.iadd, 1) := by decide +kernel
theorem dX12_other_519 : decode cX12_other 519 = .ok (.iload_n 3, 1) := by decide +kernel
theorem dX12_other_520 : decode cX12_other 520 = .ok (.i2l, 1) := by decide +kernel
theorem dX12_other_521 : decode cX12_other 521 = .ok (.lastore, 1) := by decide +kernel
theorem dX12_other_522 : decode cX12_other 522 = .ok (.goto 56, 3) := by decide +kernel
theorem dX12_other_525 : decode cX12_other 525 = .ok (.aload_n 0, 1) := by decide +kernel
theorem dX12_other_526 : decode cX12_other 526 = .ok (.invokevirtual 810, 3) := by decide +kernel
theorem dX12_other_529 : decode cX12_other 529 = .ok (.lstore 5, 2) := by decide +kernel
theorem dX12_other_531 : decode cX12_other 531 = .ok (.aload_n 0, 1) := by decide +kernel
theorem dX12_other_532 : decode cX12_other 532 = .ok (.invokevirtual 810, 3) := by decide +kernel
theorem dX12_other_535 : decode cX12_other 535 = .ok (.lstore 7, 2) := by decide +kernel
theorem dX12_other_537 : decode cX12_other 537 = .ok (.aload_n 0, 1) := by decide +kernel
theorem dX12_other_538 : decode cX12_other 538 = .ok (.invokevirtual 810, 3) := by decide +kernel
theorem dX12_other_541 : decode cX12_other 541 = .ok (.lstore 9, 2) := by decide +kernel
theorem dX12_other_543 : decode cX12_other 543 = .ok (.lload 9, 2) := by decide +kernel
theorem dX12_other_545 : decode cX12_other 545 = .ok (.lconst 0, 1) := by decide +kernel
theorem dX12_other_546 : decode cX12_other 546 = .ok (.lcmp, 1) := by decide +kernel
theorem dX12_other_547 : decode cX12_other 547 = .ok (.ifCond .le 11, 3) := by decide +kernel
theorem dX12_other_550 : decode cX12_other 550 = .ok (.lload 7, 2) := by decide +kernel
theorem dX12_other_552 : decode cX12_other 552 = .ok (.lload 5, 2) := by decide +kernel
theorem dX12_other_554 : decode cX12_other 554 = .ok (.lcmp, 1) := by decide +kernel
theorem dX12_other_555 : decode cX12_other 555 = .ok (.ifCond .gt 18, 3) := by decide +kernel
theorem dX12_other_558 : decode cX12_other 558 = .ok (.lload 9, 2) := by decide +kernel
theorem dX12_other_560 : decode cX12_other 560 = .ok (.lconst 0, 1) := by decide +kernel
theorem dX12_other_561 : decode cX12_other 561 = .ok (.lcmp, 1) := by decide +kernel
theorem dX12_other_562 : decode cX12_other 562 = .ok (.ifCond .ge 16, 3) := by decide +kernel
theorem dX12_other_565 : decode cX12_other 565 = .ok (.lload 7, 2) := by decide +kernel
theorem dX12_other_567 : decode cX12_other 567 = .ok (.lload 5, 2) := by decide +kernel
theorem dX12_other_569 : decode cX12_other 569 = .ok (.lcmp, 1) := by decide +kernel
theorem dX12_other_570 : decode cX12_other 570 = .ok (.ifCond .ge 8, 3) := by decide +kernel
theorem dX12_other_573 : decode cX12_other 573 = .ok (.aload_n 0, 1) := by decide +kernel
theorem dX12_other_574 : decode cX12_other 574 = .ok (.iload_n 2, 1) := by decide +kernel
theorem dX12_other_575 : decode cX12_other 575 = .ok (.putfield 786, 3) := by decide +kernel
theorem dX12_other_578 : decode cX12_other 578 = .ok (.return_, 1) := by decide +kernel
def fX12_other_296 (k_296 : Int32 → Int32 → Wd → Option Wd) (a2 : Int32) (a5 : Int32) (w : Wd) : Option Wd :=
  if a5 < 0 then (if inb (gi w 0 129) 64 = true then if inb a2 9000 = true then if inb ((gi w 87 (Int32.toNatClampNeg (gi w 0 129))) + (gi w 80 (Int32.toNatClampNeg a2))) 200000 = true then lt (sl w 83 (Int32.toNatClampNeg ((gi w 87 (Int32.toNatClampNeg (gi w 0 129))) + (gi w 80 (Int32.toNatClampNeg a2)))) (Int32.toInt64 (gi w 0 133))) fun w5 => some w5 else none else none else none) else (if inb (gi w 0 129) 64 = true then if inb a5 5000 = true then if inb ((gi w 87 (Int32.toNatClampNeg (gi w 0 129))) + (gi w 74 (Int32.toNatClampNeg a5))) 200000 = true then lt (sl w 83 (Int32.toNatClampNeg ((gi w 87 (Int32.toNatClampNeg (gi w 0 129))) + (gi w 74 (Int32.toNatClampNeg a5)))) 0) fun w9 => if inb a5 5000 = true then lt ((gi w9 82 (Int32.toNatClampNeg a5))) fun x11 => k_296 a2 x11 w9 else none else none else none else none)
theorem pX12_other_296 {q : Gq} {l : Launch} {N : Option Value → Wd → Prop} {X : String → Wd → Prop} {w : Wd} {R : Wd} (hN : N none R) {k_296 : Int32 → Int32 → Wd → Option Wd} (hk_296 : ∀ (a2 : Int32) (a5 : Int32) (w : Wd), k_296 a2 a5 w = some R → RT (GM q) l 3 yX12_other cX12_other 11 (none) N X 296 [] [(0, .ref 0), (2, .int a2), (5, .int a5)] w) {a2 : Int32} {a5 : Int32} (h : fX12_other_296 k_296 a2 a5 w = some R) : RT (GM q) l 3 yX12_other cX12_other 11 (none) N X 296 [] [(0, .ref 0), (2, .int a2), (5, .int a5)] w := by
  unfold fX12_other_296 at h
  refine r_iload (pc := 296) dX12_other_296 2 rfl ?_
  refine r_if_lt (pc := 298) dX12_other_298 rfl (fun hc1 => ?_) (fun hc1 => ?_)
  · replace h := if_t hc1 h
    refine r_aload_n (pc := 336) dX12_other_336 rfl 0 rfl ?_
    refine r_get (pc := 337) (j := 112) (v := .ref 83) oM0 cf12 flRX12_330 rfl dX12_other_337 rfl ?_
    refine r_aload_n (pc := 340) dX12_other_340 rfl 0 rfl ?_
    refine r_get (pc := 341) (j := 116) (v := .ref 87) oM0 cf12 flRX12_342 rfl dX12_other_341 rfl ?_
    refine r_aload_n (pc := 344) dX12_other_344 rfl 0 rfl ?_
    refine r_get (pc := 345) (j := 129) (v := .int (gi w 0 129)) oM0 cf12 flRX12_771 rfl dX12_other_345 rfl ?_
    replace h := if_n h; obtain ⟨hb2, h⟩ := h
    refine r_iald (pc := 348) aM87 (inb_in hb2) dX12_other_348 ?_
    refine r_aload_n (pc := 349) dX12_other_349 rfl 0 rfl ?_
    refine r_get (pc := 350) (j := 108) (v := .ref 80) oM0 cf12 flRX12_320 rfl dX12_other_350 rfl ?_
    refine r_iload_n (pc := 353) dX12_other_353 rfl 1 rfl ?_
    replace h := if_n h; obtain ⟨hb3, h⟩ := h
    refine r_iald (pc := 354) aM80 (inb_in hb3) dX12_other_354 ?_
    refine r_iadd (pc := 355) dX12_other_355 ?_
    refine r_aload_n (pc := 356) dX12_other_356 rfl 0 rfl ?_
    refine r_get (pc := 357) (j := 133) (v := .int (gi w 0 133)) oM0 cf12 flRX12_827 rfl dX12_other_357 rfl ?_
    refine r_i2l (pc := 360) dX12_other_360 ?_
    replace h := if_n h; obtain ⟨hb4, h⟩ := h
    replace h := lt_e h; obtain ⟨w5, ew5, h⟩ := h
    refine r_last (pc := 361) aM83 (inb_in hb4) dX12_other_361 ?_
    refine r_w ew5 ?_
    refine r_goto (pc := 362) dX12_other_362 rfl ?_
    exact rO_v (pc := 578) rfl dX12_other_578 h hN
  replace h := if_f hc1 h
  refine r_aload_n (pc := 301) dX12_other_301 rfl 0 rfl ?_
  refine r_get (pc := 302) (j := 112) (v := .ref 83) oM0 cf12 flRX12_330 rfl dX12_other_302 rfl ?_
  refine r_aload_n (pc := 305) dX12_other_305 rfl 0 rfl ?_
  refine r_get (pc := 306) (j := 116) (v := .ref 87) oM0 cf12 flRX12_342 rfl dX12_other_306 rfl ?_
  refine r_aload_n (pc := 309) dX12_other_309 rfl 0 rfl ?_
  refine r_get (pc := 310) (j := 129) (v := .int (gi w 0 129)) oM0 cf12 flRX12_771 rfl dX12_other_310 rfl ?_
  replace h := if_n h; obtain ⟨hb6, h⟩ := h
  refine r_iald (pc := 313) aM87 (inb_in hb6) dX12_other_313 ?_
  refine r_aload_n (pc := 314) dX12_other_314 rfl 0 rfl ?_
  refine r_get (pc := 315) (j := 102) (v := .ref 74) oM0 cf12 flRX12_302 rfl dX12_other_315 rfl ?_
  refine r_iload (pc := 318) dX12_other_318 2 rfl ?_
  replace h := if_n h; obtain ⟨hb7, h⟩ := h
  refine r_iald (pc := 320) aM74 (inb_in hb7) dX12_other_320 ?_
  refine r_iadd (pc := 321) dX12_other_321 ?_
  refine r_lconst (pc := 322) dX12_other_322 kl_0 ?_
  replace h := if_n h; obtain ⟨hb8, h⟩ := h
  replace h := lt_e h; obtain ⟨w9, ew9, h⟩ := h
  refine r_last (pc := 323) aM83 (inb_in hb8) dX12_other_323 ?_
  refine r_w ew9 ?_
  refine r_aload_n (pc := 324) dX12_other_324 rfl 0 rfl ?_
  refine r_get (pc := 325) (j := 110) (v := .ref 82) oM0 cf12 flRX12_326 rfl dX12_other_325 rfl ?_
  refine r_iload (pc := 328) dX12_other_328 2 rfl ?_
  replace h := if_n h; obtain ⟨hb10, h⟩ := h
  refine r_iald (pc := 330) aM82 (inb_in hb10) dX12_other_330 ?_
  replace h := lt_e h; obtain ⟨x11, ex11, h⟩ := h
  refine r_topi ex11 ?_
  refine r_istore (pc := 331) (loc' := [(5, .int x11), (0, .ref 0), (2, .int a2)]) dX12_other_331 (Nat.le_of_ble_eq_true rfl) rfl ?_
  refine r_goto (pc := 333) dX12_other_333 rfl ?_
  refine r_drop (loc' := [(0, .ref 0), (2, .int a2), (5, .int x11)]) [1, 2, 0] rfl ?_
  exact hk_296 a2 x11 w9 h
def oX12_other_296 : Nat → Int32 → Int32 → Wd → Option Wd
  | 0 => fun _ _ _ => none
  | n + 1 => fX12_other_296 (oX12_other_296 n)
theorem qX12_other_296 {q : Gq} {l : Launch} {N : Option Value → Wd → Prop} {X : String → Wd → Prop} {R : Wd} (hN : N none R) : ∀ (n : Nat) (a2 : Int32) (a5 : Int32) (w : Wd), oX12_other_296 n a2 a5 w = some R → RT (GM q) l 3 yX12_other cX12_other 11 (none) N X 296 [] [(0, .ref 0), (2, .int a2), (5, .int a5)] w := by
  intro n
  induction n with
  | zero =>
    intro a2 a5 w h
    exact absurd h (fun q => nomatch q)
  | succ n ih =>
    intro a2 a5 w h
    exact pX12_other_296 hN ih h
def fX12_other_558 (a2 : Int32) (a5 : Int64) (a7 : Int64) (a9 : Int64) (w : Wd) : Option Wd :=
  if 0 ≤ a9 then (some w) else (if a5 ≤ a7 then (some w) else (lt (si w 0 128 a2) fun w3 => some w3))
theorem pX12_other_558 {q : Gq} {l : Launch} {N : Option Value → Wd → Prop} {X : String → Wd → Prop} {w : Wd} {R : Wd} (hN : N none R) {a2 : Int32} {a5 : Int64} {a7 : Int64} {a9 : Int64} (h : fX12_other_558 a2 a5 a7 a9 w = some R) : RT (GM q) l 3 yX12_other cX12_other 11 (none) N X 558 [] [(0, .ref 0), (2, .int a2), (5, .long a5), (7, .long a7), (9, .long a9)] w := by
  unfold fX12_other_558 at h
  refine r_lload (pc := 558) dX12_other_558 4 rfl ?_
  refine r_lconst (pc := 560) dX12_other_560 kl_0 ?_
  refine r_l_ge (pc := 561) dX12_other_561 dX12_other_562 rfl (fun hc1 => ?_) (fun hc1 => ?_)
  · replace h := if_t hc1 h
    exact rO_v (pc := 578) rfl dX12_other_578 h hN
  replace h := if_f hc1 h
  refine r_lload (pc := 565) dX12_other_565 3 rfl ?_
  refine r_lload (pc := 567) dX12_other_567 2 rfl ?_
  refine r_l_ge (pc := 569) dX12_other_569 dX12_other_570 rfl (fun hc2 => ?_) (fun hc2 => ?_)
  · replace h := if_t hc2 h
    exact rO_v (pc := 578) rfl dX12_other_578 h hN
  replace h := if_f hc2 h
  refine r_aload_n (pc := 573) dX12_other_573 rfl 0 rfl ?_
  refine r_iload_n (pc := 574) dX12_other_574 rfl 1 rfl ?_
  replace h := lt_e h; obtain ⟨w3, ew3, h⟩ := h
  refine r_putI (pc := 575) (j := 128) oM0 cf12 flRX12_786 rfl rfl rfl rfl dX12_other_575 ?_
  refine r_w ew3 ?_
  exact rO_v (pc := 578) rfl dX12_other_578 h hN
def fX12_other (a1 : Int32) (a2 : Int32) (a3 : Int32) (a4 : Int32) (w : Wd) : Option Wd :=
  if a1 = 13 then (bn2 (fX12_pop w) fun x2 w3 => if 500 ≤ (gi w3 0 139) then (lt (si w3 0 139 ((gi w3 0 139) + 1)) fun w5 => some w5) else (if inb (gi w3 0 139) 500 = true then lt (sl w3 86 (Int32.toNatClampNeg (gi w3 0 139)) x2) fun w7 => lt (si w7 0 139 ((gi w7 0 139) + 1)) fun w8 => some w8 else none)) else if a1 = 14 then (bn (fX12_call_ a2 a3 w) fun w10 => some w10) else if a1 = 15 then (bn2 (fX12_address a2 a3 w) fun x12 w13 => bn (fX12_callFormal x12 a4 w13) fun w14 => some w14) else if a1 = 16 then (bn (fX12_leave w) fun w16 => some w16) else if a1 = 17 then (if a2 = 1 then (bn (fX12_finish true w) fun w19 => some w19) else (bn (fX12_finish false w) fun w20 => some w20)) else if a1 = 18 then (if inb (gi w 0 129) 64 = true then lt (((gi w 87 (Int32.toNatClampNeg (gi w 0 129))) + a2)) fun x23 => bn (fX12_control 2 0 x23 w) fun w24 => if inb (x23 + 1) 200000 = true then lt (si w24 0 129 (Int64.toInt32 (gl w24 83 (Int32.toNatClampNeg (x23 + 1))))) fun w26 => if inb x23 200000 = true then if inb (Int64.toInt32 (gl w26 83 (Int32.toNatClampNeg x23))) 6000 = true then lt (si w26 0 128 (gi w26 61 (Int32.toNatClampNeg (Int64.toInt32 (gl w26 83 (Int32.toNatClampNeg x23)))))) fun w29 => some w29 else none else none else none else none) else if a1 = 19 then (bn (fX12_jump w) fun w31 => some w31) else if a1 = 20 then (bn (fX12_push (Int32.toInt64 a2) w) fun w33 => bn2 (fX12_envUp a3 w33) fun x34 w35 => bn (fX12_push (Int32.toInt64 x34) w35) fun w36 => some w36) else if a1 = 21 then (bn (fX12_aimed a2 a3 w) fun w38 => some w38) else if a1 = 22 then (bn2 (fX12_address a2 a3 w) fun x40 w41 => bn (fX12_use x40 0 w41) fun w42 => some w42) else if a1 = 23 then (if inb a2 9000 = true then lt ((gi w 81 (Int32.toNatClampNeg a2))) fun x45 => oX12_other_296 FU a2 x45 w else none) else if a1 = 24 then (if inb (gi w 0 129) 64 = true then bn (fX12_allot ((gi w 87 (Int32.toNatClampNeg (gi w 0 129))) + a2) a3 w) fun w48 => some w48 else none) else if a1 = 25 then (lt (si w 0 130 ((gi w 0 130) - a2)) fun w50 => some w50) else if a1 = 26 then (if inb (gi w 0 129) 64 = true then if inb a2 9000 = true then if inb (((gi w 87 (Int32.toNatClampNeg (gi w 0 129))) + (gi w 80 (Int32.toNatClampNeg a2))) + 1) 200000 = true then lt (sl w 83 (Int32.toNatClampNeg (((gi w 87 (Int32.toNatClampNeg (gi w 0 129))) + (gi w 80 (Int32.toNatClampNeg a2))) + 1)) (Int32.toInt64 (gi w 0 133))) fun w55 => some w55 else none else none else none) else if a1 = 27 then (if inb (gi w 0 129) 64 = true then if inb a2 9000 = true then if inb ((gi w 87 (Int32.toNatClampNeg (gi w 0 129))) + (gi w 80 (Int32.toNatClampNeg a2))) 200000 = true then lt (si w 0 133 (Int64.toInt32 (gl w 83 (Int32.toNatClampNeg ((gi w 87 (Int32.toNatClampNeg (gi w 0 129))) + (gi w 80 (Int32.toNatClampNeg a2))))))) fun w60 => some w60 else none else none else none) else if a1 = 29 then (if inb (gi w 0 129) 64 = true then if inb ((gi w 87 (Int32.toNatClampNeg (gi w 0 129))) + a2) 200000 = true then lt (si w 0 128 (Int64.toInt32 (gl w 83 (Int32.toNatClampNeg ((gi w 87 (Int32.toNatClampNeg (gi w 0 129))) + a2))))) fun w64 => some w64 else none else none) else if a1 = 30 then (if inb (gi w 0 129) 64 = true then if inb ((gi w 87 (Int32.toNatClampNeg (gi w 0 129))) + a2) 200000 = true then lt (sl w 83 (Int32.toNatClampNeg ((gi w 87 (Int32.toNatClampNeg (gi w 0 129))) + a2)) (Int32.toInt64 a3)) fun w68 => some w68 else none else none) else if a1 = 31 then (bn (fX12_control 2 0 (-1) w) fun w70 => lt (si w70 0 128 a2) fun w71 => some w71) else if a1 = 32 then (bn (fX12_finish false w) fun w73 => some w73) else (bn2 (fX12_pop w) fun x74 w75 => bn2 (fX12_pop w75) fun x76 w77 => bn2 (fX12_pop w77) fun x78 w79 => if x78 ≤ 0 then (fX12_other_558 a2 x74 x76 x78 w79) else (if x74 < x76 then (lt (si w79 0 128 a2) fun w82 => some w82) else (fX12_other_558 a2 x74 x76 x78 w79)))
set_option maxHeartbeats 16000000 in
theorem pX12_other {q : Gq} {l : Launch} {N : Option Value → Wd → Prop} {X : String → Wd → Prop} {w : Wd} {R : Wd} (hN : N none R) {a1 : Int32} {a2 : Int32} {a3 : Int32} {a4 : Int32} (h : fX12_other a1 a2 a3 a4 w = some R) : RT (GM q) l 3 yX12_other cX12_other 11 (none) N X 0 [] [(0, .ref 0), (1, .int a1), (2, .int a2), (3, .int a3), (4, .int a4)] w := by
  unfold fX12_other at h
  refine r_iload_n (pc := 0) dX12_other_0 rfl 1 rfl ?_
  by_cases hc1 : a1 = 13
  · refine r_tabC (pc := 1) (off := 95) (tgt := 96) (L := [13]) dX12_other_1 hc1 (by decide) rfl ?_
    replace h := if_t hc1 h
    refine r_aload_n (pc := 96) dX12_other_96 rfl 0 rfl ?_
    replace h := bn2_e h; obtain ⟨x2, w3, ew3, h⟩ := h
    refine r_cVl (pc := 97) wyX12_pop oM0 rfl mlRX12_810 iyX12_pop syX12_pop ⟨(Nat.le_of_ble_eq_true rfl), (Nat.le_of_ble_eq_true rfl)⟩ rfl rfl (Nat.le_of_ble_eq_true rfl) dX12_other_97 (mX12_pop ew3 (pL.mk ?_))
    refine r_lstore (pc := 100) (loc' := [(5, .long x2), (0, .ref 0), (1, .int a1), (2, .int a2), (3, .int a3), (4, .int a4)]) dX12_other_100 (Nat.le_of_ble_eq_true rfl) rfl ?_
    refine r_aload_n (pc := 102) dX12_other_102 rfl 1 rfl ?_
    refine r_get (pc := 103) (j := 139) (v := .int (gi w3 0 139)) oM0 cf12 flRX12_868 rfl dX12_other_103 rfl ?_
    refine r_sipush (pc := 106) dX12_other_106 ks_500 ?_
    refine r_icmp_ge (pc := 109) dX12_other_109 rfl (fun hc4 => ?_) (fun hc4 => ?_)
    · replace h := if_t hc4 h
      refine r_aload_n (pc := 123) dX12_other_123 rfl 1 rfl ?_
      refine r_dup (pc := 124) dX12_other_124 rfl ?_
      refine r_get (pc := 125) (j := 139) (v := .int (gi w3 0 139)) oM0 cf12 flRX12_868 rfl dX12_other_125 rfl ?_
      refine r_iconst (pc := 128) dX12_other_128 ki_1 ?_
      refine r_iadd (pc := 129) dX12_other_129 ?_
      replace h := lt_e h; obtain ⟨w5, ew5, h⟩ := h
      refine r_putI (pc := 130) (j := 139) oM0 cf12 flRX12_868 rfl rfl rfl rfl dX12_other_130 ?_
      refine r_w ew5 ?_
      refine r_goto (pc := 133) dX12_other_133 rfl ?_
      exact rO_v (pc := 578) rfl dX12_other_578 h hN
    replace h := if_f hc4 h
    refine r_aload_n (pc := 112) dX12_other_112 rfl 1 rfl ?_
    refine r_get (pc := 113) (j := 115) (v := .ref 86) oM0 cf12 flRX12_339 rfl dX12_other_113 rfl ?_
    refine r_aload_n (pc := 116) dX12_other_116 rfl 1 rfl ?_
    refine r_get (pc := 117) (j := 139) (v := .int (gi w3 0 139)) oM0 cf12 flRX12_868 rfl dX12_other_117 rfl ?_
    refine r_lload (pc := 120) dX12_other_120 0 rfl ?_
    replace h := if_n h; obtain ⟨hb6, h⟩ := h
    replace h := lt_e h; obtain ⟨w7, ew7, h⟩ := h
    refine r_last (pc := 122) aM86 (inb_in hb6) dX12_other_122 ?_
    refine r_w ew7 ?_
    refine r_aload_n (pc := 123) dX12_other_123 rfl 1 rfl ?_
    refine r_dup (pc := 124) dX12_other_124 rfl ?_
    refine r_get (pc := 125) (j := 139) (v := .int (gi w7 0 139)) oM0 cf12 flRX12_868 rfl dX12_other_125 rfl ?_
    refine r_iconst (pc := 128) dX12_other_128 ki_1 ?_
    refine r_iadd (pc := 129) dX12_other_129 ?_
    replace h := lt_e h; obtain ⟨w8, ew8, h⟩ := h
    refine r_putI (pc := 130) (j := 139) oM0 cf12 flRX12_868 rfl rfl rfl rfl dX12_other_130 ?_
    refine r_w ew8 ?_
    refine r_goto (pc := 133) dX12_other_133 rfl ?_
    exact rO_v (pc := 578) rfl dX12_other_578 h hN
  replace h := if_f hc1 h
  by_cases hc9 : a1 = 14
  · refine r_tabC (pc := 1) (off := 135) (tgt := 136) (L := [14]) dX12_other_1 hc9 (by decide) rfl ?_
    replace h := if_t hc9 h
    refine r_aload_n (pc := 136) dX12_other_136 rfl 0 rfl ?_
    refine r_iload_n (pc := 137) dX12_other_137 rfl 2 rfl ?_
    refine r_iload_n (pc := 138) dX12_other_138 rfl 3 rfl ?_
    replace h := bn_e h; obtain ⟨w10, ew10, h⟩ := h
    refine r_cVv (pc := 139) wyX12_call_ oM0 rfl mlRX12_871 iyX12_call_ syX12_call_ ⟨(Nat.le_of_ble_eq_true rfl), (Nat.le_of_ble_eq_true rfl)⟩ rfl rfl (Nat.le_of_ble_eq_true rfl) dX12_other_139 (mX12_call_ ew10 (pV.mk ?_))
    refine r_goto (pc := 142) dX12_other_142 rfl ?_
    exact rO_v (pc := 578) rfl dX12_other_578 h hN
  replace h := if_f hc9 h
  by_cases hc11 : a1 = 15
  · refine r_tabC (pc := 1) (off := 144) (tgt := 145) (L := [15]) dX12_other_1 hc11 (by decide) rfl ?_
    replace h := if_t hc11 h
    refine r_aload_n (pc := 145) dX12_other_145 rfl 0 rfl ?_
    refine r_aload_n (pc := 146) dX12_other_146 rfl 0 rfl ?_
    refine r_iload_n (pc := 147) dX12_other_147 rfl 2 rfl ?_
    refine r_iload_n (pc := 148) dX12_other_148 rfl 3 rfl ?_
    replace h := bn2_e h; obtain ⟨x12, w13, ew13, h⟩ := h
    refine r_cVi (pc := 149) wyX12_address oM0 rfl mlRX12_850 iyX12_address syX12_address ⟨(Nat.le_of_ble_eq_true rfl), (Nat.le_of_ble_eq_true rfl)⟩ rfl rfl (Nat.le_of_ble_eq_true rfl) dX12_other_149 (mX12_address ew13 (pI.mk ?_))
    refine r_iload (pc := 152) dX12_other_152 4 rfl ?_
    replace h := bn_e h; obtain ⟨w14, ew14, h⟩ := h
    refine r_cVv (pc := 154) wyX12_callFormal oM0 rfl mlRX12_873 iyX12_callFormal syX12_callFormal ⟨(Nat.le_of_ble_eq_true rfl), (Nat.le_of_ble_eq_true rfl)⟩ rfl rfl (Nat.le_of_ble_eq_true rfl) dX12_other_154 (mX12_callFormal ew14 (pV.mk ?_))
    refine r_goto (pc := 157) dX12_other_157 rfl ?_
    exact rO_v (pc := 578) rfl dX12_other_578 h hN
  replace h := if_f hc11 h
  by_cases hc15 : a1 = 16
  · refine r_tabC (pc := 1) (off := 159) (tgt := 160) (L := [16]) dX12_other_1 hc15 (by decide) rfl ?_
    replace h := if_t hc15 h
    refine r_aload_n (pc := 160) dX12_other_160 rfl 0 rfl ?_
    replace h := bn_e h; obtain ⟨w16, ew16, h⟩ := h
    refine r_cVv (pc := 161) wyX12_leave oM0 rfl mlRX12_876 iyX12_leave syX12_leave ⟨(Nat.le_of_ble_eq_true rfl), (Nat.le_of_ble_eq_true rfl)⟩ rfl rfl (Nat.le_of_ble_eq_true rfl) dX12_other_161 (mX12_leave ew16 (pV.mk ?_))
    refine r_goto (pc := 164) dX12_other_164 rfl ?_
    exact rO_v (pc := 578) rfl dX12_other_578 h hN
  replace h := if_f hc15 h
  by_cases hc17 : a1 = 17
  · refine r_tabC (pc := 1) (off := 166) (tgt := 167) (L := [17]) dX12_other_1 hc17 (by decide) rfl ?_
    replace h := if_t hc17 h
    refine r_aload_n (pc := 167) dX12_other_167 rfl 0 rfl ?_
    refine r_iload_n (pc := 168) dX12_other_168 rfl 2 rfl ?_
    refine r_iconst (pc := 169) dX12_other_169 ki_1 ?_
    refine r_icmp_ne (pc := 170) dX12_other_170 rfl (fun hc18 => ?_) (fun hc18 => ?_)
    · replace h := if_f hc18 h
      refine r_iconst (pc := 177) dX12_other_177 ki_0 ?_
      replace h := bn_e h; obtain ⟨w20, ew20, h⟩ := h
      refine r_cVv (pc := 178) wyX12_finish oM0 rfl mlRX12_879 iyX12_finish syX12_finish ⟨(Nat.le_of_ble_eq_true rfl), (Nat.le_of_ble_eq_true rfl)⟩ rfl rfl (Nat.le_of_ble_eq_true rfl) dX12_other_178 (mX12_finish ew20 (pV.mk ?_))
      refine r_goto (pc := 181) dX12_other_181 rfl ?_
      exact rO_v (pc := 578) rfl dX12_other_578 h hN
    replace h := if_t hc18 h
    refine r_iconst (pc := 173) dX12_other_173 ki_1 ?_
    refine r_goto (pc := 174) dX12_other_174 rfl ?_
    replace h := bn_e h; obtain ⟨w19, ew19, h⟩ := h
    refine r_cVv (pc := 178) wyX12_finish oM0 rfl mlRX12_879 iyX12_finish syX12_finish ⟨(Nat.le_of_ble_eq_true rfl), (Nat.le_of_ble_eq_true rfl)⟩ rfl rfl (Nat.le_of_ble_eq_true rfl) dX12_other_178 (mX12_finish ew19 (pV.mk ?_))
    refine r_goto (pc := 181) dX12_other_181 rfl ?_
    exact rO_v (pc := 578) rfl dX12_other_578 h hN
  replace h := if_f hc17 h
  by_cases hc21 : a1 = 18
  · refine r_tabC (pc := 1) (off := 183) (tgt := 184) (L := [18]) dX12_other_1 hc21 (by decide) rfl ?_
    replace h := if_t hc21 h
    refine r_aload_n (pc := 184) dX12_other_184 rfl 0 rfl ?_
    refine r_get (pc := 185) (j := 116) (v := .ref 87) oM0 cf12 flRX12_342 rfl dX12_other_185 rfl ?_
    refine r_aload_n (pc := 188) dX12_other_188 rfl 0 rfl ?_
    refine r_get (pc := 189) (j := 129) (v := .int (gi w 0 129)) oM0 cf12 flRX12_771 rfl dX12_other_189 rfl ?_
    replace h := if_n h; obtain ⟨hb22, h⟩ := h
    refine r_iald (pc := 192) aM87 (inb_in hb22) dX12_other_192 ?_
    refine r_iload_n (pc := 193) dX12_other_193 rfl 2 rfl ?_
    refine r_iadd (pc := 194) dX12_other_194 ?_
    replace h := lt_e h; obtain ⟨x23, ex23, h⟩ := h
    refine r_topi ex23 ?_
    refine r_istore (pc := 195) (loc' := [(5, .int x23), (0, .ref 0), (1, .int a1), (2, .int a2), (3, .int a3), (4, .int a4)]) dX12_other_195 (Nat.le_of_ble_eq_true rfl) rfl ?_
    refine r_aload_n (pc := 197) dX12_other_197 rfl 1 rfl ?_
    refine r_iconst (pc := 198) dX12_other_198 ki_2 ?_
    refine r_iconst (pc := 199) dX12_other_199 ki_0 ?_
    refine r_iload (pc := 200) dX12_other_200 0 rfl ?_
    replace h := bn_e h; obtain ⟨w24, ew24, h⟩ := h
    refine r_cVv (pc := 202) wyX12_control oM0 rfl mlRX12_807 iyX12_control syX12_control ⟨(Nat.le_of_ble_eq_true rfl), (Nat.le_of_ble_eq_true rfl)⟩ rfl rfl (Nat.le_of_ble_eq_true rfl) dX12_other_202 (mX12_control ew24 (pV.mk ?_))
    refine r_aload_n (pc := 205) dX12_other_205 rfl 1 rfl ?_
    refine r_aload_n (pc := 206) dX12_other_206 rfl 1 rfl ?_
    refine r_get (pc := 207) (j := 112) (v := .ref 83) oM0 cf12 flRX12_330 rfl dX12_other_207 rfl ?_
    refine r_iload (pc := 210) dX12_other_210 0 rfl ?_
    refine r_iconst (pc := 212) dX12_other_212 ki_1 ?_
    refine r_iadd (pc := 213) dX12_other_213 ?_
    replace h := if_n h; obtain ⟨hb25, h⟩ := h
    refine r_lald (pc := 214) aM83 (inb_in hb25) dX12_other_214 ?_
    refine r_l2i (pc := 215) dX12_other_215 ?_
    replace h := lt_e h; obtain ⟨w26, ew26, h⟩ := h
    refine r_putI (pc := 216) (j := 129) oM0 cf12 flRX12_771 rfl rfl rfl rfl dX12_other_216 ?_
    refine r_w ew26 ?_
    refine r_aload_n (pc := 219) dX12_other_219 rfl 1 rfl ?_
    refine r_aload_n (pc := 220) dX12_other_220 rfl 1 rfl ?_
    refine r_get (pc := 221) (j := 89) (v := .ref 61) oM0 cf12 flRX12_263 rfl dX12_other_221 rfl ?_
    refine r_aload_n (pc := 224) dX12_other_224 rfl 1 rfl ?_
    refine r_get (pc := 225) (j := 112) (v := .ref 83) oM0 cf12 flRX12_330 rfl dX12_other_225 rfl ?_
    refine r_iload (pc := 228) dX12_other_228 0 rfl ?_
    replace h := if_n h; obtain ⟨hb27, h⟩ := h
    refine r_lald (pc := 230) aM83 (inb_in hb27) dX12_other_230 ?_
    refine r_l2i (pc := 231) dX12_other_231 ?_
    replace h := if_n h; obtain ⟨hb28, h⟩ := h
    refine r_iald (pc := 232) aM61 (inb_in hb28) dX12_other_232 ?_
    replace h := lt_e h; obtain ⟨w29, ew29, h⟩ := h
    refine r_putI (pc := 233) (j := 128) oM0 cf12 flRX12_786 rfl rfl rfl rfl dX12_other_233 ?_
    refine r_w ew29 ?_
    refine r_goto (pc := 236) dX12_other_236 rfl ?_
    exact rO_v (pc := 578) rfl dX12_other_578 h hN
  replace h := if_f hc21 h
  by_cases hc30 : a1 = 19
  · refine r_tabC (pc := 1) (off := 238) (tgt := 239) (L := [19]) dX12_other_1 hc30 (by decide) rfl ?_
    replace h := if_t hc30 h
    refine r_aload_n (pc := 239) dX12_other_239 rfl 0 rfl ?_
    replace h := bn_e h; obtain ⟨w31, ew31, h⟩ := h
    refine r_cVv (pc := 240) wyX12_jump oM0 rfl mlRX12_883 iyX12_jump syX12_jump ⟨(Nat.le_of_ble_eq_true rfl), (Nat.le_of_ble_eq_true rfl)⟩ rfl rfl (Nat.le_of_ble_eq_true rfl) dX12_other_240 (mX12_jump ew31 (pV.mk ?_))
    refine r_goto (pc := 243) dX12_other_243 rfl ?_
    exact rO_v (pc := 578) rfl dX12_other_578 h hN
  replace h := if_f hc30 h
  by_cases hc32 : a1 = 20
  · refine r_tabC (pc := 1) (off := 245) (tgt := 246) (L := [20]) dX12_other_1 hc32 (by decide) rfl ?_
    replace h := if_t hc32 h
    refine r_aload_n (pc := 246) dX12_other_246 rfl 0 rfl ?_
    refine r_iload_n (pc := 247) dX12_other_247 rfl 2 rfl ?_
    refine r_i2l (pc := 248) dX12_other_248 ?_
    replace h := bn_e h; obtain ⟨w33, ew33, h⟩ := h
    refine r_cVv (pc := 249) wyX12_push oM0 rfl mlRX12_817 iyX12_push syX12_push ⟨(Nat.le_of_ble_eq_true rfl), (Nat.le_of_ble_eq_true rfl)⟩ rfl rfl (Nat.le_of_ble_eq_true rfl) dX12_other_249 (mX12_push ew33 (pV.mk ?_))
    refine r_aload_n (pc := 252) dX12_other_252 rfl 0 rfl ?_
    refine r_aload_n (pc := 253) dX12_other_253 rfl 0 rfl ?_
    refine r_iload_n (pc := 254) dX12_other_254 rfl 3 rfl ?_
    replace h := bn2_e h; obtain ⟨x34, w35, ew35, h⟩ := h
    refine r_cVi (pc := 255) wyX12_envUp oM0 rfl mlRX12_774 iyX12_envUp syX12_envUp ⟨(Nat.le_of_ble_eq_true rfl), (Nat.le_of_ble_eq_true rfl)⟩ rfl rfl (Nat.le_of_ble_eq_true rfl) dX12_other_255 (mX12_envUp ew35 (pI.mk ?_))
    refine r_i2l (pc := 258) dX12_other_258 ?_
    replace h := bn_e h; obtain ⟨w36, ew36, h⟩ := h
    refine r_cVv (pc := 259) wyX12_push oM0 rfl mlRX12_817 iyX12_push syX12_push ⟨(Nat.le_of_ble_eq_true rfl), (Nat.le_of_ble_eq_true rfl)⟩ rfl rfl (Nat.le_of_ble_eq_true rfl) dX12_other_259 (mX12_push ew36 (pV.mk ?_))
    refine r_goto (pc := 262) dX12_other_262 rfl ?_
    exact rO_v (pc := 578) rfl dX12_other_578 h hN
  replace h := if_f hc32 h
  by_cases hc37 : a1 = 21
  · refine r_tabC (pc := 1) (off := 264) (tgt := 265) (L := [21]) dX12_other_1 hc37 (by decide) rfl ?_
    replace h := if_t hc37 h
    refine r_aload_n (pc := 265) dX12_other_265 rfl 0 rfl ?_
    refine r_iload_n (pc := 266) dX12_other_266 rfl 2 rfl ?_
    refine r_iload_n (pc := 267) dX12_other_267 rfl 3 rfl ?_
    replace h := bn_e h; obtain ⟨w38, ew38, h⟩ := h
    refine r_cVv (pc := 268) wyX12_aimed oM0 rfl mlRX12_886 iyX12_aimed syX12_aimed ⟨(Nat.le_of_ble_eq_true rfl), (Nat.le_of_ble_eq_true rfl)⟩ rfl rfl (Nat.le_of_ble_eq_true rfl) dX12_other_268 (mX12_aimed ew38 (pV.mk ?_))
    refine r_goto (pc := 271) dX12_other_271 rfl ?_
    exact rO_v (pc := 578) rfl dX12_other_578 h hN
  replace h := if_f hc37 h
  by_cases hc39 : a1 = 22
  · refine r_tabC (pc := 1) (off := 273) (tgt := 274) (L := [22]) dX12_other_1 hc39 (by decide) rfl ?_
    replace h := if_t hc39 h
    refine r_aload_n (pc := 274) dX12_other_274 rfl 0 rfl ?_
    refine r_aload_n (pc := 275) dX12_other_275 rfl 0 rfl ?_
    refine r_iload_n (pc := 276) dX12_other_276 rfl 2 rfl ?_
    refine r_iload_n (pc := 277) dX12_other_277 rfl 3 rfl ?_
    replace h := bn2_e h; obtain ⟨x40, w41, ew41, h⟩ := h
    refine r_cVi (pc := 278) wyX12_address oM0 rfl mlRX12_850 iyX12_address syX12_address ⟨(Nat.le_of_ble_eq_true rfl), (Nat.le_of_ble_eq_true rfl)⟩ rfl rfl (Nat.le_of_ble_eq_true rfl) dX12_other_278 (mX12_address ew41 (pI.mk ?_))
    refine r_iconst (pc := 281) dX12_other_281 ki_0 ?_
    replace h := bn_e h; obtain ⟨w42, ew42, h⟩ := h
    refine r_cVv (pc := 282) wyX12_use oM0 rfl mlRX12_853 iyX12_use syX12_use ⟨(Nat.le_of_ble_eq_true rfl), (Nat.le_of_ble_eq_true rfl)⟩ rfl rfl (Nat.le_of_ble_eq_true rfl) dX12_other_282 (mX12_use ew42 (pV.mk ?_))
    refine r_goto (pc := 285) dX12_other_285 rfl ?_
    exact rO_v (pc := 578) rfl dX12_other_578 h hN
  replace h := if_f hc39 h
  by_cases hc43 : a1 = 23
  · refine r_tabC (pc := 1) (off := 287) (tgt := 288) (L := [23]) dX12_other_1 hc43 (by decide) rfl ?_
    replace h := if_t hc43 h
    refine r_aload_n (pc := 288) dX12_other_288 rfl 0 rfl ?_
    refine r_get (pc := 289) (j := 109) (v := .ref 81) oM0 cf12 flRX12_323 rfl dX12_other_289 rfl ?_
    refine r_iload_n (pc := 292) dX12_other_292 rfl 2 rfl ?_
    replace h := if_n h; obtain ⟨hb44, h⟩ := h
    refine r_iald (pc := 293) aM81 (inb_in hb44) dX12_other_293 ?_
    replace h := lt_e h; obtain ⟨x45, ex45, h⟩ := h
    refine r_topi ex45 ?_
    refine r_istore (pc := 294) (loc' := [(5, .int x45), (0, .ref 0), (1, .int a1), (2, .int a2), (3, .int a3), (4, .int a4)]) dX12_other_294 (Nat.le_of_ble_eq_true rfl) rfl ?_
    refine r_drop (loc' := [(0, .ref 0), (2, .int a2), (5, .int x45)]) [1, 3, 0] rfl ?_
    exact qX12_other_296 hN FU a2 x45 w h
  replace h := if_f hc43 h
  by_cases hc46 : a1 = 24
  · refine r_tabC (pc := 1) (off := 364) (tgt := 365) (L := [24]) dX12_other_1 hc46 (by decide) rfl ?_
    replace h := if_t hc46 h
    refine r_aload_n (pc := 365) dX12_other_365 rfl 0 rfl ?_
    refine r_aload_n (pc := 366) dX12_other_366 rfl 0 rfl ?_
    refine r_get (pc := 367) (j := 116) (v := .ref 87) oM0 cf12 flRX12_342 rfl dX12_other_367 rfl ?_
    refine r_aload_n (pc := 370) dX12_other_370 rfl 0 rfl ?_
    refine r_get (pc := 371) (j := 129) (v := .int (gi w 0 129)) oM0 cf12 flRX12_771 rfl dX12_other_371 rfl ?_
    replace h := if_n h; obtain ⟨hb47, h⟩ := h
    refine r_iald (pc := 374) aM87 (inb_in hb47) dX12_other_374 ?_
    refine r_iload_n (pc := 375) dX12_other_375 rfl 2 rfl ?_
    refine r_iadd (pc := 376) dX12_other_376 ?_
    refine r_iload_n (pc := 377) dX12_other_377 rfl 3 rfl ?_
    replace h := bn_e h; obtain ⟨w48, ew48, h⟩ := h
    refine r_cVv (pc := 378) wyX12_allot oM0 rfl mlRX12_889 iyX12_allot syX12_allot ⟨(Nat.le_of_ble_eq_true rfl), (Nat.le_of_ble_eq_true rfl)⟩ rfl rfl (Nat.le_of_ble_eq_true rfl) dX12_other_378 (mX12_allot ew48 (pV.mk ?_))
    refine r_goto (pc := 381) dX12_other_381 rfl ?_
    exact rO_v (pc := 578) rfl dX12_other_578 h hN
  replace h := if_f hc46 h
  by_cases hc49 : a1 = 25
  · refine r_tabC (pc := 1) (off := 383) (tgt := 384) (L := [25]) dX12_other_1 hc49 (by decide) rfl ?_
    replace h := if_t hc49 h
    refine r_aload_n (pc := 384) dX12_other_384 rfl 0 rfl ?_
    refine r_dup (pc := 385) dX12_other_385 rfl ?_
    refine r_get (pc := 386) (j := 130) (v := .int (gi w 0 130)) oM0 cf12 flRX12_780 rfl dX12_other_386 rfl ?_
    refine r_iload_n (pc := 389) dX12_other_389 rfl 2 rfl ?_
    refine r_isub (pc := 390) dX12_other_390 ?_
    replace h := lt_e h; obtain ⟨w50, ew50, h⟩ := h
    refine r_putI (pc := 391) (j := 130) oM0 cf12 flRX12_780 rfl rfl rfl rfl dX12_other_391 ?_
    refine r_w ew50 ?_
    refine r_goto (pc := 394) dX12_other_394 rfl ?_
    exact rO_v (pc := 578) rfl dX12_other_578 h hN
  replace h := if_f hc49 h
  by_cases hc51 : a1 = 26
  · refine r_tabC (pc := 1) (off := 396) (tgt := 397) (L := [26]) dX12_other_1 hc51 (by decide) rfl ?_
    replace h := if_t hc51 h
    refine r_aload_n (pc := 397) dX12_other_397 rfl 0 rfl ?_
    refine r_get (pc := 398) (j := 112) (v := .ref 83) oM0 cf12 flRX12_330 rfl dX12_other_398 rfl ?_
    refine r_aload_n (pc := 401) dX12_other_401 rfl 0 rfl ?_
    refine r_get (pc := 402) (j := 116) (v := .ref 87) oM0 cf12 flRX12_342 rfl dX12_other_402 rfl ?_
    refine r_aload_n (pc := 405) dX12_other_405 rfl 0 rfl ?_
    refine r_get (pc := 406) (j := 129) (v := .int (gi w 0 129)) oM0 cf12 flRX12_771 rfl dX12_other_406 rfl ?_
    replace h := if_n h; obtain ⟨hb52, h⟩ := h
    refine r_iald (pc := 409) aM87 (inb_in hb52) dX12_other_409 ?_
    refine r_aload_n (pc := 410) dX12_other_410 rfl 0 rfl ?_
    refine r_get (pc := 411) (j := 108) (v := .ref 80) oM0 cf12 flRX12_320 rfl dX12_other_411 rfl ?_
    refine r_iload_n (pc := 414) dX12_other_414 rfl 2 rfl ?_
    replace h := if_n h; obtain ⟨hb53, h⟩ := h
    refine r_iald (pc := 415) aM80 (inb_in hb53) dX12_other_415 ?_
    refine r_iadd (pc := 416) dX12_other_416 ?_
    refine r_iconst (pc := 417) dX12_other_417 ki_1 ?_
    refine r_iadd (pc := 418) dX12_other_418 ?_
    refine r_aload_n (pc := 419) dX12_other_419 rfl 0 rfl ?_
    refine r_get (pc := 420) (j := 133) (v := .int (gi w 0 133)) oM0 cf12 flRX12_827 rfl dX12_other_420 rfl ?_
    refine r_i2l (pc := 423) dX12_other_423 ?_
    replace h := if_n h; obtain ⟨hb54, h⟩ := h
    replace h := lt_e h; obtain ⟨w55, ew55, h⟩ := h
    refine r_last (pc := 424) aM83 (inb_in hb54) dX12_other_424 ?_
    refine r_w ew55 ?_
    refine r_goto (pc := 425) dX12_other_425 rfl ?_
    exact rO_v (pc := 578) rfl dX12_other_578 h hN
  replace h := if_f hc51 h
  by_cases hc56 : a1 = 27
  · refine r_tabC (pc := 1) (off := 427) (tgt := 428) (L := [27]) dX12_other_1 hc56 (by decide) rfl ?_
    replace h := if_t hc56 h
    refine r_aload_n (pc := 428) dX12_other_428 rfl 0 rfl ?_
    refine r_aload_n (pc := 429) dX12_other_429 rfl 0 rfl ?_
    refine r_get (pc := 430) (j := 112) (v := .ref 83) oM0 cf12 flRX12_330 rfl dX12_other_430 rfl ?_
    refine r_aload_n (pc := 433) dX12_other_433 rfl 0 rfl ?_
    refine r_get (pc := 434) (j := 116) (v := .ref 87) oM0 cf12 flRX12_342 rfl dX12_other_434 rfl ?_
    refine r_aload_n (pc := 437) dX12_other_437 rfl 0 rfl ?_
    refine r_get (pc := 438) (j := 129) (v := .int (gi w 0 129)) oM0 cf12 flRX12_771 rfl dX12_other_438 rfl ?_
    replace h := if_n h; obtain ⟨hb57, h⟩ := h
    refine r_iald (pc := 441) aM87 (inb_in hb57) dX12_other_441 ?_
    refine r_aload_n (pc := 442) dX12_other_442 rfl 0 rfl ?_
    refine r_get (pc := 443) (j := 108) (v := .ref 80) oM0 cf12 flRX12_320 rfl dX12_other_443 rfl ?_
    refine r_iload_n (pc := 446) dX12_other_446 rfl 2 rfl ?_
    replace h := if_n h; obtain ⟨hb58, h⟩ := h
    refine r_iald (pc := 447) aM80 (inb_in hb58) dX12_other_447 ?_
    refine r_iadd (pc := 448) dX12_other_448 ?_
    replace h := if_n h; obtain ⟨hb59, h⟩ := h
    refine r_lald (pc := 449) aM83 (inb_in hb59) dX12_other_449 ?_
    refine r_l2i (pc := 450) dX12_other_450 ?_
    replace h := lt_e h; obtain ⟨w60, ew60, h⟩ := h
    refine r_putI (pc := 451) (j := 133) oM0 cf12 flRX12_827 rfl rfl rfl rfl dX12_other_451 ?_
    refine r_w ew60 ?_
    refine r_goto (pc := 454) dX12_other_454 rfl ?_
    exact rO_v (pc := 578) rfl dX12_other_578 h hN
  replace h := if_f hc56 h
  by_cases hc61 : a1 = 29
  · refine r_tabC (pc := 1) (off := 456) (tgt := 457) (L := [29]) dX12_other_1 hc61 (by decide) rfl ?_
    replace h := if_t hc61 h
    refine r_aload_n (pc := 457) dX12_other_457 rfl 0 rfl ?_
    refine r_aload_n (pc := 458) dX12_other_458 rfl 0 rfl ?_
    refine r_get (pc := 459) (j := 112) (v := .ref 83) oM0 cf12 flRX12_330 rfl dX12_other_459 rfl ?_
    refine r_aload_n (pc := 462) dX12_other_462 rfl 0 rfl ?_
    refine r_get (pc := 463) (j := 116) (v := .ref 87) oM0 cf12 flRX12_342 rfl dX12_other_463 rfl ?_
    refine r_aload_n (pc := 466) dX12_other_466 rfl 0 rfl ?_
    refine r_get (pc := 467) (j := 129) (v := .int (gi w 0 129)) oM0 cf12 flRX12_771 rfl dX12_other_467 rfl ?_
    replace h := if_n h; obtain ⟨hb62, h⟩ := h
    refine r_iald (pc := 470) aM87 (inb_in hb62) dX12_other_470 ?_
    refine r_iload_n (pc := 471) dX12_other_471 rfl 2 rfl ?_
    refine r_iadd (pc := 472) dX12_other_472 ?_
    replace h := if_n h; obtain ⟨hb63, h⟩ := h
    refine r_lald (pc := 473) aM83 (inb_in hb63) dX12_other_473 ?_
    refine r_l2i (pc := 474) dX12_other_474 ?_
    replace h := lt_e h; obtain ⟨w64, ew64, h⟩ := h
    refine r_putI (pc := 475) (j := 128) oM0 cf12 flRX12_786 rfl rfl rfl rfl dX12_other_475 ?_
    refine r_w ew64 ?_
    refine r_goto (pc := 478) dX12_other_478 rfl ?_
    exact rO_v (pc := 578) rfl dX12_other_578 h hN
  replace h := if_f hc61 h
  by_cases hc65 : a1 = 30
  · refine r_tabC (pc := 1) (off := 503) (tgt := 504) (L := [30]) dX12_other_1 hc65 (by decide) rfl ?_
    replace h := if_t hc65 h
    refine r_aload_n (pc := 504) dX12_other_504 rfl 0 rfl ?_
    refine r_get (pc := 505) (j := 112) (v := .ref 83) oM0 cf12 flRX12_330 rfl dX12_other_505 rfl ?_
    refine r_aload_n (pc := 508) dX12_other_508 rfl 0 rfl ?_
    refine r_get (pc := 509) (j := 116) (v := .ref 87) oM0 cf12 flRX12_342 rfl dX12_other_509 rfl ?_
    refine r_aload_n (pc := 512) dX12_other_512 rfl 0 rfl ?_
    refine r_get (pc := 513) (j := 129) (v := .int (gi w 0 129)) oM0 cf12 flRX12_771 rfl dX12_other_513 rfl ?_
    replace h := if_n h; obtain ⟨hb66, h⟩ := h
    refine r_iald (pc := 516) aM87 (inb_in hb66) dX12_other_516 ?_
    refine r_iload_n (pc := 517) dX12_other_517 rfl 2 rfl ?_
    refine r_iadd (pc := 518) dX12_other_518 ?_
    refine r_iload_n (pc := 519) dX12_other_519 rfl 3 rfl ?_
    refine r_i2l (pc := 520) dX12_other_520 ?_
    replace h := if_n h; obtain ⟨hb67, h⟩ := h
    replace h := lt_e h; obtain ⟨w68, ew68, h⟩ := h
    refine r_last (pc := 521) aM83 (inb_in hb67) dX12_other_521 ?_
    refine r_w ew68 ?_
    refine r_goto (pc := 522) dX12_other_522 rfl ?_
    exact rO_v (pc := 578) rfl dX12_other_578 h hN
  replace h := if_f hc65 h
  by_cases hc69 : a1 = 31
  · refine r_tabC (pc := 1) (off := 480) (tgt := 481) (L := [31]) dX12_other_1 hc69 (by decide) rfl ?_
    replace h := if_t hc69 h
    refine r_aload_n (pc := 481) dX12_other_481 rfl 0 rfl ?_
    refine r_iconst (pc := 482) dX12_other_482 ki_2 ?_
    refine r_iconst (pc := 483) dX12_other_483 ki_0 ?_
    refine r_iconst (pc := 484) dX12_other_484 ki_m1 ?_
    replace h := bn_e h; obtain ⟨w70, ew70, h⟩ := h
    refine r_cVv (pc := 485) wyX12_control oM0 rfl mlRX12_807 iyX12_control syX12_control ⟨(Nat.le_of_ble_eq_true rfl), (Nat.le_of_ble_eq_true rfl)⟩ rfl rfl (Nat.le_of_ble_eq_true rfl) dX12_other_485 (mX12_control ew70 (pV.mk ?_))
    refine r_aload_n (pc := 488) dX12_other_488 rfl 0 rfl ?_
    refine r_iload_n (pc := 489) dX12_other_489 rfl 2 rfl ?_
    replace h := lt_e h; obtain ⟨w71, ew71, h⟩ := h
    refine r_putI (pc := 490) (j := 128) oM0 cf12 flRX12_786 rfl rfl rfl rfl dX12_other_490 ?_
    refine r_w ew71 ?_
    refine r_goto (pc := 493) dX12_other_493 rfl ?_
    exact rO_v (pc := 578) rfl dX12_other_578 h hN
  replace h := if_f hc69 h
  by_cases hc72 : a1 = 32
  · refine r_tabC (pc := 1) (off := 495) (tgt := 496) (L := [32]) dX12_other_1 hc72 (by decide) rfl ?_
    replace h := if_t hc72 h
    refine r_aload_n (pc := 496) dX12_other_496 rfl 0 rfl ?_
    refine r_iconst (pc := 497) dX12_other_497 ki_0 ?_
    replace h := bn_e h; obtain ⟨w73, ew73, h⟩ := h
    refine r_cVv (pc := 498) wyX12_finish oM0 rfl mlRX12_879 iyX12_finish syX12_finish ⟨(Nat.le_of_ble_eq_true rfl), (Nat.le_of_ble_eq_true rfl)⟩ rfl rfl (Nat.le_of_ble_eq_true rfl) dX12_other_498 (mX12_finish ew73 (pV.mk ?_))
    refine r_goto (pc := 501) dX12_other_501 rfl ?_
    exact rO_v (pc := 578) rfl dX12_other_578 h hN
  replace h := if_f hc72 h
  refine r_tabD (pc := 1) (tgt := 525) (K := [[13], [14], [15], [16], [17], [18], [19], [20], [21], [22], [23], [24], [25], [26], [27], [29], [30], [31], [32]]) dX12_other_1 ⟨hc1, hc9, hc11, hc15, hc17, hc21, hc30, hc32, hc37, hc39, hc43, hc46, hc49, hc51, hc56, hc61, hc65, hc69, hc72, trivial⟩ (by decide) (by decide) rfl ?_
  refine r_aload_n (pc := 525) dX12_other_525 rfl 0 rfl ?_
  replace h := bn2_e h; obtain ⟨x74, w75, ew75, h⟩ := h
  refine r_cVl (pc := 526) wyX12_pop oM0 rfl mlRX12_810 iyX12_pop syX12_pop ⟨(Nat.le_of_ble_eq_true rfl), (Nat.le_of_ble_eq_true rfl)⟩ rfl rfl (Nat.le_of_ble_eq_true rfl) dX12_other_526 (mX12_pop ew75 (pL.mk ?_))
  refine r_lstore (pc := 529) (loc' := [(5, .long x74), (0, .ref 0), (1, .int a1), (2, .int a2), (3, .int a3), (4, .int a4)]) dX12_other_529 (Nat.le_of_ble_eq_true rfl) rfl ?_
  refine r_aload_n (pc := 531) dX12_other_531 rfl 1 rfl ?_
  replace h := bn2_e h; obtain ⟨x76, w77, ew77, h⟩ := h
  refine r_cVl (pc := 532) wyX12_pop oM0 rfl mlRX12_810 iyX12_pop syX12_pop ⟨(Nat.le_of_ble_eq_true rfl), (Nat.le_of_ble_eq_true rfl)⟩ rfl rfl (Nat.le_of_ble_eq_true rfl) dX12_other_532 (mX12_pop ew77 (pL.mk ?_))
  refine r_lstore (pc := 535) (loc' := [(7, .long x76), (5, .long x74), (0, .ref 0), (1, .int a1), (2, .int a2), (3, .int a3), (4, .int a4)]) dX12_other_535 (Nat.le_of_ble_eq_true rfl) rfl ?_
  refine r_aload_n (pc := 537) dX12_other_537 rfl 2 rfl ?_
  replace h := bn2_e h; obtain ⟨x78, w79, ew79, h⟩ := h
  refine r_cVl (pc := 538) wyX12_pop oM0 rfl mlRX12_810 iyX12_pop syX12_pop ⟨(Nat.le_of_ble_eq_true rfl), (Nat.le_of_ble_eq_true rfl)⟩ rfl rfl (Nat.le_of_ble_eq_true rfl) dX12_other_538 (mX12_pop ew79 (pL.mk ?_))
  refine r_lstore (pc := 541) (loc' := [(9, .long x78), (7, .long x76), (5, .long x74), (0, .ref 0), (1, .int a1), (2, .int a2), (3, .int a3), (4, .int a4)]) dX12_other_541 (Nat.le_of_ble_eq_true rfl) rfl ?_
  refine r_lload (pc := 543) dX12_other_543 0 rfl ?_
  refine r_lconst (pc := 545) dX12_other_545 kl_0 ?_
  refine r_l_le (pc := 546) dX12_other_546 dX12_other_547 rfl (fun hc80 => ?_) (fun hc80 => ?_)
  · replace h := if_t hc80 h
    refine r_drop (loc' := [(0, .ref 0), (2, .int a2), (5, .long x74), (7, .long x76), (9, .long x78)]) [3, 5, 2, 1, 0] rfl ?_
    exact pX12_other_558 hN h
  replace h := if_f hc80 h
  refine r_lload (pc := 550) dX12_other_550 1 rfl ?_
  refine r_lload (pc := 552) dX12_other_552 2 rfl ?_
  refine r_l_gt (pc := 554) dX12_other_554 dX12_other_555 rfl (fun hc81 => ?_) (fun hc81 => ?_)
  · replace h := if_t hc81 h
    refine r_aload_n (pc := 573) dX12_other_573 rfl 3 rfl ?_
    refine r_iload_n (pc := 574) dX12_other_574 rfl 5 rfl ?_
    replace h := lt_e h; obtain ⟨w82, ew82, h⟩ := h
    refine r_putI (pc := 575) (j := 128) oM0 cf12 flRX12_786 rfl rfl rfl rfl dX12_other_575 ?_
    refine r_w ew82 ?_
    exact rO_v (pc := 578) rfl dX12_other_578 h hN
  replace h := if_f hc81 h
  refine r_drop (loc' := [(0, .ref 0), (2, .int a2), (5, .long x74), (7, .long x76), (9, .long x78)]) [3, 5, 2, 1, 0] rfl ?_
  exact pX12_other_558 hN h
theorem mX12_other {q : Gq} {l : Launch} {N : Option Value → Wd → Prop} {X : String → Wd → Prop} {a1 : Int32} {a2 : Int32} {a3 : Int32} {a4 : Int32} {w : Wd} {u : Wd} (h : fX12_other a1 a2 a3 a4 w = some u) (hN : N none u) : Ct (GM q) l 3 yX12_other cX12_other 11 (none) [.ref 0, .int a1, .int a2, .int a3, .int a4] w N X := Ct.of (by decide) (Nat.le_of_ble_eq_true rfl) (pX12_other hN h)
/-! AlgolMillModel.step ()V: O, 4 -/
theorem dX12_step_0 : decode cX12_step 0 = .ok (.iconst 4, 1) := by decide +kernel
theorem dX12_step_1 : decode cX12_step 1 = .ok (.aload_n 0, 1) := by decide +kernel
theorem dX12_step_2 : decode cX12_step 2 = .ok (.getfield 786, 3) := by decide +kernel
theorem dX12_step_5 : decode cX12_step 5 = .ok (.imul, 1) := by decide +kernel
theorem dX12_step_6 : decode cX12_step 6 = .ok (.istore_n 1, 1) := by decide +kernel
theorem dX12_step_7 : decode cX12_step 7 = .ok (.aload_n 0, 1) := by decide +kernel
theorem dX12_step_8 : decode cX12_step 8 = .ok (.dup, 1) := by decide +kernel
theorem dX12_step_9 : decode cX12_step 9 = .ok (.getfield 786, 3) := by decide +kernel
theorem dX12_step_12 : decode cX12_step 12 = .ok (.iconst 1, 1) := by decide +kernel
theorem dX12_step_13 : decode cX12_step 13 = .ok (.iadd, 1) := by decide +kernel
theorem dX12_step_14 : decode cX12_step 14 = .ok (.putfield 786, 3) := by decide +kernel
theorem dX12_step_17 : decode cX12_step 17 = .ok (.aload_n 0, 1) := by decide +kernel
theorem dX12_step_18 : decode cX12_step 18 = .ok (.getfield 260, 3) := by decide +kernel
theorem dX12_step_21 : decode cX12_step 21 = .ok (.iload_n 1, 1) := by decide +kernel
theorem dX12_step_22 : decode cX12_step 22 = .ok (.iconst 1, 1) := by decide +kernel
theorem dX12_step_23 : decode cX12_step 23 = .ok (.iadd, 1) := by decide +kernel
theorem dX12_step_24 : decode cX12_step 24 = .ok (.iaload, 1) := by decide +kernel
theorem dX12_step_25 : decode cX12_step 25 = .ok (.istore_n 2, 1) := by decide +kernel
theorem dX12_step_26 : decode cX12_step 26 = .ok (.aload_n 0, 1) := by decide +kernel
theorem dX12_step_27 : decode cX12_step 27 = .ok (.getfield 260, 3) := by decide +kernel
theorem dX12_step_30 : decode cX12_step 30 = .ok (.iload_n 1, 1) := by decide +kernel
theorem dX12_step_31 : decode cX12_step 31 = .ok (.iconst 2, 1) := by decide +kernel
theorem dX12_step_32 : decode cX12_step 32 = .ok (.iadd, 1) := by decide +kernel
theorem dX12_step_33 : decode cX12_step 33 = .ok (.iaload, 1) := by decide +kernel
theorem dX12_step_34 : decode cX12_step 34 = .ok (.istore_n 3, 1) := by decide +kernel
theorem dX12_step_35 : decode cX12_step 35 = .ok (.aload_n 0, 1) := by decide +kernel
theorem dX12_step_36 : decode cX12_step 36 = .ok (.getfield 260, 3) := by decide +kernel
theorem dX12_step_39 : decode cX12_step 39 = .ok (.iload_n 1, 1) := by decide +kernel
theorem dX12_step_40 : decode cX12_step 40 = .ok (.iconst 3, 1) := by decide +kernel
theorem dX12_step_41 : decode cX12_step 41 = .ok (.iadd, 1) := by decide +kernel
theorem dX12_step_42 : decode cX12_step 42 = .ok (.iaload, 1) := by decide +kernel
theorem dX12_step_43 : decode cX12_step 43 = .ok (.istore 4, 2) := by decide +kernel
theorem dX12_step_45 : decode cX12_step 45 = .ok (.aload_n 0, 1) := by decide +kernel
theorem dX12_step_46 : decode cX12_step 46 = .ok (.getfield 260, 3) := by decide +kernel
theorem dX12_step_49 : decode cX12_step 49 = .ok (.iload_n 1, 1) := by decide +kernel
theorem dX12_step_50 : decode cX12_step 50 = .ok (.iaload, 1) := by decide +kernel
theorem dX12_step_51 : decode cX12_step 51 = .ok (.tableswitch 308 1 12 #[61, 83, 101, 115, 150, 186, 201, 235, 243, 274, 282, 299], 61) := by decide +kernel
theorem dX12_step_112 : decode cX12_step 112 = .ok (.aload_n 0, 1) := by decide +kernel
theorem dX12_step_113 : decode cX12_step 113 = .ok (.iload_n 2, 1) := by decide +kernel
theorem dX12_step_114 : decode cX12_step 114 = .ok (.ifCond .ge 8, 3) := by decide +kernel
theorem dX12_step_117 : decode cX12_step 117 = .ok (.iload_n 3, 1) := by decide +kernel
theorem dX12_step_118 : decode cX12_step 118 = .ok (.i2l, 1) := by decide +kernel
theorem dX12_step_119 : decode cX12_step 119 = .ok (.goto 9, 3) := by decide +kernel
theorem dX12_step_122 : decode cX12_step 122 = .ok (.aload_n 0, 1) := by decide +kernel
theorem dX12_step_123 : decode cX12_step 123 = .ok (.getfield 287, 3) := by decide +kernel
theorem dX12_step_126 : decode cX12_step 126 = .ok (.iload_n 2, 1) := by decide +kernel
theorem dX12_step_127 : decode cX12_step 127 = .ok (.laload, 1) := by decide +kernel
theorem dX12_step_128 : decode cX12_step 128 = .ok (.invokevirtual 817, 3) := by decide +kernel
theorem dX12_step_131 : decode cX12_step 131 = .ok (.goto 242, 3) := by decide +kernel
theorem dX12_step_134 : decode cX12_step 134 = .ok (.aload_n 0, 1) := by decide +kernel
theorem dX12_step_135 : decode cX12_step 135 = .ok (.aload_n 0, 1) := by decide +kernel
theorem dX12_step_136 : decode cX12_step 136 = .ok (.getfield 330, 3) := by decide +kernel
theorem dX12_step_139 : decode cX12_step 139 = .ok (.aload_n 0, 1) := by decide +kernel
theorem dX12_step_140 : decode cX12_step 140 = .ok (.iload_n 2, 1) := by decide +kernel
theorem dX12_step_141 : decode cX12_step 141 = .ok (.iload_n 3, 1) := by decide +kernel
theorem dX12_step_142 : decode cX12_step 142 = .ok (.invokevirtual 850, 3) := by decide +kernel
theorem dX12_step_145 : decode cX12_step 145 = .ok (.laload, 1) := by decide +kernel
theorem dX12_step_146 : decode cX12_step 146 = .ok (.invokevirtual 817, 3) := by decide +kernel
theorem dX12_step_149 : decode cX12_step 149 = .ok (.goto 224, 3) := by decide +kernel
theorem dX12_step_152 : decode cX12_step 152 = .ok (.aload_n 0, 1) := by decide +kernel
theorem dX12_step_153 : decode cX12_step 153 = .ok (.aload_n 0, 1) := by decide +kernel
theorem dX12_step_154 : decode cX12_step 154 = .ok (.iload_n 2, 1) := by decide +kernel
theorem dX12_step_155 : decode cX12_step 155 = .ok (.iload_n 3, 1) := by decide +kernel
theorem dX12_step_156 : decode cX12_step 156 = .ok (.invokevirtual 850, 3) := by decide +kernel
theorem dX12_step_159 : decode cX12_step 159 = .ok (.i2l, 1) := by decide +kernel
theorem dX12_step_160 : decode cX12_step 160 = .ok (.invokevirtual 817, 3) := by decide +kernel
theorem dX12_step_163 : decode cX12_step 163 = .ok (.goto 210, 3) := by decide +kernel
theorem dX12_step_166 : decode cX12_step 166 = .ok (.aload_n 0, 1) := by decide +kernel
theorem dX12_step_167 : decode cX12_step 167 = .ok (.aload_n 0, 1) := by decide +kernel
theorem dX12_step_168 : decode cX12_step 168 = .ok (.iload_n 2, 1) := by decide +kernel
theorem dX12_step_169 : decode cX12_step 169 = .ok (.iload_n 3, 1) := by decide +kernel
theorem dX12_step_170 : decode cX12_step 170 = .ok (.invokevirtual 850, 3) := by decide +kernel
theorem dX12_step_173 : decode cX12_step 173 = .ok (.iload 4, 2) := by decide +kernel
theorem dX12_step_175 : decode cX12_step 175 = .ok (.iconst 2, 1) := by decide +kernel
theorem dX12_step_176 : decode cX12_step 176 = .ok (.if_icmp .ne 17, 3) := by decide +kernel
theorem dX12_step_179 : decode cX12_step 179 = .ok (.aload_n 0, 1) := by decide +kernel
theorem dX12_step_180 : decode cX12_step 180 = .ok (.getfield 366, 3) := by decide +kernel
theorem dX12_step_183 : decode cX12_step 183 = .ok (.aload_n 0, 1) := by decide +kernel
theorem dX12_step_184 : decode cX12_step 184 = .ok (.getfield 783, 3) := by decide +kernel
theorem dX12_step_187 : decode cX12_step 187 = .ok (.iconst 1, 1) := by decide +kernel
theorem dX12_step_188 : decode cX12_step 188 = .ok (.isub, 1) := by decide +kernel
theorem dX12_step_189 : decode cX12_step 189 = .ok (.iaload, 1) := by decide +kernel
theorem dX12_step_190 : decode cX12_step 190 = .ok (.goto 5, 3) := by decide +kernel
theorem dX12_step_193 : decode cX12_step 193 = .ok (.iload 4, 2) := by decide +kernel
theorem dX12_step_195 : decode cX12_step 195 = .ok (.invokevirtual 853, 3) := by decide +kernel
theorem dX12_step_198 : decode cX12_step 198 = .ok (.goto 175, 3) := by decide +kernel
theorem dX12_step_201 : decode cX12_step 201 = .ok (.aload_n 0, 1) := by decide +kernel
theorem dX12_step_202 : decode cX12_step 202 = .ok (.iload_n 3, 1) := by decide +kernel
theorem dX12_step_203 : decode cX12_step 203 = .ok (.ifCond .ge 20, 3) := by decide +kernel
theorem dX12_step_206 : decode cX12_step 206 = .ok (.aload_n 0, 1) := by decide +kernel
theorem dX12_step_207 : decode cX12_step 207 = .ok (.getfield 330, 3) := by decide +kernel
theorem dX12_step_210 : decode cX12_step 210 = .ok (.aload_n 0, 1) := by decide +kernel
theorem dX12_step_211 : decode cX12_step 211 = .ok (.iload_n 2, 1) := by decide +kernel
theorem dX12_step_212 : decode cX12_step 212 = .ok (.iconst (-1), 1) := by decide +kernel
theorem dX12_step_213 : decode cX12_step 213 = .ok (.iload_n 3, 1) := by decide +kernel
theorem dX12_step_214 : decode cX12_step 214 = .ok (.isub, 1) := by decide +kernel
theorem dX12_step_215 : decode cX12_step 215 = .ok (.invokevirtual 850, 3) := by decide +kernel
theorem dX12_step_218 : decode cX12_step 218 = .ok (.laload, 1) := by decide +kernel
theorem dX12_step_219 : decode cX12_step 219 = .ok (.l2i, 1) := by decide +kernel
theorem dX12_step_220 : decode cX12_step 220 = .ok (.goto 9, 3) := by decide +kernel
theorem dX12_step_223 : decode cX12_step 223 = .ok (.aload_n 0, 1) := by decide +kernel
theorem dX12_step_224 : decode cX12_step 224 = .ok (.iload_n 2, 1) := by decide +kernel
theorem dX12_step_225 : decode cX12_step 225 = .ok (.iload_n 3, 1) := by decide +kernel
theorem dX12_step_226 : decode cX12_step 226 = .ok (.invokevirtual 850, 3) := by decide +kernel
theorem dX12_step_229 : decode cX12_step 229 = .ok (.iload 4, 2) := by decide +kernel
theorem dX12_step_231 : decode cX12_step 231 = .ok (.invokevirtual 856, 3) := by decide +kernel
theorem dX12_step_234 : decode cX12_step 234 = .ok (.goto 139, 3) := by decide +kernel
theorem dX12_step_237 : decode cX12_step 237 = .ok (.aload_n 0, 1) := by decide +kernel
theorem dX12_step_238 : decode cX12_step 238 = .ok (.aload_n 0, 1) := by decide +kernel
theorem dX12_step_239 : decode cX12_step 239 = .ok (.aload_n 0, 1) := by decide +kernel
theorem dX12_step_240 : decode cX12_step 240 = .ok (.invokevirtual 810, 3) := by decide +kernel
theorem dX12_step_243 : decode cX12_step 243 = .ok (.invokevirtual 814, 3) := by decide +kernel
theorem dX12_step_246 : decode cX12_step 246 = .ok (.invokevirtual 817, 3) := by decide +kernel
theorem dX12_step_249 : decode cX12_step 249 = .ok (.goto 124, 3) := by decide +kernel
theorem dX12_step_252 : decode cX12_step 252 = .ok (.aload_n 0, 1) := by decide +kernel
theorem dX12_step_253 : decode cX12_step 253 = .ok (.invokevirtual 810, 3) := by decide +kernel
theorem dX12_step_256 : decode cX12_step 256 = .ok (.lstore 5, 2) := by decide +kernel
theorem dX12_step_258 : decode cX12_step 258 = .ok (.iconst 0, 1) := by decide +kernel
theorem dX12_step_259 : decode cX12_step 259 = .ok (.istore 7, 2) := by decide +kernel
theorem dX12_step_261 : decode cX12_step 261 = .ok (.iload 7, 2) := by decide +kernel
theorem dX12_step_263 : decode cX12_step 263 = .ok (.iload_n 2, 1) := by decide +kernel
theorem dX12_step_264 : decode cX12_step 264 = .ok (.if_icmp .ge 19, 3) := by decide +kernel
theorem dX12_step_267 : decode cX12_step 267 = .ok (.aload_n 0, 1) := by decide +kernel
theorem dX12_step_268 : decode cX12_step 268 = .ok (.aload_n 0, 1) := by decide +kernel
theorem dX12_step_269 : decode cX12_step 269 = .ok (.invokevirtual 810, 3) := by decide +kernel
theorem dX12_step_272 : decode cX12_step 272 = .ok (.lload 5, 2) := by decide +kernel
theorem dX12_step_274 : decode cX12_step 274 = .ok (.invokevirtual 858, 3) := by decide +kernel
theorem dX12_step_277 : decode cX12_step 277 = .ok (.iinc 7 1, 3) := by decide +kernel
theorem dX12_step_280 : decode cX12_step 280 = .ok (.goto (-19), 3) := by decide +kernel
theorem dX12_step_283 : decode cX12_step 283 = .ok (.goto 90, 3) := by decide +kernel
theorem dX12_step_286 : decode cX12_step 286 = .ok (.aload_n 0, 1) := by decide +kernel
theorem dX12_step_287 : decode cX12_step 287 = .ok (.iload_n 2, 1) := by decide +kernel
theorem dX12_step_288 : decode cX12_step 288 = .ok (.invokevirtual 861, 3) := by decide +kernel
theorem dX12_step_291 : decode cX12_step 291 = .ok (.goto 82, 3) := by decide +kernel
theorem dX12_step_294 : decode cX12_step 294 = .ok (.aload_n 0, 1) := by decide +kernel
theorem dX12_step_295 : decode cX12_step 295 = .ok (.iload_n 2, 1) := by decide +kernel
theorem dX12_step_296 : decode cX12_step 296 = .ok (.sipush 281, 3) := by decide +kernel
theorem dX12_step_299 : decode cX12_step 299 = .ok (.if_icmp .ne 12, 3) := by decide +kernel
theorem dX12_step_302 : decode cX12_step 302 = .ok (.lconst 1, 1) := by decide +kernel
theorem dX12_step_303 : decode cX12_step 303 = .ok (.aload_n 0, 1) := by decide +kernel
theorem dX12_step_304 : decode cX12_step 304 = .ok (.invokevirtual 810, 3) := by decide +kernel
theorem dX12_step_307 : decode cX12_step 307 = .ok (.lsub, 1) := by decide +kernel
theorem dX12_step_308 : decode cX12_step 308 = .ok (.goto 11, 3) := by decide +kernel
theorem dX12_step_311 : decode cX12_step 311 = .ok (.aload_n 0, 1) := by decide +kernel
theorem dX12_step_312 : decode cX12_step 312 = .ok (.invokevirtual 810, 3) := by decide +kernel
theorem dX12_step_315 : decode cX12_step 315 = .ok (.lneg, 1) := by decide +kernel
theorem dX12_step_316 : decode cX12_step 316 = .ok (.invokestatic 840, 3) := by decide +kernel
theorem dX12_step_319 : decode cX12_step 319 = .ok (.invokevirtual 817, 3) := by decide +kernel
theorem dX12_step_322 : decode cX12_step 322 = .ok (.goto 51, 3) := by decide +kernel
theorem dX12_step_325 : decode cX12_step 325 = .ok (.aload_n 0, 1) := by decide +kernel
theorem dX12_step_326 : decode cX12_step 326 = .ok (.iload_n 2, 1) := by decide +kernel
theorem dX12_step_327 : decode cX12_step 327 = .ok (.putfield 786, 3) := by decide +kernel
theorem dX12_step_330 : decode cX12_step 330 = .ok (.goto 43, 3) := by decide +kernel
theorem dX12_step_333 : decode cX12_step 333 = .ok (.aload_n 0, 1) := by decide +kernel
theorem dX12_step_334 : decode cX12_step 334 = .ok (.invokevirtual 810, 3) := by decide +kernel
theorem dX12_step_337 : decode cX12_step 337 = .ok (.lconst 0, 1) := by decide +kernel
theorem dX12_step_338 : decode cX12_step 338 = .ok (.lcmp, 1) := by decide +kernel
theorem dX12_step_339 : decode cX12_step 339 = .ok (.ifCond .ne 34, 3) := by decide +kernel
theorem dX12_step_342 : decode cX12_step 342 = .ok (.aload_n 0, 1) := by decide +kernel
theorem dX12_step_343 : decode cX12_step 343 = .ok (.iload_n 2, 1) := by decide +kernel
theorem dX12_step_344 : decode cX12_step 344 = .ok (.putfield 786, 3) := by decide +kernel
theorem dX12_step_347 : decode cX12_step 347 = .ok (.goto 26, 3) := by decide +kernel
theorem dX12_step_350 : decode cX12_step 350 = .ok (.aload_n 0, 1) := by decide +kernel
theorem dX12_step_351 : decode cX12_step 351 = .ok (.invokevirtual 795, 3) := by decide +kernel
theorem dX12_step_354 : decode cX12_step 354 = .ok (.istore 5, 2) := by decide +kernel
theorem dX12_step_356 : decode cX12_step 356 = .ok (.goto 17, 3) := by decide +kernel
theorem dX12_step_359 : decode cX12_step 359 = .ok (.aload_n 0, 1) := by decide +kernel
theorem dX12_step_360 : decode cX12_step 360 = .ok (.aload_n 0, 1) := by decide +kernel
theorem dX12_step_361 : decode cX12_step 361 = .ok (.getfield 260, 3) := by decide +kernel
theorem dX12_step_364 : decode cX12_step 364 = .ok (.iload_n 1, 1) := by decide +kernel
theorem dX12_step_365 : decode cX12_step 365 = .ok (.iaload, 1) := by decide +kernel
theorem dX12_step_366 : decode cX12_step 366 = .ok (.iload_n 2, 1) := by decide +kernel
theorem dX12_step_367 : decode cX12_step 367 = .ok (.iload_n 3, 1) := by decide +kernel
theorem dX12_step_368 : decode cX12_step 368 = .ok (.iload 4, 2) := by decide +kernel
theorem dX12_step_370 : decode cX12_step 370 = .ok (.invokevirtual 864, 3) := by decide +kernel
theorem dX12_step_373 : decode cX12_step 373 = .ok (.return_, 1) := by decide +kernel
def fX12_step_261 (k_261 : Int32 → Int64 → Int32 → Wd → Option Wd) (a2 : Int32) (a5 : Int64) (a7 : Int32) (w : Wd) : Option Wd :=
  if a2 ≤ a7 then (some w) else (bn2 (fX12_pop w) fun x2 w3 => bn (fX12_write x2 a5 w3) fun w4 => lt (a7 + 1) fun x5 => k_261 a2 a5 x5 w4)
theorem pX12_step_261 {q : Gq} {l : Launch} {N : Option Value → Wd → Prop} {X : String → Wd → Prop} {w : Wd} {R : Wd} (hN : N none R) {k_261 : Int32 → Int64 → Int32 → Wd → Option Wd} (hk_261 : ∀ (a2 : Int32) (a5 : Int64) (a7 : Int32) (w : Wd), k_261 a2 a5 a7 w = some R → RT (GM q) l 4 yX12_step cX12_step 8 (none) N X 261 [] [(0, .ref 0), (2, .int a2), (5, .long a5), (7, .int a7)] w) {a2 : Int32} {a5 : Int64} {a7 : Int32} (h : fX12_step_261 k_261 a2 a5 a7 w = some R) : RT (GM q) l 4 yX12_step cX12_step 8 (none) N X 261 [] [(0, .ref 0), (2, .int a2), (5, .long a5), (7, .int a7)] w := by
  unfold fX12_step_261 at h
  refine r_iload (pc := 261) dX12_step_261 3 rfl ?_
  refine r_iload_n (pc := 263) dX12_step_263 rfl 1 rfl ?_
  refine r_icmp_ge (pc := 264) dX12_step_264 rfl (fun hc1 => ?_) (fun hc1 => ?_)
  · replace h := if_t hc1 h
    refine r_goto (pc := 283) dX12_step_283 rfl ?_
    exact rO_v (pc := 373) rfl dX12_step_373 h hN
  replace h := if_f hc1 h
  refine r_aload_n (pc := 267) dX12_step_267 rfl 0 rfl ?_
  refine r_aload_n (pc := 268) dX12_step_268 rfl 0 rfl ?_
  replace h := bn2_e h; obtain ⟨x2, w3, ew3, h⟩ := h
  refine r_cVl (pc := 269) wyX12_pop oM0 rfl mlRX12_810 iyX12_pop syX12_pop ⟨(Nat.le_of_ble_eq_true rfl), (Nat.le_of_ble_eq_true rfl)⟩ rfl rfl (Nat.le_of_ble_eq_true rfl) dX12_step_269 (mX12_pop ew3 (pL.mk ?_))
  refine r_lload (pc := 272) dX12_step_272 2 rfl ?_
  replace h := bn_e h; obtain ⟨w4, ew4, h⟩ := h
  refine r_cVv (pc := 274) wyX12_write oM0 rfl mlRX12_858 iyX12_write syX12_write ⟨(Nat.le_of_ble_eq_true rfl), (Nat.le_of_ble_eq_true rfl)⟩ rfl rfl (Nat.le_of_ble_eq_true rfl) dX12_step_274 (mX12_write ew4 (pV.mk ?_))
  replace h := lt_e h; obtain ⟨x5, ex5, h⟩ := h
  refine r_inc (pc := 277) (loc' := [(7, .int x5), (0, .ref 0), (2, .int a2), (5, .long a5)]) dX12_step_277 ki_1 ex5 3 rfl (Nat.le_of_ble_eq_true rfl) rfl ?_
  refine r_goto (pc := 280) dX12_step_280 rfl ?_
  refine r_drop (loc' := [(0, .ref 0), (2, .int a2), (5, .long a5), (7, .int x5)]) [1, 2, 3, 0] rfl ?_
  exact hk_261 a2 a5 x5 w4 h
def oX12_step_261 : Nat → Int32 → Int64 → Int32 → Wd → Option Wd
  | 0 => fun _ _ _ _ => none
  | n + 1 => fX12_step_261 (oX12_step_261 n)
theorem qX12_step_261 {q : Gq} {l : Launch} {N : Option Value → Wd → Prop} {X : String → Wd → Prop} {R : Wd} (hN : N none R) : ∀ (n : Nat) (a2 : Int32) (a5 : Int64) (a7 : Int32) (w : Wd), oX12_step_261 n a2 a5 a7 w = some R → RT (GM q) l 4 yX12_step cX12_step 8 (none) N X 261 [] [(0, .ref 0), (2, .int a2), (5, .long a5), (7, .int a7)] w := by
  intro n
  induction n with
  | zero =>
    intro a2 a5 a7 w h
    exact absurd h (fun q => nomatch q)
  | succ n ih =>
    intro a2 a5 a7 w h
    exact pX12_step_261 hN ih h
def fX12_step (w : Wd) : Option Wd :=
  lt ((4 * (gi w 0 128))) fun x1 => lt (si w 0 128 ((gi w 0 128) + 1)) fun w2 => if inb (x1 + 1) 240000 = true then lt ((gi w2 60 (Int32.toNatClampNeg (x1 + 1)))) fun x4 => if inb (x1 + 2) 240000 = true then lt ((gi w2 60 (Int32.toNatClampNeg (x1 + 2)))) fun x6 => if inb (x1 + 3) 240000 = true then lt ((gi w2 60 (Int32.toNatClampNeg (x1 + 3)))) fun x8 => if inb x1 240000 = true then lt ((gi w2 60 (Int32.toNatClampNeg x1))) fun x10 => if x10 = 1 then (if 0 ≤ x4 then (if inb x4 8194 = true then bn (fX12_push (gl w2 69 (Int32.toNatClampNeg x4)) w2) fun w14 => some w14 else none) else (bn (fX12_push (Int32.toInt64 x6) w2) fun w15 => some w15)) else if x10 = 2 then (bn2 (fX12_address x4 x6 w2) fun x17 w18 => if inb x17 200000 = true then bn (fX12_push (gl w18 83 (Int32.toNatClampNeg x17)) w18) fun w20 => some w20 else none) else if x10 = 3 then (bn2 (fX12_address x4 x6 w2) fun x22 w23 => bn (fX12_push (Int32.toInt64 x22) w23) fun w24 => some w24) else if x10 = 4 then (bn2 (fX12_address x4 x6 w2) fun x26 w27 => if x8 = 2 then (if inb ((gi w27 0 127) - 1) 1000 = true then bn (fX12_use x26 (gi w27 95 (Int32.toNatClampNeg ((gi w27 0 127) - 1))) w27) fun w30 => some w30 else none) else (bn (fX12_use x26 x8 w27) fun w31 => some w31)) else if x10 = 5 then (if 0 ≤ x6 then (bn2 (fX12_address x4 x6 w2) fun x34 w35 => bn (fX12_element_ x34 x8 w35) fun w36 => some w36) else (bn2 (fX12_address x4 ((-1) - x6) w2) fun x37 w38 => if inb x37 200000 = true then bn (fX12_element_ (Int64.toInt32 (gl w38 83 (Int32.toNatClampNeg x37))) x8 w38) fun w40 => some w40 else none)) else if x10 = 6 then (bn2 (fX12_pop w2) fun x42 w43 => bn2 (fX12_read_ x42 w43) fun x44 w45 => bn (fX12_push x44 w45) fun w46 => some w46) else if x10 = 7 then (bn2 (fX12_pop w2) fun x48 w49 => oX12_step_261 FU x4 x48 0 w49) else if x10 = 8 then (bn (fX12_reckon x4 w2) fun w51 => some w51) else if x10 = 9 then (if x4 = 281 then (bn2 (fX12_pop w2) fun x54 w55 => bn (fX12_push (1 - x54) w55) fun w56 => some w56) else (bn2 (fX12_pop w2) fun x57 w58 => lt (fX12_wrap (-x57) w58) fun x59 => bn (fX12_push x59 w58) fun w60 => some w60)) else if x10 = 10 then (lt (si w2 0 128 x4) fun w62 => some w62) else if x10 = 11 then (bn2 (fX12_pop w2) fun x64 w65 => if x64 = 0 then (lt (si w65 0 128 x4) fun w67 => some w67) else (some w65)) else if x10 = 12 then (lt2 (fX12_pay w2) fun x69 w70 => some w70) else (if inb x1 240000 = true then bn (fX12_other (gi w2 60 (Int32.toNatClampNeg x1)) x4 x6 x8 w2) fun w72 => some w72 else none) else none else none else none else none
set_option maxHeartbeats 16000000 in
theorem pX12_step {q : Gq} {l : Launch} {N : Option Value → Wd → Prop} {X : String → Wd → Prop} {w : Wd} {R : Wd} (hN : N none R) (h : fX12_step w = some R) : RT (GM q) l 4 yX12_step cX12_step 8 (none) N X 0 [] [(0, .ref 0)] w := by
  unfold fX12_step at h
  refine r_iconst (pc := 0) dX12_step_0 ki_4 ?_
  refine r_aload_n (pc := 1) dX12_step_1 rfl 0 rfl ?_
  refine r_get (pc := 2) (j := 128) (v := .int (gi w 0 128)) oM0 cf12 flRX12_786 rfl dX12_step_2 rfl ?_
  refine r_imul (pc := 5) dX12_step_5 ?_
  replace h := lt_e h; obtain ⟨x1, ex1, h⟩ := h
  refine r_topi ex1 ?_
  refine r_istore_n (pc := 6) (loc' := [(1, .int x1), (0, .ref 0)]) dX12_step_6 rfl (Nat.le_of_ble_eq_true rfl) rfl ?_
  refine r_aload_n (pc := 7) dX12_step_7 rfl 1 rfl ?_
  refine r_dup (pc := 8) dX12_step_8 rfl ?_
  refine r_get (pc := 9) (j := 128) (v := .int (gi w 0 128)) oM0 cf12 flRX12_786 rfl dX12_step_9 rfl ?_
  refine r_iconst (pc := 12) dX12_step_12 ki_1 ?_
  refine r_iadd (pc := 13) dX12_step_13 ?_
  replace h := lt_e h; obtain ⟨w2, ew2, h⟩ := h
  refine r_putI (pc := 14) (j := 128) oM0 cf12 flRX12_786 rfl rfl rfl rfl dX12_step_14 ?_
  refine r_w ew2 ?_
  refine r_aload_n (pc := 17) dX12_step_17 rfl 1 rfl ?_
  refine r_get (pc := 18) (j := 88) (v := .ref 60) oM0 cf12 flRX12_260 rfl dX12_step_18 rfl ?_
  refine r_iload_n (pc := 21) dX12_step_21 rfl 0 rfl ?_
  refine r_iconst (pc := 22) dX12_step_22 ki_1 ?_
  refine r_iadd (pc := 23) dX12_step_23 ?_
  replace h := if_n h; obtain ⟨hb3, h⟩ := h
  refine r_iald (pc := 24) aM60 (inb_in hb3) dX12_step_24 ?_
  replace h := lt_e h; obtain ⟨x4, ex4, h⟩ := h
  refine r_topi ex4 ?_
  refine r_istore_n (pc := 25) (loc' := [(2, .int x4), (1, .int x1), (0, .ref 0)]) dX12_step_25 rfl (Nat.le_of_ble_eq_true rfl) rfl ?_
  refine r_aload_n (pc := 26) dX12_step_26 rfl 2 rfl ?_
  refine r_get (pc := 27) (j := 88) (v := .ref 60) oM0 cf12 flRX12_260 rfl dX12_step_27 rfl ?_
  refine r_iload_n (pc := 30) dX12_step_30 rfl 1 rfl ?_
  refine r_iconst (pc := 31) dX12_step_31 ki_2 ?_
  refine r_iadd (pc := 32) dX12_step_32 ?_
  replace h := if_n h; obtain ⟨hb5, h⟩ := h
  refine r_iald (pc := 33) aM60 (inb_in hb5) dX12_step_33 ?_
  replace h := lt_e h; obtain ⟨x6, ex6, h⟩ := h
  refine r_topi ex6 ?_
  refine r_istore_n (pc := 34) (loc' := [(3, .int x6), (2, .int x4), (1, .int x1), (0, .ref 0)]) dX12_step_34 rfl (Nat.le_of_ble_eq_true rfl) rfl ?_
  refine r_aload_n (pc := 35) dX12_step_35 rfl 3 rfl ?_
  refine r_get (pc := 36) (j := 88) (v := .ref 60) oM0 cf12 flRX12_260 rfl dX12_step_36 rfl ?_
  refine r_iload_n (pc := 39) dX12_step_39 rfl 2 rfl ?_
  refine r_iconst (pc := 40) dX12_step_40 ki_3 ?_
  refine r_iadd (pc := 41) dX12_step_41 ?_
  replace h := if_n h; obtain ⟨hb7, h⟩ := h
  refine r_iald (pc := 42) aM60 (inb_in hb7) dX12_step_42 ?_
  replace h := lt_e h; obtain ⟨x8, ex8, h⟩ := h
  refine r_topi ex8 ?_
  refine r_istore (pc := 43) (loc' := [(4, .int x8), (3, .int x6), (2, .int x4), (1, .int x1), (0, .ref 0)]) dX12_step_43 (Nat.le_of_ble_eq_true rfl) rfl ?_
  refine r_aload_n (pc := 45) dX12_step_45 rfl 4 rfl ?_
  refine r_get (pc := 46) (j := 88) (v := .ref 60) oM0 cf12 flRX12_260 rfl dX12_step_46 rfl ?_
  refine r_iload_n (pc := 49) dX12_step_49 rfl 3 rfl ?_
  replace h := if_n h; obtain ⟨hb9, h⟩ := h
  refine r_iald (pc := 50) aM60 (inb_in hb9) dX12_step_50 ?_
  replace h := lt_e h; obtain ⟨x10, ex10, h⟩ := h
  refine r_topi ex10 ?_
  by_cases hc11 : x10 = 1
  · refine r_tabC (pc := 51) (off := 61) (tgt := 112) (L := [1]) dX12_step_51 hc11 (by decide) rfl ?_
    replace h := if_t hc11 h
    refine r_aload_n (pc := 112) dX12_step_112 rfl 4 rfl ?_
    refine r_iload_n (pc := 113) dX12_step_113 rfl 2 rfl ?_
    refine r_if_ge (pc := 114) dX12_step_114 rfl (fun hc12 => ?_) (fun hc12 => ?_)
    · replace h := if_t hc12 h
      refine r_aload_n (pc := 122) dX12_step_122 rfl 4 rfl ?_
      refine r_get (pc := 123) (j := 97) (v := .ref 69) oM0 cf12 flRX12_287 rfl dX12_step_123 rfl ?_
      refine r_iload_n (pc := 126) dX12_step_126 rfl 2 rfl ?_
      replace h := if_n h; obtain ⟨hb13, h⟩ := h
      refine r_lald (pc := 127) aM69 (inb_in hb13) dX12_step_127 ?_
      replace h := bn_e h; obtain ⟨w14, ew14, h⟩ := h
      refine r_cVv (pc := 128) wyX12_push oM0 rfl mlRX12_817 iyX12_push syX12_push ⟨(Nat.le_of_ble_eq_true rfl), (Nat.le_of_ble_eq_true rfl)⟩ rfl rfl (Nat.le_of_ble_eq_true rfl) dX12_step_128 (mX12_push ew14 (pV.mk ?_))
      refine r_goto (pc := 131) dX12_step_131 rfl ?_
      exact rO_v (pc := 373) rfl dX12_step_373 h hN
    replace h := if_f hc12 h
    refine r_iload_n (pc := 117) dX12_step_117 rfl 1 rfl ?_
    refine r_i2l (pc := 118) dX12_step_118 ?_
    refine r_goto (pc := 119) dX12_step_119 rfl ?_
    replace h := bn_e h; obtain ⟨w15, ew15, h⟩ := h
    refine r_cVv (pc := 128) wyX12_push oM0 rfl mlRX12_817 iyX12_push syX12_push ⟨(Nat.le_of_ble_eq_true rfl), (Nat.le_of_ble_eq_true rfl)⟩ rfl rfl (Nat.le_of_ble_eq_true rfl) dX12_step_128 (mX12_push ew15 (pV.mk ?_))
    refine r_goto (pc := 131) dX12_step_131 rfl ?_
    exact rO_v (pc := 373) rfl dX12_step_373 h hN
  replace h := if_f hc11 h
  by_cases hc16 : x10 = 2
  · refine r_tabC (pc := 51) (off := 83) (tgt := 134) (L := [2]) dX12_step_51 hc16 (by decide) rfl ?_
    replace h := if_t hc16 h
    refine r_aload_n (pc := 134) dX12_step_134 rfl 4 rfl ?_
    refine r_aload_n (pc := 135) dX12_step_135 rfl 4 rfl ?_
    refine r_get (pc := 136) (j := 112) (v := .ref 83) oM0 cf12 flRX12_330 rfl dX12_step_136 rfl ?_
    refine r_aload_n (pc := 139) dX12_step_139 rfl 4 rfl ?_
    refine r_iload_n (pc := 140) dX12_step_140 rfl 2 rfl ?_
    refine r_iload_n (pc := 141) dX12_step_141 rfl 1 rfl ?_
    replace h := bn2_e h; obtain ⟨x17, w18, ew18, h⟩ := h
    refine r_cVi (pc := 142) wyX12_address oM0 rfl mlRX12_850 iyX12_address syX12_address ⟨(Nat.le_of_ble_eq_true rfl), (Nat.le_of_ble_eq_true rfl)⟩ rfl rfl (Nat.le_of_ble_eq_true rfl) dX12_step_142 (mX12_address ew18 (pI.mk ?_))
    replace h := if_n h; obtain ⟨hb19, h⟩ := h
    refine r_lald (pc := 145) aM83 (inb_in hb19) dX12_step_145 ?_
    replace h := bn_e h; obtain ⟨w20, ew20, h⟩ := h
    refine r_cVv (pc := 146) wyX12_push oM0 rfl mlRX12_817 iyX12_push syX12_push ⟨(Nat.le_of_ble_eq_true rfl), (Nat.le_of_ble_eq_true rfl)⟩ rfl rfl (Nat.le_of_ble_eq_true rfl) dX12_step_146 (mX12_push ew20 (pV.mk ?_))
    refine r_goto (pc := 149) dX12_step_149 rfl ?_
    exact rO_v (pc := 373) rfl dX12_step_373 h hN
  replace h := if_f hc16 h
  by_cases hc21 : x10 = 3
  · refine r_tabC (pc := 51) (off := 101) (tgt := 152) (L := [3]) dX12_step_51 hc21 (by decide) rfl ?_
    replace h := if_t hc21 h
    refine r_aload_n (pc := 152) dX12_step_152 rfl 4 rfl ?_
    refine r_aload_n (pc := 153) dX12_step_153 rfl 4 rfl ?_
    refine r_iload_n (pc := 154) dX12_step_154 rfl 2 rfl ?_
    refine r_iload_n (pc := 155) dX12_step_155 rfl 1 rfl ?_
    replace h := bn2_e h; obtain ⟨x22, w23, ew23, h⟩ := h
    refine r_cVi (pc := 156) wyX12_address oM0 rfl mlRX12_850 iyX12_address syX12_address ⟨(Nat.le_of_ble_eq_true rfl), (Nat.le_of_ble_eq_true rfl)⟩ rfl rfl (Nat.le_of_ble_eq_true rfl) dX12_step_156 (mX12_address ew23 (pI.mk ?_))
    refine r_i2l (pc := 159) dX12_step_159 ?_
    replace h := bn_e h; obtain ⟨w24, ew24, h⟩ := h
    refine r_cVv (pc := 160) wyX12_push oM0 rfl mlRX12_817 iyX12_push syX12_push ⟨(Nat.le_of_ble_eq_true rfl), (Nat.le_of_ble_eq_true rfl)⟩ rfl rfl (Nat.le_of_ble_eq_true rfl) dX12_step_160 (mX12_push ew24 (pV.mk ?_))
    refine r_goto (pc := 163) dX12_step_163 rfl ?_
    exact rO_v (pc := 373) rfl dX12_step_373 h hN
  replace h := if_f hc21 h
  by_cases hc25 : x10 = 4
  · refine r_tabC (pc := 51) (off := 115) (tgt := 166) (L := [4]) dX12_step_51 hc25 (by decide) rfl ?_
    replace h := if_t hc25 h
    refine r_aload_n (pc := 166) dX12_step_166 rfl 4 rfl ?_
    refine r_aload_n (pc := 167) dX12_step_167 rfl 4 rfl ?_
    refine r_iload_n (pc := 168) dX12_step_168 rfl 2 rfl ?_
    refine r_iload_n (pc := 169) dX12_step_169 rfl 1 rfl ?_
    replace h := bn2_e h; obtain ⟨x26, w27, ew27, h⟩ := h
    refine r_cVi (pc := 170) wyX12_address oM0 rfl mlRX12_850 iyX12_address syX12_address ⟨(Nat.le_of_ble_eq_true rfl), (Nat.le_of_ble_eq_true rfl)⟩ rfl rfl (Nat.le_of_ble_eq_true rfl) dX12_step_170 (mX12_address ew27 (pI.mk ?_))
    refine r_iload (pc := 173) dX12_step_173 0 rfl ?_
    refine r_iconst (pc := 175) dX12_step_175 ki_2 ?_
    refine r_icmp_ne (pc := 176) dX12_step_176 rfl (fun hc28 => ?_) (fun hc28 => ?_)
    · replace h := if_f hc28 h
      refine r_iload (pc := 193) dX12_step_193 0 rfl ?_
      replace h := bn_e h; obtain ⟨w31, ew31, h⟩ := h
      refine r_cVv (pc := 195) wyX12_use oM0 rfl mlRX12_853 iyX12_use syX12_use ⟨(Nat.le_of_ble_eq_true rfl), (Nat.le_of_ble_eq_true rfl)⟩ rfl rfl (Nat.le_of_ble_eq_true rfl) dX12_step_195 (mX12_use ew31 (pV.mk ?_))
      refine r_goto (pc := 198) dX12_step_198 rfl ?_
      exact rO_v (pc := 373) rfl dX12_step_373 h hN
    replace h := if_t hc28 h
    refine r_aload_n (pc := 179) dX12_step_179 rfl 4 rfl ?_
    refine r_get (pc := 180) (j := 124) (v := .ref 95) oM0 cf12 flRX12_366 rfl dX12_step_180 rfl ?_
    refine r_aload_n (pc := 183) dX12_step_183 rfl 4 rfl ?_
    refine r_get (pc := 184) (j := 127) (v := .int (gi w27 0 127)) oM0 cf12 flRX12_783 rfl dX12_step_184 rfl ?_
    refine r_iconst (pc := 187) dX12_step_187 ki_1 ?_
    refine r_isub (pc := 188) dX12_step_188 ?_
    replace h := if_n h; obtain ⟨hb29, h⟩ := h
    refine r_iald (pc := 189) aM95 (inb_in hb29) dX12_step_189 ?_
    refine r_goto (pc := 190) dX12_step_190 rfl ?_
    replace h := bn_e h; obtain ⟨w30, ew30, h⟩ := h
    refine r_cVv (pc := 195) wyX12_use oM0 rfl mlRX12_853 iyX12_use syX12_use ⟨(Nat.le_of_ble_eq_true rfl), (Nat.le_of_ble_eq_true rfl)⟩ rfl rfl (Nat.le_of_ble_eq_true rfl) dX12_step_195 (mX12_use ew30 (pV.mk ?_))
    refine r_goto (pc := 198) dX12_step_198 rfl ?_
    exact rO_v (pc := 373) rfl dX12_step_373 h hN
  replace h := if_f hc25 h
  by_cases hc32 : x10 = 5
  · refine r_tabC (pc := 51) (off := 150) (tgt := 201) (L := [5]) dX12_step_51 hc32 (by decide) rfl ?_
    replace h := if_t hc32 h
    refine r_aload_n (pc := 201) dX12_step_201 rfl 4 rfl ?_
    refine r_iload_n (pc := 202) dX12_step_202 rfl 1 rfl ?_
    refine r_if_ge (pc := 203) dX12_step_203 rfl (fun hc33 => ?_) (fun hc33 => ?_)
    · replace h := if_t hc33 h
      refine r_aload_n (pc := 223) dX12_step_223 rfl 4 rfl ?_
      refine r_iload_n (pc := 224) dX12_step_224 rfl 2 rfl ?_
      refine r_iload_n (pc := 225) dX12_step_225 rfl 1 rfl ?_
      replace h := bn2_e h; obtain ⟨x34, w35, ew35, h⟩ := h
      refine r_cVi (pc := 226) wyX12_address oM0 rfl mlRX12_850 iyX12_address syX12_address ⟨(Nat.le_of_ble_eq_true rfl), (Nat.le_of_ble_eq_true rfl)⟩ rfl rfl (Nat.le_of_ble_eq_true rfl) dX12_step_226 (mX12_address ew35 (pI.mk ?_))
      refine r_iload (pc := 229) dX12_step_229 0 rfl ?_
      replace h := bn_e h; obtain ⟨w36, ew36, h⟩ := h
      refine r_cVv (pc := 231) wyX12_element_ oM0 rfl mlRX12_856 iyX12_element_ syX12_element_ ⟨(Nat.le_of_ble_eq_true rfl), (Nat.le_of_ble_eq_true rfl)⟩ rfl rfl (Nat.le_of_ble_eq_true rfl) dX12_step_231 (mX12_element_ ew36 (pV.mk ?_))
      refine r_goto (pc := 234) dX12_step_234 rfl ?_
      exact rO_v (pc := 373) rfl dX12_step_373 h hN
    replace h := if_f hc33 h
    refine r_aload_n (pc := 206) dX12_step_206 rfl 4 rfl ?_
    refine r_get (pc := 207) (j := 112) (v := .ref 83) oM0 cf12 flRX12_330 rfl dX12_step_207 rfl ?_
    refine r_aload_n (pc := 210) dX12_step_210 rfl 4 rfl ?_
    refine r_iload_n (pc := 211) dX12_step_211 rfl 2 rfl ?_
    refine r_iconst (pc := 212) dX12_step_212 ki_m1 ?_
    refine r_iload_n (pc := 213) dX12_step_213 rfl 1 rfl ?_
    refine r_isub (pc := 214) dX12_step_214 ?_
    replace h := bn2_e h; obtain ⟨x37, w38, ew38, h⟩ := h
    refine r_cVi (pc := 215) wyX12_address oM0 rfl mlRX12_850 iyX12_address syX12_address ⟨(Nat.le_of_ble_eq_true rfl), (Nat.le_of_ble_eq_true rfl)⟩ rfl rfl (Nat.le_of_ble_eq_true rfl) dX12_step_215 (mX12_address ew38 (pI.mk ?_))
    replace h := if_n h; obtain ⟨hb39, h⟩ := h
    refine r_lald (pc := 218) aM83 (inb_in hb39) dX12_step_218 ?_
    refine r_l2i (pc := 219) dX12_step_219 ?_
    refine r_goto (pc := 220) dX12_step_220 rfl ?_
    refine r_iload (pc := 229) dX12_step_229 0 rfl ?_
    replace h := bn_e h; obtain ⟨w40, ew40, h⟩ := h
    refine r_cVv (pc := 231) wyX12_element_ oM0 rfl mlRX12_856 iyX12_element_ syX12_element_ ⟨(Nat.le_of_ble_eq_true rfl), (Nat.le_of_ble_eq_true rfl)⟩ rfl rfl (Nat.le_of_ble_eq_true rfl) dX12_step_231 (mX12_element_ ew40 (pV.mk ?_))
    refine r_goto (pc := 234) dX12_step_234 rfl ?_
    exact rO_v (pc := 373) rfl dX12_step_373 h hN
  replace h := if_f hc32 h
  by_cases hc41 : x10 = 6
  · refine r_tabC (pc := 51) (off := 186) (tgt := 237) (L := [6]) dX12_step_51 hc41 (by decide) rfl ?_
    replace h := if_t hc41 h
    refine r_aload_n (pc := 237) dX12_step_237 rfl 4 rfl ?_
    refine r_aload_n (pc := 238) dX12_step_238 rfl 4 rfl ?_
    refine r_aload_n (pc := 239) dX12_step_239 rfl 4 rfl ?_
    replace h := bn2_e h; obtain ⟨x42, w43, ew43, h⟩ := h
    refine r_cVl (pc := 240) wyX12_pop oM0 rfl mlRX12_810 iyX12_pop syX12_pop ⟨(Nat.le_of_ble_eq_true rfl), (Nat.le_of_ble_eq_true rfl)⟩ rfl rfl (Nat.le_of_ble_eq_true rfl) dX12_step_240 (mX12_pop ew43 (pL.mk ?_))
    replace h := bn2_e h; obtain ⟨x44, w45, ew45, h⟩ := h
    refine r_cVl (pc := 243) wyX12_read_ oM0 rfl mlRX12_814 iyX12_read_ syX12_read_ ⟨(Nat.le_of_ble_eq_true rfl), (Nat.le_of_ble_eq_true rfl)⟩ rfl rfl (Nat.le_of_ble_eq_true rfl) dX12_step_243 (mX12_read_ ew45 (pL.mk ?_))
    replace h := bn_e h; obtain ⟨w46, ew46, h⟩ := h
    refine r_cVv (pc := 246) wyX12_push oM0 rfl mlRX12_817 iyX12_push syX12_push ⟨(Nat.le_of_ble_eq_true rfl), (Nat.le_of_ble_eq_true rfl)⟩ rfl rfl (Nat.le_of_ble_eq_true rfl) dX12_step_246 (mX12_push ew46 (pV.mk ?_))
    refine r_goto (pc := 249) dX12_step_249 rfl ?_
    exact rO_v (pc := 373) rfl dX12_step_373 h hN
  replace h := if_f hc41 h
  by_cases hc47 : x10 = 7
  · refine r_tabC (pc := 51) (off := 201) (tgt := 252) (L := [7]) dX12_step_51 hc47 (by decide) rfl ?_
    replace h := if_t hc47 h
    refine r_aload_n (pc := 252) dX12_step_252 rfl 4 rfl ?_
    replace h := bn2_e h; obtain ⟨x48, w49, ew49, h⟩ := h
    refine r_cVl (pc := 253) wyX12_pop oM0 rfl mlRX12_810 iyX12_pop syX12_pop ⟨(Nat.le_of_ble_eq_true rfl), (Nat.le_of_ble_eq_true rfl)⟩ rfl rfl (Nat.le_of_ble_eq_true rfl) dX12_step_253 (mX12_pop ew49 (pL.mk ?_))
    refine r_lstore (pc := 256) (loc' := [(5, .long x48), (4, .int x8), (3, .int x6), (2, .int x4), (1, .int x1), (0, .ref 0)]) dX12_step_256 (Nat.le_of_ble_eq_true rfl) rfl ?_
    refine r_iconst (pc := 258) dX12_step_258 ki_0 ?_
    refine r_istore (pc := 259) (loc' := [(7, .int 0), (5, .long x48), (4, .int x8), (3, .int x6), (2, .int x4), (1, .int x1), (0, .ref 0)]) dX12_step_259 (Nat.le_of_ble_eq_true rfl) rfl ?_
    refine r_drop (loc' := [(0, .ref 0), (2, .int x4), (5, .long x48), (7, .int 0)]) [6, 4, 1, 0] rfl ?_
    exact qX12_step_261 hN FU x4 x48 0 w49 h
  replace h := if_f hc47 h
  by_cases hc50 : x10 = 8
  · refine r_tabC (pc := 51) (off := 235) (tgt := 286) (L := [8]) dX12_step_51 hc50 (by decide) rfl ?_
    replace h := if_t hc50 h
    refine r_aload_n (pc := 286) dX12_step_286 rfl 4 rfl ?_
    refine r_iload_n (pc := 287) dX12_step_287 rfl 2 rfl ?_
    replace h := bn_e h; obtain ⟨w51, ew51, h⟩ := h
    refine r_cVv (pc := 288) wyX12_reckon oM0 rfl mlRX12_861 iyX12_reckon syX12_reckon ⟨(Nat.le_of_ble_eq_true rfl), (Nat.le_of_ble_eq_true rfl)⟩ rfl rfl (Nat.le_of_ble_eq_true rfl) dX12_step_288 (mX12_reckon ew51 (pV.mk ?_))
    refine r_goto (pc := 291) dX12_step_291 rfl ?_
    exact rO_v (pc := 373) rfl dX12_step_373 h hN
  replace h := if_f hc50 h
  by_cases hc52 : x10 = 9
  · refine r_tabC (pc := 51) (off := 243) (tgt := 294) (L := [9]) dX12_step_51 hc52 (by decide) rfl ?_
    replace h := if_t hc52 h
    refine r_aload_n (pc := 294) dX12_step_294 rfl 4 rfl ?_
    refine r_iload_n (pc := 295) dX12_step_295 rfl 2 rfl ?_
    refine r_sipush (pc := 296) dX12_step_296 ks_281 ?_
    refine r_icmp_ne (pc := 299) dX12_step_299 rfl (fun hc53 => ?_) (fun hc53 => ?_)
    · replace h := if_f hc53 h
      refine r_aload_n (pc := 311) dX12_step_311 rfl 4 rfl ?_
      replace h := bn2_e h; obtain ⟨x57, w58, ew58, h⟩ := h
      refine r_cVl (pc := 312) wyX12_pop oM0 rfl mlRX12_810 iyX12_pop syX12_pop ⟨(Nat.le_of_ble_eq_true rfl), (Nat.le_of_ble_eq_true rfl)⟩ rfl rfl (Nat.le_of_ble_eq_true rfl) dX12_step_312 (mX12_pop ew58 (pL.mk ?_))
      refine r_lneg (pc := 315) dX12_step_315 ?_
      replace h := lt_e h; obtain ⟨x59, ex59, h⟩ := h
      refine r_cSl (pc := 316) wyX12_wrap mlRX12_840 tyX12_wrap ⟨(Nat.le_of_ble_eq_true rfl), (Nat.le_of_ble_eq_true rfl)⟩ rfl rfl (Nat.le_of_ble_eq_true rfl) dX12_step_316 (mX12_wrap ex59 (pL.mk ?_))
      replace h := bn_e h; obtain ⟨w60, ew60, h⟩ := h
      refine r_cVv (pc := 319) wyX12_push oM0 rfl mlRX12_817 iyX12_push syX12_push ⟨(Nat.le_of_ble_eq_true rfl), (Nat.le_of_ble_eq_true rfl)⟩ rfl rfl (Nat.le_of_ble_eq_true rfl) dX12_step_319 (mX12_push ew60 (pV.mk ?_))
      refine r_goto (pc := 322) dX12_step_322 rfl ?_
      exact rO_v (pc := 373) rfl dX12_step_373 h hN
    replace h := if_t hc53 h
    refine r_lconst (pc := 302) dX12_step_302 kl_1 ?_
    refine r_aload_n (pc := 303) dX12_step_303 rfl 4 rfl ?_
    replace h := bn2_e h; obtain ⟨x54, w55, ew55, h⟩ := h
    refine r_cVl (pc := 304) wyX12_pop oM0 rfl mlRX12_810 iyX12_pop syX12_pop ⟨(Nat.le_of_ble_eq_true rfl), (Nat.le_of_ble_eq_true rfl)⟩ rfl rfl (Nat.le_of_ble_eq_true rfl) dX12_step_304 (mX12_pop ew55 (pL.mk ?_))
    refine r_lsub (pc := 307) dX12_step_307 ?_
    refine r_goto (pc := 308) dX12_step_308 rfl ?_
    replace h := bn_e h; obtain ⟨w56, ew56, h⟩ := h
    refine r_cVv (pc := 319) wyX12_push oM0 rfl mlRX12_817 iyX12_push syX12_push ⟨(Nat.le_of_ble_eq_true rfl), (Nat.le_of_ble_eq_true rfl)⟩ rfl rfl (Nat.le_of_ble_eq_true rfl) dX12_step_319 (mX12_push ew56 (pV.mk ?_))
    refine r_goto (pc := 322) dX12_step_322 rfl ?_
    exact rO_v (pc := 373) rfl dX12_step_373 h hN
  replace h := if_f hc52 h
  by_cases hc61 : x10 = 10
  · refine r_tabC (pc := 51) (off := 274) (tgt := 325) (L := [10]) dX12_step_51 hc61 (by decide) rfl ?_
    replace h := if_t hc61 h
    refine r_aload_n (pc := 325) dX12_step_325 rfl 4 rfl ?_
    refine r_iload_n (pc := 326) dX12_step_326 rfl 2 rfl ?_
    replace h := lt_e h; obtain ⟨w62, ew62, h⟩ := h
    refine r_putI (pc := 327) (j := 128) oM0 cf12 flRX12_786 rfl rfl rfl rfl dX12_step_327 ?_
    refine r_w ew62 ?_
    refine r_goto (pc := 330) dX12_step_330 rfl ?_
    exact rO_v (pc := 373) rfl dX12_step_373 h hN
  replace h := if_f hc61 h
  by_cases hc63 : x10 = 11
  · refine r_tabC (pc := 51) (off := 282) (tgt := 333) (L := [11]) dX12_step_51 hc63 (by decide) rfl ?_
    replace h := if_t hc63 h
    refine r_aload_n (pc := 333) dX12_step_333 rfl 4 rfl ?_
    replace h := bn2_e h; obtain ⟨x64, w65, ew65, h⟩ := h
    refine r_cVl (pc := 334) wyX12_pop oM0 rfl mlRX12_810 iyX12_pop syX12_pop ⟨(Nat.le_of_ble_eq_true rfl), (Nat.le_of_ble_eq_true rfl)⟩ rfl rfl (Nat.le_of_ble_eq_true rfl) dX12_step_334 (mX12_pop ew65 (pL.mk ?_))
    refine r_lconst (pc := 337) dX12_step_337 kl_0 ?_
    refine r_l_ne (pc := 338) dX12_step_338 dX12_step_339 rfl (fun hc66 => ?_) (fun hc66 => ?_)
    · replace h := if_f hc66 h
      exact rO_v (pc := 373) rfl dX12_step_373 h hN
    replace h := if_t hc66 h
    refine r_aload_n (pc := 342) dX12_step_342 rfl 4 rfl ?_
    refine r_iload_n (pc := 343) dX12_step_343 rfl 2 rfl ?_
    replace h := lt_e h; obtain ⟨w67, ew67, h⟩ := h
    refine r_putI (pc := 344) (j := 128) oM0 cf12 flRX12_786 rfl rfl rfl rfl dX12_step_344 ?_
    refine r_w ew67 ?_
    refine r_goto (pc := 347) dX12_step_347 rfl ?_
    exact rO_v (pc := 373) rfl dX12_step_373 h hN
  replace h := if_f hc63 h
  by_cases hc68 : x10 = 12
  · refine r_tabC (pc := 51) (off := 299) (tgt := 350) (L := [12]) dX12_step_51 hc68 (by decide) rfl ?_
    replace h := if_t hc68 h
    refine r_aload_n (pc := 350) dX12_step_350 rfl 4 rfl ?_
    replace h := lt2_e h; obtain ⟨x69, w70, ew70, h⟩ := h
    refine r_cVi (pc := 351) wyX12_pay oM0 rfl mlRX12_795 iyX12_pay syX12_pay ⟨(Nat.le_of_ble_eq_true rfl), (Nat.le_of_ble_eq_true rfl)⟩ rfl rfl (Nat.le_of_ble_eq_true rfl) dX12_step_351 (mX12_pay ew70 (pI.mk ?_))
    refine r_istore (pc := 354) (loc' := [(5, .int (b2i x69)), (4, .int x8), (3, .int x6), (2, .int x4), (1, .int x1), (0, .ref 0)]) dX12_step_354 (Nat.le_of_ble_eq_true rfl) rfl ?_
    refine r_goto (pc := 356) dX12_step_356 rfl ?_
    exact rO_v (pc := 373) rfl dX12_step_373 h hN
  replace h := if_f hc68 h
  refine r_tabD (pc := 51) (tgt := 359) (K := [[1], [2], [3], [4], [5], [6], [7], [8], [9], [10], [11], [12]]) dX12_step_51 ⟨hc11, hc16, hc21, hc25, hc32, hc41, hc47, hc50, hc52, hc61, hc63, hc68, trivial⟩ (by decide) (by decide) rfl ?_
  refine r_aload_n (pc := 359) dX12_step_359 rfl 4 rfl ?_
  refine r_aload_n (pc := 360) dX12_step_360 rfl 4 rfl ?_
  refine r_get (pc := 361) (j := 88) (v := .ref 60) oM0 cf12 flRX12_260 rfl dX12_step_361 rfl ?_
  refine r_iload_n (pc := 364) dX12_step_364 rfl 3 rfl ?_
  replace h := if_n h; obtain ⟨hb71, h⟩ := h
  refine r_iald (pc := 365) aM60 (inb_in hb71) dX12_step_365 ?_
  refine r_iload_n (pc := 366) dX12_step_366 rfl 2 rfl ?_
  refine r_iload_n (pc := 367) dX12_step_367 rfl 1 rfl ?_
  refine r_iload (pc := 368) dX12_step_368 0 rfl ?_
  replace h := bn_e h; obtain ⟨w72, ew72, h⟩ := h
  refine r_cVv (pc := 370) wyX12_other oM0 rfl mlRX12_864 iyX12_other syX12_other ⟨(Nat.le_of_ble_eq_true rfl), (Nat.le_of_ble_eq_true rfl)⟩ rfl rfl (Nat.le_of_ble_eq_true rfl) dX12_step_370 (mX12_other ew72 (pV.mk ?_))
  exact rO_v (pc := 373) rfl dX12_step_373 h hN
theorem mX12_step {q : Gq} {l : Launch} {N : Option Value → Wd → Prop} {X : String → Wd → Prop} {w : Wd} {u : Wd} (h : fX12_step w = some u) (hN : N none u) : Ct (GM q) l 4 yX12_step cX12_step 8 (none) [.ref 0] w N X := Ct.of (by decide) (Nat.le_of_ble_eq_true rfl) (pX12_step hN h)
/-! AlgolMillModel.run (I)I: O, 5 -/
theorem dX12_run_0 : decode cX12_run 0 = .ok (.iload_n 1, 1) := by decide +kernel
theorem dX12_run_1 : decode cX12_run 1 = .ok (.iconst 1, 1) := by decide +kernel
theorem dX12_run_2 : decode cX12_run 2 = .ok (.if_icmp .lt 10, 3) := by decide +kernel
theorem dX12_run_5 : decode cX12_run 5 = .ok (.iload_n 1, 1) := by decide +kernel
theorem dX12_run_6 : decode cX12_run 6 = .ok (.sipush 20000, 3) := by decide +kernel
theorem dX12_run_9 : decode cX12_run 9 = .ok (.if_icmp .le 9, 3) := by decide +kernel
theorem dX12_run_12 : decode cX12_run 12 = .ok (.aload_n 0, 1) := by decide +kernel
theorem dX12_run_13 : decode cX12_run 13 = .ok (.iconst 1, 1) := by decide +kernel
theorem dX12_run_14 : decode cX12_run 14 = .ok (.invokevirtual 384, 3) := by decide +kernel
theorem dX12_run_17 : decode cX12_run 17 = .ok (.ireturn, 1) := by decide +kernel
theorem dX12_run_18 : decode cX12_run 18 = .ok (.aload_n 0, 1) := by decide +kernel
theorem dX12_run_19 : decode cX12_run 19 = .ok (.getfield 751, 3) := by decide +kernel
theorem dX12_run_22 : decode cX12_run 22 = .ok (.ifCond .ne 9, 3) := by decide +kernel
theorem dX12_run_25 : decode cX12_run 25 = .ok (.aload_n 0, 1) := by decide +kernel
theorem dX12_run_26 : decode cX12_run 26 = .ok (.iconst 2, 1) := by decide +kernel
theorem dX12_run_27 : decode cX12_run 27 = .ok (.invokevirtual 384, 3) := by decide +kernel
theorem dX12_run_30 : decode cX12_run 30 = .ok (.ireturn, 1) := by decide +kernel
theorem dX12_run_31 : decode cX12_run 31 = .ok (.aload_n 0, 1) := by decide +kernel
theorem dX12_run_32 : decode cX12_run 32 = .ok (.iconst 0, 1) := by decide +kernel
theorem dX12_run_33 : decode cX12_run 33 = .ok (.putfield 378, 3) := by decide +kernel
theorem dX12_run_36 : decode cX12_run 36 = .ok (.aload_n 0, 1) := by decide +kernel
theorem dX12_run_37 : decode cX12_run 37 = .ok (.iconst 0, 1) := by decide +kernel
theorem dX12_run_38 : decode cX12_run 38 = .ok (.putfield 765, 3) := by decide +kernel
theorem dX12_run_41 : decode cX12_run 41 = .ok (.aload_n 0, 1) := by decide +kernel
theorem dX12_run_42 : decode cX12_run 42 = .ok (.iload_n 1, 1) := by decide +kernel
theorem dX12_run_43 : decode cX12_run 43 = .ok (.putfield 768, 3) := by decide +kernel
theorem dX12_run_46 : decode cX12_run 46 = .ok (.aload_n 0, 1) := by decide +kernel
theorem dX12_run_47 : decode cX12_run 47 = .ok (.iconst 0, 1) := by decide +kernel
theorem dX12_run_48 : decode cX12_run 48 = .ok (.putfield 868, 3) := by decide +kernel
theorem dX12_run_51 : decode cX12_run 51 = .ok (.aload_n 0, 1) := by decide +kernel
theorem dX12_run_52 : decode cX12_run 52 = .ok (.iconst 0, 1) := by decide +kernel
theorem dX12_run_53 : decode cX12_run 53 = .ok (.putfield 789, 3) := by decide +kernel
theorem dX12_run_56 : decode cX12_run 56 = .ok (.aload_n 0, 1) := by decide +kernel
theorem dX12_run_57 : decode cX12_run 57 = .ok (.iconst 0, 1) := by decide +kernel
theorem dX12_run_58 : decode cX12_run 58 = .ok (.putfield 801, 3) := by decide +kernel
theorem dX12_run_61 : decode cX12_run 61 = .ok (.aload_n 0, 1) := by decide +kernel
theorem dX12_run_62 : decode cX12_run 62 = .ok (.iconst 0, 1) := by decide +kernel
theorem dX12_run_63 : decode cX12_run 63 = .ok (.putfield 837, 3) := by decide +kernel
theorem dX12_run_66 : decode cX12_run 66 = .ok (.aload_n 0, 1) := by decide +kernel
theorem dX12_run_67 : decode cX12_run 67 = .ok (.iconst 0, 1) := by decide +kernel
theorem dX12_run_68 : decode cX12_run 68 = .ok (.putfield 762, 3) := by decide +kernel
theorem dX12_run_71 : decode cX12_run 71 = .ok (.aload_n 0, 1) := by decide +kernel
theorem dX12_run_72 : decode cX12_run 72 = .ok (.iconst 0, 1) := by decide +kernel
theorem dX12_run_73 : decode cX12_run 73 = .ok (.putfield 783, 3) := by decide +kernel
theorem dX12_run_76 : decode cX12_run 76 = .ok (.aload_n 0, 1) := by decide +kernel
theorem dX12_run_77 : decode cX12_run 77 = .ok (.iconst 0, 1) := by decide +kernel
theorem dX12_run_78 : decode cX12_run 78 = .ok (.putfield 780, 3) := by decide +kernel
theorem dX12_run_81 : decode cX12_run 81 = .ok (.aload_n 0, 1) := by decide +kernel
theorem dX12_run_82 : decode cX12_run 82 = .ok (.iconst 0, 1) := by decide +kernel
theorem dX12_run_83 : decode cX12_run 83 = .ok (.putfield 771, 3) := by decide +kernel
theorem dX12_run_86 : decode cX12_run 86 = .ok (.aload_n 0, 1) := by decide +kernel
theorem dX12_run_87 : decode cX12_run 87 = .ok (.iconst 0, 1) := by decide +kernel
theorem dX12_run_88 : decode cX12_run 88 = .ok (.putfield 786, 3) := by decide +kernel
theorem dX12_run_91 : decode cX12_run 91 = .ok (.aload_n 0, 1) := by decide +kernel
theorem dX12_run_92 : decode cX12_run 92 = .ok (.iconst 0, 1) := by decide +kernel
theorem dX12_run_93 : decode cX12_run 93 = .ok (.putfield 827, 3) := by decide +kernel
theorem dX12_run_96 : decode cX12_run 96 = .ok (.aload_n 0, 1) := by decide +kernel
theorem dX12_run_97 : decode cX12_run 97 = .ok (.iconst 1, 1) := by decide +kernel
theorem dX12_run_98 : decode cX12_run 98 = .ok (.putfield 821, 3) := by decide +kernel
theorem dX12_run_101 : decode cX12_run 101 = .ok (.aload_n 0, 1) := by decide +kernel
theorem dX12_run_102 : decode cX12_run 102 = .ok (.getfield 375, 3) := by decide +kernel
theorem dX12_run_105 : decode cX12_run 105 = .ok (.iconst 0, 1) := by decide +kernel
theorem dX12_run_106 : decode cX12_run 106 = .ok (.iconst 0, 1) := by decide +kernel
theorem dX12_run_107 : decode cX12_run 107 = .ok (.iastore, 1) := by decide +kernel
theorem dX12_run_108 : decode cX12_run 108 = .ok (.aload_n 0, 1) := by decide +kernel
theorem dX12_run_109 : decode cX12_run 109 = .ok (.getfield 342, 3) := by decide +kernel
theorem dX12_run_112 : decode cX12_run 112 = .ok (.iconst 0, 1) := by decide +kernel
theorem dX12_run_113 : decode cX12_run 113 = .ok (.aload_n 0, 1) := by decide +kernel
theorem dX12_run_114 : decode cX12_run 114 = .ok (.getfield 759, 3) := by decide +kernel
theorem dX12_run_117 : decode cX12_run 117 = .ok (.iastore, 1) := by decide +kernel
theorem dX12_run_118 : decode cX12_run 118 = .ok (.aload_n 0, 1) := by decide +kernel
theorem dX12_run_119 : decode cX12_run 119 = .ok (.getfield 345, 3) := by decide +kernel
theorem dX12_run_122 : decode cX12_run 122 = .ok (.iconst 0, 1) := by decide +kernel
theorem dX12_run_123 : decode cX12_run 123 = .ok (.iconst 0, 1) := by decide +kernel
theorem dX12_run_124 : decode cX12_run 124 = .ok (.iastore, 1) := by decide +kernel
theorem dX12_run_125 : decode cX12_run 125 = .ok (.aload_n 0, 1) := by decide +kernel
theorem dX12_run_126 : decode cX12_run 126 = .ok (.getfield 348, 3) := by decide +kernel
theorem dX12_run_129 : decode cX12_run 129 = .ok (.iconst 0, 1) := by decide +kernel
theorem dX12_run_130 : decode cX12_run 130 = .ok (.iconst 0, 1) := by decide +kernel
theorem dX12_run_131 : decode cX12_run 131 = .ok (.iastore, 1) := by decide +kernel
theorem dX12_run_132 : decode cX12_run 132 = .ok (.aload_n 0, 1) := by decide +kernel
theorem dX12_run_133 : decode cX12_run 133 = .ok (.getfield 351, 3) := by decide +kernel
theorem dX12_run_136 : decode cX12_run 136 = .ok (.iconst 0, 1) := by decide +kernel
theorem dX12_run_137 : decode cX12_run 137 = .ok (.iconst 0, 1) := by decide +kernel
theorem dX12_run_138 : decode cX12_run 138 = .ok (.iastore, 1) := by decide +kernel
theorem dX12_run_139 : decode cX12_run 139 = .ok (.aload_n 0, 1) := by decide +kernel
theorem dX12_run_140 : decode cX12_run 140 = .ok (.getfield 354, 3) := by decide +kernel
theorem dX12_run_143 : decode cX12_run 143 = .ok (.iconst 0, 1) := by decide +kernel
theorem dX12_run_144 : decode cX12_run 144 = .ok (.iconst 0, 1) := by decide +kernel
theorem dX12_run_145 : decode cX12_run 145 = .ok (.iastore, 1) := by decide +kernel
theorem dX12_run_146 : decode cX12_run 146 = .ok (.aload_n 0, 1) := by decide +kernel
theorem dX12_run_147 : decode cX12_run 147 = .ok (.aload_n 0, 1) := by decide +kernel
theorem dX12_run_148 : decode cX12_run 148 = .ok (.getfield 759, 3) := by decide +kernel
theorem dX12_run_151 : decode cX12_run 151 = .ok (.aload_n 0, 1) := by decide +kernel
theorem dX12_run_152 : decode cX12_run 152 = .ok (.getfield 293, 3) := by decide +kernel
theorem dX12_run_155 : decode cX12_run 155 = .ok (.iconst 0, 1) := by decide +kernel
theorem dX12_run_156 : decode cX12_run 156 = .ok (.iaload, 1) := by decide +kernel
theorem dX12_run_157 : decode cX12_run 157 = .ok (.iadd, 1) := by decide +kernel
theorem dX12_run_158 : decode cX12_run 158 = .ok (.putfield 824, 3) := by decide +kernel
theorem dX12_run_161 : decode cX12_run 161 = .ok (.iconst 0, 1) := by decide +kernel
theorem dX12_run_162 : decode cX12_run 162 = .ok (.istore_n 2, 1) := by decide +kernel
theorem dX12_run_163 : decode cX12_run 163 = .ok (.iload_n 2, 1) := by decide +kernel
theorem dX12_run_164 : decode cX12_run 164 = .ok (.aload_n 0, 1) := by decide +kernel
theorem dX12_run_165 : decode cX12_run 165 = .ok (.getfield 824, 3) := by decide +kernel
theorem dX12_run_168 : decode cX12_run 168 = .ok (.if_icmp .ge 16, 3) := by decide +kernel
theorem dX12_run_171 : decode cX12_run 171 = .ok (.aload_n 0, 1) := by decide +kernel
theorem dX12_run_172 : decode cX12_run 172 = .ok (.getfield 330, 3) := by decide +kernel
theorem dX12_run_175 : decode cX12_run 175 = .ok (.iload_n 2, 1) := by decide +kernel
theorem dX12_run_176 : decode cX12_run 176 = .ok (.lconst 0, 1) := by decide +kernel
theorem dX12_run_177 : decode cX12_run 177 = .ok (.lastore, 1) := by decide +kernel
theorem dX12_run_178 : decode cX12_run 178 = .ok (.iinc 2 1, 3) := by decide +kernel
theorem dX12_run_181 : decode cX12_run 181 = .ok (.goto (-18), 3) := by decide +kernel
theorem dX12_run_184 : decode cX12_run 184 = .ok (.aload_n 0, 1) := by decide +kernel
theorem dX12_run_185 : decode cX12_run 185 = .ok (.getfield 762, 3) := by decide +kernel
theorem dX12_run_188 : decode cX12_run 188 = .ok (.ifCond .ne 24, 3) := by decide +kernel
theorem dX12_run_191 : decode cX12_run 191 = .ok (.aload_n 0, 1) := by decide +kernel
theorem dX12_run_192 : decode cX12_run 192 = .ok (.getfield 260, 3) := by decide +kernel
theorem dX12_run_195 : decode cX12_run 195 = .ok (.iconst 4, 1) := by decide +kernel
theorem dX12_run_196 : decode cX12_run 196 = .ok (.aload_n 0, 1) := by decide +kernel
theorem dX12_run_197 : decode cX12_run 197 = .ok (.getfield 786, 3) := by decide +kernel
theorem dX12_run_200 : decode cX12_run 200 = .ok (.imul, 1) := by decide +kernel
theorem dX12_run_201 : decode cX12_run 201 = .ok (.iaload, 1) := by decide +kernel
theorem dX12_run_202 : decode cX12_run 202 = .ok (.ifCond .eq 10, 3) := by decide +kernel
theorem dX12_run_205 : decode cX12_run 205 = .ok (.aload_n 0, 1) := by decide +kernel
theorem dX12_run_206 : decode cX12_run 206 = .ok (.invokevirtual 892, 3) := by decide +kernel
theorem dX12_run_209 : decode cX12_run 209 = .ok (.goto (-25), 3) := by decide +kernel
theorem dX12_run_212 : decode cX12_run 212 = .ok (.aload_n 0, 1) := by decide +kernel
theorem dX12_run_213 : decode cX12_run 213 = .ok (.getfield 762, 3) := by decide +kernel
theorem dX12_run_216 : decode cX12_run 216 = .ok (.bipush 100, 2) := by decide +kernel
theorem dX12_run_218 : decode cX12_run 218 = .ok (.if_icmp .ne 7, 3) := by decide +kernel
theorem dX12_run_221 : decode cX12_run 221 = .ok (.iconst (-1), 1) := by decide +kernel
theorem dX12_run_222 : decode cX12_run 222 = .ok (.goto 7, 3) := by decide +kernel
theorem dX12_run_225 : decode cX12_run 225 = .ok (.aload_n 0, 1) := by decide +kernel
theorem dX12_run_226 : decode cX12_run 226 = .ok (.getfield 762, 3) := by decide +kernel
theorem dX12_run_229 : decode cX12_run 229 = .ok (.ireturn, 1) := by decide +kernel
def fX12_run_184 (k_184 : Wd → Option (Int32 × Wd)) (w : Wd) : Option (Int32 × Wd) :=
  if (gi w 0 140) = 0 then (if inb (4 * (gi w 0 128)) 240000 = true then if (gi w 60 (Int32.toNatClampNeg (4 * (gi w 0 128)))) = 0 then (if (gi w 0 140) = 100 then (some ((-1), w)) else (some ((gi w 0 140), w))) else (bn (fX12_step w) fun w5 => k_184 w5) else none) else (if (gi w 0 140) = 100 then (some ((-1), w)) else (some ((gi w 0 140), w)))
theorem pX12_run_184 {q : Gq} {l : Launch} {N : Option Value → Wd → Prop} {X : String → Wd → Prop} {w : Wd} {R : Int32 × Wd} (hN : N (some (.int R.1)) R.2) {k_184 : Wd → Option (Int32 × Wd)} (hk_184 : ∀ (w : Wd), k_184 w = some R → RT (GM q) l 5 yX12_run cX12_run 3 ((some .int)) N X 184 [] [(0, .ref 0)] w) (h : fX12_run_184 k_184 w = some R) : RT (GM q) l 5 yX12_run cX12_run 3 ((some .int)) N X 184 [] [(0, .ref 0)] w := by
  unfold fX12_run_184 at h
  refine r_aload_n (pc := 184) dX12_run_184 rfl 0 rfl ?_
  refine r_get (pc := 185) (j := 140) (v := .int (gi w 0 140)) oM0 cf12 flRX12_762 rfl dX12_run_185 rfl ?_
  refine r_if_ne (pc := 188) dX12_run_188 rfl (fun hc1 => ?_) (fun hc1 => ?_)
  · replace h := if_f hc1 h
    refine r_aload_n (pc := 212) dX12_run_212 rfl 0 rfl ?_
    refine r_get (pc := 213) (j := 140) (v := .int (gi w 0 140)) oM0 cf12 flRX12_762 rfl dX12_run_213 rfl ?_
    refine r_bipush (pc := 216) dX12_run_216 kb_100 ?_
    refine r_icmp_ne (pc := 218) dX12_run_218 rfl (fun hc6 => ?_) (fun hc6 => ?_)
    · replace h := if_f hc6 h
      refine r_aload_n (pc := 225) dX12_run_225 rfl 0 rfl ?_
      refine r_get (pc := 226) (j := 140) (v := .int (gi w 0 140)) oM0 cf12 flRX12_762 rfl dX12_run_226 rfl ?_
      exact rO_i (pc := 229) rfl dX12_run_229 h hN
    replace h := if_t hc6 h
    refine r_iconst (pc := 221) dX12_run_221 ki_m1 ?_
    refine r_goto (pc := 222) dX12_run_222 rfl ?_
    exact rO_i (pc := 229) rfl dX12_run_229 h hN
  replace h := if_t hc1 h
  refine r_aload_n (pc := 191) dX12_run_191 rfl 0 rfl ?_
  refine r_get (pc := 192) (j := 88) (v := .ref 60) oM0 cf12 flRX12_260 rfl dX12_run_192 rfl ?_
  refine r_iconst (pc := 195) dX12_run_195 ki_4 ?_
  refine r_aload_n (pc := 196) dX12_run_196 rfl 0 rfl ?_
  refine r_get (pc := 197) (j := 128) (v := .int (gi w 0 128)) oM0 cf12 flRX12_786 rfl dX12_run_197 rfl ?_
  refine r_imul (pc := 200) dX12_run_200 ?_
  replace h := if_n h; obtain ⟨hb2, h⟩ := h
  refine r_iald (pc := 201) aM60 (inb_in hb2) dX12_run_201 ?_
  refine r_if_eq (pc := 202) dX12_run_202 rfl (fun hc3 => ?_) (fun hc3 => ?_)
  · replace h := if_t hc3 h
    refine r_aload_n (pc := 212) dX12_run_212 rfl 0 rfl ?_
    refine r_get (pc := 213) (j := 140) (v := .int (gi w 0 140)) oM0 cf12 flRX12_762 rfl dX12_run_213 rfl ?_
    refine r_bipush (pc := 216) dX12_run_216 kb_100 ?_
    refine r_icmp_ne (pc := 218) dX12_run_218 rfl (fun hc4 => ?_) (fun hc4 => ?_)
    · replace h := if_f hc4 h
      refine r_aload_n (pc := 225) dX12_run_225 rfl 0 rfl ?_
      refine r_get (pc := 226) (j := 140) (v := .int (gi w 0 140)) oM0 cf12 flRX12_762 rfl dX12_run_226 rfl ?_
      exact rO_i (pc := 229) rfl dX12_run_229 h hN
    replace h := if_t hc4 h
    refine r_iconst (pc := 221) dX12_run_221 ki_m1 ?_
    refine r_goto (pc := 222) dX12_run_222 rfl ?_
    exact rO_i (pc := 229) rfl dX12_run_229 h hN
  replace h := if_f hc3 h
  refine r_aload_n (pc := 205) dX12_run_205 rfl 0 rfl ?_
  replace h := bn_e h; obtain ⟨w5, ew5, h⟩ := h
  refine r_cVv (pc := 206) wyX12_step oM0 rfl mlRX12_892 iyX12_step syX12_step ⟨(Nat.le_of_ble_eq_true rfl), (Nat.le_of_ble_eq_true rfl)⟩ rfl rfl (Nat.le_of_ble_eq_true rfl) dX12_run_206 (mX12_step ew5 (pV.mk ?_))
  refine r_goto (pc := 209) dX12_run_209 rfl ?_
  exact hk_184 w5 h
def oX12_run_184 : Nat → Wd → Option (Int32 × Wd)
  | 0 => fun _ => none
  | n + 1 => fX12_run_184 (oX12_run_184 n)
theorem qX12_run_184 {q : Gq} {l : Launch} {N : Option Value → Wd → Prop} {X : String → Wd → Prop} {R : Int32 × Wd} (hN : N (some (.int R.1)) R.2) : ∀ (n : Nat) (w : Wd), oX12_run_184 n w = some R → RT (GM q) l 5 yX12_run cX12_run 3 ((some .int)) N X 184 [] [(0, .ref 0)] w := by
  intro n
  induction n with
  | zero =>
    intro  w h
    exact absurd h (fun q => nomatch q)
  | succ n ih =>
    intro  w h
    exact pX12_run_184 hN ih h
def fX12_run_163 (k_163 : Int32 → Wd → Option (Int32 × Wd)) (a2 : Int32) (w : Wd) : Option (Int32 × Wd) :=
  if (gi w 0 132) ≤ a2 then (oX12_run_184 FU w) else (if inb a2 200000 = true then lt (sl w 83 (Int32.toNatClampNeg a2) 0) fun w3 => lt (a2 + 1) fun x4 => k_163 x4 w3 else none)
theorem pX12_run_163 {q : Gq} {l : Launch} {N : Option Value → Wd → Prop} {X : String → Wd → Prop} {w : Wd} {R : Int32 × Wd} (hN : N (some (.int R.1)) R.2) {k_163 : Int32 → Wd → Option (Int32 × Wd)} (hk_163 : ∀ (a2 : Int32) (w : Wd), k_163 a2 w = some R → RT (GM q) l 5 yX12_run cX12_run 3 ((some .int)) N X 163 [] [(0, .ref 0), (2, .int a2)] w) {a2 : Int32} (h : fX12_run_163 k_163 a2 w = some R) : RT (GM q) l 5 yX12_run cX12_run 3 ((some .int)) N X 163 [] [(0, .ref 0), (2, .int a2)] w := by
  unfold fX12_run_163 at h
  refine r_iload_n (pc := 163) dX12_run_163 rfl 1 rfl ?_
  refine r_aload_n (pc := 164) dX12_run_164 rfl 0 rfl ?_
  refine r_get (pc := 165) (j := 132) (v := .int (gi w 0 132)) oM0 cf12 flRX12_824 rfl dX12_run_165 rfl ?_
  refine r_icmp_ge (pc := 168) dX12_run_168 rfl (fun hc1 => ?_) (fun hc1 => ?_)
  · replace h := if_t hc1 h
    refine r_drop (loc' := [(0, .ref 0)]) [0] rfl ?_
    exact qX12_run_184 hN FU w h
  replace h := if_f hc1 h
  refine r_aload_n (pc := 171) dX12_run_171 rfl 0 rfl ?_
  refine r_get (pc := 172) (j := 112) (v := .ref 83) oM0 cf12 flRX12_330 rfl dX12_run_172 rfl ?_
  refine r_iload_n (pc := 175) dX12_run_175 rfl 1 rfl ?_
  refine r_lconst (pc := 176) dX12_run_176 kl_0 ?_
  replace h := if_n h; obtain ⟨hb2, h⟩ := h
  replace h := lt_e h; obtain ⟨w3, ew3, h⟩ := h
  refine r_last (pc := 177) aM83 (inb_in hb2) dX12_run_177 ?_
  refine r_w ew3 ?_
  replace h := lt_e h; obtain ⟨x4, ex4, h⟩ := h
  refine r_inc (pc := 178) (loc' := [(2, .int x4), (0, .ref 0)]) dX12_run_178 ki_1 ex4 1 rfl (Nat.le_of_ble_eq_true rfl) rfl ?_
  refine r_goto (pc := 181) dX12_run_181 rfl ?_
  refine r_drop (loc' := [(0, .ref 0), (2, .int x4)]) [1, 0] rfl ?_
  exact hk_163 x4 w3 h
def oX12_run_163 : Nat → Int32 → Wd → Option (Int32 × Wd)
  | 0 => fun _ _ => none
  | n + 1 => fX12_run_163 (oX12_run_163 n)
theorem qX12_run_163 {q : Gq} {l : Launch} {N : Option Value → Wd → Prop} {X : String → Wd → Prop} {R : Int32 × Wd} (hN : N (some (.int R.1)) R.2) : ∀ (n : Nat) (a2 : Int32) (w : Wd), oX12_run_163 n a2 w = some R → RT (GM q) l 5 yX12_run cX12_run 3 ((some .int)) N X 163 [] [(0, .ref 0), (2, .int a2)] w := by
  intro n
  induction n with
  | zero =>
    intro a2 w h
    exact absurd h (fun q => nomatch q)
  | succ n ih =>
    intro a2 w h
    exact pX12_run_163 hN ih h
def fX12_run (a1 : Int32) (w : Wd) : Option (Int32 × Wd) :=
  if a1 < 1 then (lt2 (fX12_no 1 w) fun x2 w3 => some (x2, w3)) else (if a1 ≤ 20000 then (if (gi w 0 87) = 0 then (lt2 (fX12_no 2 w) fun x6 w7 => some (x6, w7)) else (lt (si w 0 0 0) fun w8 => lt (si w8 0 137 0) fun w9 => lt (si w9 0 138 a1) fun w10 => lt (si w10 0 139 0) fun w11 => lt (si w11 0 134 0) fun w12 => lt (si w12 0 135 0) fun w13 => lt (si w13 0 136 0) fun w14 => lt (si w14 0 140 0) fun w15 => lt (si w15 0 127 0) fun w16 => lt (si w16 0 130 0) fun w17 => lt (si w17 0 129 0) fun w18 => lt (si w18 0 128 0) fun w19 => lt (si w19 0 133 0) fun w20 => lt (si w20 0 131 1) fun w21 => if inb 0 64 = true then lt (si w21 98 (Int32.toNatClampNeg 0) 0) fun w23 => if inb 0 64 = true then lt (si w23 87 (Int32.toNatClampNeg 0) (gi w23 0 111)) fun w25 => if inb 0 64 = true then lt (si w25 88 (Int32.toNatClampNeg 0) 0) fun w27 => if inb 0 64 = true then lt (si w27 89 (Int32.toNatClampNeg 0) 0) fun w29 => if inb 0 64 = true then lt (si w29 90 (Int32.toNatClampNeg 0) 0) fun w31 => if inb 0 64 = true then lt (si w31 91 (Int32.toNatClampNeg 0) 0) fun w33 => if inb 0 1200 = true then lt (si w33 0 132 ((gi w33 0 111) + (gi w33 71 (Int32.toNatClampNeg 0)))) fun w35 => oX12_run_163 FU 0 w35 else none else none else none else none else none else none else none)) else (lt2 (fX12_no 1 w) fun x36 w37 => some (x36, w37)))
set_option maxHeartbeats 16000000 in
theorem pX12_run {q : Gq} {l : Launch} {N : Option Value → Wd → Prop} {X : String → Wd → Prop} {w : Wd} {R : Int32 × Wd} (hN : N (some (.int R.1)) R.2) {a1 : Int32} (h : fX12_run a1 w = some R) : RT (GM q) l 5 yX12_run cX12_run 3 ((some .int)) N X 0 [] [(0, .ref 0), (1, .int a1)] w := by
  unfold fX12_run at h
  refine r_iload_n (pc := 0) dX12_run_0 rfl 1 rfl ?_
  refine r_iconst (pc := 1) dX12_run_1 ki_1 ?_
  refine r_icmp_lt (pc := 2) dX12_run_2 rfl (fun hc1 => ?_) (fun hc1 => ?_)
  · replace h := if_t hc1 h
    refine r_aload_n (pc := 12) dX12_run_12 rfl 0 rfl ?_
    refine r_iconst (pc := 13) dX12_run_13 ki_1 ?_
    replace h := lt2_e h; obtain ⟨x2, w3, ew3, h⟩ := h
    refine r_cVi (pc := 14) wyX12_no oM0 rfl mlRX12_384 iyX12_no syX12_no ⟨(Nat.le_of_ble_eq_true rfl), (Nat.le_of_ble_eq_true rfl)⟩ rfl rfl (Nat.le_of_ble_eq_true rfl) dX12_run_14 (mX12_no ew3 (pI.mk ?_))
    exact rO_i (pc := 17) rfl dX12_run_17 h hN
  replace h := if_f hc1 h
  refine r_iload_n (pc := 5) dX12_run_5 rfl 1 rfl ?_
  refine r_sipush (pc := 6) dX12_run_6 ks_20000 ?_
  refine r_icmp_le (pc := 9) dX12_run_9 rfl (fun hc4 => ?_) (fun hc4 => ?_)
  · replace h := if_t hc4 h
    refine r_aload_n (pc := 18) dX12_run_18 rfl 0 rfl ?_
    refine r_get (pc := 19) (j := 87) (v := .int (gi w 0 87)) oM0 cf12 flRX12_751 rfl dX12_run_19 rfl ?_
    refine r_if_ne (pc := 22) dX12_run_22 rfl (fun hc5 => ?_) (fun hc5 => ?_)
    · replace h := if_f hc5 h
      refine r_aload_n (pc := 31) dX12_run_31 rfl 0 rfl ?_
      refine r_iconst (pc := 32) dX12_run_32 ki_0 ?_
      replace h := lt_e h; obtain ⟨w8, ew8, h⟩ := h
      refine r_putI (pc := 33) (j := 0) oM0 cf12 flRX12_378 rfl rfl rfl rfl dX12_run_33 ?_
      refine r_w ew8 ?_
      refine r_aload_n (pc := 36) dX12_run_36 rfl 0 rfl ?_
      refine r_iconst (pc := 37) dX12_run_37 ki_0 ?_
      replace h := lt_e h; obtain ⟨w9, ew9, h⟩ := h
      refine r_putI (pc := 38) (j := 137) oM0 cf12 flRX12_765 rfl rfl rfl rfl dX12_run_38 ?_
      refine r_w ew9 ?_
      refine r_aload_n (pc := 41) dX12_run_41 rfl 0 rfl ?_
      refine r_iload_n (pc := 42) dX12_run_42 rfl 1 rfl ?_
      replace h := lt_e h; obtain ⟨w10, ew10, h⟩ := h
      refine r_putI (pc := 43) (j := 138) oM0 cf12 flRX12_768 rfl rfl rfl rfl dX12_run_43 ?_
      refine r_w ew10 ?_
      refine r_aload_n (pc := 46) dX12_run_46 rfl 0 rfl ?_
      refine r_iconst (pc := 47) dX12_run_47 ki_0 ?_
      replace h := lt_e h; obtain ⟨w11, ew11, h⟩ := h
      refine r_putI (pc := 48) (j := 139) oM0 cf12 flRX12_868 rfl rfl rfl rfl dX12_run_48 ?_
      refine r_w ew11 ?_
      refine r_aload_n (pc := 51) dX12_run_51 rfl 0 rfl ?_
      refine r_iconst (pc := 52) dX12_run_52 ki_0 ?_
      replace h := lt_e h; obtain ⟨w12, ew12, h⟩ := h
      refine r_putI (pc := 53) (j := 134) oM0 cf12 flRX12_789 rfl rfl rfl rfl dX12_run_53 ?_
      refine r_w ew12 ?_
      refine r_aload_n (pc := 56) dX12_run_56 rfl 0 rfl ?_
      refine r_iconst (pc := 57) dX12_run_57 ki_0 ?_
      replace h := lt_e h; obtain ⟨w13, ew13, h⟩ := h
      refine r_putI (pc := 58) (j := 135) oM0 cf12 flRX12_801 rfl rfl rfl rfl dX12_run_58 ?_
      refine r_w ew13 ?_
      refine r_aload_n (pc := 61) dX12_run_61 rfl 0 rfl ?_
      refine r_iconst (pc := 62) dX12_run_62 ki_0 ?_
      replace h := lt_e h; obtain ⟨w14, ew14, h⟩ := h
      refine r_putI (pc := 63) (j := 136) oM0 cf12 flRX12_837 rfl rfl rfl rfl dX12_run_63 ?_
      refine r_w ew14 ?_
      refine r_aload_n (pc := 66) dX12_run_66 rfl 0 rfl ?_
      refine r_iconst (pc := 67) dX12_run_67 ki_0 ?_
      replace h := lt_e h; obtain ⟨w15, ew15, h⟩ := h
      refine r_putI (pc := 68) (j := 140) oM0 cf12 flRX12_762 rfl rfl rfl rfl dX12_run_68 ?_
      refine r_w ew15 ?_
      refine r_aload_n (pc := 71) dX12_run_71 rfl 0 rfl ?_
      refine r_iconst (pc := 72) dX12_run_72 ki_0 ?_
      replace h := lt_e h; obtain ⟨w16, ew16, h⟩ := h
      refine r_putI (pc := 73) (j := 127) oM0 cf12 flRX12_783 rfl rfl rfl rfl dX12_run_73 ?_
      refine r_w ew16 ?_
      refine r_aload_n (pc := 76) dX12_run_76 rfl 0 rfl ?_
      refine r_iconst (pc := 77) dX12_run_77 ki_0 ?_
      replace h := lt_e h; obtain ⟨w17, ew17, h⟩ := h
      refine r_putI (pc := 78) (j := 130) oM0 cf12 flRX12_780 rfl rfl rfl rfl dX12_run_78 ?_
      refine r_w ew17 ?_
      refine r_aload_n (pc := 81) dX12_run_81 rfl 0 rfl ?_
      refine r_iconst (pc := 82) dX12_run_82 ki_0 ?_
      replace h := lt_e h; obtain ⟨w18, ew18, h⟩ := h
      refine r_putI (pc := 83) (j := 129) oM0 cf12 flRX12_771 rfl rfl rfl rfl dX12_run_83 ?_
      refine r_w ew18 ?_
      refine r_aload_n (pc := 86) dX12_run_86 rfl 0 rfl ?_
      refine r_iconst (pc := 87) dX12_run_87 ki_0 ?_
      replace h := lt_e h; obtain ⟨w19, ew19, h⟩ := h
      refine r_putI (pc := 88) (j := 128) oM0 cf12 flRX12_786 rfl rfl rfl rfl dX12_run_88 ?_
      refine r_w ew19 ?_
      refine r_aload_n (pc := 91) dX12_run_91 rfl 0 rfl ?_
      refine r_iconst (pc := 92) dX12_run_92 ki_0 ?_
      replace h := lt_e h; obtain ⟨w20, ew20, h⟩ := h
      refine r_putI (pc := 93) (j := 133) oM0 cf12 flRX12_827 rfl rfl rfl rfl dX12_run_93 ?_
      refine r_w ew20 ?_
      refine r_aload_n (pc := 96) dX12_run_96 rfl 0 rfl ?_
      refine r_iconst (pc := 97) dX12_run_97 ki_1 ?_
      replace h := lt_e h; obtain ⟨w21, ew21, h⟩ := h
      refine r_putI (pc := 98) (j := 131) oM0 cf12 flRX12_821 rfl rfl rfl rfl dX12_run_98 ?_
      refine r_w ew21 ?_
      refine r_aload_n (pc := 101) dX12_run_101 rfl 0 rfl ?_
      refine r_get (pc := 102) (j := 141) (v := .ref 98) oM0 cf12 flRX12_375 rfl dX12_run_102 rfl ?_
      refine r_iconst (pc := 105) dX12_run_105 ki_0 ?_
      refine r_iconst (pc := 106) dX12_run_106 ki_0 ?_
      replace h := if_n h; obtain ⟨hb22, h⟩ := h
      replace h := lt_e h; obtain ⟨w23, ew23, h⟩ := h
      refine r_iast (pc := 107) aM98 (inb_in hb22) dX12_run_107 ?_
      refine r_w ew23 ?_
      refine r_aload_n (pc := 108) dX12_run_108 rfl 0 rfl ?_
      refine r_get (pc := 109) (j := 116) (v := .ref 87) oM0 cf12 flRX12_342 rfl dX12_run_109 rfl ?_
      refine r_iconst (pc := 112) dX12_run_112 ki_0 ?_
      refine r_aload_n (pc := 113) dX12_run_113 rfl 0 rfl ?_
      refine r_get (pc := 114) (j := 111) (v := .int (gi w23 0 111)) oM0 cf12 flRX12_759 rfl dX12_run_114 rfl ?_
      replace h := if_n h; obtain ⟨hb24, h⟩ := h
      replace h := lt_e h; obtain ⟨w25, ew25, h⟩ := h
      refine r_iast (pc := 117) aM87 (inb_in hb24) dX12_run_117 ?_
      refine r_w ew25 ?_
      refine r_aload_n (pc := 118) dX12_run_118 rfl 0 rfl ?_
      refine r_get (pc := 119) (j := 117) (v := .ref 88) oM0 cf12 flRX12_345 rfl dX12_run_119 rfl ?_
      refine r_iconst (pc := 122) dX12_run_122 ki_0 ?_
      refine r_iconst (pc := 123) dX12_run_123 ki_0 ?_
      replace h := if_n h; obtain ⟨hb26, h⟩ := h
      replace h := lt_e h; obtain ⟨w27, ew27, h⟩ := h
      refine r_iast (pc := 124) aM88 (inb_in hb26) dX12_run_124 ?_
      refine r_w ew27 ?_
      refine r_aload_n (pc := 125) dX12_run_125 rfl 0 rfl ?_
      refine r_get (pc := 126) (j := 118) (v := .ref 89) oM0 cf12 flRX12_348 rfl dX12_run_126 rfl ?_
      refine r_iconst (pc := 129) dX12_run_129 ki_0 ?_
      refine r_iconst (pc := 130) dX12_run_130 ki_0 ?_
      replace h := if_n h; obtain ⟨hb28, h⟩ := h
      replace h := lt_e h; obtain ⟨w29, ew29, h⟩ := h
      refine r_iast (pc := 131) aM89 (inb_in hb28) dX12_run_131 ?_
      refine r_w ew29 ?_
      refine r_aload_n (pc := 132) dX12_run_132 rfl 0 rfl ?_
      refine r_get (pc := 133) (j := 119) (v := .ref 90) oM0 cf12 flRX12_351 rfl dX12_run_133 rfl ?_
      refine r_iconst (pc := 136) dX12_run_136 ki_0 ?_
      refine r_iconst (pc := 137) dX12_run_137 ki_0 ?_
      replace h := if_n h; obtain ⟨hb30, h⟩ := h
      replace h := lt_e h; obtain ⟨w31, ew31, h⟩ := h
      refine r_iast (pc := 138) aM90 (inb_in hb30) dX12_run_138 ?_
      refine r_w ew31 ?_
      refine r_aload_n (pc := 139) dX12_run_139 rfl 0 rfl ?_
      refine r_get (pc := 140) (j := 120) (v := .ref 91) oM0 cf12 flRX12_354 rfl dX12_run_140 rfl ?_
      refine r_iconst (pc := 143) dX12_run_143 ki_0 ?_
      refine r_iconst (pc := 144) dX12_run_144 ki_0 ?_
      replace h := if_n h; obtain ⟨hb32, h⟩ := h
      replace h := lt_e h; obtain ⟨w33, ew33, h⟩ := h
      refine r_iast (pc := 145) aM91 (inb_in hb32) dX12_run_145 ?_
      refine r_w ew33 ?_
      refine r_aload_n (pc := 146) dX12_run_146 rfl 0 rfl ?_
      refine r_aload_n (pc := 147) dX12_run_147 rfl 0 rfl ?_
      refine r_get (pc := 148) (j := 111) (v := .int (gi w33 0 111)) oM0 cf12 flRX12_759 rfl dX12_run_148 rfl ?_
      refine r_aload_n (pc := 151) dX12_run_151 rfl 0 rfl ?_
      refine r_get (pc := 152) (j := 99) (v := .ref 71) oM0 cf12 flRX12_293 rfl dX12_run_152 rfl ?_
      refine r_iconst (pc := 155) dX12_run_155 ki_0 ?_
      replace h := if_n h; obtain ⟨hb34, h⟩ := h
      refine r_iald (pc := 156) aM71 (inb_in hb34) dX12_run_156 ?_
      refine r_iadd (pc := 157) dX12_run_157 ?_
      replace h := lt_e h; obtain ⟨w35, ew35, h⟩ := h
      refine r_putI (pc := 158) (j := 132) oM0 cf12 flRX12_824 rfl rfl rfl rfl dX12_run_158 ?_
      refine r_w ew35 ?_
      refine r_iconst (pc := 161) dX12_run_161 ki_0 ?_
      refine r_istore_n (pc := 162) (loc' := [(2, .int 0), (0, .ref 0), (1, .int a1)]) dX12_run_162 rfl (Nat.le_of_ble_eq_true rfl) rfl ?_
      refine r_drop (loc' := [(0, .ref 0), (2, .int 0)]) [1, 0] rfl ?_
      exact qX12_run_163 hN FU 0 w35 h
    replace h := if_t hc5 h
    refine r_aload_n (pc := 25) dX12_run_25 rfl 0 rfl ?_
    refine r_iconst (pc := 26) dX12_run_26 ki_2 ?_
    replace h := lt2_e h; obtain ⟨x6, w7, ew7, h⟩ := h
    refine r_cVi (pc := 27) wyX12_no oM0 rfl mlRX12_384 iyX12_no syX12_no ⟨(Nat.le_of_ble_eq_true rfl), (Nat.le_of_ble_eq_true rfl)⟩ rfl rfl (Nat.le_of_ble_eq_true rfl) dX12_run_27 (mX12_no ew7 (pI.mk ?_))
    exact rO_i (pc := 30) rfl dX12_run_30 h hN
  replace h := if_f hc4 h
  refine r_aload_n (pc := 12) dX12_run_12 rfl 0 rfl ?_
  refine r_iconst (pc := 13) dX12_run_13 ki_1 ?_
  replace h := lt2_e h; obtain ⟨x36, w37, ew37, h⟩ := h
  refine r_cVi (pc := 14) wyX12_no oM0 rfl mlRX12_384 iyX12_no syX12_no ⟨(Nat.le_of_ble_eq_true rfl), (Nat.le_of_ble_eq_true rfl)⟩ rfl rfl (Nat.le_of_ble_eq_true rfl) dX12_run_14 (mX12_no ew37 (pI.mk ?_))
  exact rO_i (pc := 17) rfl dX12_run_17 h hN
theorem mX12_run {q : Gq} {l : Launch} {N : Option Value → Wd → Prop} {X : String → Wd → Prop} {a1 : Int32} {w : Wd} {x : Int32} {u : Wd} (h : fX12_run a1 w = some (x, u)) (hN : N (some (.int x)) u) : Ct (GM q) l 5 yX12_run cX12_run 3 ((some .int)) [.ref 0, .int a1] w N X := Ct.of (by decide) (Nat.le_of_ble_eq_true rfl) (pX12_run hN h)
/-! AlgolMillModel.out (I)J: O, 1 -/
theorem dX12_out_0 : decode cX12_out 0 = .ok (.iload_n 1, 1) := by decide +kernel
theorem dX12_out_1 : decode cX12_out 1 = .ok (.ifCond .lt 17, 3) := by decide +kernel
theorem dX12_out_4 : decode cX12_out 4 = .ok (.iload_n 1, 1) := by decide +kernel
theorem dX12_out_5 : decode cX12_out 5 = .ok (.aload_n 0, 1) := by decide +kernel
theorem dX12_out_6 : decode cX12_out 6 = .ok (.getfield 868, 3) := by decide +kernel
theorem dX12_out_9 : decode cX12_out 9 = .ok (.sipush 500, 3) := by decide +kernel
theorem dX12_out_12 : decode cX12_out 12 = .ok (.invokestatic 894, 3) := by decide +kernel
theorem dX12_out_15 : decode cX12_out 15 = .ok (.if_icmp .lt 10, 3) := by decide +kernel
theorem dX12_out_18 : decode cX12_out 18 = .ok (.aload_n 0, 1) := by decide +kernel
theorem dX12_out_19 : decode cX12_out 19 = .ok (.iconst 1, 1) := by decide +kernel
theorem dX12_out_20 : decode cX12_out 20 = .ok (.invokevirtual 384, 3) := by decide +kernel
theorem dX12_out_23 : decode cX12_out 23 = .ok (.i2l, 1) := by decide +kernel
theorem dX12_out_24 : decode cX12_out 24 = .ok (.lreturn, 1) := by decide +kernel
theorem dX12_out_25 : decode cX12_out 25 = .ok (.aload_n 0, 1) := by decide +kernel
theorem dX12_out_26 : decode cX12_out 26 = .ok (.iconst 0, 1) := by decide +kernel
theorem dX12_out_27 : decode cX12_out 27 = .ok (.putfield 378, 3) := by decide +kernel
theorem dX12_out_30 : decode cX12_out 30 = .ok (.aload_n 0, 1) := by decide +kernel
theorem dX12_out_31 : decode cX12_out 31 = .ok (.getfield 339, 3) := by decide +kernel
theorem dX12_out_34 : decode cX12_out 34 = .ok (.iload_n 1, 1) := by decide +kernel
theorem dX12_out_35 : decode cX12_out 35 = .ok (.laload, 1) := by decide +kernel
theorem dX12_out_36 : decode cX12_out 36 = .ok (.lreturn, 1) := by decide +kernel
def fX12_out (a1 : Int32) (w : Wd) : Option (Int64 × Wd) :=
  if a1 < 0 then (lt2 (fX12_no 1 w) fun x2 w3 => some ((Int32.toInt64 x2), w3)) else (lt (fJ9_min_7cf53 (gi w 0 139) 500) fun x4 => if a1 < x4 then (lt (si w 0 0 0) fun w6 => if inb a1 500 = true then some ((gl w6 86 (Int32.toNatClampNeg a1)), w6) else none) else (lt2 (fX12_no 1 w) fun x8 w9 => some ((Int32.toInt64 x8), w9)))
theorem pX12_out {q : Gq} {l : Launch} {N : Option Value → Wd → Prop} {X : String → Wd → Prop} {w : Wd} {R : Int64 × Wd} (hN : N (some (.long R.1)) R.2) {a1 : Int32} (h : fX12_out a1 w = some R) : RT (GM q) l 1 yX12_out cX12_out 2 ((some .long)) N X 0 [] [(0, .ref 0), (1, .int a1)] w := by
  unfold fX12_out at h
  refine r_iload_n (pc := 0) dX12_out_0 rfl 1 rfl ?_
  refine r_if_lt (pc := 1) dX12_out_1 rfl (fun hc1 => ?_) (fun hc1 => ?_)
  · replace h := if_t hc1 h
    refine r_aload_n (pc := 18) dX12_out_18 rfl 0 rfl ?_
    refine r_iconst (pc := 19) dX12_out_19 ki_1 ?_
    replace h := lt2_e h; obtain ⟨x2, w3, ew3, h⟩ := h
    refine r_cVi (pc := 20) wyX12_no oM0 rfl mlRX12_384 iyX12_no syX12_no ⟨(Nat.le_of_ble_eq_true rfl), (Nat.le_of_ble_eq_true rfl)⟩ rfl rfl (Nat.le_of_ble_eq_true rfl) dX12_out_20 (mX12_no ew3 (pI.mk ?_))
    refine r_i2l (pc := 23) dX12_out_23 ?_
    exact rO_l (pc := 24) rfl dX12_out_24 h hN
  replace h := if_f hc1 h
  refine r_iload_n (pc := 4) dX12_out_4 rfl 1 rfl ?_
  refine r_aload_n (pc := 5) dX12_out_5 rfl 0 rfl ?_
  refine r_get (pc := 6) (j := 139) (v := .int (gi w 0 139)) oM0 cf12 flRX12_868 rfl dX12_out_6 rfl ?_
  refine r_sipush (pc := 9) dX12_out_9 ks_500 ?_
  replace h := lt_e h; obtain ⟨x4, ex4, h⟩ := h
  refine r_cSi (pc := 12) wyJ9_min_7cf53 mlRX12_894 tyJ9_min_7cf53 ⟨(Nat.le_of_ble_eq_true rfl), (Nat.le_of_ble_eq_true rfl)⟩ rfl rfl (Nat.le_of_ble_eq_true rfl) dX12_out_12 (mJ9_min_7cf53 ex4 (pI.mk ?_))
  refine r_icmp_lt (pc := 15) dX12_out_15 rfl (fun hc5 => ?_) (fun hc5 => ?_)
  · replace h := if_t hc5 h
    refine r_aload_n (pc := 25) dX12_out_25 rfl 0 rfl ?_
    refine r_iconst (pc := 26) dX12_out_26 ki_0 ?_
    replace h := lt_e h; obtain ⟨w6, ew6, h⟩ := h
    refine r_putI (pc := 27) (j := 0) oM0 cf12 flRX12_378 rfl rfl rfl rfl dX12_out_27 ?_
    refine r_w ew6 ?_
    refine r_aload_n (pc := 30) dX12_out_30 rfl 0 rfl ?_
    refine r_get (pc := 31) (j := 115) (v := .ref 86) oM0 cf12 flRX12_339 rfl dX12_out_31 rfl ?_
    refine r_iload_n (pc := 34) dX12_out_34 rfl 1 rfl ?_
    replace h := if_n h; obtain ⟨hb7, h⟩ := h
    refine r_lald (pc := 35) aM86 (inb_in hb7) dX12_out_35 ?_
    exact rO_l (pc := 36) rfl dX12_out_36 h hN
  replace h := if_f hc5 h
  refine r_aload_n (pc := 18) dX12_out_18 rfl 0 rfl ?_
  refine r_iconst (pc := 19) dX12_out_19 ki_1 ?_
  replace h := lt2_e h; obtain ⟨x8, w9, ew9, h⟩ := h
  refine r_cVi (pc := 20) wyX12_no oM0 rfl mlRX12_384 iyX12_no syX12_no ⟨(Nat.le_of_ble_eq_true rfl), (Nat.le_of_ble_eq_true rfl)⟩ rfl rfl (Nat.le_of_ble_eq_true rfl) dX12_out_20 (mX12_no ew9 (pI.mk ?_))
  refine r_i2l (pc := 23) dX12_out_23 ?_
  exact rO_l (pc := 24) rfl dX12_out_24 h hN
theorem mX12_out {q : Gq} {l : Launch} {N : Option Value → Wd → Prop} {X : String → Wd → Prop} {a1 : Int32} {w : Wd} {x : Int64} {u : Wd} (h : fX12_out a1 w = some (x, u)) (hN : N (some (.long x)) u) : Ct (GM q) l 1 yX12_out cX12_out 2 ((some .long)) [.ref 0, .int a1] w N X := Ct.of (by decide) (Nat.le_of_ble_eq_true rfl) (pX12_out hN h)
/-! AlgolMillModel.count (I)I: S, 0 -/
theorem dX12_count_0 : decode cX12_count 0 = .ok (.aload_n 0, 1) := by decide +kernel
theorem dX12_count_1 : decode cX12_count 1 = .ok (.iconst 0, 1) := by decide +kernel
theorem dX12_count_2 : decode cX12_count 2 = .ok (.putfield 378, 3) := by decide +kernel
theorem dX12_count_5 : decode cX12_count 5 = .ok (.iload_n 1, 1) := by decide +kernel
theorem dX12_count_6 : decode cX12_count 6 = .ok (.tableswitch 83 0 7 #[46, 51, 56, 61, 66, 71, 76, 81], 46) := by decide +kernel
theorem dX12_count_52 : decode cX12_count 52 = .ok (.aload_n 0, 1) := by decide +kernel
theorem dX12_count_53 : decode cX12_count 53 = .ok (.getfield 381, 3) := by decide +kernel
theorem dX12_count_56 : decode cX12_count 56 = .ok (.ireturn, 1) := by decide +kernel
theorem dX12_count_57 : decode cX12_count 57 = .ok (.aload_n 0, 1) := by decide +kernel
theorem dX12_count_58 : decode cX12_count 58 = .ok (.getfield 733, 3) := by decide +kernel
theorem dX12_count_61 : decode cX12_count 61 = .ok (.ireturn, 1) := by decide +kernel
theorem dX12_count_62 : decode cX12_count 62 = .ok (.aload_n 0, 1) := by decide +kernel
theorem dX12_count_63 : decode cX12_count 63 = .ok (.getfield 24, 3) := by decide +kernel
theorem dX12_count_66 : decode cX12_count 66 = .ok (.ireturn, 1) := by decide +kernel
theorem dX12_count_67 : decode cX12_count 67 = .ok (.aload_n 0, 1) := by decide +kernel
theorem dX12_count_68 : decode cX12_count 68 = .ok (.getfield 868, 3) := by decide +kernel
theorem dX12_count_71 : decode cX12_count 71 = .ok (.ireturn, 1) := by decide +kernel
theorem dX12_count_72 : decode cX12_count 72 = .ok (.aload_n 0, 1) := by decide +kernel
theorem dX12_count_73 : decode cX12_count 73 = .ok (.getfield 765, 3) := by decide +kernel
theorem dX12_count_76 : decode cX12_count 76 = .ok (.ireturn, 1) := by decide +kernel
theorem dX12_count_77 : decode cX12_count 77 = .ok (.aload_n 0, 1) := by decide +kernel
theorem dX12_count_78 : decode cX12_count 78 = .ok (.getfield 801, 3) := by decide +kernel
theorem dX12_count_81 : decode cX12_count 81 = .ok (.ireturn, 1) := by decide +kernel
theorem dX12_count_82 : decode cX12_count 82 = .ok (.aload_n 0, 1) := by decide +kernel
theorem dX12_count_83 : decode cX12_count 83 = .ok (.getfield 837, 3) := by decide +kernel
theorem dX12_count_86 : decode cX12_count 86 = .ok (.ireturn, 1) := by decide +kernel
theorem dX12_count_87 : decode cX12_count 87 = .ok (.iconst 0, 1) := by decide +kernel
theorem dX12_count_88 : decode cX12_count 88 = .ok (.ireturn, 1) := by decide +kernel
theorem dX12_count_89 : decode cX12_count 89 = .ok (.iconst (-1), 1) := by decide +kernel
theorem dX12_count_90 : decode cX12_count 90 = .ok (.ireturn, 1) := by decide +kernel
def fX12_count (a1 : Int32) (w : Wd) : Int32 × Wd :=
  lt (si w 0 0 0) fun w1 => if a1 = 0 then (((gi w1 0 2), w1)) else if a1 = 1 then (((gi w1 0 12), w1)) else if a1 = 2 then (((gi w1 0 13), w1)) else if a1 = 3 then (((gi w1 0 139), w1)) else if a1 = 4 then (((gi w1 0 137), w1)) else if a1 = 5 then (((gi w1 0 135), w1)) else if a1 = 6 then (((gi w1 0 136), w1)) else if a1 = 7 then ((0, w1)) else (((-1), w1))
theorem pX12_count {q : Gq} {l : Launch} {N : Option Value → Wd → Prop} {X : String → Wd → Prop} {w : Wd} {R : Int32 × Wd} (hN : N (some (.int R.1)) R.2) {a1 : Int32} (h : fX12_count a1 w = R) : RT (GM q) l 0 yX12_count cX12_count 2 ((some .int)) N X 0 [] [(0, .ref 0), (1, .int a1)] w := by
  unfold fX12_count at h
  refine r_aload_n (pc := 0) dX12_count_0 rfl 0 rfl ?_
  refine r_iconst (pc := 1) dX12_count_1 ki_0 ?_
  replace h := lt_e h; obtain ⟨w1, ew1, h⟩ := h
  refine r_putI (pc := 2) (j := 0) oM0 cf12 flRX12_378 rfl rfl rfl rfl dX12_count_2 ?_
  refine r_w ew1 ?_
  refine r_iload_n (pc := 5) dX12_count_5 rfl 1 rfl ?_
  by_cases hc2 : a1 = 0
  · refine r_tabC (pc := 6) (off := 46) (tgt := 52) (L := [0]) dX12_count_6 hc2 (by decide) rfl ?_
    replace h := if_t hc2 h
    refine r_aload_n (pc := 52) dX12_count_52 rfl 0 rfl ?_
    refine r_get (pc := 53) (j := 2) (v := .int (gi w1 0 2)) oM0 cf12 flRX12_381 rfl dX12_count_53 rfl ?_
    exact rS_i (pc := 56) rfl dX12_count_56 h hN
  replace h := if_f hc2 h
  by_cases hc3 : a1 = 1
  · refine r_tabC (pc := 6) (off := 51) (tgt := 57) (L := [1]) dX12_count_6 hc3 (by decide) rfl ?_
    replace h := if_t hc3 h
    refine r_aload_n (pc := 57) dX12_count_57 rfl 0 rfl ?_
    refine r_get (pc := 58) (j := 12) (v := .int (gi w1 0 12)) oM0 cf12 flRX12_733 rfl dX12_count_58 rfl ?_
    exact rS_i (pc := 61) rfl dX12_count_61 h hN
  replace h := if_f hc3 h
  by_cases hc4 : a1 = 2
  · refine r_tabC (pc := 6) (off := 56) (tgt := 62) (L := [2]) dX12_count_6 hc4 (by decide) rfl ?_
    replace h := if_t hc4 h
    refine r_aload_n (pc := 62) dX12_count_62 rfl 0 rfl ?_
    refine r_get (pc := 63) (j := 13) (v := .int (gi w1 0 13)) oM0 cf12 flRX12_24 rfl dX12_count_63 rfl ?_
    exact rS_i (pc := 66) rfl dX12_count_66 h hN
  replace h := if_f hc4 h
  by_cases hc5 : a1 = 3
  · refine r_tabC (pc := 6) (off := 61) (tgt := 67) (L := [3]) dX12_count_6 hc5 (by decide) rfl ?_
    replace h := if_t hc5 h
    refine r_aload_n (pc := 67) dX12_count_67 rfl 0 rfl ?_
    refine r_get (pc := 68) (j := 139) (v := .int (gi w1 0 139)) oM0 cf12 flRX12_868 rfl dX12_count_68 rfl ?_
    exact rS_i (pc := 71) rfl dX12_count_71 h hN
  replace h := if_f hc5 h
  by_cases hc6 : a1 = 4
  · refine r_tabC (pc := 6) (off := 66) (tgt := 72) (L := [4]) dX12_count_6 hc6 (by decide) rfl ?_
    replace h := if_t hc6 h
    refine r_aload_n (pc := 72) dX12_count_72 rfl 0 rfl ?_
    refine r_get (pc := 73) (j := 137) (v := .int (gi w1 0 137)) oM0 cf12 flRX12_765 rfl dX12_count_73 rfl ?_
    exact rS_i (pc := 76) rfl dX12_count_76 h hN
  replace h := if_f hc6 h
  by_cases hc7 : a1 = 5
  · refine r_tabC (pc := 6) (off := 71) (tgt := 77) (L := [5]) dX12_count_6 hc7 (by decide) rfl ?_
    replace h := if_t hc7 h
    refine r_aload_n (pc := 77) dX12_count_77 rfl 0 rfl ?_
    refine r_get (pc := 78) (j := 135) (v := .int (gi w1 0 135)) oM0 cf12 flRX12_801 rfl dX12_count_78 rfl ?_
    exact rS_i (pc := 81) rfl dX12_count_81 h hN
  replace h := if_f hc7 h
  by_cases hc8 : a1 = 6
  · refine r_tabC (pc := 6) (off := 76) (tgt := 82) (L := [6]) dX12_count_6 hc8 (by decide) rfl ?_
    replace h := if_t hc8 h
    refine r_aload_n (pc := 82) dX12_count_82 rfl 0 rfl ?_
    refine r_get (pc := 83) (j := 136) (v := .int (gi w1 0 136)) oM0 cf12 flRX12_837 rfl dX12_count_83 rfl ?_
    exact rS_i (pc := 86) rfl dX12_count_86 h hN
  replace h := if_f hc8 h
  by_cases hc9 : a1 = 7
  · refine r_tabC (pc := 6) (off := 81) (tgt := 87) (L := [7]) dX12_count_6 hc9 (by decide) rfl ?_
    replace h := if_t hc9 h
    refine r_iconst (pc := 87) dX12_count_87 ki_0 ?_
    exact rS_i (pc := 88) rfl dX12_count_88 h hN
  replace h := if_f hc9 h
  refine r_tabD (pc := 6) (tgt := 89) (K := [[0], [1], [2], [3], [4], [5], [6], [7]]) dX12_count_6 ⟨hc2, hc3, hc4, hc5, hc6, hc7, hc8, hc9, trivial⟩ (by decide) (by decide) rfl ?_
  refine r_iconst (pc := 89) dX12_count_89 ki_m1 ?_
  exact rS_i (pc := 90) rfl dX12_count_90 h hN
theorem mX12_count {q : Gq} {l : Launch} {N : Option Value → Wd → Prop} {X : String → Wd → Prop} {a1 : Int32} {w : Wd} {x : Int32} {u : Wd} (h : fX12_count a1 w = (x, u)) (hN : N (some (.int x)) u) : Ct (GM q) l 0 yX12_count cX12_count 2 ((some .int)) [.ref 0, .int a1] w N X := Ct.of (by decide) (Nat.le_of_ble_eq_true rfl) (pX12_count hN h)
