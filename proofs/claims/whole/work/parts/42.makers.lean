/-! THE MAKERS OF THE CLASS -/
/-- the links to private makers of nest mates -/
def nlA (U : State) : Prop := va_Nw (.methodLinkNest RX11 15 yX4_init RX11) U ∧ va_Nw (.methodLinkNest RX4 11 yX1_init RX11) U ∧ va_Nw (.methodLinkNest RX1 18 yX8_init RX11) U ∧ va_Nw (.methodLinkNest RX1 34 yX5_init RX11) U ∧ va_Nw (.methodLinkNest RX1 41 yX0_init RX11) U ∧ va_Nw (.methodLinkNest RX2 9 yX10_init RX11) U ∧ va_Nw (.methodLinkNest RX11 22 yX3_init RX11) U

def gbA (q : Gq) (F : Nat → Prop) : Gb := (q.1, q.2.1, clA, [.int, .long], fun U H => q.2.2.2 U H ∧ nlA U, F, dsA, q.2.2.1)
/-- the table of words -/
def tkw (w : Wd) : Wd := (sl (sl (sl (sl (sl (sl (sl (sl (sl (sl (sl (sl (sl (sl (sl (sl (sl (sl (sl (sl (sl (sl (sl (sl (sl (sl (sl (sl (sl w 11 4 4011517) 11 5 7367) 11 6 21400) 11 7 24100099350) 11 8 6200339320) 11 9 2810619) 11 10 57947148581973) 11 11 41299405) 11 12 22543520) 11 13 1361124262) 11 14 375861) 11 15 339) 11 16 1024211) 11 17 270401) 11 18 8787) 11 19 163) 11 20 989988) 11 21 40094248) 11 22 43523697) 11 23 1038484) 11 24 11312755) 11 25 1891) 11 26 573) 11 27 474278) 11 28 10261010) 11 29 19741) 11 30 5831) 11 31 18356) 11 32 30911189)
theorem kb_64 : (Int8.ofInt 64).toInt32 = 64 := by decide
theorem kcRX3_15 : Cond.constant RX3 15 36872 ∈ TB := tb1 sg2 160 rfl rfl
theorem ac_int : Cond.arrayClass .int ∈ TB := tb1 sg1 154 rfl rfl
theorem ac_long : Cond.arrayClass .long ∈ TB := tb1 sg1 155 rfl rfl
theorem clRX11_13 : Cond.classLink RX11 13 RX4 ∈ TB := tb1 sg1 43 rfl rfl
theorem clRX11_20 : Cond.classLink RX11 20 RX3 ∈ TB := tb1 sg2 154 rfl rfl
theorem clRX1_16 : Cond.classLink RX1 16 RX8 ∈ TB := tb1 sg1 157 rfl rfl
theorem clRX1_23 : Cond.classLink RX1 23 RX7 ∈ TB := tb1 sg1 209 rfl rfl
theorem clRX1_32 : Cond.classLink RX1 32 RX5 ∈ TB := tb1 sg2 9 rfl rfl
theorem clRX1_39 : Cond.classLink RX1 39 RX0 ∈ TB := tb1 sg2 34 rfl rfl
theorem clRX1_7 : Cond.classLink RX1 7 RX9 ∈ TB := tb1 sg1 55 rfl rfl
theorem clRX2_7 : Cond.classLink RX2 7 RX10 ∈ TB := tb1 sg2 91 rfl rfl
theorem clRX4_43 : Cond.classLink RX4 43 RX2 ∈ TB := tb1 sg2 85 rfl rfl
theorem clRX4_9 : Cond.classLink RX4 9 RX1 ∈ TB := tb1 sg1 49 rfl rfl
theorem it0 : Cond.instantiable RX0 2 ∈ TB := tb1 sg2 35 rfl rfl
theorem it1 : Cond.instantiable RX1 8 ∈ TB := tb1 sg1 50 rfl rfl
theorem it10 : Cond.instantiable RX10 6 ∈ TB := tb1 sg2 92 rfl rfl
theorem it2 : Cond.instantiable RX2 5 ∈ TB := tb1 sg2 86 rfl rfl
theorem it3 : Cond.instantiable RX3 18 ∈ TB := tb1 sg2 155 rfl rfl
theorem it4 : Cond.instantiable RX4 7 ∈ TB := tb1 sg1 44 rfl rfl
theorem it5 : Cond.instantiable RX5 6 ∈ TB := tb1 sg2 10 rfl rfl
theorem it7 : Cond.instantiable RX7 11 ∈ TB := tb1 sg1 210 rfl rfl
theorem it8 : Cond.instantiable RX8 15 ∈ TB := tb1 sg1 158 rfl rfl
theorem it9 : Cond.instantiable RX9 11 ∈ TB := tb1 sg1 56 rfl rfl
theorem moRX0 : Cond.methodLink RX0 5 Lib.objectInit ∈ TB := tb1 sg2 39 rfl rfl
theorem moRX1 : Cond.methodLink RX1 1 Lib.objectInit ∈ TB := tb1 sg1 54 rfl rfl
theorem moRX10 : Cond.methodLink RX10 1 Lib.objectInit ∈ TB := tb1 sg2 96 rfl rfl
theorem moRX11 : Cond.methodLink RX11 1 Lib.objectInit ∈ TB := tb1 sg1 40 rfl rfl
theorem moRX2 : Cond.methodLink RX2 1 Lib.objectInit ∈ TB := tb1 sg2 90 rfl rfl
theorem moRX3 : Cond.methodLink RX3 9 Lib.objectInit ∈ TB := tb1 sg2 159 rfl rfl
theorem moRX4 : Cond.methodLink RX4 3 Lib.objectInit ∈ TB := tb1 sg1 48 rfl rfl
theorem moRX5 : Cond.methodLink RX5 1 Lib.objectInit ∈ TB := tb1 sg2 14 rfl rfl
theorem moRX7 : Cond.methodLink RX7 3 Lib.objectInit ∈ TB := tb1 sg1 214 rfl rfl
theorem moRX8 : Cond.methodLink RX8 3 Lib.objectInit ∈ TB := tb1 sg1 162 rfl rfl
theorem moRX9 : Cond.methodLink RX9 3 Lib.objectInit ∈ TB := tb1 sg1 60 rfl rfl
theorem oi_c : Cond.code Lib.objectInit ⟨#[0xb1]⟩ 1 none ∈ TB := tb1 sg1 42 rfl rfl
theorem oi_i : Cond.instanceMethod Lib.objectInit ∈ TB := tb1 sg1 41 rfl rfl
theorem df0 : ∀ j, j < 2 → defaultValue (tyX0 j) = (match ([some 41, none] : List (Option Nat))[j]? with | some none => Value.int 0 | _ => Value.null) := by
  intro j hj
  rcases (show j = 0 ∨ j = 1 by omega) with rfl | rfl <;> rfl
theorem df1 : ∀ j, j < 8 → defaultValue (tyX1 j) = (match ([some 4, some 13, some 26, some 34, some 40, none, none, none] : List (Option Nat))[j]? with | some none => Value.int 0 | _ => Value.null) := by
  intro j hj
  rcases (show j = 0 ∨ j = 1 ∨ j = 2 ∨ j = 3 ∨ j = 4 ∨ j = 5 ∨ j = 6 ∨ j = 7 by omega) with rfl | rfl | rfl | rfl | rfl | rfl | rfl | rfl <;> rfl
theorem df10 : ∀ j, j < 6 → defaultValue (tyX10 j) = (match ([some 44, some 45, some 46, some 47, none, none] : List (Option Nat))[j]? with | some none => Value.int 0 | _ => Value.null) := by
  intro j hj
  rcases (show j = 0 ∨ j = 1 ∨ j = 2 ∨ j = 3 ∨ j = 4 ∨ j = 5 by omega) with rfl | rfl | rfl | rfl | rfl | rfl <;> rfl
theorem df2 : ∀ j, j < 5 → defaultValue (tyX2 j) = (match ([some 3, some 4, some 13, some 40, some 43] : List (Option Nat))[j]? with | some none => Value.int 0 | _ => Value.null) := by
  intro j hj
  rcases (show j = 0 ∨ j = 1 ∨ j = 2 ∨ j = 3 ∨ j = 4 by omega) with rfl | rfl | rfl | rfl | rfl <;> rfl
theorem df3 : ∀ j, j < 18 → defaultValue (tyX3 j) = (match ([some 49, some 50, some 51, some 52, some 53, some 54, some 55, some 56, none, none, none, none, none, none, none, none, none, none] : List (Option Nat))[j]? with | some none => Value.int 0 | _ => Value.null) := by
  intro j hj
  rcases (show j = 0 ∨ j = 1 ∨ j = 2 ∨ j = 3 ∨ j = 4 ∨ j = 5 ∨ j = 6 ∨ j = 7 ∨ j = 8 ∨ j = 9 ∨ j = 10 ∨ j = 11 ∨ j = 12 ∨ j = 13 ∨ j = 14 ∨ j = 15 ∨ j = 16 ∨ j = 17 by omega) with rfl | rfl | rfl | rfl | rfl | rfl | rfl | rfl | rfl | rfl | rfl | rfl | rfl | rfl | rfl | rfl | rfl | rfl <;> rfl
theorem df4 : ∀ j, j < 7 → defaultValue (tyX4 j) = (match ([some 3, some 4, some 13, some 26, some 34, some 40, some 42] : List (Option Nat))[j]? with | some none => Value.int 0 | _ => Value.null) := by
  intro j hj
  rcases (show j = 0 ∨ j = 1 ∨ j = 2 ∨ j = 3 ∨ j = 4 ∨ j = 5 ∨ j = 6 by omega) with rfl | rfl | rfl | rfl | rfl | rfl | rfl <;> rfl
theorem df5 : ∀ j, j < 6 → defaultValue (tyX5 j) = (match ([some 35, some 36, some 37, some 38, some 39, none] : List (Option Nat))[j]? with | some none => Value.int 0 | _ => Value.null) := by
  intro j hj
  rcases (show j = 0 ∨ j = 1 ∨ j = 2 ∨ j = 3 ∨ j = 4 ∨ j = 5 by omega) with rfl | rfl | rfl | rfl | rfl | rfl <;> rfl
theorem df7 : ∀ j, j < 11 → defaultValue (tyX7 j) = (match ([some 27, some 28, some 29, some 30, some 31, some 32, some 33, some 13, none, none, none] : List (Option Nat))[j]? with | some none => Value.int 0 | _ => Value.null) := by
  intro j hj
  rcases (show j = 0 ∨ j = 1 ∨ j = 2 ∨ j = 3 ∨ j = 4 ∨ j = 5 ∨ j = 6 ∨ j = 7 ∨ j = 8 ∨ j = 9 ∨ j = 10 by omega) with rfl | rfl | rfl | rfl | rfl | rfl | rfl | rfl | rfl | rfl | rfl <;> rfl
theorem df8 : ∀ j, j < 15 → defaultValue (tyX8 j) = (match ([some 14, some 15, some 16, some 17, some 18, some 19, some 20, some 21, some 22, some 23, some 24, some 25, none, none, none] : List (Option Nat))[j]? with | some none => Value.int 0 | _ => Value.null) := by
  intro j hj
  rcases (show j = 0 ∨ j = 1 ∨ j = 2 ∨ j = 3 ∨ j = 4 ∨ j = 5 ∨ j = 6 ∨ j = 7 ∨ j = 8 ∨ j = 9 ∨ j = 10 ∨ j = 11 ∨ j = 12 ∨ j = 13 ∨ j = 14 by omega) with rfl | rfl | rfl | rfl | rfl | rfl | rfl | rfl | rfl | rfl | rfl | rfl | rfl | rfl | rfl <;> rfl
theorem df9 : ∀ j, j < 11 → defaultValue (tyX9 j) = (match ([some 5, some 6, some 7, some 8, some 9, some 10, some 11, some 12, none, none, none] : List (Option Nat))[j]? with | some none => Value.int 0 | _ => Value.null) := by
  intro j hj
  rcases (show j = 0 ∨ j = 1 ∨ j = 2 ∨ j = 3 ∨ j = 4 ∨ j = 5 ∨ j = 6 ∨ j = 7 ∨ j = 8 ∨ j = 9 ∨ j = 10 by omega) with rfl | rfl | rfl | rfl | rfl | rfl | rfl | rfl | rfl | rfl | rfl <;> rfl
theorem dX9_init_0 : decode cX9_init 0 = .ok (.aload_n 0, 1) := by decide +kernel
theorem dX9_init_1 : decode cX9_init 1 = .ok (.invokespecial 3, 3) := by decide +kernel
theorem dX9_init_4 : decode cX9_init 4 = .ok (.aload_n 0, 1) := by decide +kernel
theorem dX9_init_5 : decode cX9_init 5 = .ok (.sipush 8193, 3) := by decide +kernel
theorem dX9_init_8 : decode cX9_init 8 = .ok (.newarray .int, 2) := by decide +kernel
theorem dX9_init_10 : decode cX9_init 10 = .ok (.putfield 11, 3) := by decide +kernel
theorem dX9_init_13 : decode cX9_init 13 = .ok (.aload_n 0, 1) := by decide +kernel
theorem dX9_init_14 : decode cX9_init 14 = .ok (.sipush 8193, 3) := by decide +kernel
theorem dX9_init_17 : decode cX9_init 17 = .ok (.newarray .int, 2) := by decide +kernel
theorem dX9_init_19 : decode cX9_init 19 = .ok (.putfield 15, 3) := by decide +kernel
theorem dX9_init_22 : decode cX9_init 22 = .ok (.aload_n 0, 1) := by decide +kernel
theorem dX9_init_23 : decode cX9_init 23 = .ok (.sipush 8193, 3) := by decide +kernel
theorem dX9_init_26 : decode cX9_init 26 = .ok (.newarray .long, 2) := by decide +kernel
theorem dX9_init_28 : decode cX9_init 28 = .ok (.putfield 18, 3) := by decide +kernel
theorem dX9_init_31 : decode cX9_init 31 = .ok (.aload_n 0, 1) := by decide +kernel
theorem dX9_init_32 : decode cX9_init 32 = .ok (.sipush 8193, 3) := by decide +kernel
theorem dX9_init_35 : decode cX9_init 35 = .ok (.newarray .int, 2) := by decide +kernel
theorem dX9_init_37 : decode cX9_init 37 = .ok (.putfield 22, 3) := by decide +kernel
theorem dX9_init_40 : decode cX9_init 40 = .ok (.aload_n 0, 1) := by decide +kernel
theorem dX9_init_41 : decode cX9_init 41 = .ok (.sipush 8193, 3) := by decide +kernel
theorem dX9_init_44 : decode cX9_init 44 = .ok (.newarray .int, 2) := by decide +kernel
theorem dX9_init_46 : decode cX9_init 46 = .ok (.putfield 25, 3) := by decide +kernel
theorem dX9_init_49 : decode cX9_init 49 = .ok (.aload_n 0, 1) := by decide +kernel
theorem dX9_init_50 : decode cX9_init 50 = .ok (.sipush 8193, 3) := by decide +kernel
theorem dX9_init_53 : decode cX9_init 53 = .ok (.newarray .int, 2) := by decide +kernel
theorem dX9_init_55 : decode cX9_init 55 = .ok (.putfield 28, 3) := by decide +kernel
theorem dX9_init_58 : decode cX9_init 58 = .ok (.aload_n 0, 1) := by decide +kernel
theorem dX9_init_59 : decode cX9_init 59 = .ok (.bipush 33, 2) := by decide +kernel
theorem dX9_init_61 : decode cX9_init 61 = .ok (.newarray .long, 2) := by decide +kernel
theorem dX9_init_63 : decode cX9_init 63 = .ok (.putfield 31, 3) := by decide +kernel
theorem dX9_init_66 : decode cX9_init 66 = .ok (.aload_n 0, 1) := by decide +kernel
theorem dX9_init_67 : decode cX9_init 67 = .ok (.sipush 8192, 3) := by decide +kernel
theorem dX9_init_70 : decode cX9_init 70 = .ok (.newarray .long, 2) := by decide +kernel
theorem dX9_init_72 : decode cX9_init 72 = .ok (.putfield 34, 3) := by decide +kernel
theorem dX9_init_75 : decode cX9_init 75 = .ok (.iconst 4, 1) := by decide +kernel
theorem dX9_init_76 : decode cX9_init 76 = .ok (.istore_n 1, 1) := by decide +kernel
theorem dX9_init_77 : decode cX9_init 77 = .ok (.lconst 0, 1) := by decide +kernel
theorem dX9_init_78 : decode cX9_init 78 = .ok (.lstore_n 2, 1) := by decide +kernel
theorem dX9_init_79 : decode cX9_init 79 = .ok (.iconst 0, 1) := by decide +kernel
theorem dX9_init_80 : decode cX9_init 80 = .ok (.istore 4, 2) := by decide +kernel
theorem dX9_init_82 : decode cX9_init 82 = .ok (.iload 4, 2) := by decide +kernel
theorem dX9_init_84 : decode cX9_init 84 = .ok (.ldc 37, 2) := by decide +kernel
theorem dX9_init_86 : decode cX9_init 86 = .ok (.invokevirtual 39, 3) := by decide +kernel
theorem dX9_init_89 : decode cX9_init 89 = .ok (.if_icmp .ge 56, 3) := by decide +kernel
theorem dX9_init_92 : decode cX9_init 92 = .ok (.ldc 37, 2) := by decide +kernel
theorem dX9_init_94 : decode cX9_init 94 = .ok (.iload 4, 2) := by decide +kernel
theorem dX9_init_96 : decode cX9_init 96 = .ok (.invokevirtual 45, 3) := by decide +kernel
theorem dX9_init_99 : decode cX9_init 99 = .ok (.bipush 32, 2) := by decide +kernel
theorem dX9_init_101 : decode cX9_init 101 = .ok (.if_icmp .ne 20, 3) := by decide +kernel
theorem dX9_init_104 : decode cX9_init 104 = .ok (.aload_n 0, 1) := by decide +kernel
theorem dX9_init_105 : decode cX9_init 105 = .ok (.getfield 31, 3) := by decide +kernel
theorem dX9_init_108 : decode cX9_init 108 = .ok (.iload_n 1, 1) := by decide +kernel
theorem dX9_init_109 : decode cX9_init 109 = .ok (.lload_n 2, 1) := by decide +kernel
theorem dX9_init_110 : decode cX9_init 110 = .ok (.invokestatic 49, 3) := by decide +kernel
theorem dX9_init_113 : decode cX9_init 113 = .ok (.iinc 1 1, 3) := by decide +kernel
theorem dX9_init_116 : decode cX9_init 116 = .ok (.lconst 0, 1) := by decide +kernel
theorem dX9_init_117 : decode cX9_init 117 = .ok (.lstore_n 2, 1) := by decide +kernel
theorem dX9_init_118 : decode cX9_init 118 = .ok (.goto 21, 3) := by decide +kernel
theorem dX9_init_121 : decode cX9_init 121 = .ok (.lload_n 2, 1) := by decide +kernel
theorem dX9_init_122 : decode cX9_init 122 = .ok (.ldc2_w 55, 3) := by decide +kernel
theorem dX9_init_125 : decode cX9_init 125 = .ok (.lmul, 1) := by decide +kernel
theorem dX9_init_126 : decode cX9_init 126 = .ok (.ldc 37, 2) := by decide +kernel
theorem dX9_init_128 : decode cX9_init 128 = .ok (.iload 4, 2) := by decide +kernel
theorem dX9_init_130 : decode cX9_init 130 = .ok (.invokevirtual 45, 3) := by decide +kernel
theorem dX9_init_133 : decode cX9_init 133 = .ok (.invokestatic 57, 3) := by decide +kernel
theorem dX9_init_136 : decode cX9_init 136 = .ok (.i2l, 1) := by decide +kernel
theorem dX9_init_137 : decode cX9_init 137 = .ok (.ladd, 1) := by decide +kernel
theorem dX9_init_138 : decode cX9_init 138 = .ok (.lstore_n 2, 1) := by decide +kernel
theorem dX9_init_139 : decode cX9_init 139 = .ok (.iinc 4 1, 3) := by decide +kernel
theorem dX9_init_142 : decode cX9_init 142 = .ok (.goto (-60), 3) := by decide +kernel
theorem dX9_init_145 : decode cX9_init 145 = .ok (.return_, 1) := by decide +kernel
def WX9_init (w : Wd) : Wd := tkw (zr (zr (zr (zr (zr (zr (zr (zr w 5) 6) 7) 8) 9) 10) 11) 12)
/-- what the Tokens' maker does behind its rows: the table of words -/
def TKI (q : Gq) (F : Nat → Prop) (l : Launch) : Prop := ∀ (ad0 : Nat → Nat) (w : Wd), RC (gbA q F) ad0 5 13 [(4, 7), (4, 6), (4, 5), (4, 4), (4, 3), (4, 2), (4, 1), (4, 0), (0, 0)] (tkw w) l 10 8 57383 yX9_init cX9_init 5 13 [(4, 7), (4, 6), (4, 5), (4, 4), (4, 3), (4, 2), (4, 1), (4, 0), (0, 0)] 8 57383 75 [] [(0, .ref 4)] w
theorem kX9_init {q : Gq} {F : Nat → Prop} {l : Launch} (hz : TKI q F l) {w : Wd} : CC (gbA q F) l 10 8 57383 yX9_init cX9_init 5 [.ref 4] 5 [(0, 0)] w 13 [(4, 7), (4, 6), (4, 5), (4, 4), (4, 3), (4, 2), (4, 1), (4, 0), (0, 0)] (WX9_init w) := by
  refine CC.of (by decide) rfl (Nat.le_of_ble_eq_true rfl) (fun ad0 => ?_)
  show RC (gbA q F) ad0 5 13 [(4, 7), (4, 6), (4, 5), (4, 4), (4, 3), (4, 2), (4, 1), (4, 0), (0, 0)] (WX9_init w) l 10 8 57383 yX9_init cX9_init 5 5 [(0, 0)] 0 0 0 [] [(0, .ref 4)] w
  refine c_aload_n (pc := 0) (n := 5) (kc := 0) (ks := 0) dX9_init_0 rfl 0 rfl ?_
  refine c_obj (pc := 1) (n := 5) (kc := 0) (ks := 0) moRX9 oi_i oi_c (Nat.le_of_ble_eq_true rfl) (Nat.le_of_ble_eq_true rfl) dX9_init_1 ?_
  refine c_aload_n (pc := 4) (n := 5) (kc := 0) (ks := 0) dX9_init_4 rfl 0 rfl ?_
  refine c_sipush (pc := 5) (n := 5) (kc := 0) (ks := 0) dX9_init_5 ks_8193 ?_
  refine c_na_int (pc := 8) (n := 5) (kc := 0) (ks := 0) (len := 8193) (show okA dsA [(0, 0)] 5 = true by decide +kernel) (Nat.le_of_ble_eq_true rfl) (Nat.le_of_ble_eq_true rfl) rfl rfl ac_int (by decide) (by decide) (Nat.le_of_ble_eq_true rfl) (Nat.le_of_ble_eq_true rfl) (Nat.le_of_ble_eq_true rfl) (by decide) (by decide) dX9_init_8 ?_
  refine c_putR (pc := 10) (n := 6) (kc := 1) (ks := 8193) (k := 4) (j := 0) (t := 5) (fs := [some 5, some 6, some 7, some 8, some 9, some 10, some 11, some 12, none, none, none]) (Nat.le_of_ble_eq_true rfl) rfl rfl rfl cf9 flRX9_11 rfl (by decide) rfl rfl (fun _ => rfl) (fun _ => rfl) dX9_init_10 ?_
  refine c_aload_n (pc := 13) (n := 6) (kc := 1) (ks := 8193) dX9_init_13 rfl 0 rfl ?_
  refine c_sipush (pc := 14) (n := 6) (kc := 1) (ks := 8193) dX9_init_14 ks_8193 ?_
  refine c_na_int (pc := 17) (n := 6) (kc := 1) (ks := 8193) (len := 8193) (show okA dsA [(4, 0), (0, 0)] 6 = true by decide +kernel) (Nat.le_of_ble_eq_true rfl) (Nat.le_of_ble_eq_true rfl) rfl rfl ac_int (by decide) (by decide) (Nat.le_of_ble_eq_true rfl) (Nat.le_of_ble_eq_true rfl) (Nat.le_of_ble_eq_true rfl) (by decide) (by decide) dX9_init_17 ?_
  refine c_putR (pc := 19) (n := 7) (kc := 2) (ks := 16386) (k := 4) (j := 1) (t := 6) (fs := [some 5, some 6, some 7, some 8, some 9, some 10, some 11, some 12, none, none, none]) (Nat.le_of_ble_eq_true rfl) rfl rfl rfl cf9 flRX9_15 rfl (by decide) rfl rfl (fun _ => rfl) (fun _ => rfl) dX9_init_19 ?_
  refine c_aload_n (pc := 22) (n := 7) (kc := 2) (ks := 16386) dX9_init_22 rfl 0 rfl ?_
  refine c_sipush (pc := 23) (n := 7) (kc := 2) (ks := 16386) dX9_init_23 ks_8193 ?_
  refine c_na_long (pc := 26) (n := 7) (kc := 2) (ks := 16386) (len := 8193) (show okA dsA [(4, 1), (4, 0), (0, 0)] 7 = true by decide +kernel) (Nat.le_of_ble_eq_true rfl) (Nat.le_of_ble_eq_true rfl) rfl rfl ac_long (by decide) (by decide) (Nat.le_of_ble_eq_true rfl) (Nat.le_of_ble_eq_true rfl) (Nat.le_of_ble_eq_true rfl) (by decide) (by decide) dX9_init_26 ?_
  refine c_putR (pc := 28) (n := 8) (kc := 3) (ks := 24579) (k := 4) (j := 2) (t := 7) (fs := [some 5, some 6, some 7, some 8, some 9, some 10, some 11, some 12, none, none, none]) (Nat.le_of_ble_eq_true rfl) rfl rfl rfl cf9 flRX9_18 rfl (by decide) rfl rfl (fun _ => rfl) (fun _ => rfl) dX9_init_28 ?_
  refine c_aload_n (pc := 31) (n := 8) (kc := 3) (ks := 24579) dX9_init_31 rfl 0 rfl ?_
  refine c_sipush (pc := 32) (n := 8) (kc := 3) (ks := 24579) dX9_init_32 ks_8193 ?_
  refine c_na_int (pc := 35) (n := 8) (kc := 3) (ks := 24579) (len := 8193) (show okA dsA [(4, 2), (4, 1), (4, 0), (0, 0)] 8 = true by decide +kernel) (Nat.le_of_ble_eq_true rfl) (Nat.le_of_ble_eq_true rfl) rfl rfl ac_int (by decide) (by decide) (Nat.le_of_ble_eq_true rfl) (Nat.le_of_ble_eq_true rfl) (Nat.le_of_ble_eq_true rfl) (by decide) (by decide) dX9_init_35 ?_
  refine c_putR (pc := 37) (n := 9) (kc := 4) (ks := 32772) (k := 4) (j := 3) (t := 8) (fs := [some 5, some 6, some 7, some 8, some 9, some 10, some 11, some 12, none, none, none]) (Nat.le_of_ble_eq_true rfl) rfl rfl rfl cf9 flRX9_22 rfl (by decide) rfl rfl (fun _ => rfl) (fun _ => rfl) dX9_init_37 ?_
  refine c_aload_n (pc := 40) (n := 9) (kc := 4) (ks := 32772) dX9_init_40 rfl 0 rfl ?_
  refine c_sipush (pc := 41) (n := 9) (kc := 4) (ks := 32772) dX9_init_41 ks_8193 ?_
  refine c_na_int (pc := 44) (n := 9) (kc := 4) (ks := 32772) (len := 8193) (show okA dsA [(4, 3), (4, 2), (4, 1), (4, 0), (0, 0)] 9 = true by decide +kernel) (Nat.le_of_ble_eq_true rfl) (Nat.le_of_ble_eq_true rfl) rfl rfl ac_int (by decide) (by decide) (Nat.le_of_ble_eq_true rfl) (Nat.le_of_ble_eq_true rfl) (Nat.le_of_ble_eq_true rfl) (by decide) (by decide) dX9_init_44 ?_
  refine c_putR (pc := 46) (n := 10) (kc := 5) (ks := 40965) (k := 4) (j := 4) (t := 9) (fs := [some 5, some 6, some 7, some 8, some 9, some 10, some 11, some 12, none, none, none]) (Nat.le_of_ble_eq_true rfl) rfl rfl rfl cf9 flRX9_25 rfl (by decide) rfl rfl (fun _ => rfl) (fun _ => rfl) dX9_init_46 ?_
  refine c_aload_n (pc := 49) (n := 10) (kc := 5) (ks := 40965) dX9_init_49 rfl 0 rfl ?_
  refine c_sipush (pc := 50) (n := 10) (kc := 5) (ks := 40965) dX9_init_50 ks_8193 ?_
  refine c_na_int (pc := 53) (n := 10) (kc := 5) (ks := 40965) (len := 8193) (show okA dsA [(4, 4), (4, 3), (4, 2), (4, 1), (4, 0), (0, 0)] 10 = true by decide +kernel) (Nat.le_of_ble_eq_true rfl) (Nat.le_of_ble_eq_true rfl) rfl rfl ac_int (by decide) (by decide) (Nat.le_of_ble_eq_true rfl) (Nat.le_of_ble_eq_true rfl) (Nat.le_of_ble_eq_true rfl) (by decide) (by decide) dX9_init_53 ?_
  refine c_putR (pc := 55) (n := 11) (kc := 6) (ks := 49158) (k := 4) (j := 5) (t := 10) (fs := [some 5, some 6, some 7, some 8, some 9, some 10, some 11, some 12, none, none, none]) (Nat.le_of_ble_eq_true rfl) rfl rfl rfl cf9 flRX9_28 rfl (by decide) rfl rfl (fun _ => rfl) (fun _ => rfl) dX9_init_55 ?_
  refine c_aload_n (pc := 58) (n := 11) (kc := 6) (ks := 49158) dX9_init_58 rfl 0 rfl ?_
  refine c_bipush (pc := 59) (n := 11) (kc := 6) (ks := 49158) dX9_init_59 kb_33 ?_
  refine c_na_long (pc := 61) (n := 11) (kc := 6) (ks := 49158) (len := 33) (show okA dsA [(4, 5), (4, 4), (4, 3), (4, 2), (4, 1), (4, 0), (0, 0)] 11 = true by decide +kernel) (Nat.le_of_ble_eq_true rfl) (Nat.le_of_ble_eq_true rfl) rfl rfl ac_long (by decide) (by decide) (Nat.le_of_ble_eq_true rfl) (Nat.le_of_ble_eq_true rfl) (Nat.le_of_ble_eq_true rfl) (by decide) (by decide) dX9_init_61 ?_
  refine c_putR (pc := 63) (n := 12) (kc := 7) (ks := 49191) (k := 4) (j := 6) (t := 11) (fs := [some 5, some 6, some 7, some 8, some 9, some 10, some 11, some 12, none, none, none]) (Nat.le_of_ble_eq_true rfl) rfl rfl rfl cf9 flRX9_31 rfl (by decide) rfl rfl (fun _ => rfl) (fun _ => rfl) dX9_init_63 ?_
  refine c_aload_n (pc := 66) (n := 12) (kc := 7) (ks := 49191) dX9_init_66 rfl 0 rfl ?_
  refine c_sipush (pc := 67) (n := 12) (kc := 7) (ks := 49191) dX9_init_67 ks_8192 ?_
  refine c_na_long (pc := 70) (n := 12) (kc := 7) (ks := 49191) (len := 8192) (show okA dsA [(4, 6), (4, 5), (4, 4), (4, 3), (4, 2), (4, 1), (4, 0), (0, 0)] 12 = true by decide +kernel) (Nat.le_of_ble_eq_true rfl) (Nat.le_of_ble_eq_true rfl) rfl rfl ac_long (by decide) (by decide) (Nat.le_of_ble_eq_true rfl) (Nat.le_of_ble_eq_true rfl) (Nat.le_of_ble_eq_true rfl) (by decide) (by decide) dX9_init_70 ?_
  refine c_putR (pc := 72) (n := 13) (kc := 8) (ks := 57383) (k := 4) (j := 7) (t := 12) (fs := [some 5, some 6, some 7, some 8, some 9, some 10, some 11, some 12, none, none, none]) (Nat.le_of_ble_eq_true rfl) rfl rfl rfl cf9 flRX9_34 rfl (by decide) rfl rfl (fun _ => rfl) (fun _ => rfl) dX9_init_72 ?_
  exact hz _ _
theorem dX8_init_0 : decode cX8_init 0 = .ok (.aload_n 0, 1) := by decide +kernel
theorem dX8_init_1 : decode cX8_init 1 = .ok (.invokespecial 3, 3) := by decide +kernel
theorem dX8_init_4 : decode cX8_init 4 = .ok (.aload_n 0, 1) := by decide +kernel
theorem dX8_init_5 : decode cX8_init 5 = .ok (.sipush 4104, 3) := by decide +kernel
theorem dX8_init_8 : decode cX8_init 8 = .ok (.newarray .int, 2) := by decide +kernel
theorem dX8_init_10 : decode cX8_init 10 = .ok (.putfield 11, 3) := by decide +kernel
theorem dX8_init_13 : decode cX8_init 13 = .ok (.aload_n 0, 1) := by decide +kernel
theorem dX8_init_14 : decode cX8_init 14 = .ok (.sipush 4104, 3) := by decide +kernel
theorem dX8_init_17 : decode cX8_init 17 = .ok (.newarray .int, 2) := by decide +kernel
theorem dX8_init_19 : decode cX8_init 19 = .ok (.putfield 15, 3) := by decide +kernel
theorem dX8_init_22 : decode cX8_init 22 = .ok (.aload_n 0, 1) := by decide +kernel
theorem dX8_init_23 : decode cX8_init 23 = .ok (.sipush 4104, 3) := by decide +kernel
theorem dX8_init_26 : decode cX8_init 26 = .ok (.newarray .int, 2) := by decide +kernel
theorem dX8_init_28 : decode cX8_init 28 = .ok (.putfield 18, 3) := by decide +kernel
theorem dX8_init_31 : decode cX8_init 31 = .ok (.aload_n 0, 1) := by decide +kernel
theorem dX8_init_32 : decode cX8_init 32 = .ok (.sipush 4104, 3) := by decide +kernel
theorem dX8_init_35 : decode cX8_init 35 = .ok (.newarray .int, 2) := by decide +kernel
theorem dX8_init_37 : decode cX8_init 37 = .ok (.putfield 21, 3) := by decide +kernel
theorem dX8_init_40 : decode cX8_init 40 = .ok (.aload_n 0, 1) := by decide +kernel
theorem dX8_init_41 : decode cX8_init 41 = .ok (.sipush 4104, 3) := by decide +kernel
theorem dX8_init_44 : decode cX8_init 44 = .ok (.newarray .int, 2) := by decide +kernel
theorem dX8_init_46 : decode cX8_init 46 = .ok (.putfield 24, 3) := by decide +kernel
theorem dX8_init_49 : decode cX8_init 49 = .ok (.aload_n 0, 1) := by decide +kernel
theorem dX8_init_50 : decode cX8_init 50 = .ok (.sipush 4104, 3) := by decide +kernel
theorem dX8_init_53 : decode cX8_init 53 = .ok (.newarray .int, 2) := by decide +kernel
theorem dX8_init_55 : decode cX8_init 55 = .ok (.putfield 27, 3) := by decide +kernel
theorem dX8_init_58 : decode cX8_init 58 = .ok (.aload_n 0, 1) := by decide +kernel
theorem dX8_init_59 : decode cX8_init 59 = .ok (.sipush 4104, 3) := by decide +kernel
theorem dX8_init_62 : decode cX8_init 62 = .ok (.newarray .int, 2) := by decide +kernel
theorem dX8_init_64 : decode cX8_init 64 = .ok (.putfield 30, 3) := by decide +kernel
theorem dX8_init_67 : decode cX8_init 67 = .ok (.aload_n 0, 1) := by decide +kernel
theorem dX8_init_68 : decode cX8_init 68 = .ok (.sipush 4104, 3) := by decide +kernel
theorem dX8_init_71 : decode cX8_init 71 = .ok (.newarray .int, 2) := by decide +kernel
theorem dX8_init_73 : decode cX8_init 73 = .ok (.putfield 33, 3) := by decide +kernel
theorem dX8_init_76 : decode cX8_init 76 = .ok (.aload_n 0, 1) := by decide +kernel
theorem dX8_init_77 : decode cX8_init 77 = .ok (.sipush 4104, 3) := by decide +kernel
theorem dX8_init_80 : decode cX8_init 80 = .ok (.newarray .int, 2) := by decide +kernel
theorem dX8_init_82 : decode cX8_init 82 = .ok (.putfield 36, 3) := by decide +kernel
theorem dX8_init_85 : decode cX8_init 85 = .ok (.aload_n 0, 1) := by decide +kernel
theorem dX8_init_86 : decode cX8_init 86 = .ok (.sipush 4104, 3) := by decide +kernel
theorem dX8_init_89 : decode cX8_init 89 = .ok (.newarray .int, 2) := by decide +kernel
theorem dX8_init_91 : decode cX8_init 91 = .ok (.putfield 39, 3) := by decide +kernel
theorem dX8_init_94 : decode cX8_init 94 = .ok (.aload_n 0, 1) := by decide +kernel
theorem dX8_init_95 : decode cX8_init 95 = .ok (.sipush 4104, 3) := by decide +kernel
theorem dX8_init_98 : decode cX8_init 98 = .ok (.newarray .int, 2) := by decide +kernel
theorem dX8_init_100 : decode cX8_init 100 = .ok (.putfield 42, 3) := by decide +kernel
theorem dX8_init_103 : decode cX8_init 103 = .ok (.aload_n 0, 1) := by decide +kernel
theorem dX8_init_104 : decode cX8_init 104 = .ok (.sipush 8193, 3) := by decide +kernel
theorem dX8_init_107 : decode cX8_init 107 = .ok (.newarray .int, 2) := by decide +kernel
theorem dX8_init_109 : decode cX8_init 109 = .ok (.putfield 47, 3) := by decide +kernel
theorem dX8_init_112 : decode cX8_init 112 = .ok (.return_, 1) := by decide +kernel
def WX8_init (w : Wd) : Wd := (zr (zr (zr (zr (zr (zr (zr (zr (zr (zr (zr (zr w 14) 15) 16) 17) 18) 19) 20) 21) 22) 23) 24) 25)
theorem kX8_init {q : Gq} {F : Nat → Prop} {l : Launch} {w : Wd} : CC (gbA q F) l 1 12 53337 yX8_init cX8_init 1 [.ref 13] 14 [(3, 0), (4, 7), (4, 6), (4, 5), (4, 4), (4, 3), (4, 2), (4, 1), (4, 0), (0, 0)] w 26 [(13, 11), (13, 10), (13, 9), (13, 8), (13, 7), (13, 6), (13, 5), (13, 4), (13, 3), (13, 2), (13, 1), (13, 0), (3, 0), (4, 7), (4, 6), (4, 5), (4, 4), (4, 3), (4, 2), (4, 1), (4, 0), (0, 0)] (WX8_init w) := by
  refine CC.of (by decide) rfl (Nat.le_of_ble_eq_true rfl) (fun ad0 => ?_)
  show RC (gbA q F) ad0 14 26 [(13, 11), (13, 10), (13, 9), (13, 8), (13, 7), (13, 6), (13, 5), (13, 4), (13, 3), (13, 2), (13, 1), (13, 0), (3, 0), (4, 7), (4, 6), (4, 5), (4, 4), (4, 3), (4, 2), (4, 1), (4, 0), (0, 0)] (WX8_init w) l 1 12 53337 yX8_init cX8_init 1 14 [(3, 0), (4, 7), (4, 6), (4, 5), (4, 4), (4, 3), (4, 2), (4, 1), (4, 0), (0, 0)] 0 0 0 [] [(0, .ref 13)] w
  refine c_aload_n (pc := 0) (n := 14) (kc := 0) (ks := 0) dX8_init_0 rfl 0 rfl ?_
  refine c_obj (pc := 1) (n := 14) (kc := 0) (ks := 0) moRX8 oi_i oi_c (Nat.le_of_ble_eq_true rfl) (Nat.le_of_ble_eq_true rfl) dX8_init_1 ?_
  refine c_aload_n (pc := 4) (n := 14) (kc := 0) (ks := 0) dX8_init_4 rfl 0 rfl ?_
  refine c_sipush (pc := 5) (n := 14) (kc := 0) (ks := 0) dX8_init_5 ks_4104 ?_
  refine c_na_int (pc := 8) (n := 14) (kc := 0) (ks := 0) (len := 4104) (show okA dsA [(3, 0), (4, 7), (4, 6), (4, 5), (4, 4), (4, 3), (4, 2), (4, 1), (4, 0), (0, 0)] 14 = true by decide +kernel) (Nat.le_of_ble_eq_true rfl) (Nat.le_of_ble_eq_true rfl) rfl rfl ac_int (by decide) (by decide) (Nat.le_of_ble_eq_true rfl) (Nat.le_of_ble_eq_true rfl) (Nat.le_of_ble_eq_true rfl) (by decide) (by decide) dX8_init_8 ?_
  refine c_putR (pc := 10) (n := 15) (kc := 1) (ks := 4104) (k := 13) (j := 0) (t := 14) (fs := [some 14, some 15, some 16, some 17, some 18, some 19, some 20, some 21, some 22, some 23, some 24, some 25, none, none, none]) (Nat.le_of_ble_eq_true rfl) rfl rfl rfl cf8 flRX8_11 rfl (by decide) rfl rfl (fun _ => rfl) (fun _ => rfl) dX8_init_10 ?_
  refine c_aload_n (pc := 13) (n := 15) (kc := 1) (ks := 4104) dX8_init_13 rfl 0 rfl ?_
  refine c_sipush (pc := 14) (n := 15) (kc := 1) (ks := 4104) dX8_init_14 ks_4104 ?_
  refine c_na_int (pc := 17) (n := 15) (kc := 1) (ks := 4104) (len := 4104) (show okA dsA [(13, 0), (3, 0), (4, 7), (4, 6), (4, 5), (4, 4), (4, 3), (4, 2), (4, 1), (4, 0), (0, 0)] 15 = true by decide +kernel) (Nat.le_of_ble_eq_true rfl) (Nat.le_of_ble_eq_true rfl) rfl rfl ac_int (by decide) (by decide) (Nat.le_of_ble_eq_true rfl) (Nat.le_of_ble_eq_true rfl) (Nat.le_of_ble_eq_true rfl) (by decide) (by decide) dX8_init_17 ?_
  refine c_putR (pc := 19) (n := 16) (kc := 2) (ks := 8208) (k := 13) (j := 1) (t := 15) (fs := [some 14, some 15, some 16, some 17, some 18, some 19, some 20, some 21, some 22, some 23, some 24, some 25, none, none, none]) (Nat.le_of_ble_eq_true rfl) rfl rfl rfl cf8 flRX8_15 rfl (by decide) rfl rfl (fun _ => rfl) (fun _ => rfl) dX8_init_19 ?_
  refine c_aload_n (pc := 22) (n := 16) (kc := 2) (ks := 8208) dX8_init_22 rfl 0 rfl ?_
  refine c_sipush (pc := 23) (n := 16) (kc := 2) (ks := 8208) dX8_init_23 ks_4104 ?_
  refine c_na_int (pc := 26) (n := 16) (kc := 2) (ks := 8208) (len := 4104) (show okA dsA [(13, 1), (13, 0), (3, 0), (4, 7), (4, 6), (4, 5), (4, 4), (4, 3), (4, 2), (4, 1), (4, 0), (0, 0)] 16 = true by decide +kernel) (Nat.le_of_ble_eq_true rfl) (Nat.le_of_ble_eq_true rfl) rfl rfl ac_int (by decide) (by decide) (Nat.le_of_ble_eq_true rfl) (Nat.le_of_ble_eq_true rfl) (Nat.le_of_ble_eq_true rfl) (by decide) (by decide) dX8_init_26 ?_
  refine c_putR (pc := 28) (n := 17) (kc := 3) (ks := 12312) (k := 13) (j := 2) (t := 16) (fs := [some 14, some 15, some 16, some 17, some 18, some 19, some 20, some 21, some 22, some 23, some 24, some 25, none, none, none]) (Nat.le_of_ble_eq_true rfl) rfl rfl rfl cf8 flRX8_18 rfl (by decide) rfl rfl (fun _ => rfl) (fun _ => rfl) dX8_init_28 ?_
  refine c_aload_n (pc := 31) (n := 17) (kc := 3) (ks := 12312) dX8_init_31 rfl 0 rfl ?_
  refine c_sipush (pc := 32) (n := 17) (kc := 3) (ks := 12312) dX8_init_32 ks_4104 ?_
  refine c_na_int (pc := 35) (n := 17) (kc := 3) (ks := 12312) (len := 4104) (show okA dsA [(13, 2), (13, 1), (13, 0), (3, 0), (4, 7), (4, 6), (4, 5), (4, 4), (4, 3), (4, 2), (4, 1), (4, 0), (0, 0)] 17 = true by decide +kernel) (Nat.le_of_ble_eq_true rfl) (Nat.le_of_ble_eq_true rfl) rfl rfl ac_int (by decide) (by decide) (Nat.le_of_ble_eq_true rfl) (Nat.le_of_ble_eq_true rfl) (Nat.le_of_ble_eq_true rfl) (by decide) (by decide) dX8_init_35 ?_
  refine c_putR (pc := 37) (n := 18) (kc := 4) (ks := 16416) (k := 13) (j := 3) (t := 17) (fs := [some 14, some 15, some 16, some 17, some 18, some 19, some 20, some 21, some 22, some 23, some 24, some 25, none, none, none]) (Nat.le_of_ble_eq_true rfl) rfl rfl rfl cf8 flRX8_21 rfl (by decide) rfl rfl (fun _ => rfl) (fun _ => rfl) dX8_init_37 ?_
  refine c_aload_n (pc := 40) (n := 18) (kc := 4) (ks := 16416) dX8_init_40 rfl 0 rfl ?_
  refine c_sipush (pc := 41) (n := 18) (kc := 4) (ks := 16416) dX8_init_41 ks_4104 ?_
  refine c_na_int (pc := 44) (n := 18) (kc := 4) (ks := 16416) (len := 4104) (show okA dsA [(13, 3), (13, 2), (13, 1), (13, 0), (3, 0), (4, 7), (4, 6), (4, 5), (4, 4), (4, 3), (4, 2), (4, 1), (4, 0), (0, 0)] 18 = true by decide +kernel) (Nat.le_of_ble_eq_true rfl) (Nat.le_of_ble_eq_true rfl) rfl rfl ac_int (by decide) (by decide) (Nat.le_of_ble_eq_true rfl) (Nat.le_of_ble_eq_true rfl) (Nat.le_of_ble_eq_true rfl) (by decide) (by decide) dX8_init_44 ?_
  refine c_putR (pc := 46) (n := 19) (kc := 5) (ks := 20520) (k := 13) (j := 4) (t := 18) (fs := [some 14, some 15, some 16, some 17, some 18, some 19, some 20, some 21, some 22, some 23, some 24, some 25, none, none, none]) (Nat.le_of_ble_eq_true rfl) rfl rfl rfl cf8 flRX8_24 rfl (by decide) rfl rfl (fun _ => rfl) (fun _ => rfl) dX8_init_46 ?_
  refine c_aload_n (pc := 49) (n := 19) (kc := 5) (ks := 20520) dX8_init_49 rfl 0 rfl ?_
  refine c_sipush (pc := 50) (n := 19) (kc := 5) (ks := 20520) dX8_init_50 ks_4104 ?_
  refine c_na_int (pc := 53) (n := 19) (kc := 5) (ks := 20520) (len := 4104) (show okA dsA [(13, 4), (13, 3), (13, 2), (13, 1), (13, 0), (3, 0), (4, 7), (4, 6), (4, 5), (4, 4), (4, 3), (4, 2), (4, 1), (4, 0), (0, 0)] 19 = true by decide +kernel) (Nat.le_of_ble_eq_true rfl) (Nat.le_of_ble_eq_true rfl) rfl rfl ac_int (by decide) (by decide) (Nat.le_of_ble_eq_true rfl) (Nat.le_of_ble_eq_true rfl) (Nat.le_of_ble_eq_true rfl) (by decide) (by decide) dX8_init_53 ?_
  refine c_putR (pc := 55) (n := 20) (kc := 6) (ks := 24624) (k := 13) (j := 5) (t := 19) (fs := [some 14, some 15, some 16, some 17, some 18, some 19, some 20, some 21, some 22, some 23, some 24, some 25, none, none, none]) (Nat.le_of_ble_eq_true rfl) rfl rfl rfl cf8 flRX8_27 rfl (by decide) rfl rfl (fun _ => rfl) (fun _ => rfl) dX8_init_55 ?_
  refine c_aload_n (pc := 58) (n := 20) (kc := 6) (ks := 24624) dX8_init_58 rfl 0 rfl ?_
  refine c_sipush (pc := 59) (n := 20) (kc := 6) (ks := 24624) dX8_init_59 ks_4104 ?_
  refine c_na_int (pc := 62) (n := 20) (kc := 6) (ks := 24624) (len := 4104) (show okA dsA [(13, 5), (13, 4), (13, 3), (13, 2), (13, 1), (13, 0), (3, 0), (4, 7), (4, 6), (4, 5), (4, 4), (4, 3), (4, 2), (4, 1), (4, 0), (0, 0)] 20 = true by decide +kernel) (Nat.le_of_ble_eq_true rfl) (Nat.le_of_ble_eq_true rfl) rfl rfl ac_int (by decide) (by decide) (Nat.le_of_ble_eq_true rfl) (Nat.le_of_ble_eq_true rfl) (Nat.le_of_ble_eq_true rfl) (by decide) (by decide) dX8_init_62 ?_
  refine c_putR (pc := 64) (n := 21) (kc := 7) (ks := 28728) (k := 13) (j := 6) (t := 20) (fs := [some 14, some 15, some 16, some 17, some 18, some 19, some 20, some 21, some 22, some 23, some 24, some 25, none, none, none]) (Nat.le_of_ble_eq_true rfl) rfl rfl rfl cf8 flRX8_30 rfl (by decide) rfl rfl (fun _ => rfl) (fun _ => rfl) dX8_init_64 ?_
  refine c_aload_n (pc := 67) (n := 21) (kc := 7) (ks := 28728) dX8_init_67 rfl 0 rfl ?_
  refine c_sipush (pc := 68) (n := 21) (kc := 7) (ks := 28728) dX8_init_68 ks_4104 ?_
  refine c_na_int (pc := 71) (n := 21) (kc := 7) (ks := 28728) (len := 4104) (show okA dsA [(13, 6), (13, 5), (13, 4), (13, 3), (13, 2), (13, 1), (13, 0), (3, 0), (4, 7), (4, 6), (4, 5), (4, 4), (4, 3), (4, 2), (4, 1), (4, 0), (0, 0)] 21 = true by decide +kernel) (Nat.le_of_ble_eq_true rfl) (Nat.le_of_ble_eq_true rfl) rfl rfl ac_int (by decide) (by decide) (Nat.le_of_ble_eq_true rfl) (Nat.le_of_ble_eq_true rfl) (Nat.le_of_ble_eq_true rfl) (by decide) (by decide) dX8_init_71 ?_
  refine c_putR (pc := 73) (n := 22) (kc := 8) (ks := 32832) (k := 13) (j := 7) (t := 21) (fs := [some 14, some 15, some 16, some 17, some 18, some 19, some 20, some 21, some 22, some 23, some 24, some 25, none, none, none]) (Nat.le_of_ble_eq_true rfl) rfl rfl rfl cf8 flRX8_33 rfl (by decide) rfl rfl (fun _ => rfl) (fun _ => rfl) dX8_init_73 ?_
  refine c_aload_n (pc := 76) (n := 22) (kc := 8) (ks := 32832) dX8_init_76 rfl 0 rfl ?_
  refine c_sipush (pc := 77) (n := 22) (kc := 8) (ks := 32832) dX8_init_77 ks_4104 ?_
  refine c_na_int (pc := 80) (n := 22) (kc := 8) (ks := 32832) (len := 4104) (show okA dsA [(13, 7), (13, 6), (13, 5), (13, 4), (13, 3), (13, 2), (13, 1), (13, 0), (3, 0), (4, 7), (4, 6), (4, 5), (4, 4), (4, 3), (4, 2), (4, 1), (4, 0), (0, 0)] 22 = true by decide +kernel) (Nat.le_of_ble_eq_true rfl) (Nat.le_of_ble_eq_true rfl) rfl rfl ac_int (by decide) (by decide) (Nat.le_of_ble_eq_true rfl) (Nat.le_of_ble_eq_true rfl) (Nat.le_of_ble_eq_true rfl) (by decide) (by decide) dX8_init_80 ?_
  refine c_putR (pc := 82) (n := 23) (kc := 9) (ks := 36936) (k := 13) (j := 8) (t := 22) (fs := [some 14, some 15, some 16, some 17, some 18, some 19, some 20, some 21, some 22, some 23, some 24, some 25, none, none, none]) (Nat.le_of_ble_eq_true rfl) rfl rfl rfl cf8 flRX8_36 rfl (by decide) rfl rfl (fun _ => rfl) (fun _ => rfl) dX8_init_82 ?_
  refine c_aload_n (pc := 85) (n := 23) (kc := 9) (ks := 36936) dX8_init_85 rfl 0 rfl ?_
  refine c_sipush (pc := 86) (n := 23) (kc := 9) (ks := 36936) dX8_init_86 ks_4104 ?_
  refine c_na_int (pc := 89) (n := 23) (kc := 9) (ks := 36936) (len := 4104) (show okA dsA [(13, 8), (13, 7), (13, 6), (13, 5), (13, 4), (13, 3), (13, 2), (13, 1), (13, 0), (3, 0), (4, 7), (4, 6), (4, 5), (4, 4), (4, 3), (4, 2), (4, 1), (4, 0), (0, 0)] 23 = true by decide +kernel) (Nat.le_of_ble_eq_true rfl) (Nat.le_of_ble_eq_true rfl) rfl rfl ac_int (by decide) (by decide) (Nat.le_of_ble_eq_true rfl) (Nat.le_of_ble_eq_true rfl) (Nat.le_of_ble_eq_true rfl) (by decide) (by decide) dX8_init_89 ?_
  refine c_putR (pc := 91) (n := 24) (kc := 10) (ks := 41040) (k := 13) (j := 9) (t := 23) (fs := [some 14, some 15, some 16, some 17, some 18, some 19, some 20, some 21, some 22, some 23, some 24, some 25, none, none, none]) (Nat.le_of_ble_eq_true rfl) rfl rfl rfl cf8 flRX8_39 rfl (by decide) rfl rfl (fun _ => rfl) (fun _ => rfl) dX8_init_91 ?_
  refine c_aload_n (pc := 94) (n := 24) (kc := 10) (ks := 41040) dX8_init_94 rfl 0 rfl ?_
  refine c_sipush (pc := 95) (n := 24) (kc := 10) (ks := 41040) dX8_init_95 ks_4104 ?_
  refine c_na_int (pc := 98) (n := 24) (kc := 10) (ks := 41040) (len := 4104) (show okA dsA [(13, 9), (13, 8), (13, 7), (13, 6), (13, 5), (13, 4), (13, 3), (13, 2), (13, 1), (13, 0), (3, 0), (4, 7), (4, 6), (4, 5), (4, 4), (4, 3), (4, 2), (4, 1), (4, 0), (0, 0)] 24 = true by decide +kernel) (Nat.le_of_ble_eq_true rfl) (Nat.le_of_ble_eq_true rfl) rfl rfl ac_int (by decide) (by decide) (Nat.le_of_ble_eq_true rfl) (Nat.le_of_ble_eq_true rfl) (Nat.le_of_ble_eq_true rfl) (by decide) (by decide) dX8_init_98 ?_
  refine c_putR (pc := 100) (n := 25) (kc := 11) (ks := 45144) (k := 13) (j := 10) (t := 24) (fs := [some 14, some 15, some 16, some 17, some 18, some 19, some 20, some 21, some 22, some 23, some 24, some 25, none, none, none]) (Nat.le_of_ble_eq_true rfl) rfl rfl rfl cf8 flRX8_42 rfl (by decide) rfl rfl (fun _ => rfl) (fun _ => rfl) dX8_init_100 ?_
  refine c_aload_n (pc := 103) (n := 25) (kc := 11) (ks := 45144) dX8_init_103 rfl 0 rfl ?_
  refine c_sipush (pc := 104) (n := 25) (kc := 11) (ks := 45144) dX8_init_104 ks_8193 ?_
  refine c_na_int (pc := 107) (n := 25) (kc := 11) (ks := 45144) (len := 8193) (show okA dsA [(13, 10), (13, 9), (13, 8), (13, 7), (13, 6), (13, 5), (13, 4), (13, 3), (13, 2), (13, 1), (13, 0), (3, 0), (4, 7), (4, 6), (4, 5), (4, 4), (4, 3), (4, 2), (4, 1), (4, 0), (0, 0)] 25 = true by decide +kernel) (Nat.le_of_ble_eq_true rfl) (Nat.le_of_ble_eq_true rfl) rfl rfl ac_int (by decide) (by decide) (Nat.le_of_ble_eq_true rfl) (Nat.le_of_ble_eq_true rfl) (Nat.le_of_ble_eq_true rfl) (by decide) (by decide) dX8_init_107 ?_
  refine c_putR (pc := 109) (n := 26) (kc := 12) (ks := 53337) (k := 13) (j := 11) (t := 25) (fs := [some 14, some 15, some 16, some 17, some 18, some 19, some 20, some 21, some 22, some 23, some 24, some 25, none, none, none]) (Nat.le_of_ble_eq_true rfl) rfl rfl rfl cf8 flRX8_47 rfl (by decide) rfl rfl (fun _ => rfl) (fun _ => rfl) dX8_init_109 ?_
  exact c_ret (pc := 112) (n := 26) (kc := 12) (ks := 53337) dX8_init_112 rfl rfl rfl (Nat.le_of_ble_eq_true rfl) (Nat.le_of_ble_eq_true rfl)
theorem dX7_init_0 : decode cX7_init 0 = .ok (.aload_n 0, 1) := by decide +kernel
theorem dX7_init_1 : decode cX7_init 1 = .ok (.invokespecial 3, 3) := by decide +kernel
theorem dX7_init_4 : decode cX7_init 4 = .ok (.aload_n 0, 1) := by decide +kernel
theorem dX7_init_5 : decode cX7_init 5 = .ok (.sipush 8192, 3) := by decide +kernel
theorem dX7_init_8 : decode cX7_init 8 = .ok (.newarray .int, 2) := by decide +kernel
theorem dX7_init_10 : decode cX7_init 10 = .ok (.putfield 9, 3) := by decide +kernel
theorem dX7_init_13 : decode cX7_init 13 = .ok (.aload_n 0, 1) := by decide +kernel
theorem dX7_init_14 : decode cX7_init 14 = .ok (.sipush 4104, 3) := by decide +kernel
theorem dX7_init_17 : decode cX7_init 17 = .ok (.newarray .int, 2) := by decide +kernel
theorem dX7_init_19 : decode cX7_init 19 = .ok (.putfield 17, 3) := by decide +kernel
theorem dX7_init_22 : decode cX7_init 22 = .ok (.aload_n 0, 1) := by decide +kernel
theorem dX7_init_23 : decode cX7_init 23 = .ok (.sipush 4104, 3) := by decide +kernel
theorem dX7_init_26 : decode cX7_init 26 = .ok (.newarray .int, 2) := by decide +kernel
theorem dX7_init_28 : decode cX7_init 28 = .ok (.putfield 20, 3) := by decide +kernel
theorem dX7_init_31 : decode cX7_init 31 = .ok (.aload_n 0, 1) := by decide +kernel
theorem dX7_init_32 : decode cX7_init 32 = .ok (.sipush 4104, 3) := by decide +kernel
theorem dX7_init_35 : decode cX7_init 35 = .ok (.newarray .int, 2) := by decide +kernel
theorem dX7_init_37 : decode cX7_init 37 = .ok (.putfield 23, 3) := by decide +kernel
theorem dX7_init_40 : decode cX7_init 40 = .ok (.aload_n 0, 1) := by decide +kernel
theorem dX7_init_41 : decode cX7_init 41 = .ok (.sipush 4096, 3) := by decide +kernel
theorem dX7_init_44 : decode cX7_init 44 = .ok (.newarray .int, 2) := by decide +kernel
theorem dX7_init_46 : decode cX7_init 46 = .ok (.putfield 26, 3) := by decide +kernel
theorem dX7_init_49 : decode cX7_init 49 = .ok (.aload_n 0, 1) := by decide +kernel
theorem dX7_init_50 : decode cX7_init 50 = .ok (.sipush 4096, 3) := by decide +kernel
theorem dX7_init_53 : decode cX7_init 53 = .ok (.newarray .int, 2) := by decide +kernel
theorem dX7_init_55 : decode cX7_init 55 = .ok (.putfield 29, 3) := by decide +kernel
theorem dX7_init_58 : decode cX7_init 58 = .ok (.aload_n 0, 1) := by decide +kernel
theorem dX7_init_59 : decode cX7_init 59 = .ok (.sipush 4096, 3) := by decide +kernel
theorem dX7_init_62 : decode cX7_init 62 = .ok (.newarray .int, 2) := by decide +kernel
theorem dX7_init_64 : decode cX7_init 64 = .ok (.putfield 32, 3) := by decide +kernel
theorem dX7_init_67 : decode cX7_init 67 = .ok (.aload_n 0, 1) := by decide +kernel
theorem dX7_init_68 : decode cX7_init 68 = .ok (.aload_n 1, 1) := by decide +kernel
theorem dX7_init_69 : decode cX7_init 69 = .ok (.putfield 35, 3) := by decide +kernel
theorem dX7_init_72 : decode cX7_init 72 = .ok (.return_, 1) := by decide +kernel
def WX7_init (w : Wd) : Wd := (zr (zr (zr (zr (zr (zr (zr w 27) 28) 29) 30) 31) 32) 33)
theorem kX7_init {q : Gq} {F : Nat → Prop} {l : Launch} {w : Wd} : CC (gbA q F) l 1 7 32792 yX7_init cX7_init 2 [.ref 26, .ref 13] 27 [(3, 1), (13, 11), (13, 10), (13, 9), (13, 8), (13, 7), (13, 6), (13, 5), (13, 4), (13, 3), (13, 2), (13, 1), (13, 0), (3, 0), (4, 7), (4, 6), (4, 5), (4, 4), (4, 3), (4, 2), (4, 1), (4, 0), (0, 0)] w 34 [(26, 7), (26, 6), (26, 5), (26, 4), (26, 3), (26, 2), (26, 1), (26, 0), (3, 1), (13, 11), (13, 10), (13, 9), (13, 8), (13, 7), (13, 6), (13, 5), (13, 4), (13, 3), (13, 2), (13, 1), (13, 0), (3, 0), (4, 7), (4, 6), (4, 5), (4, 4), (4, 3), (4, 2), (4, 1), (4, 0), (0, 0)] (WX7_init w) := by
  refine CC.of (by decide) rfl (Nat.le_of_ble_eq_true rfl) (fun ad0 => ?_)
  show RC (gbA q F) ad0 27 34 [(26, 7), (26, 6), (26, 5), (26, 4), (26, 3), (26, 2), (26, 1), (26, 0), (3, 1), (13, 11), (13, 10), (13, 9), (13, 8), (13, 7), (13, 6), (13, 5), (13, 4), (13, 3), (13, 2), (13, 1), (13, 0), (3, 0), (4, 7), (4, 6), (4, 5), (4, 4), (4, 3), (4, 2), (4, 1), (4, 0), (0, 0)] (WX7_init w) l 1 7 32792 yX7_init cX7_init 2 27 [(3, 1), (13, 11), (13, 10), (13, 9), (13, 8), (13, 7), (13, 6), (13, 5), (13, 4), (13, 3), (13, 2), (13, 1), (13, 0), (3, 0), (4, 7), (4, 6), (4, 5), (4, 4), (4, 3), (4, 2), (4, 1), (4, 0), (0, 0)] 0 0 0 [] [(0, .ref 26), (1, .ref 13)] w
  refine c_aload_n (pc := 0) (n := 27) (kc := 0) (ks := 0) dX7_init_0 rfl 0 rfl ?_
  refine c_obj (pc := 1) (n := 27) (kc := 0) (ks := 0) moRX7 oi_i oi_c (Nat.le_of_ble_eq_true rfl) (Nat.le_of_ble_eq_true rfl) dX7_init_1 ?_
  refine c_aload_n (pc := 4) (n := 27) (kc := 0) (ks := 0) dX7_init_4 rfl 0 rfl ?_
  refine c_sipush (pc := 5) (n := 27) (kc := 0) (ks := 0) dX7_init_5 ks_8192 ?_
  refine c_na_int (pc := 8) (n := 27) (kc := 0) (ks := 0) (len := 8192) (show okA dsA [(3, 1), (13, 11), (13, 10), (13, 9), (13, 8), (13, 7), (13, 6), (13, 5), (13, 4), (13, 3), (13, 2), (13, 1), (13, 0), (3, 0), (4, 7), (4, 6), (4, 5), (4, 4), (4, 3), (4, 2), (4, 1), (4, 0), (0, 0)] 27 = true by decide +kernel) (Nat.le_of_ble_eq_true rfl) (Nat.le_of_ble_eq_true rfl) rfl rfl ac_int (by decide) (by decide) (Nat.le_of_ble_eq_true rfl) (Nat.le_of_ble_eq_true rfl) (Nat.le_of_ble_eq_true rfl) (by decide) (by decide) dX7_init_8 ?_
  refine c_putR (pc := 10) (n := 28) (kc := 1) (ks := 8192) (k := 26) (j := 0) (t := 27) (fs := [some 27, some 28, some 29, some 30, some 31, some 32, some 33, some 13, none, none, none]) (Nat.le_of_ble_eq_true rfl) rfl rfl rfl cf7 flRX7_9 rfl (by decide) rfl rfl (fun _ => rfl) (fun _ => rfl) dX7_init_10 ?_
  refine c_aload_n (pc := 13) (n := 28) (kc := 1) (ks := 8192) dX7_init_13 rfl 0 rfl ?_
  refine c_sipush (pc := 14) (n := 28) (kc := 1) (ks := 8192) dX7_init_14 ks_4104 ?_
  refine c_na_int (pc := 17) (n := 28) (kc := 1) (ks := 8192) (len := 4104) (show okA dsA [(26, 0), (3, 1), (13, 11), (13, 10), (13, 9), (13, 8), (13, 7), (13, 6), (13, 5), (13, 4), (13, 3), (13, 2), (13, 1), (13, 0), (3, 0), (4, 7), (4, 6), (4, 5), (4, 4), (4, 3), (4, 2), (4, 1), (4, 0), (0, 0)] 28 = true by decide +kernel) (Nat.le_of_ble_eq_true rfl) (Nat.le_of_ble_eq_true rfl) rfl rfl ac_int (by decide) (by decide) (Nat.le_of_ble_eq_true rfl) (Nat.le_of_ble_eq_true rfl) (Nat.le_of_ble_eq_true rfl) (by decide) (by decide) dX7_init_17 ?_
  refine c_putR (pc := 19) (n := 29) (kc := 2) (ks := 12296) (k := 26) (j := 1) (t := 28) (fs := [some 27, some 28, some 29, some 30, some 31, some 32, some 33, some 13, none, none, none]) (Nat.le_of_ble_eq_true rfl) rfl rfl rfl cf7 flRX7_17 rfl (by decide) rfl rfl (fun _ => rfl) (fun _ => rfl) dX7_init_19 ?_
  refine c_aload_n (pc := 22) (n := 29) (kc := 2) (ks := 12296) dX7_init_22 rfl 0 rfl ?_
  refine c_sipush (pc := 23) (n := 29) (kc := 2) (ks := 12296) dX7_init_23 ks_4104 ?_
  refine c_na_int (pc := 26) (n := 29) (kc := 2) (ks := 12296) (len := 4104) (show okA dsA [(26, 1), (26, 0), (3, 1), (13, 11), (13, 10), (13, 9), (13, 8), (13, 7), (13, 6), (13, 5), (13, 4), (13, 3), (13, 2), (13, 1), (13, 0), (3, 0), (4, 7), (4, 6), (4, 5), (4, 4), (4, 3), (4, 2), (4, 1), (4, 0), (0, 0)] 29 = true by decide +kernel) (Nat.le_of_ble_eq_true rfl) (Nat.le_of_ble_eq_true rfl) rfl rfl ac_int (by decide) (by decide) (Nat.le_of_ble_eq_true rfl) (Nat.le_of_ble_eq_true rfl) (Nat.le_of_ble_eq_true rfl) (by decide) (by decide) dX7_init_26 ?_
  refine c_putR (pc := 28) (n := 30) (kc := 3) (ks := 16400) (k := 26) (j := 2) (t := 29) (fs := [some 27, some 28, some 29, some 30, some 31, some 32, some 33, some 13, none, none, none]) (Nat.le_of_ble_eq_true rfl) rfl rfl rfl cf7 flRX7_20 rfl (by decide) rfl rfl (fun _ => rfl) (fun _ => rfl) dX7_init_28 ?_
  refine c_aload_n (pc := 31) (n := 30) (kc := 3) (ks := 16400) dX7_init_31 rfl 0 rfl ?_
  refine c_sipush (pc := 32) (n := 30) (kc := 3) (ks := 16400) dX7_init_32 ks_4104 ?_
  refine c_na_int (pc := 35) (n := 30) (kc := 3) (ks := 16400) (len := 4104) (show okA dsA [(26, 2), (26, 1), (26, 0), (3, 1), (13, 11), (13, 10), (13, 9), (13, 8), (13, 7), (13, 6), (13, 5), (13, 4), (13, 3), (13, 2), (13, 1), (13, 0), (3, 0), (4, 7), (4, 6), (4, 5), (4, 4), (4, 3), (4, 2), (4, 1), (4, 0), (0, 0)] 30 = true by decide +kernel) (Nat.le_of_ble_eq_true rfl) (Nat.le_of_ble_eq_true rfl) rfl rfl ac_int (by decide) (by decide) (Nat.le_of_ble_eq_true rfl) (Nat.le_of_ble_eq_true rfl) (Nat.le_of_ble_eq_true rfl) (by decide) (by decide) dX7_init_35 ?_
  refine c_putR (pc := 37) (n := 31) (kc := 4) (ks := 20504) (k := 26) (j := 3) (t := 30) (fs := [some 27, some 28, some 29, some 30, some 31, some 32, some 33, some 13, none, none, none]) (Nat.le_of_ble_eq_true rfl) rfl rfl rfl cf7 flRX7_23 rfl (by decide) rfl rfl (fun _ => rfl) (fun _ => rfl) dX7_init_37 ?_
  refine c_aload_n (pc := 40) (n := 31) (kc := 4) (ks := 20504) dX7_init_40 rfl 0 rfl ?_
  refine c_sipush (pc := 41) (n := 31) (kc := 4) (ks := 20504) dX7_init_41 ks_4096 ?_
  refine c_na_int (pc := 44) (n := 31) (kc := 4) (ks := 20504) (len := 4096) (show okA dsA [(26, 3), (26, 2), (26, 1), (26, 0), (3, 1), (13, 11), (13, 10), (13, 9), (13, 8), (13, 7), (13, 6), (13, 5), (13, 4), (13, 3), (13, 2), (13, 1), (13, 0), (3, 0), (4, 7), (4, 6), (4, 5), (4, 4), (4, 3), (4, 2), (4, 1), (4, 0), (0, 0)] 31 = true by decide +kernel) (Nat.le_of_ble_eq_true rfl) (Nat.le_of_ble_eq_true rfl) rfl rfl ac_int (by decide) (by decide) (Nat.le_of_ble_eq_true rfl) (Nat.le_of_ble_eq_true rfl) (Nat.le_of_ble_eq_true rfl) (by decide) (by decide) dX7_init_44 ?_
  refine c_putR (pc := 46) (n := 32) (kc := 5) (ks := 24600) (k := 26) (j := 4) (t := 31) (fs := [some 27, some 28, some 29, some 30, some 31, some 32, some 33, some 13, none, none, none]) (Nat.le_of_ble_eq_true rfl) rfl rfl rfl cf7 flRX7_26 rfl (by decide) rfl rfl (fun _ => rfl) (fun _ => rfl) dX7_init_46 ?_
  refine c_aload_n (pc := 49) (n := 32) (kc := 5) (ks := 24600) dX7_init_49 rfl 0 rfl ?_
  refine c_sipush (pc := 50) (n := 32) (kc := 5) (ks := 24600) dX7_init_50 ks_4096 ?_
  refine c_na_int (pc := 53) (n := 32) (kc := 5) (ks := 24600) (len := 4096) (show okA dsA [(26, 4), (26, 3), (26, 2), (26, 1), (26, 0), (3, 1), (13, 11), (13, 10), (13, 9), (13, 8), (13, 7), (13, 6), (13, 5), (13, 4), (13, 3), (13, 2), (13, 1), (13, 0), (3, 0), (4, 7), (4, 6), (4, 5), (4, 4), (4, 3), (4, 2), (4, 1), (4, 0), (0, 0)] 32 = true by decide +kernel) (Nat.le_of_ble_eq_true rfl) (Nat.le_of_ble_eq_true rfl) rfl rfl ac_int (by decide) (by decide) (Nat.le_of_ble_eq_true rfl) (Nat.le_of_ble_eq_true rfl) (Nat.le_of_ble_eq_true rfl) (by decide) (by decide) dX7_init_53 ?_
  refine c_putR (pc := 55) (n := 33) (kc := 6) (ks := 28696) (k := 26) (j := 5) (t := 32) (fs := [some 27, some 28, some 29, some 30, some 31, some 32, some 33, some 13, none, none, none]) (Nat.le_of_ble_eq_true rfl) rfl rfl rfl cf7 flRX7_29 rfl (by decide) rfl rfl (fun _ => rfl) (fun _ => rfl) dX7_init_55 ?_
  refine c_aload_n (pc := 58) (n := 33) (kc := 6) (ks := 28696) dX7_init_58 rfl 0 rfl ?_
  refine c_sipush (pc := 59) (n := 33) (kc := 6) (ks := 28696) dX7_init_59 ks_4096 ?_
  refine c_na_int (pc := 62) (n := 33) (kc := 6) (ks := 28696) (len := 4096) (show okA dsA [(26, 5), (26, 4), (26, 3), (26, 2), (26, 1), (26, 0), (3, 1), (13, 11), (13, 10), (13, 9), (13, 8), (13, 7), (13, 6), (13, 5), (13, 4), (13, 3), (13, 2), (13, 1), (13, 0), (3, 0), (4, 7), (4, 6), (4, 5), (4, 4), (4, 3), (4, 2), (4, 1), (4, 0), (0, 0)] 33 = true by decide +kernel) (Nat.le_of_ble_eq_true rfl) (Nat.le_of_ble_eq_true rfl) rfl rfl ac_int (by decide) (by decide) (Nat.le_of_ble_eq_true rfl) (Nat.le_of_ble_eq_true rfl) (Nat.le_of_ble_eq_true rfl) (by decide) (by decide) dX7_init_62 ?_
  refine c_putR (pc := 64) (n := 34) (kc := 7) (ks := 32792) (k := 26) (j := 6) (t := 33) (fs := [some 27, some 28, some 29, some 30, some 31, some 32, some 33, some 13, none, none, none]) (Nat.le_of_ble_eq_true rfl) rfl rfl rfl cf7 flRX7_32 rfl (by decide) rfl rfl (fun _ => rfl) (fun _ => rfl) dX7_init_64 ?_
  refine c_aload_n (pc := 67) (n := 34) (kc := 7) (ks := 32792) dX7_init_67 rfl 0 rfl ?_
  refine c_aload_n (pc := 68) (n := 34) (kc := 7) (ks := 32792) dX7_init_68 rfl 1 rfl ?_
  refine c_putR (pc := 69) (n := 34) (kc := 7) (ks := 32792) (k := 26) (j := 7) (t := 13) (fs := [some 27, some 28, some 29, some 30, some 31, some 32, some 33, some 13, none, none, none]) (Nat.le_of_ble_eq_true rfl) rfl rfl rfl cf7 flRX7_35 rfl (by decide) rfl rfl (fun _ => rfl) (fun _ => rfl) dX7_init_69 ?_
  exact c_ret (pc := 72) (n := 34) (kc := 7) (ks := 32792) dX7_init_72 rfl rfl rfl (Nat.le_of_ble_eq_true rfl) (Nat.le_of_ble_eq_true rfl)
theorem dX5_init_0 : decode cX5_init 0 = .ok (.aload_n 0, 1) := by decide +kernel
theorem dX5_init_1 : decode cX5_init 1 = .ok (.invokespecial 1, 3) := by decide +kernel
theorem dX5_init_4 : decode cX5_init 4 = .ok (.aload_n 0, 1) := by decide +kernel
theorem dX5_init_5 : decode cX5_init 5 = .ok (.bipush 64, 2) := by decide +kernel
theorem dX5_init_7 : decode cX5_init 7 = .ok (.newarray .int, 2) := by decide +kernel
theorem dX5_init_9 : decode cX5_init 9 = .ok (.putfield 9, 3) := by decide +kernel
theorem dX5_init_12 : decode cX5_init 12 = .ok (.aload_n 0, 1) := by decide +kernel
theorem dX5_init_13 : decode cX5_init 13 = .ok (.bipush 64, 2) := by decide +kernel
theorem dX5_init_15 : decode cX5_init 15 = .ok (.newarray .int, 2) := by decide +kernel
theorem dX5_init_17 : decode cX5_init 17 = .ok (.putfield 13, 3) := by decide +kernel
theorem dX5_init_20 : decode cX5_init 20 = .ok (.aload_n 0, 1) := by decide +kernel
theorem dX5_init_21 : decode cX5_init 21 = .ok (.bipush 64, 2) := by decide +kernel
theorem dX5_init_23 : decode cX5_init 23 = .ok (.newarray .int, 2) := by decide +kernel
theorem dX5_init_25 : decode cX5_init 25 = .ok (.putfield 16, 3) := by decide +kernel
theorem dX5_init_28 : decode cX5_init 28 = .ok (.aload_n 0, 1) := by decide +kernel
theorem dX5_init_29 : decode cX5_init 29 = .ok (.bipush 64, 2) := by decide +kernel
theorem dX5_init_31 : decode cX5_init 31 = .ok (.newarray .int, 2) := by decide +kernel
theorem dX5_init_33 : decode cX5_init 33 = .ok (.putfield 19, 3) := by decide +kernel
theorem dX5_init_36 : decode cX5_init 36 = .ok (.aload_n 0, 1) := by decide +kernel
theorem dX5_init_37 : decode cX5_init 37 = .ok (.bipush 64, 2) := by decide +kernel
theorem dX5_init_39 : decode cX5_init 39 = .ok (.newarray .int, 2) := by decide +kernel
theorem dX5_init_41 : decode cX5_init 41 = .ok (.putfield 22, 3) := by decide +kernel
theorem dX5_init_44 : decode cX5_init 44 = .ok (.return_, 1) := by decide +kernel
def WX5_init (w : Wd) : Wd := (zr (zr (zr (zr (zr w 35) 36) 37) 38) 39)
theorem kX5_init {q : Gq} {F : Nat → Prop} {l : Launch} {w : Wd} : CC (gbA q F) l 1 5 320 yX5_init cX5_init 1 [.ref 34] 35 [(3, 2), (26, 7), (26, 6), (26, 5), (26, 4), (26, 3), (26, 2), (26, 1), (26, 0), (3, 1), (13, 11), (13, 10), (13, 9), (13, 8), (13, 7), (13, 6), (13, 5), (13, 4), (13, 3), (13, 2), (13, 1), (13, 0), (3, 0), (4, 7), (4, 6), (4, 5), (4, 4), (4, 3), (4, 2), (4, 1), (4, 0), (0, 0)] w 40 [(34, 4), (34, 3), (34, 2), (34, 1), (34, 0), (3, 2), (26, 7), (26, 6), (26, 5), (26, 4), (26, 3), (26, 2), (26, 1), (26, 0), (3, 1), (13, 11), (13, 10), (13, 9), (13, 8), (13, 7), (13, 6), (13, 5), (13, 4), (13, 3), (13, 2), (13, 1), (13, 0), (3, 0), (4, 7), (4, 6), (4, 5), (4, 4), (4, 3), (4, 2), (4, 1), (4, 0), (0, 0)] (WX5_init w) := by
  refine CC.of (by decide) rfl (Nat.le_of_ble_eq_true rfl) (fun ad0 => ?_)
  show RC (gbA q F) ad0 35 40 [(34, 4), (34, 3), (34, 2), (34, 1), (34, 0), (3, 2), (26, 7), (26, 6), (26, 5), (26, 4), (26, 3), (26, 2), (26, 1), (26, 0), (3, 1), (13, 11), (13, 10), (13, 9), (13, 8), (13, 7), (13, 6), (13, 5), (13, 4), (13, 3), (13, 2), (13, 1), (13, 0), (3, 0), (4, 7), (4, 6), (4, 5), (4, 4), (4, 3), (4, 2), (4, 1), (4, 0), (0, 0)] (WX5_init w) l 1 5 320 yX5_init cX5_init 1 35 [(3, 2), (26, 7), (26, 6), (26, 5), (26, 4), (26, 3), (26, 2), (26, 1), (26, 0), (3, 1), (13, 11), (13, 10), (13, 9), (13, 8), (13, 7), (13, 6), (13, 5), (13, 4), (13, 3), (13, 2), (13, 1), (13, 0), (3, 0), (4, 7), (4, 6), (4, 5), (4, 4), (4, 3), (4, 2), (4, 1), (4, 0), (0, 0)] 0 0 0 [] [(0, .ref 34)] w
  refine c_aload_n (pc := 0) (n := 35) (kc := 0) (ks := 0) dX5_init_0 rfl 0 rfl ?_
  refine c_obj (pc := 1) (n := 35) (kc := 0) (ks := 0) moRX5 oi_i oi_c (Nat.le_of_ble_eq_true rfl) (Nat.le_of_ble_eq_true rfl) dX5_init_1 ?_
  refine c_aload_n (pc := 4) (n := 35) (kc := 0) (ks := 0) dX5_init_4 rfl 0 rfl ?_
  refine c_bipush (pc := 5) (n := 35) (kc := 0) (ks := 0) dX5_init_5 kb_64 ?_
  refine c_na_int (pc := 7) (n := 35) (kc := 0) (ks := 0) (len := 64) (show okA dsA [(3, 2), (26, 7), (26, 6), (26, 5), (26, 4), (26, 3), (26, 2), (26, 1), (26, 0), (3, 1), (13, 11), (13, 10), (13, 9), (13, 8), (13, 7), (13, 6), (13, 5), (13, 4), (13, 3), (13, 2), (13, 1), (13, 0), (3, 0), (4, 7), (4, 6), (4, 5), (4, 4), (4, 3), (4, 2), (4, 1), (4, 0), (0, 0)] 35 = true by decide +kernel) (Nat.le_of_ble_eq_true rfl) (Nat.le_of_ble_eq_true rfl) rfl rfl ac_int (by decide) (by decide) (Nat.le_of_ble_eq_true rfl) (Nat.le_of_ble_eq_true rfl) (Nat.le_of_ble_eq_true rfl) (by decide) (by decide) dX5_init_7 ?_
  refine c_putR (pc := 9) (n := 36) (kc := 1) (ks := 64) (k := 34) (j := 0) (t := 35) (fs := [some 35, some 36, some 37, some 38, some 39, none]) (Nat.le_of_ble_eq_true rfl) rfl rfl rfl cf5 flRX5_9 rfl (by decide) rfl rfl (fun _ => rfl) (fun _ => rfl) dX5_init_9 ?_
  refine c_aload_n (pc := 12) (n := 36) (kc := 1) (ks := 64) dX5_init_12 rfl 0 rfl ?_
  refine c_bipush (pc := 13) (n := 36) (kc := 1) (ks := 64) dX5_init_13 kb_64 ?_
  refine c_na_int (pc := 15) (n := 36) (kc := 1) (ks := 64) (len := 64) (show okA dsA [(34, 0), (3, 2), (26, 7), (26, 6), (26, 5), (26, 4), (26, 3), (26, 2), (26, 1), (26, 0), (3, 1), (13, 11), (13, 10), (13, 9), (13, 8), (13, 7), (13, 6), (13, 5), (13, 4), (13, 3), (13, 2), (13, 1), (13, 0), (3, 0), (4, 7), (4, 6), (4, 5), (4, 4), (4, 3), (4, 2), (4, 1), (4, 0), (0, 0)] 36 = true by decide +kernel) (Nat.le_of_ble_eq_true rfl) (Nat.le_of_ble_eq_true rfl) rfl rfl ac_int (by decide) (by decide) (Nat.le_of_ble_eq_true rfl) (Nat.le_of_ble_eq_true rfl) (Nat.le_of_ble_eq_true rfl) (by decide) (by decide) dX5_init_15 ?_
  refine c_putR (pc := 17) (n := 37) (kc := 2) (ks := 128) (k := 34) (j := 1) (t := 36) (fs := [some 35, some 36, some 37, some 38, some 39, none]) (Nat.le_of_ble_eq_true rfl) rfl rfl rfl cf5 flRX5_13 rfl (by decide) rfl rfl (fun _ => rfl) (fun _ => rfl) dX5_init_17 ?_
  refine c_aload_n (pc := 20) (n := 37) (kc := 2) (ks := 128) dX5_init_20 rfl 0 rfl ?_
  refine c_bipush (pc := 21) (n := 37) (kc := 2) (ks := 128) dX5_init_21 kb_64 ?_
  refine c_na_int (pc := 23) (n := 37) (kc := 2) (ks := 128) (len := 64) (show okA dsA [(34, 1), (34, 0), (3, 2), (26, 7), (26, 6), (26, 5), (26, 4), (26, 3), (26, 2), (26, 1), (26, 0), (3, 1), (13, 11), (13, 10), (13, 9), (13, 8), (13, 7), (13, 6), (13, 5), (13, 4), (13, 3), (13, 2), (13, 1), (13, 0), (3, 0), (4, 7), (4, 6), (4, 5), (4, 4), (4, 3), (4, 2), (4, 1), (4, 0), (0, 0)] 37 = true by decide +kernel) (Nat.le_of_ble_eq_true rfl) (Nat.le_of_ble_eq_true rfl) rfl rfl ac_int (by decide) (by decide) (Nat.le_of_ble_eq_true rfl) (Nat.le_of_ble_eq_true rfl) (Nat.le_of_ble_eq_true rfl) (by decide) (by decide) dX5_init_23 ?_
  refine c_putR (pc := 25) (n := 38) (kc := 3) (ks := 192) (k := 34) (j := 2) (t := 37) (fs := [some 35, some 36, some 37, some 38, some 39, none]) (Nat.le_of_ble_eq_true rfl) rfl rfl rfl cf5 flRX5_16 rfl (by decide) rfl rfl (fun _ => rfl) (fun _ => rfl) dX5_init_25 ?_
  refine c_aload_n (pc := 28) (n := 38) (kc := 3) (ks := 192) dX5_init_28 rfl 0 rfl ?_
  refine c_bipush (pc := 29) (n := 38) (kc := 3) (ks := 192) dX5_init_29 kb_64 ?_
  refine c_na_int (pc := 31) (n := 38) (kc := 3) (ks := 192) (len := 64) (show okA dsA [(34, 2), (34, 1), (34, 0), (3, 2), (26, 7), (26, 6), (26, 5), (26, 4), (26, 3), (26, 2), (26, 1), (26, 0), (3, 1), (13, 11), (13, 10), (13, 9), (13, 8), (13, 7), (13, 6), (13, 5), (13, 4), (13, 3), (13, 2), (13, 1), (13, 0), (3, 0), (4, 7), (4, 6), (4, 5), (4, 4), (4, 3), (4, 2), (4, 1), (4, 0), (0, 0)] 38 = true by decide +kernel) (Nat.le_of_ble_eq_true rfl) (Nat.le_of_ble_eq_true rfl) rfl rfl ac_int (by decide) (by decide) (Nat.le_of_ble_eq_true rfl) (Nat.le_of_ble_eq_true rfl) (Nat.le_of_ble_eq_true rfl) (by decide) (by decide) dX5_init_31 ?_
  refine c_putR (pc := 33) (n := 39) (kc := 4) (ks := 256) (k := 34) (j := 3) (t := 38) (fs := [some 35, some 36, some 37, some 38, some 39, none]) (Nat.le_of_ble_eq_true rfl) rfl rfl rfl cf5 flRX5_19 rfl (by decide) rfl rfl (fun _ => rfl) (fun _ => rfl) dX5_init_33 ?_
  refine c_aload_n (pc := 36) (n := 39) (kc := 4) (ks := 256) dX5_init_36 rfl 0 rfl ?_
  refine c_bipush (pc := 37) (n := 39) (kc := 4) (ks := 256) dX5_init_37 kb_64 ?_
  refine c_na_int (pc := 39) (n := 39) (kc := 4) (ks := 256) (len := 64) (show okA dsA [(34, 3), (34, 2), (34, 1), (34, 0), (3, 2), (26, 7), (26, 6), (26, 5), (26, 4), (26, 3), (26, 2), (26, 1), (26, 0), (3, 1), (13, 11), (13, 10), (13, 9), (13, 8), (13, 7), (13, 6), (13, 5), (13, 4), (13, 3), (13, 2), (13, 1), (13, 0), (3, 0), (4, 7), (4, 6), (4, 5), (4, 4), (4, 3), (4, 2), (4, 1), (4, 0), (0, 0)] 39 = true by decide +kernel) (Nat.le_of_ble_eq_true rfl) (Nat.le_of_ble_eq_true rfl) rfl rfl ac_int (by decide) (by decide) (Nat.le_of_ble_eq_true rfl) (Nat.le_of_ble_eq_true rfl) (Nat.le_of_ble_eq_true rfl) (by decide) (by decide) dX5_init_39 ?_
  refine c_putR (pc := 41) (n := 40) (kc := 5) (ks := 320) (k := 34) (j := 4) (t := 39) (fs := [some 35, some 36, some 37, some 38, some 39, none]) (Nat.le_of_ble_eq_true rfl) rfl rfl rfl cf5 flRX5_22 rfl (by decide) rfl rfl (fun _ => rfl) (fun _ => rfl) dX5_init_41 ?_
  exact c_ret (pc := 44) (n := 40) (kc := 5) (ks := 320) dX5_init_44 rfl rfl rfl (Nat.le_of_ble_eq_true rfl) (Nat.le_of_ble_eq_true rfl)
theorem dX0_init_0 : decode cX0_init 0 = .ok (.aload_n 0, 1) := by decide +kernel
theorem dX0_init_1 : decode cX0_init 1 = .ok (.invokespecial 5, 3) := by decide +kernel
theorem dX0_init_4 : decode cX0_init 4 = .ok (.aload_n 0, 1) := by decide +kernel
theorem dX0_init_5 : decode cX0_init 5 = .ok (.ldc 13, 2) := by decide +kernel
theorem dX0_init_7 : decode cX0_init 7 = .ok (.newarray .long, 2) := by decide +kernel
theorem dX0_init_9 : decode cX0_init 9 = .ok (.putfield 14, 3) := by decide +kernel
theorem dX0_init_12 : decode cX0_init 12 = .ok (.return_, 1) := by decide +kernel
def WX0_init (w : Wd) : Wd := (zr w 41)
theorem kX0_init {q : Gq} {F : Nat → Prop} {l : Launch} {w : Wd} : CC (gbA q F) l 1 1 36872 yX0_init cX0_init 1 [.ref 40] 41 [(3, 3), (34, 4), (34, 3), (34, 2), (34, 1), (34, 0), (3, 2), (26, 7), (26, 6), (26, 5), (26, 4), (26, 3), (26, 2), (26, 1), (26, 0), (3, 1), (13, 11), (13, 10), (13, 9), (13, 8), (13, 7), (13, 6), (13, 5), (13, 4), (13, 3), (13, 2), (13, 1), (13, 0), (3, 0), (4, 7), (4, 6), (4, 5), (4, 4), (4, 3), (4, 2), (4, 1), (4, 0), (0, 0)] w 42 [(40, 0), (3, 3), (34, 4), (34, 3), (34, 2), (34, 1), (34, 0), (3, 2), (26, 7), (26, 6), (26, 5), (26, 4), (26, 3), (26, 2), (26, 1), (26, 0), (3, 1), (13, 11), (13, 10), (13, 9), (13, 8), (13, 7), (13, 6), (13, 5), (13, 4), (13, 3), (13, 2), (13, 1), (13, 0), (3, 0), (4, 7), (4, 6), (4, 5), (4, 4), (4, 3), (4, 2), (4, 1), (4, 0), (0, 0)] (WX0_init w) := by
  refine CC.of (by decide) rfl (Nat.le_of_ble_eq_true rfl) (fun ad0 => ?_)
  show RC (gbA q F) ad0 41 42 [(40, 0), (3, 3), (34, 4), (34, 3), (34, 2), (34, 1), (34, 0), (3, 2), (26, 7), (26, 6), (26, 5), (26, 4), (26, 3), (26, 2), (26, 1), (26, 0), (3, 1), (13, 11), (13, 10), (13, 9), (13, 8), (13, 7), (13, 6), (13, 5), (13, 4), (13, 3), (13, 2), (13, 1), (13, 0), (3, 0), (4, 7), (4, 6), (4, 5), (4, 4), (4, 3), (4, 2), (4, 1), (4, 0), (0, 0)] (WX0_init w) l 1 1 36872 yX0_init cX0_init 1 41 [(3, 3), (34, 4), (34, 3), (34, 2), (34, 1), (34, 0), (3, 2), (26, 7), (26, 6), (26, 5), (26, 4), (26, 3), (26, 2), (26, 1), (26, 0), (3, 1), (13, 11), (13, 10), (13, 9), (13, 8), (13, 7), (13, 6), (13, 5), (13, 4), (13, 3), (13, 2), (13, 1), (13, 0), (3, 0), (4, 7), (4, 6), (4, 5), (4, 4), (4, 3), (4, 2), (4, 1), (4, 0), (0, 0)] 0 0 0 [] [(0, .ref 40)] w
  refine c_aload_n (pc := 0) (n := 41) (kc := 0) (ks := 0) dX0_init_0 rfl 0 rfl ?_
  refine c_obj (pc := 1) (n := 41) (kc := 0) (ks := 0) moRX0 oi_i oi_c (Nat.le_of_ble_eq_true rfl) (Nat.le_of_ble_eq_true rfl) dX0_init_1 ?_
  refine c_aload_n (pc := 4) (n := 41) (kc := 0) (ks := 0) dX0_init_4 rfl 0 rfl ?_
  refine c_ldc (pc := 5) (n := 41) (kc := 0) (ks := 0) dX0_init_5 kcRX0_13 ?_
  refine c_na_long (pc := 7) (n := 41) (kc := 0) (ks := 0) (len := 36872) (show okA dsA [(3, 3), (34, 4), (34, 3), (34, 2), (34, 1), (34, 0), (3, 2), (26, 7), (26, 6), (26, 5), (26, 4), (26, 3), (26, 2), (26, 1), (26, 0), (3, 1), (13, 11), (13, 10), (13, 9), (13, 8), (13, 7), (13, 6), (13, 5), (13, 4), (13, 3), (13, 2), (13, 1), (13, 0), (3, 0), (4, 7), (4, 6), (4, 5), (4, 4), (4, 3), (4, 2), (4, 1), (4, 0), (0, 0)] 41 = true by decide +kernel) (Nat.le_of_ble_eq_true rfl) (Nat.le_of_ble_eq_true rfl) rfl rfl ac_long (by decide) (by decide) (Nat.le_of_ble_eq_true rfl) (Nat.le_of_ble_eq_true rfl) (Nat.le_of_ble_eq_true rfl) (by decide) (by decide) dX0_init_7 ?_
  refine c_putR (pc := 9) (n := 42) (kc := 1) (ks := 36872) (k := 40) (j := 0) (t := 41) (fs := [some 41, none]) (Nat.le_of_ble_eq_true rfl) rfl rfl rfl cf0 flRX0_14 rfl (by decide) rfl rfl (fun _ => rfl) (fun _ => rfl) dX0_init_9 ?_
  exact c_ret (pc := 12) (n := 42) (kc := 1) (ks := 36872) dX0_init_12 rfl rfl rfl (Nat.le_of_ble_eq_true rfl) (Nat.le_of_ble_eq_true rfl)
theorem dX1_init_0 : decode cX1_init 0 = .ok (.aload_n 0, 1) := by decide +kernel
theorem dX1_init_1 : decode cX1_init 1 = .ok (.invokespecial 1, 3) := by decide +kernel
theorem dX1_init_4 : decode cX1_init 4 = .ok (.aload_n 0, 1) := by decide +kernel
theorem dX1_init_5 : decode cX1_init 5 = .ok (.new 7, 3) := by decide +kernel
theorem dX1_init_8 : decode cX1_init 8 = .ok (.dup, 1) := by decide +kernel
theorem dX1_init_9 : decode cX1_init 9 = .ok (.invokespecial 9, 3) := by decide +kernel
theorem dX1_init_12 : decode cX1_init 12 = .ok (.putfield 10, 3) := by decide +kernel
theorem dX1_init_15 : decode cX1_init 15 = .ok (.aload_n 0, 1) := by decide +kernel
theorem dX1_init_16 : decode cX1_init 16 = .ok (.new 16, 3) := by decide +kernel
theorem dX1_init_19 : decode cX1_init 19 = .ok (.dup, 1) := by decide +kernel
theorem dX1_init_20 : decode cX1_init 20 = .ok (.invokespecial 18, 3) := by decide +kernel
theorem dX1_init_23 : decode cX1_init 23 = .ok (.putfield 19, 3) := by decide +kernel
theorem dX1_init_26 : decode cX1_init 26 = .ok (.aload_n 0, 1) := by decide +kernel
theorem dX1_init_27 : decode cX1_init 27 = .ok (.new 23, 3) := by decide +kernel
theorem dX1_init_30 : decode cX1_init 30 = .ok (.dup, 1) := by decide +kernel
theorem dX1_init_31 : decode cX1_init 31 = .ok (.aload_n 0, 1) := by decide +kernel
theorem dX1_init_32 : decode cX1_init 32 = .ok (.getfield 19, 3) := by decide +kernel
theorem dX1_init_35 : decode cX1_init 35 = .ok (.invokespecial 25, 3) := by decide +kernel
theorem dX1_init_38 : decode cX1_init 38 = .ok (.putfield 28, 3) := by decide +kernel
theorem dX1_init_41 : decode cX1_init 41 = .ok (.aload_n 0, 1) := by decide +kernel
theorem dX1_init_42 : decode cX1_init 42 = .ok (.new 32, 3) := by decide +kernel
theorem dX1_init_45 : decode cX1_init 45 = .ok (.dup, 1) := by decide +kernel
theorem dX1_init_46 : decode cX1_init 46 = .ok (.invokespecial 34, 3) := by decide +kernel
theorem dX1_init_49 : decode cX1_init 49 = .ok (.putfield 35, 3) := by decide +kernel
theorem dX1_init_52 : decode cX1_init 52 = .ok (.aload_n 0, 1) := by decide +kernel
theorem dX1_init_53 : decode cX1_init 53 = .ok (.new 39, 3) := by decide +kernel
theorem dX1_init_56 : decode cX1_init 56 = .ok (.dup, 1) := by decide +kernel
theorem dX1_init_57 : decode cX1_init 57 = .ok (.invokespecial 41, 3) := by decide +kernel
theorem dX1_init_60 : decode cX1_init 60 = .ok (.putfield 42, 3) := by decide +kernel
theorem dX1_init_63 : decode cX1_init 63 = .ok (.return_, 1) := by decide +kernel
def WX1_init (w : Wd) : Wd := (WX0_init (zr (WX5_init (zr (WX7_init (zr (WX8_init (zr (WX9_init (zr w 4)) 13)) 26)) 34)) 40))
theorem kX1_init {q : Gq} {F : Nat → Prop} {l : Launch} (hz : TKI q F l) {w : Wd} : CC (gbA q F) l 11 38 180749 yX1_init cX1_init 1 [.ref 3] 4 [(0, 0)] w 42 [(3, 4), (40, 0), (3, 3), (34, 4), (34, 3), (34, 2), (34, 1), (34, 0), (3, 2), (26, 7), (26, 6), (26, 5), (26, 4), (26, 3), (26, 2), (26, 1), (26, 0), (3, 1), (13, 11), (13, 10), (13, 9), (13, 8), (13, 7), (13, 6), (13, 5), (13, 4), (13, 3), (13, 2), (13, 1), (13, 0), (3, 0), (4, 7), (4, 6), (4, 5), (4, 4), (4, 3), (4, 2), (4, 1), (4, 0), (0, 0)] (WX1_init w) := by
  refine CC.of (by decide) rfl (Nat.le_of_ble_eq_true rfl) (fun ad0 => ?_)
  show RC (gbA q F) ad0 4 42 [(3, 4), (40, 0), (3, 3), (34, 4), (34, 3), (34, 2), (34, 1), (34, 0), (3, 2), (26, 7), (26, 6), (26, 5), (26, 4), (26, 3), (26, 2), (26, 1), (26, 0), (3, 1), (13, 11), (13, 10), (13, 9), (13, 8), (13, 7), (13, 6), (13, 5), (13, 4), (13, 3), (13, 2), (13, 1), (13, 0), (3, 0), (4, 7), (4, 6), (4, 5), (4, 4), (4, 3), (4, 2), (4, 1), (4, 0), (0, 0)] (WX1_init w) l 11 38 180749 yX1_init cX1_init 1 4 [(0, 0)] 0 0 0 [] [(0, .ref 3)] w
  refine c_aload_n (pc := 0) (n := 4) (kc := 0) (ks := 0) dX1_init_0 rfl 0 rfl ?_
  refine c_obj (pc := 1) (n := 4) (kc := 0) (ks := 0) moRX1 oi_i oi_c (Nat.le_of_ble_eq_true rfl) (Nat.le_of_ble_eq_true rfl) dX1_init_1 ?_
  refine c_aload_n (pc := 4) (n := 4) (kc := 0) (ks := 0) dX1_init_4 rfl 0 rfl ?_
  refine c_new (pc := 5) (n := 4) (kc := 0) (ks := 0) (ci := 4) (fs := [some 5, some 6, some 7, some 8, some 9, some 10, some 11, some 12, none, none, none]) (show okA dsA [(0, 0)] 4 = true by decide +kernel) (by decide) (Nat.le_of_ble_eq_true rfl) (Nat.le_of_ble_eq_true rfl) rfl rfl rfl cf9 clRX1_7 it9 iz9 df9 (Nat.le_of_ble_eq_true rfl) (Nat.le_of_ble_eq_true rfl) (by decide) (by decide) dX1_init_5 ?_
  refine c_dup (pc := 8) (n := 5) (kc := 1) (ks := 11) dX1_init_8 rfl ?_
  refine c_ctor (pc := 9) (n := 5) (kc := 1) (ks := 11) (k := 4) (av := []) wyX9_init rfl mlRX1_9 iyX9_init ⟨(Nat.le_of_ble_eq_true rfl), (Nat.le_of_ble_eq_true rfl)⟩ (Nat.le_of_ble_eq_true rfl) (Nat.le_of_ble_eq_true rfl) rfl rfl (Nat.le_of_ble_eq_true rfl) (by decide) (by decide) (Nat.le_of_ble_eq_true rfl) dX1_init_9 (kX9_init hz (w := (zr w 4))) ?_
  refine c_putR (pc := 12) (n := 13) (kc := 9) (ks := 57394) (k := 3) (j := 0) (t := 4) (fs := [some 4, some 13, some 26, some 34, some 40, none, none, none]) (Nat.le_of_ble_eq_true rfl) rfl rfl rfl cf1 flRX1_10 rfl (by decide) rfl rfl (fun _ => rfl) (fun _ => rfl) dX1_init_12 ?_
  refine c_aload_n (pc := 15) (n := 13) (kc := 9) (ks := 57394) dX1_init_15 rfl 0 rfl ?_
  refine c_new (pc := 16) (n := 13) (kc := 9) (ks := 57394) (ci := 5) (fs := [some 14, some 15, some 16, some 17, some 18, some 19, some 20, some 21, some 22, some 23, some 24, some 25, none, none, none]) (show okA dsA [(3, 0), (4, 7), (4, 6), (4, 5), (4, 4), (4, 3), (4, 2), (4, 1), (4, 0), (0, 0)] 13 = true by decide +kernel) (by decide) (Nat.le_of_ble_eq_true rfl) (Nat.le_of_ble_eq_true rfl) rfl rfl rfl cf8 clRX1_16 it8 iz8 df8 (Nat.le_of_ble_eq_true rfl) (Nat.le_of_ble_eq_true rfl) (by decide) (by decide) dX1_init_16 ?_
  refine c_dup (pc := 19) (n := 14) (kc := 10) (ks := 57409) dX1_init_19 rfl ?_
  refine c_ctorN (host := RX11) (pc := 20) (n := 14) (kc := 10) (ks := 57409) (k := 13) (av := []) wyX8_init rfl (fun U H h => h.2.2.2.1) iyX8_init ⟨(Nat.le_of_ble_eq_true rfl), (Nat.le_of_ble_eq_true rfl)⟩ (Nat.le_of_ble_eq_true rfl) (Nat.le_of_ble_eq_true rfl) rfl rfl (Nat.le_of_ble_eq_true rfl) (by decide) (by decide) (Nat.le_of_ble_eq_true rfl) dX1_init_20 (kX8_init (w := (zr (WX9_init (zr w 4)) 13))) ?_
  refine c_putR (pc := 23) (n := 26) (kc := 22) (ks := 110746) (k := 3) (j := 1) (t := 13) (fs := [some 4, some 13, some 26, some 34, some 40, none, none, none]) (Nat.le_of_ble_eq_true rfl) rfl rfl rfl cf1 flRX1_19 rfl (by decide) rfl rfl (fun _ => rfl) (fun _ => rfl) dX1_init_23 ?_
  refine c_aload_n (pc := 26) (n := 26) (kc := 22) (ks := 110746) dX1_init_26 rfl 0 rfl ?_
  refine c_new (pc := 27) (n := 26) (kc := 22) (ks := 110746) (ci := 6) (fs := [some 27, some 28, some 29, some 30, some 31, some 32, some 33, some 13, none, none, none]) (show okA dsA [(3, 1), (13, 11), (13, 10), (13, 9), (13, 8), (13, 7), (13, 6), (13, 5), (13, 4), (13, 3), (13, 2), (13, 1), (13, 0), (3, 0), (4, 7), (4, 6), (4, 5), (4, 4), (4, 3), (4, 2), (4, 1), (4, 0), (0, 0)] 26 = true by decide +kernel) (by decide) (Nat.le_of_ble_eq_true rfl) (Nat.le_of_ble_eq_true rfl) rfl rfl rfl cf7 clRX1_23 it7 iz7 df7 (Nat.le_of_ble_eq_true rfl) (Nat.le_of_ble_eq_true rfl) (by decide) (by decide) dX1_init_27 ?_
  refine c_dup (pc := 30) (n := 27) (kc := 23) (ks := 110757) dX1_init_30 rfl ?_
  refine c_aload_n (pc := 31) (n := 27) (kc := 23) (ks := 110757) dX1_init_31 rfl 0 rfl ?_
  refine c_get (pc := 32) (n := 27) (kc := 23) (ks := 110757) (j := 1) (v := .ref 13) (fs := [some 4, some 13, some 999, some 999, some 999, none, none, none]) (fun ad => ⟨(Nat.le_of_ble_eq_true rfl), rfl, rfl, rfl⟩) cf1 flRX1_19 rfl dX1_init_32 rfl ?_
  refine c_ctor (pc := 35) (n := 27) (kc := 23) (ks := 110757) (k := 26) (av := [.ref 13]) wyX7_init rfl mlRX1_25 iyX7_init ⟨(Nat.le_of_ble_eq_true rfl), (Nat.le_of_ble_eq_true rfl)⟩ (Nat.le_of_ble_eq_true rfl) (Nat.le_of_ble_eq_true rfl) rfl rfl (Nat.le_of_ble_eq_true rfl) (by decide) (by decide) (Nat.le_of_ble_eq_true rfl) dX1_init_35 (kX7_init (w := (zr (WX8_init (zr (WX9_init (zr w 4)) 13)) 26))) ?_
  refine c_putR (pc := 38) (n := 34) (kc := 30) (ks := 143549) (k := 3) (j := 2) (t := 26) (fs := [some 4, some 13, some 26, some 34, some 40, none, none, none]) (Nat.le_of_ble_eq_true rfl) rfl rfl rfl cf1 flRX1_28 rfl (by decide) rfl rfl (fun _ => rfl) (fun _ => rfl) dX1_init_38 ?_
  refine c_aload_n (pc := 41) (n := 34) (kc := 30) (ks := 143549) dX1_init_41 rfl 0 rfl ?_
  refine c_new (pc := 42) (n := 34) (kc := 30) (ks := 143549) (ci := 7) (fs := [some 35, some 36, some 37, some 38, some 39, none]) (show okA dsA [(3, 2), (26, 7), (26, 6), (26, 5), (26, 4), (26, 3), (26, 2), (26, 1), (26, 0), (3, 1), (13, 11), (13, 10), (13, 9), (13, 8), (13, 7), (13, 6), (13, 5), (13, 4), (13, 3), (13, 2), (13, 1), (13, 0), (3, 0), (4, 7), (4, 6), (4, 5), (4, 4), (4, 3), (4, 2), (4, 1), (4, 0), (0, 0)] 34 = true by decide +kernel) (by decide) (Nat.le_of_ble_eq_true rfl) (Nat.le_of_ble_eq_true rfl) rfl rfl rfl cf5 clRX1_32 it5 iz5 df5 (Nat.le_of_ble_eq_true rfl) (Nat.le_of_ble_eq_true rfl) (by decide) (by decide) dX1_init_42 ?_
  refine c_dup (pc := 45) (n := 35) (kc := 31) (ks := 143555) dX1_init_45 rfl ?_
  refine c_ctorN (host := RX11) (pc := 46) (n := 35) (kc := 31) (ks := 143555) (k := 34) (av := []) wyX5_init rfl (fun U H h => h.2.2.2.2.1) iyX5_init ⟨(Nat.le_of_ble_eq_true rfl), (Nat.le_of_ble_eq_true rfl)⟩ (Nat.le_of_ble_eq_true rfl) (Nat.le_of_ble_eq_true rfl) rfl rfl (Nat.le_of_ble_eq_true rfl) (by decide) (by decide) (Nat.le_of_ble_eq_true rfl) dX1_init_46 (kX5_init (w := (zr (WX7_init (zr (WX8_init (zr (WX9_init (zr w 4)) 13)) 26)) 34))) ?_
  refine c_putR (pc := 49) (n := 40) (kc := 36) (ks := 143875) (k := 3) (j := 3) (t := 34) (fs := [some 4, some 13, some 26, some 34, some 40, none, none, none]) (Nat.le_of_ble_eq_true rfl) rfl rfl rfl cf1 flRX1_35 rfl (by decide) rfl rfl (fun _ => rfl) (fun _ => rfl) dX1_init_49 ?_
  refine c_aload_n (pc := 52) (n := 40) (kc := 36) (ks := 143875) dX1_init_52 rfl 0 rfl ?_
  refine c_new (pc := 53) (n := 40) (kc := 36) (ks := 143875) (ci := 8) (fs := [some 41, none]) (show okA dsA [(3, 3), (34, 4), (34, 3), (34, 2), (34, 1), (34, 0), (3, 2), (26, 7), (26, 6), (26, 5), (26, 4), (26, 3), (26, 2), (26, 1), (26, 0), (3, 1), (13, 11), (13, 10), (13, 9), (13, 8), (13, 7), (13, 6), (13, 5), (13, 4), (13, 3), (13, 2), (13, 1), (13, 0), (3, 0), (4, 7), (4, 6), (4, 5), (4, 4), (4, 3), (4, 2), (4, 1), (4, 0), (0, 0)] 40 = true by decide +kernel) (by decide) (Nat.le_of_ble_eq_true rfl) (Nat.le_of_ble_eq_true rfl) rfl rfl rfl cf0 clRX1_39 it0 iz0 df0 (Nat.le_of_ble_eq_true rfl) (Nat.le_of_ble_eq_true rfl) (by decide) (by decide) dX1_init_53 ?_
  refine c_dup (pc := 56) (n := 41) (kc := 37) (ks := 143877) dX1_init_56 rfl ?_
  refine c_ctorN (host := RX11) (pc := 57) (n := 41) (kc := 37) (ks := 143877) (k := 40) (av := []) wyX0_init rfl (fun U H h => h.2.2.2.2.2.1) iyX0_init ⟨(Nat.le_of_ble_eq_true rfl), (Nat.le_of_ble_eq_true rfl)⟩ (Nat.le_of_ble_eq_true rfl) (Nat.le_of_ble_eq_true rfl) rfl rfl (Nat.le_of_ble_eq_true rfl) (by decide) (by decide) (Nat.le_of_ble_eq_true rfl) dX1_init_57 (kX0_init (w := (zr (WX5_init (zr (WX7_init (zr (WX8_init (zr (WX9_init (zr w 4)) 13)) 26)) 34)) 40))) ?_
  refine c_putR (pc := 60) (n := 42) (kc := 38) (ks := 180749) (k := 3) (j := 4) (t := 40) (fs := [some 4, some 13, some 26, some 34, some 40, none, none, none]) (Nat.le_of_ble_eq_true rfl) rfl rfl rfl cf1 flRX1_42 rfl (by decide) rfl rfl (fun _ => rfl) (fun _ => rfl) dX1_init_60 ?_
  exact c_ret (pc := 63) (n := 42) (kc := 38) (ks := 180749) dX1_init_63 rfl rfl rfl (Nat.le_of_ble_eq_true rfl) (Nat.le_of_ble_eq_true rfl)
theorem dX10_init_0 : decode cX10_init 0 = .ok (.aload_n 0, 1) := by decide +kernel
theorem dX10_init_1 : decode cX10_init 1 = .ok (.invokespecial 1, 3) := by decide +kernel
theorem dX10_init_4 : decode cX10_init 4 = .ok (.aload_n 0, 1) := by decide +kernel
theorem dX10_init_5 : decode cX10_init 5 = .ok (.sipush 512, 3) := by decide +kernel
theorem dX10_init_8 : decode cX10_init 8 = .ok (.newarray .int, 2) := by decide +kernel
theorem dX10_init_10 : decode cX10_init 10 = .ok (.putfield 9, 3) := by decide +kernel
theorem dX10_init_13 : decode cX10_init 13 = .ok (.aload_n 0, 1) := by decide +kernel
theorem dX10_init_14 : decode cX10_init 14 = .ok (.sipush 512, 3) := by decide +kernel
theorem dX10_init_17 : decode cX10_init 17 = .ok (.newarray .int, 2) := by decide +kernel
theorem dX10_init_19 : decode cX10_init 19 = .ok (.putfield 13, 3) := by decide +kernel
theorem dX10_init_22 : decode cX10_init 22 = .ok (.aload_n 0, 1) := by decide +kernel
theorem dX10_init_23 : decode cX10_init 23 = .ok (.sipush 512, 3) := by decide +kernel
theorem dX10_init_26 : decode cX10_init 26 = .ok (.newarray .int, 2) := by decide +kernel
theorem dX10_init_28 : decode cX10_init 28 = .ok (.putfield 16, 3) := by decide +kernel
theorem dX10_init_31 : decode cX10_init 31 = .ok (.aload_n 0, 1) := by decide +kernel
theorem dX10_init_32 : decode cX10_init 32 = .ok (.sipush 512, 3) := by decide +kernel
theorem dX10_init_35 : decode cX10_init 35 = .ok (.newarray .int, 2) := by decide +kernel
theorem dX10_init_37 : decode cX10_init 37 = .ok (.putfield 19, 3) := by decide +kernel
theorem dX10_init_40 : decode cX10_init 40 = .ok (.return_, 1) := by decide +kernel
def WX10_init (w : Wd) : Wd := (zr (zr (zr (zr w 44) 45) 46) 47)
theorem kX10_init {q : Gq} {F : Nat → Prop} {l : Launch} {w : Wd} : CC (gbA q F) l 1 4 2048 yX10_init cX10_init 1 [.ref 43] 44 [(2, 5), (2, 4), (2, 3), (2, 2), (2, 1), (2, 0), (3, 4), (40, 0), (3, 3), (34, 4), (34, 3), (34, 2), (34, 1), (34, 0), (3, 2), (26, 7), (26, 6), (26, 5), (26, 4), (26, 3), (26, 2), (26, 1), (26, 0), (3, 1), (13, 11), (13, 10), (13, 9), (13, 8), (13, 7), (13, 6), (13, 5), (13, 4), (13, 3), (13, 2), (13, 1), (13, 0), (3, 0), (4, 7), (4, 6), (4, 5), (4, 4), (4, 3), (4, 2), (4, 1), (4, 0), (0, 0)] w 48 [(43, 3), (43, 2), (43, 1), (43, 0), (2, 5), (2, 4), (2, 3), (2, 2), (2, 1), (2, 0), (3, 4), (40, 0), (3, 3), (34, 4), (34, 3), (34, 2), (34, 1), (34, 0), (3, 2), (26, 7), (26, 6), (26, 5), (26, 4), (26, 3), (26, 2), (26, 1), (26, 0), (3, 1), (13, 11), (13, 10), (13, 9), (13, 8), (13, 7), (13, 6), (13, 5), (13, 4), (13, 3), (13, 2), (13, 1), (13, 0), (3, 0), (4, 7), (4, 6), (4, 5), (4, 4), (4, 3), (4, 2), (4, 1), (4, 0), (0, 0)] (WX10_init w) := by
  refine CC.of (by decide) rfl (Nat.le_of_ble_eq_true rfl) (fun ad0 => ?_)
  show RC (gbA q F) ad0 44 48 [(43, 3), (43, 2), (43, 1), (43, 0), (2, 5), (2, 4), (2, 3), (2, 2), (2, 1), (2, 0), (3, 4), (40, 0), (3, 3), (34, 4), (34, 3), (34, 2), (34, 1), (34, 0), (3, 2), (26, 7), (26, 6), (26, 5), (26, 4), (26, 3), (26, 2), (26, 1), (26, 0), (3, 1), (13, 11), (13, 10), (13, 9), (13, 8), (13, 7), (13, 6), (13, 5), (13, 4), (13, 3), (13, 2), (13, 1), (13, 0), (3, 0), (4, 7), (4, 6), (4, 5), (4, 4), (4, 3), (4, 2), (4, 1), (4, 0), (0, 0)] (WX10_init w) l 1 4 2048 yX10_init cX10_init 1 44 [(2, 5), (2, 4), (2, 3), (2, 2), (2, 1), (2, 0), (3, 4), (40, 0), (3, 3), (34, 4), (34, 3), (34, 2), (34, 1), (34, 0), (3, 2), (26, 7), (26, 6), (26, 5), (26, 4), (26, 3), (26, 2), (26, 1), (26, 0), (3, 1), (13, 11), (13, 10), (13, 9), (13, 8), (13, 7), (13, 6), (13, 5), (13, 4), (13, 3), (13, 2), (13, 1), (13, 0), (3, 0), (4, 7), (4, 6), (4, 5), (4, 4), (4, 3), (4, 2), (4, 1), (4, 0), (0, 0)] 0 0 0 [] [(0, .ref 43)] w
  refine c_aload_n (pc := 0) (n := 44) (kc := 0) (ks := 0) dX10_init_0 rfl 0 rfl ?_
  refine c_obj (pc := 1) (n := 44) (kc := 0) (ks := 0) moRX10 oi_i oi_c (Nat.le_of_ble_eq_true rfl) (Nat.le_of_ble_eq_true rfl) dX10_init_1 ?_
  refine c_aload_n (pc := 4) (n := 44) (kc := 0) (ks := 0) dX10_init_4 rfl 0 rfl ?_
  refine c_sipush (pc := 5) (n := 44) (kc := 0) (ks := 0) dX10_init_5 ks_512 ?_
  refine c_na_int (pc := 8) (n := 44) (kc := 0) (ks := 0) (len := 512) (show okA dsA [(2, 5), (2, 4), (2, 3), (2, 2), (2, 1), (2, 0), (3, 4), (40, 0), (3, 3), (34, 4), (34, 3), (34, 2), (34, 1), (34, 0), (3, 2), (26, 7), (26, 6), (26, 5), (26, 4), (26, 3), (26, 2), (26, 1), (26, 0), (3, 1), (13, 11), (13, 10), (13, 9), (13, 8), (13, 7), (13, 6), (13, 5), (13, 4), (13, 3), (13, 2), (13, 1), (13, 0), (3, 0), (4, 7), (4, 6), (4, 5), (4, 4), (4, 3), (4, 2), (4, 1), (4, 0), (0, 0)] 44 = true by decide +kernel) (Nat.le_of_ble_eq_true rfl) (Nat.le_of_ble_eq_true rfl) rfl rfl ac_int (by decide) (by decide) (Nat.le_of_ble_eq_true rfl) (Nat.le_of_ble_eq_true rfl) (Nat.le_of_ble_eq_true rfl) (by decide) (by decide) dX10_init_8 ?_
  refine c_putR (pc := 10) (n := 45) (kc := 1) (ks := 512) (k := 43) (j := 0) (t := 44) (fs := [some 44, some 45, some 46, some 47, none, none]) (Nat.le_of_ble_eq_true rfl) rfl rfl rfl cf10 flRX10_9 rfl (by decide) rfl rfl (fun _ => rfl) (fun _ => rfl) dX10_init_10 ?_
  refine c_aload_n (pc := 13) (n := 45) (kc := 1) (ks := 512) dX10_init_13 rfl 0 rfl ?_
  refine c_sipush (pc := 14) (n := 45) (kc := 1) (ks := 512) dX10_init_14 ks_512 ?_
  refine c_na_int (pc := 17) (n := 45) (kc := 1) (ks := 512) (len := 512) (show okA dsA [(43, 0), (2, 5), (2, 4), (2, 3), (2, 2), (2, 1), (2, 0), (3, 4), (40, 0), (3, 3), (34, 4), (34, 3), (34, 2), (34, 1), (34, 0), (3, 2), (26, 7), (26, 6), (26, 5), (26, 4), (26, 3), (26, 2), (26, 1), (26, 0), (3, 1), (13, 11), (13, 10), (13, 9), (13, 8), (13, 7), (13, 6), (13, 5), (13, 4), (13, 3), (13, 2), (13, 1), (13, 0), (3, 0), (4, 7), (4, 6), (4, 5), (4, 4), (4, 3), (4, 2), (4, 1), (4, 0), (0, 0)] 45 = true by decide +kernel) (Nat.le_of_ble_eq_true rfl) (Nat.le_of_ble_eq_true rfl) rfl rfl ac_int (by decide) (by decide) (Nat.le_of_ble_eq_true rfl) (Nat.le_of_ble_eq_true rfl) (Nat.le_of_ble_eq_true rfl) (by decide) (by decide) dX10_init_17 ?_
  refine c_putR (pc := 19) (n := 46) (kc := 2) (ks := 1024) (k := 43) (j := 1) (t := 45) (fs := [some 44, some 45, some 46, some 47, none, none]) (Nat.le_of_ble_eq_true rfl) rfl rfl rfl cf10 flRX10_13 rfl (by decide) rfl rfl (fun _ => rfl) (fun _ => rfl) dX10_init_19 ?_
  refine c_aload_n (pc := 22) (n := 46) (kc := 2) (ks := 1024) dX10_init_22 rfl 0 rfl ?_
  refine c_sipush (pc := 23) (n := 46) (kc := 2) (ks := 1024) dX10_init_23 ks_512 ?_
  refine c_na_int (pc := 26) (n := 46) (kc := 2) (ks := 1024) (len := 512) (show okA dsA [(43, 1), (43, 0), (2, 5), (2, 4), (2, 3), (2, 2), (2, 1), (2, 0), (3, 4), (40, 0), (3, 3), (34, 4), (34, 3), (34, 2), (34, 1), (34, 0), (3, 2), (26, 7), (26, 6), (26, 5), (26, 4), (26, 3), (26, 2), (26, 1), (26, 0), (3, 1), (13, 11), (13, 10), (13, 9), (13, 8), (13, 7), (13, 6), (13, 5), (13, 4), (13, 3), (13, 2), (13, 1), (13, 0), (3, 0), (4, 7), (4, 6), (4, 5), (4, 4), (4, 3), (4, 2), (4, 1), (4, 0), (0, 0)] 46 = true by decide +kernel) (Nat.le_of_ble_eq_true rfl) (Nat.le_of_ble_eq_true rfl) rfl rfl ac_int (by decide) (by decide) (Nat.le_of_ble_eq_true rfl) (Nat.le_of_ble_eq_true rfl) (Nat.le_of_ble_eq_true rfl) (by decide) (by decide) dX10_init_26 ?_
  refine c_putR (pc := 28) (n := 47) (kc := 3) (ks := 1536) (k := 43) (j := 2) (t := 46) (fs := [some 44, some 45, some 46, some 47, none, none]) (Nat.le_of_ble_eq_true rfl) rfl rfl rfl cf10 flRX10_16 rfl (by decide) rfl rfl (fun _ => rfl) (fun _ => rfl) dX10_init_28 ?_
  refine c_aload_n (pc := 31) (n := 47) (kc := 3) (ks := 1536) dX10_init_31 rfl 0 rfl ?_
  refine c_sipush (pc := 32) (n := 47) (kc := 3) (ks := 1536) dX10_init_32 ks_512 ?_
  refine c_na_int (pc := 35) (n := 47) (kc := 3) (ks := 1536) (len := 512) (show okA dsA [(43, 2), (43, 1), (43, 0), (2, 5), (2, 4), (2, 3), (2, 2), (2, 1), (2, 0), (3, 4), (40, 0), (3, 3), (34, 4), (34, 3), (34, 2), (34, 1), (34, 0), (3, 2), (26, 7), (26, 6), (26, 5), (26, 4), (26, 3), (26, 2), (26, 1), (26, 0), (3, 1), (13, 11), (13, 10), (13, 9), (13, 8), (13, 7), (13, 6), (13, 5), (13, 4), (13, 3), (13, 2), (13, 1), (13, 0), (3, 0), (4, 7), (4, 6), (4, 5), (4, 4), (4, 3), (4, 2), (4, 1), (4, 0), (0, 0)] 47 = true by decide +kernel) (Nat.le_of_ble_eq_true rfl) (Nat.le_of_ble_eq_true rfl) rfl rfl ac_int (by decide) (by decide) (Nat.le_of_ble_eq_true rfl) (Nat.le_of_ble_eq_true rfl) (Nat.le_of_ble_eq_true rfl) (by decide) (by decide) dX10_init_35 ?_
  refine c_putR (pc := 37) (n := 48) (kc := 4) (ks := 2048) (k := 43) (j := 3) (t := 47) (fs := [some 44, some 45, some 46, some 47, none, none]) (Nat.le_of_ble_eq_true rfl) rfl rfl rfl cf10 flRX10_19 rfl (by decide) rfl rfl (fun _ => rfl) (fun _ => rfl) dX10_init_37 ?_
  exact c_ret (pc := 40) (n := 48) (kc := 4) (ks := 2048) dX10_init_40 rfl rfl rfl (Nat.le_of_ble_eq_true rfl) (Nat.le_of_ble_eq_true rfl)
theorem dX2_init_0 : decode cX2_init 0 = .ok (.aload_n 0, 1) := by decide +kernel
theorem dX2_init_1 : decode cX2_init 1 = .ok (.invokespecial 1, 3) := by decide +kernel
theorem dX2_init_4 : decode cX2_init 4 = .ok (.aload_n 0, 1) := by decide +kernel
theorem dX2_init_5 : decode cX2_init 5 = .ok (.new 7, 3) := by decide +kernel
theorem dX2_init_8 : decode cX2_init 8 = .ok (.dup, 1) := by decide +kernel
theorem dX2_init_9 : decode cX2_init 9 = .ok (.invokespecial 9, 3) := by decide +kernel
theorem dX2_init_12 : decode cX2_init 12 = .ok (.putfield 10, 3) := by decide +kernel
theorem dX2_init_15 : decode cX2_init 15 = .ok (.aload_n 0, 1) := by decide +kernel
theorem dX2_init_16 : decode cX2_init 16 = .ok (.aload_n 1, 1) := by decide +kernel
theorem dX2_init_17 : decode cX2_init 17 = .ok (.putfield 16, 3) := by decide +kernel
theorem dX2_init_20 : decode cX2_init 20 = .ok (.aload_n 0, 1) := by decide +kernel
theorem dX2_init_21 : decode cX2_init 21 = .ok (.aload_n 1, 1) := by decide +kernel
theorem dX2_init_22 : decode cX2_init 22 = .ok (.getfield 20, 3) := by decide +kernel
theorem dX2_init_25 : decode cX2_init 25 = .ok (.putfield 26, 3) := by decide +kernel
theorem dX2_init_28 : decode cX2_init 28 = .ok (.aload_n 0, 1) := by decide +kernel
theorem dX2_init_29 : decode cX2_init 29 = .ok (.aload_n 1, 1) := by decide +kernel
theorem dX2_init_30 : decode cX2_init 30 = .ok (.getfield 27, 3) := by decide +kernel
theorem dX2_init_33 : decode cX2_init 33 = .ok (.putfield 31, 3) := by decide +kernel
theorem dX2_init_36 : decode cX2_init 36 = .ok (.aload_n 0, 1) := by decide +kernel
theorem dX2_init_37 : decode cX2_init 37 = .ok (.aload_n 1, 1) := by decide +kernel
theorem dX2_init_38 : decode cX2_init 38 = .ok (.getfield 32, 3) := by decide +kernel
theorem dX2_init_41 : decode cX2_init 41 = .ok (.putfield 36, 3) := by decide +kernel
theorem dX2_init_44 : decode cX2_init 44 = .ok (.return_, 1) := by decide +kernel
def WX2_init (w : Wd) : Wd := (WX10_init (zr w 43))
theorem kX2_init {q : Gq} {F : Nat → Prop} {l : Launch} {w : Wd} : CC (gbA q F) l 2 5 2054 yX2_init cX2_init 2 [.ref 42, .ref 3] 43 [(2, 5), (2, 4), (2, 3), (2, 2), (2, 1), (2, 0), (3, 4), (40, 0), (3, 3), (34, 4), (34, 3), (34, 2), (34, 1), (34, 0), (3, 2), (26, 7), (26, 6), (26, 5), (26, 4), (26, 3), (26, 2), (26, 1), (26, 0), (3, 1), (13, 11), (13, 10), (13, 9), (13, 8), (13, 7), (13, 6), (13, 5), (13, 4), (13, 3), (13, 2), (13, 1), (13, 0), (3, 0), (4, 7), (4, 6), (4, 5), (4, 4), (4, 3), (4, 2), (4, 1), (4, 0), (0, 0)] w 48 [(42, 3), (42, 2), (42, 1), (42, 0), (42, 4), (43, 3), (43, 2), (43, 1), (43, 0), (2, 5), (2, 4), (2, 3), (2, 2), (2, 1), (2, 0), (3, 4), (40, 0), (3, 3), (34, 4), (34, 3), (34, 2), (34, 1), (34, 0), (3, 2), (26, 7), (26, 6), (26, 5), (26, 4), (26, 3), (26, 2), (26, 1), (26, 0), (3, 1), (13, 11), (13, 10), (13, 9), (13, 8), (13, 7), (13, 6), (13, 5), (13, 4), (13, 3), (13, 2), (13, 1), (13, 0), (3, 0), (4, 7), (4, 6), (4, 5), (4, 4), (4, 3), (4, 2), (4, 1), (4, 0), (0, 0)] (WX2_init w) := by
  refine CC.of (by decide) rfl (Nat.le_of_ble_eq_true rfl) (fun ad0 => ?_)
  show RC (gbA q F) ad0 43 48 [(42, 3), (42, 2), (42, 1), (42, 0), (42, 4), (43, 3), (43, 2), (43, 1), (43, 0), (2, 5), (2, 4), (2, 3), (2, 2), (2, 1), (2, 0), (3, 4), (40, 0), (3, 3), (34, 4), (34, 3), (34, 2), (34, 1), (34, 0), (3, 2), (26, 7), (26, 6), (26, 5), (26, 4), (26, 3), (26, 2), (26, 1), (26, 0), (3, 1), (13, 11), (13, 10), (13, 9), (13, 8), (13, 7), (13, 6), (13, 5), (13, 4), (13, 3), (13, 2), (13, 1), (13, 0), (3, 0), (4, 7), (4, 6), (4, 5), (4, 4), (4, 3), (4, 2), (4, 1), (4, 0), (0, 0)] (WX2_init w) l 2 5 2054 yX2_init cX2_init 2 43 [(2, 5), (2, 4), (2, 3), (2, 2), (2, 1), (2, 0), (3, 4), (40, 0), (3, 3), (34, 4), (34, 3), (34, 2), (34, 1), (34, 0), (3, 2), (26, 7), (26, 6), (26, 5), (26, 4), (26, 3), (26, 2), (26, 1), (26, 0), (3, 1), (13, 11), (13, 10), (13, 9), (13, 8), (13, 7), (13, 6), (13, 5), (13, 4), (13, 3), (13, 2), (13, 1), (13, 0), (3, 0), (4, 7), (4, 6), (4, 5), (4, 4), (4, 3), (4, 2), (4, 1), (4, 0), (0, 0)] 0 0 0 [] [(0, .ref 42), (1, .ref 3)] w
  refine c_aload_n (pc := 0) (n := 43) (kc := 0) (ks := 0) dX2_init_0 rfl 0 rfl ?_
  refine c_obj (pc := 1) (n := 43) (kc := 0) (ks := 0) moRX2 oi_i oi_c (Nat.le_of_ble_eq_true rfl) (Nat.le_of_ble_eq_true rfl) dX2_init_1 ?_
  refine c_aload_n (pc := 4) (n := 43) (kc := 0) (ks := 0) dX2_init_4 rfl 0 rfl ?_
  refine c_new (pc := 5) (n := 43) (kc := 0) (ks := 0) (ci := 10) (fs := [some 44, some 45, some 46, some 47, none, none]) (show okA dsA [(2, 5), (2, 4), (2, 3), (2, 2), (2, 1), (2, 0), (3, 4), (40, 0), (3, 3), (34, 4), (34, 3), (34, 2), (34, 1), (34, 0), (3, 2), (26, 7), (26, 6), (26, 5), (26, 4), (26, 3), (26, 2), (26, 1), (26, 0), (3, 1), (13, 11), (13, 10), (13, 9), (13, 8), (13, 7), (13, 6), (13, 5), (13, 4), (13, 3), (13, 2), (13, 1), (13, 0), (3, 0), (4, 7), (4, 6), (4, 5), (4, 4), (4, 3), (4, 2), (4, 1), (4, 0), (0, 0)] 43 = true by decide +kernel) (by decide) (Nat.le_of_ble_eq_true rfl) (Nat.le_of_ble_eq_true rfl) rfl rfl rfl cf10 clRX2_7 it10 iz10 df10 (Nat.le_of_ble_eq_true rfl) (Nat.le_of_ble_eq_true rfl) (by decide) (by decide) dX2_init_5 ?_
  refine c_dup (pc := 8) (n := 44) (kc := 1) (ks := 6) dX2_init_8 rfl ?_
  refine c_ctorN (host := RX11) (pc := 9) (n := 44) (kc := 1) (ks := 6) (k := 43) (av := []) wyX10_init rfl (fun U H h => h.2.2.2.2.2.2.1) iyX10_init ⟨(Nat.le_of_ble_eq_true rfl), (Nat.le_of_ble_eq_true rfl)⟩ (Nat.le_of_ble_eq_true rfl) (Nat.le_of_ble_eq_true rfl) rfl rfl (Nat.le_of_ble_eq_true rfl) (by decide) (by decide) (Nat.le_of_ble_eq_true rfl) dX2_init_9 (kX10_init (w := (zr w 43))) ?_
  refine c_putR (pc := 12) (n := 48) (kc := 5) (ks := 2054) (k := 42) (j := 4) (t := 43) (fs := [some 3, some 4, some 13, some 40, some 43]) (Nat.le_of_ble_eq_true rfl) rfl rfl rfl cf2 flRX2_10 rfl (by decide) rfl rfl (fun _ => rfl) (fun _ => rfl) dX2_init_12 ?_
  refine c_aload_n (pc := 15) (n := 48) (kc := 5) (ks := 2054) dX2_init_15 rfl 0 rfl ?_
  refine c_aload_n (pc := 16) (n := 48) (kc := 5) (ks := 2054) dX2_init_16 rfl 1 rfl ?_
  refine c_putR (pc := 17) (n := 48) (kc := 5) (ks := 2054) (k := 42) (j := 0) (t := 3) (fs := [some 3, some 4, some 13, some 40, some 43]) (Nat.le_of_ble_eq_true rfl) rfl rfl rfl cf2 flRX2_16 rfl (by decide) rfl rfl (fun _ => rfl) (fun _ => rfl) dX2_init_17 ?_
  refine c_aload_n (pc := 20) (n := 48) (kc := 5) (ks := 2054) dX2_init_20 rfl 0 rfl ?_
  refine c_aload_n (pc := 21) (n := 48) (kc := 5) (ks := 2054) dX2_init_21 rfl 1 rfl ?_
  refine c_get (pc := 22) (n := 48) (kc := 5) (ks := 2054) (j := 0) (v := .ref 4) (fs := [some 4, some 13, some 26, some 34, some 40, none, none, none]) (fun ad => ⟨(Nat.le_of_ble_eq_true rfl), rfl, rfl, rfl⟩) cf1 flRX2_20 rfl dX2_init_22 rfl ?_
  refine c_putR (pc := 25) (n := 48) (kc := 5) (ks := 2054) (k := 42) (j := 1) (t := 4) (fs := [some 3, some 4, some 13, some 40, some 43]) (Nat.le_of_ble_eq_true rfl) rfl rfl rfl cf2 flRX2_26 rfl (by decide) rfl rfl (fun _ => rfl) (fun _ => rfl) dX2_init_25 ?_
  refine c_aload_n (pc := 28) (n := 48) (kc := 5) (ks := 2054) dX2_init_28 rfl 0 rfl ?_
  refine c_aload_n (pc := 29) (n := 48) (kc := 5) (ks := 2054) dX2_init_29 rfl 1 rfl ?_
  refine c_get (pc := 30) (n := 48) (kc := 5) (ks := 2054) (j := 1) (v := .ref 13) (fs := [some 4, some 13, some 26, some 34, some 40, none, none, none]) (fun ad => ⟨(Nat.le_of_ble_eq_true rfl), rfl, rfl, rfl⟩) cf1 flRX2_27 rfl dX2_init_30 rfl ?_
  refine c_putR (pc := 33) (n := 48) (kc := 5) (ks := 2054) (k := 42) (j := 2) (t := 13) (fs := [some 3, some 4, some 13, some 40, some 43]) (Nat.le_of_ble_eq_true rfl) rfl rfl rfl cf2 flRX2_31 rfl (by decide) rfl rfl (fun _ => rfl) (fun _ => rfl) dX2_init_33 ?_
  refine c_aload_n (pc := 36) (n := 48) (kc := 5) (ks := 2054) dX2_init_36 rfl 0 rfl ?_
  refine c_aload_n (pc := 37) (n := 48) (kc := 5) (ks := 2054) dX2_init_37 rfl 1 rfl ?_
  refine c_get (pc := 38) (n := 48) (kc := 5) (ks := 2054) (j := 4) (v := .ref 40) (fs := [some 4, some 13, some 26, some 34, some 40, none, none, none]) (fun ad => ⟨(Nat.le_of_ble_eq_true rfl), rfl, rfl, rfl⟩) cf1 flRX2_32 rfl dX2_init_38 rfl ?_
  refine c_putR (pc := 41) (n := 48) (kc := 5) (ks := 2054) (k := 42) (j := 3) (t := 40) (fs := [some 3, some 4, some 13, some 40, some 43]) (Nat.le_of_ble_eq_true rfl) rfl rfl rfl cf2 flRX2_36 rfl (by decide) rfl rfl (fun _ => rfl) (fun _ => rfl) dX2_init_41 ?_
  exact c_ret (pc := 44) (n := 48) (kc := 5) (ks := 2054) dX2_init_44 rfl rfl rfl (Nat.le_of_ble_eq_true rfl) (Nat.le_of_ble_eq_true rfl)
theorem dX4_init_0 : decode cX4_init 0 = .ok (.aload_n 0, 1) := by decide +kernel
theorem dX4_init_1 : decode cX4_init 1 = .ok (.invokespecial 3, 3) := by decide +kernel
theorem dX4_init_4 : decode cX4_init 4 = .ok (.aload_n 0, 1) := by decide +kernel
theorem dX4_init_5 : decode cX4_init 5 = .ok (.new 9, 3) := by decide +kernel
theorem dX4_init_8 : decode cX4_init 8 = .ok (.dup, 1) := by decide +kernel
theorem dX4_init_9 : decode cX4_init 9 = .ok (.invokespecial 11, 3) := by decide +kernel
theorem dX4_init_12 : decode cX4_init 12 = .ok (.putfield 12, 3) := by decide +kernel
theorem dX4_init_15 : decode cX4_init 15 = .ok (.aload_n 0, 1) := by decide +kernel
theorem dX4_init_16 : decode cX4_init 16 = .ok (.aload_n 0, 1) := by decide +kernel
theorem dX4_init_17 : decode cX4_init 17 = .ok (.getfield 12, 3) := by decide +kernel
theorem dX4_init_20 : decode cX4_init 20 = .ok (.getfield 18, 3) := by decide +kernel
theorem dX4_init_23 : decode cX4_init 23 = .ok (.putfield 22, 3) := by decide +kernel
theorem dX4_init_26 : decode cX4_init 26 = .ok (.aload_n 0, 1) := by decide +kernel
theorem dX4_init_27 : decode cX4_init 27 = .ok (.aload_n 0, 1) := by decide +kernel
theorem dX4_init_28 : decode cX4_init 28 = .ok (.getfield 12, 3) := by decide +kernel
theorem dX4_init_31 : decode cX4_init 31 = .ok (.getfield 23, 3) := by decide +kernel
theorem dX4_init_34 : decode cX4_init 34 = .ok (.putfield 27, 3) := by decide +kernel
theorem dX4_init_37 : decode cX4_init 37 = .ok (.aload_n 0, 1) := by decide +kernel
theorem dX4_init_38 : decode cX4_init 38 = .ok (.aload_n 0, 1) := by decide +kernel
theorem dX4_init_39 : decode cX4_init 39 = .ok (.getfield 12, 3) := by decide +kernel
theorem dX4_init_42 : decode cX4_init 42 = .ok (.getfield 28, 3) := by decide +kernel
theorem dX4_init_45 : decode cX4_init 45 = .ok (.putfield 32, 3) := by decide +kernel
theorem dX4_init_48 : decode cX4_init 48 = .ok (.aload_n 0, 1) := by decide +kernel
theorem dX4_init_49 : decode cX4_init 49 = .ok (.aload_n 0, 1) := by decide +kernel
theorem dX4_init_50 : decode cX4_init 50 = .ok (.getfield 12, 3) := by decide +kernel
theorem dX4_init_53 : decode cX4_init 53 = .ok (.getfield 33, 3) := by decide +kernel
theorem dX4_init_56 : decode cX4_init 56 = .ok (.putfield 37, 3) := by decide +kernel
theorem dX4_init_59 : decode cX4_init 59 = .ok (.aload_n 0, 1) := by decide +kernel
theorem dX4_init_60 : decode cX4_init 60 = .ok (.aload_n 0, 1) := by decide +kernel
theorem dX4_init_61 : decode cX4_init 61 = .ok (.getfield 12, 3) := by decide +kernel
theorem dX4_init_64 : decode cX4_init 64 = .ok (.getfield 38, 3) := by decide +kernel
theorem dX4_init_67 : decode cX4_init 67 = .ok (.putfield 42, 3) := by decide +kernel
theorem dX4_init_70 : decode cX4_init 70 = .ok (.aload_n 0, 1) := by decide +kernel
theorem dX4_init_71 : decode cX4_init 71 = .ok (.new 43, 3) := by decide +kernel
theorem dX4_init_74 : decode cX4_init 74 = .ok (.dup, 1) := by decide +kernel
theorem dX4_init_75 : decode cX4_init 75 = .ok (.aload_n 0, 1) := by decide +kernel
theorem dX4_init_76 : decode cX4_init 76 = .ok (.getfield 12, 3) := by decide +kernel
theorem dX4_init_79 : decode cX4_init 79 = .ok (.invokespecial 45, 3) := by decide +kernel
theorem dX4_init_82 : decode cX4_init 82 = .ok (.putfield 48, 3) := by decide +kernel
theorem dX4_init_85 : decode cX4_init 85 = .ok (.return_, 1) := by decide +kernel
def WX4_init (w : Wd) : Wd := (WX2_init (zr (WX1_init (zr w 3)) 42))
theorem kX4_init {q : Gq} {F : Nat → Prop} {l : Launch} (hz : TKI q F l) {w : Wd} : CC (gbA q F) l 12 45 182816 yX4_init cX4_init 1 [.ref 2] 3 [(0, 0)] w 48 [(2, 6), (42, 3), (42, 2), (42, 1), (42, 0), (42, 4), (43, 3), (43, 2), (43, 1), (43, 0), (2, 5), (2, 4), (2, 3), (2, 2), (2, 1), (2, 0), (3, 4), (40, 0), (3, 3), (34, 4), (34, 3), (34, 2), (34, 1), (34, 0), (3, 2), (26, 7), (26, 6), (26, 5), (26, 4), (26, 3), (26, 2), (26, 1), (26, 0), (3, 1), (13, 11), (13, 10), (13, 9), (13, 8), (13, 7), (13, 6), (13, 5), (13, 4), (13, 3), (13, 2), (13, 1), (13, 0), (3, 0), (4, 7), (4, 6), (4, 5), (4, 4), (4, 3), (4, 2), (4, 1), (4, 0), (0, 0)] (WX4_init w) := by
  refine CC.of (by decide) rfl (Nat.le_of_ble_eq_true rfl) (fun ad0 => ?_)
  show RC (gbA q F) ad0 3 48 [(2, 6), (42, 3), (42, 2), (42, 1), (42, 0), (42, 4), (43, 3), (43, 2), (43, 1), (43, 0), (2, 5), (2, 4), (2, 3), (2, 2), (2, 1), (2, 0), (3, 4), (40, 0), (3, 3), (34, 4), (34, 3), (34, 2), (34, 1), (34, 0), (3, 2), (26, 7), (26, 6), (26, 5), (26, 4), (26, 3), (26, 2), (26, 1), (26, 0), (3, 1), (13, 11), (13, 10), (13, 9), (13, 8), (13, 7), (13, 6), (13, 5), (13, 4), (13, 3), (13, 2), (13, 1), (13, 0), (3, 0), (4, 7), (4, 6), (4, 5), (4, 4), (4, 3), (4, 2), (4, 1), (4, 0), (0, 0)] (WX4_init w) l 12 45 182816 yX4_init cX4_init 1 3 [(0, 0)] 0 0 0 [] [(0, .ref 2)] w
  refine c_aload_n (pc := 0) (n := 3) (kc := 0) (ks := 0) dX4_init_0 rfl 0 rfl ?_
  refine c_obj (pc := 1) (n := 3) (kc := 0) (ks := 0) moRX4 oi_i oi_c (Nat.le_of_ble_eq_true rfl) (Nat.le_of_ble_eq_true rfl) dX4_init_1 ?_
  refine c_aload_n (pc := 4) (n := 3) (kc := 0) (ks := 0) dX4_init_4 rfl 0 rfl ?_
  refine c_new (pc := 5) (n := 3) (kc := 0) (ks := 0) (ci := 3) (fs := [some 4, some 13, some 26, some 34, some 40, none, none, none]) (show okA dsA [(0, 0)] 3 = true by decide +kernel) (by decide) (Nat.le_of_ble_eq_true rfl) (Nat.le_of_ble_eq_true rfl) rfl rfl rfl cf1 clRX4_9 it1 iz1 df1 (Nat.le_of_ble_eq_true rfl) (Nat.le_of_ble_eq_true rfl) (by decide) (by decide) dX4_init_5 ?_
  refine c_dup (pc := 8) (n := 4) (kc := 1) (ks := 8) dX4_init_8 rfl ?_
  refine c_ctorN (host := RX11) (pc := 9) (n := 4) (kc := 1) (ks := 8) (k := 3) (av := []) wyX1_init rfl (fun U H h => h.2.2.1) iyX1_init ⟨(Nat.le_of_ble_eq_true rfl), (Nat.le_of_ble_eq_true rfl)⟩ (Nat.le_of_ble_eq_true rfl) (Nat.le_of_ble_eq_true rfl) rfl rfl (Nat.le_of_ble_eq_true rfl) (by decide) (by decide) (Nat.le_of_ble_eq_true rfl) dX4_init_9 (kX1_init hz (w := (zr w 3))) ?_
  refine c_putR (pc := 12) (n := 42) (kc := 39) (ks := 180757) (k := 2) (j := 0) (t := 3) (fs := [some 3, some 4, some 13, some 26, some 34, some 40, some 42]) (Nat.le_of_ble_eq_true rfl) rfl rfl rfl cf4 flRX4_12 rfl (by decide) rfl rfl (fun _ => rfl) (fun _ => rfl) dX4_init_12 ?_
  refine c_aload_n (pc := 15) (n := 42) (kc := 39) (ks := 180757) dX4_init_15 rfl 0 rfl ?_
  refine c_aload_n (pc := 16) (n := 42) (kc := 39) (ks := 180757) dX4_init_16 rfl 0 rfl ?_
  refine c_get (pc := 17) (n := 42) (kc := 39) (ks := 180757) (j := 0) (v := .ref 3) (fs := [some 3, some 999, some 999, some 999, some 999, some 999, some 999]) (fun ad => ⟨(Nat.le_of_ble_eq_true rfl), rfl, rfl, rfl⟩) cf4 flRX4_12 rfl dX4_init_17 rfl ?_
  refine c_get (pc := 20) (n := 42) (kc := 39) (ks := 180757) (j := 0) (v := .ref 4) (fs := [some 4, some 13, some 26, some 34, some 40, none, none, none]) (fun ad => ⟨(Nat.le_of_ble_eq_true rfl), rfl, rfl, rfl⟩) cf1 flRX4_18 rfl dX4_init_20 rfl ?_
  refine c_putR (pc := 23) (n := 42) (kc := 39) (ks := 180757) (k := 2) (j := 1) (t := 4) (fs := [some 3, some 4, some 13, some 26, some 34, some 40, some 42]) (Nat.le_of_ble_eq_true rfl) rfl rfl rfl cf4 flRX4_22 rfl (by decide) rfl rfl (fun _ => rfl) (fun _ => rfl) dX4_init_23 ?_
  refine c_aload_n (pc := 26) (n := 42) (kc := 39) (ks := 180757) dX4_init_26 rfl 0 rfl ?_
  refine c_aload_n (pc := 27) (n := 42) (kc := 39) (ks := 180757) dX4_init_27 rfl 0 rfl ?_
  refine c_get (pc := 28) (n := 42) (kc := 39) (ks := 180757) (j := 0) (v := .ref 3) (fs := [some 3, some 4, some 999, some 999, some 999, some 999, some 999]) (fun ad => ⟨(Nat.le_of_ble_eq_true rfl), rfl, rfl, rfl⟩) cf4 flRX4_12 rfl dX4_init_28 rfl ?_
  refine c_get (pc := 31) (n := 42) (kc := 39) (ks := 180757) (j := 1) (v := .ref 13) (fs := [some 4, some 13, some 26, some 34, some 40, none, none, none]) (fun ad => ⟨(Nat.le_of_ble_eq_true rfl), rfl, rfl, rfl⟩) cf1 flRX4_23 rfl dX4_init_31 rfl ?_
  refine c_putR (pc := 34) (n := 42) (kc := 39) (ks := 180757) (k := 2) (j := 2) (t := 13) (fs := [some 3, some 4, some 13, some 26, some 34, some 40, some 42]) (Nat.le_of_ble_eq_true rfl) rfl rfl rfl cf4 flRX4_27 rfl (by decide) rfl rfl (fun _ => rfl) (fun _ => rfl) dX4_init_34 ?_
  refine c_aload_n (pc := 37) (n := 42) (kc := 39) (ks := 180757) dX4_init_37 rfl 0 rfl ?_
  refine c_aload_n (pc := 38) (n := 42) (kc := 39) (ks := 180757) dX4_init_38 rfl 0 rfl ?_
  refine c_get (pc := 39) (n := 42) (kc := 39) (ks := 180757) (j := 0) (v := .ref 3) (fs := [some 3, some 4, some 13, some 999, some 999, some 999, some 999]) (fun ad => ⟨(Nat.le_of_ble_eq_true rfl), rfl, rfl, rfl⟩) cf4 flRX4_12 rfl dX4_init_39 rfl ?_
  refine c_get (pc := 42) (n := 42) (kc := 39) (ks := 180757) (j := 2) (v := .ref 26) (fs := [some 4, some 13, some 26, some 34, some 40, none, none, none]) (fun ad => ⟨(Nat.le_of_ble_eq_true rfl), rfl, rfl, rfl⟩) cf1 flRX4_28 rfl dX4_init_42 rfl ?_
  refine c_putR (pc := 45) (n := 42) (kc := 39) (ks := 180757) (k := 2) (j := 3) (t := 26) (fs := [some 3, some 4, some 13, some 26, some 34, some 40, some 42]) (Nat.le_of_ble_eq_true rfl) rfl rfl rfl cf4 flRX4_32 rfl (by decide) rfl rfl (fun _ => rfl) (fun _ => rfl) dX4_init_45 ?_
  refine c_aload_n (pc := 48) (n := 42) (kc := 39) (ks := 180757) dX4_init_48 rfl 0 rfl ?_
  refine c_aload_n (pc := 49) (n := 42) (kc := 39) (ks := 180757) dX4_init_49 rfl 0 rfl ?_
  refine c_get (pc := 50) (n := 42) (kc := 39) (ks := 180757) (j := 0) (v := .ref 3) (fs := [some 3, some 4, some 13, some 26, some 999, some 999, some 999]) (fun ad => ⟨(Nat.le_of_ble_eq_true rfl), rfl, rfl, rfl⟩) cf4 flRX4_12 rfl dX4_init_50 rfl ?_
  refine c_get (pc := 53) (n := 42) (kc := 39) (ks := 180757) (j := 3) (v := .ref 34) (fs := [some 4, some 13, some 26, some 34, some 40, none, none, none]) (fun ad => ⟨(Nat.le_of_ble_eq_true rfl), rfl, rfl, rfl⟩) cf1 flRX4_33 rfl dX4_init_53 rfl ?_
  refine c_putR (pc := 56) (n := 42) (kc := 39) (ks := 180757) (k := 2) (j := 4) (t := 34) (fs := [some 3, some 4, some 13, some 26, some 34, some 40, some 42]) (Nat.le_of_ble_eq_true rfl) rfl rfl rfl cf4 flRX4_37 rfl (by decide) rfl rfl (fun _ => rfl) (fun _ => rfl) dX4_init_56 ?_
  refine c_aload_n (pc := 59) (n := 42) (kc := 39) (ks := 180757) dX4_init_59 rfl 0 rfl ?_
  refine c_aload_n (pc := 60) (n := 42) (kc := 39) (ks := 180757) dX4_init_60 rfl 0 rfl ?_
  refine c_get (pc := 61) (n := 42) (kc := 39) (ks := 180757) (j := 0) (v := .ref 3) (fs := [some 3, some 4, some 13, some 26, some 34, some 999, some 999]) (fun ad => ⟨(Nat.le_of_ble_eq_true rfl), rfl, rfl, rfl⟩) cf4 flRX4_12 rfl dX4_init_61 rfl ?_
  refine c_get (pc := 64) (n := 42) (kc := 39) (ks := 180757) (j := 4) (v := .ref 40) (fs := [some 4, some 13, some 26, some 34, some 40, none, none, none]) (fun ad => ⟨(Nat.le_of_ble_eq_true rfl), rfl, rfl, rfl⟩) cf1 flRX4_38 rfl dX4_init_64 rfl ?_
  refine c_putR (pc := 67) (n := 42) (kc := 39) (ks := 180757) (k := 2) (j := 5) (t := 40) (fs := [some 3, some 4, some 13, some 26, some 34, some 40, some 42]) (Nat.le_of_ble_eq_true rfl) rfl rfl rfl cf4 flRX4_42 rfl (by decide) rfl rfl (fun _ => rfl) (fun _ => rfl) dX4_init_67 ?_
  refine c_aload_n (pc := 70) (n := 42) (kc := 39) (ks := 180757) dX4_init_70 rfl 0 rfl ?_
  refine c_new (pc := 71) (n := 42) (kc := 39) (ks := 180757) (ci := 9) (fs := [some 3, some 4, some 13, some 40, some 43]) (show okA dsA [(2, 5), (2, 4), (2, 3), (2, 2), (2, 1), (2, 0), (3, 4), (40, 0), (3, 3), (34, 4), (34, 3), (34, 2), (34, 1), (34, 0), (3, 2), (26, 7), (26, 6), (26, 5), (26, 4), (26, 3), (26, 2), (26, 1), (26, 0), (3, 1), (13, 11), (13, 10), (13, 9), (13, 8), (13, 7), (13, 6), (13, 5), (13, 4), (13, 3), (13, 2), (13, 1), (13, 0), (3, 0), (4, 7), (4, 6), (4, 5), (4, 4), (4, 3), (4, 2), (4, 1), (4, 0), (0, 0)] 42 = true by decide +kernel) (by decide) (Nat.le_of_ble_eq_true rfl) (Nat.le_of_ble_eq_true rfl) rfl rfl rfl cf2 clRX4_43 it2 iz2 df2 (Nat.le_of_ble_eq_true rfl) (Nat.le_of_ble_eq_true rfl) (by decide) (by decide) dX4_init_71 ?_
  refine c_dup (pc := 74) (n := 43) (kc := 40) (ks := 180762) dX4_init_74 rfl ?_
  refine c_aload_n (pc := 75) (n := 43) (kc := 40) (ks := 180762) dX4_init_75 rfl 0 rfl ?_
  refine c_get (pc := 76) (n := 43) (kc := 40) (ks := 180762) (j := 0) (v := .ref 3) (fs := [some 3, some 4, some 13, some 26, some 34, some 40, some 999]) (fun ad => ⟨(Nat.le_of_ble_eq_true rfl), rfl, rfl, rfl⟩) cf4 flRX4_12 rfl dX4_init_76 rfl ?_
  refine c_ctor (pc := 79) (n := 43) (kc := 40) (ks := 180762) (k := 42) (av := [.ref 3]) wyX2_init rfl mlRX4_45 iyX2_init ⟨(Nat.le_of_ble_eq_true rfl), (Nat.le_of_ble_eq_true rfl)⟩ (Nat.le_of_ble_eq_true rfl) (Nat.le_of_ble_eq_true rfl) rfl rfl (Nat.le_of_ble_eq_true rfl) (by decide) (by decide) (Nat.le_of_ble_eq_true rfl) dX4_init_79 (kX2_init (w := (zr (WX1_init (zr w 3)) 42))) ?_
  refine c_putR (pc := 82) (n := 48) (kc := 45) (ks := 182816) (k := 2) (j := 6) (t := 42) (fs := [some 3, some 4, some 13, some 26, some 34, some 40, some 42]) (Nat.le_of_ble_eq_true rfl) rfl rfl rfl cf4 flRX4_48 rfl (by decide) rfl rfl (fun _ => rfl) (fun _ => rfl) dX4_init_82 ?_
  exact c_ret (pc := 85) (n := 48) (kc := 45) (ks := 182816) dX4_init_85 rfl rfl rfl (Nat.le_of_ble_eq_true rfl) (Nat.le_of_ble_eq_true rfl)
theorem dX3_init_0 : decode cX3_init 0 = .ok (.aload_n 0, 1) := by decide +kernel
theorem dX3_init_1 : decode cX3_init 1 = .ok (.invokespecial 9, 3) := by decide +kernel
theorem dX3_init_4 : decode cX3_init 4 = .ok (.aload_n 0, 1) := by decide +kernel
theorem dX3_init_5 : decode cX3_init 5 = .ok (.ldc 15, 2) := by decide +kernel
theorem dX3_init_7 : decode cX3_init 7 = .ok (.newarray .long, 2) := by decide +kernel
theorem dX3_init_9 : decode cX3_init 9 = .ok (.putfield 16, 3) := by decide +kernel
theorem dX3_init_12 : decode cX3_init 12 = .ok (.aload_n 0, 1) := by decide +kernel
theorem dX3_init_13 : decode cX3_init 13 = .ok (.ldc 20, 2) := by decide +kernel
theorem dX3_init_15 : decode cX3_init 15 = .ok (.newarray .long, 2) := by decide +kernel
theorem dX3_init_17 : decode cX3_init 17 = .ok (.putfield 21, 3) := by decide +kernel
theorem dX3_init_20 : decode cX3_init 20 = .ok (.aload_n 0, 1) := by decide +kernel
theorem dX3_init_21 : decode cX3_init 21 = .ok (.sipush 30622, 3) := by decide +kernel
theorem dX3_init_24 : decode cX3_init 24 = .ok (.newarray .long, 2) := by decide +kernel
theorem dX3_init_26 : decode cX3_init 26 = .ok (.putfield 24, 3) := by decide +kernel
theorem dX3_init_29 : decode cX3_init 29 = .ok (.aload_n 0, 1) := by decide +kernel
theorem dX3_init_30 : decode cX3_init 30 = .ok (.bipush 61, 2) := by decide +kernel
theorem dX3_init_32 : decode cX3_init 32 = .ok (.newarray .int, 2) := by decide +kernel
theorem dX3_init_34 : decode cX3_init 34 = .ok (.putfield 27, 3) := by decide +kernel
theorem dX3_init_37 : decode cX3_init 37 = .ok (.aload_n 0, 1) := by decide +kernel
theorem dX3_init_38 : decode cX3_init 38 = .ok (.bipush 61, 2) := by decide +kernel
theorem dX3_init_40 : decode cX3_init 40 = .ok (.newarray .int, 2) := by decide +kernel
theorem dX3_init_42 : decode cX3_init 42 = .ok (.putfield 31, 3) := by decide +kernel
theorem dX3_init_45 : decode cX3_init 45 = .ok (.aload_n 0, 1) := by decide +kernel
theorem dX3_init_46 : decode cX3_init 46 = .ok (.bipush 61, 2) := by decide +kernel
theorem dX3_init_48 : decode cX3_init 48 = .ok (.newarray .int, 2) := by decide +kernel
theorem dX3_init_50 : decode cX3_init 50 = .ok (.putfield 34, 3) := by decide +kernel
theorem dX3_init_53 : decode cX3_init 53 = .ok (.aload_n 0, 1) := by decide +kernel
theorem dX3_init_54 : decode cX3_init 54 = .ok (.sipush 500, 3) := by decide +kernel
theorem dX3_init_57 : decode cX3_init 57 = .ok (.newarray .long, 2) := by decide +kernel
theorem dX3_init_59 : decode cX3_init 59 = .ok (.putfield 37, 3) := by decide +kernel
theorem dX3_init_62 : decode cX3_init 62 = .ok (.aload_n 0, 1) := by decide +kernel
theorem dX3_init_63 : decode cX3_init 63 = .ok (.bipush 8, 2) := by decide +kernel
theorem dX3_init_65 : decode cX3_init 65 = .ok (.newarray .int, 2) := by decide +kernel
theorem dX3_init_67 : decode cX3_init 67 = .ok (.putfield 40, 3) := by decide +kernel
theorem dX3_init_70 : decode cX3_init 70 = .ok (.return_, 1) := by decide +kernel
def WX3_init (w : Wd) : Wd := (zr (zr (zr (zr (zr (zr (zr (zr w 49) 50) 51) 52) 53) 54) 55) 56)
theorem kX3_init {q : Gq} {F : Nat → Prop} {l : Launch} {w : Wd} : CC (gbA q F) l 1 8 177371 yX3_init cX3_init 1 [.ref 48] 49 [(0, 1), (2, 6), (42, 3), (42, 2), (42, 1), (42, 0), (42, 4), (43, 3), (43, 2), (43, 1), (43, 0), (2, 5), (2, 4), (2, 3), (2, 2), (2, 1), (2, 0), (3, 4), (40, 0), (3, 3), (34, 4), (34, 3), (34, 2), (34, 1), (34, 0), (3, 2), (26, 7), (26, 6), (26, 5), (26, 4), (26, 3), (26, 2), (26, 1), (26, 0), (3, 1), (13, 11), (13, 10), (13, 9), (13, 8), (13, 7), (13, 6), (13, 5), (13, 4), (13, 3), (13, 2), (13, 1), (13, 0), (3, 0), (4, 7), (4, 6), (4, 5), (4, 4), (4, 3), (4, 2), (4, 1), (4, 0), (0, 0)] w 57 [(48, 7), (48, 6), (48, 5), (48, 4), (48, 3), (48, 2), (48, 1), (48, 0), (0, 1), (2, 6), (42, 3), (42, 2), (42, 1), (42, 0), (42, 4), (43, 3), (43, 2), (43, 1), (43, 0), (2, 5), (2, 4), (2, 3), (2, 2), (2, 1), (2, 0), (3, 4), (40, 0), (3, 3), (34, 4), (34, 3), (34, 2), (34, 1), (34, 0), (3, 2), (26, 7), (26, 6), (26, 5), (26, 4), (26, 3), (26, 2), (26, 1), (26, 0), (3, 1), (13, 11), (13, 10), (13, 9), (13, 8), (13, 7), (13, 6), (13, 5), (13, 4), (13, 3), (13, 2), (13, 1), (13, 0), (3, 0), (4, 7), (4, 6), (4, 5), (4, 4), (4, 3), (4, 2), (4, 1), (4, 0), (0, 0)] (WX3_init w) := by
  refine CC.of (by decide) rfl (Nat.le_of_ble_eq_true rfl) (fun ad0 => ?_)
  show RC (gbA q F) ad0 49 57 [(48, 7), (48, 6), (48, 5), (48, 4), (48, 3), (48, 2), (48, 1), (48, 0), (0, 1), (2, 6), (42, 3), (42, 2), (42, 1), (42, 0), (42, 4), (43, 3), (43, 2), (43, 1), (43, 0), (2, 5), (2, 4), (2, 3), (2, 2), (2, 1), (2, 0), (3, 4), (40, 0), (3, 3), (34, 4), (34, 3), (34, 2), (34, 1), (34, 0), (3, 2), (26, 7), (26, 6), (26, 5), (26, 4), (26, 3), (26, 2), (26, 1), (26, 0), (3, 1), (13, 11), (13, 10), (13, 9), (13, 8), (13, 7), (13, 6), (13, 5), (13, 4), (13, 3), (13, 2), (13, 1), (13, 0), (3, 0), (4, 7), (4, 6), (4, 5), (4, 4), (4, 3), (4, 2), (4, 1), (4, 0), (0, 0)] (WX3_init w) l 1 8 177371 yX3_init cX3_init 1 49 [(0, 1), (2, 6), (42, 3), (42, 2), (42, 1), (42, 0), (42, 4), (43, 3), (43, 2), (43, 1), (43, 0), (2, 5), (2, 4), (2, 3), (2, 2), (2, 1), (2, 0), (3, 4), (40, 0), (3, 3), (34, 4), (34, 3), (34, 2), (34, 1), (34, 0), (3, 2), (26, 7), (26, 6), (26, 5), (26, 4), (26, 3), (26, 2), (26, 1), (26, 0), (3, 1), (13, 11), (13, 10), (13, 9), (13, 8), (13, 7), (13, 6), (13, 5), (13, 4), (13, 3), (13, 2), (13, 1), (13, 0), (3, 0), (4, 7), (4, 6), (4, 5), (4, 4), (4, 3), (4, 2), (4, 1), (4, 0), (0, 0)] 0 0 0 [] [(0, .ref 48)] w
  refine c_aload_n (pc := 0) (n := 49) (kc := 0) (ks := 0) dX3_init_0 rfl 0 rfl ?_
  refine c_obj (pc := 1) (n := 49) (kc := 0) (ks := 0) moRX3 oi_i oi_c (Nat.le_of_ble_eq_true rfl) (Nat.le_of_ble_eq_true rfl) dX3_init_1 ?_
  refine c_aload_n (pc := 4) (n := 49) (kc := 0) (ks := 0) dX3_init_4 rfl 0 rfl ?_
  refine c_ldc (pc := 5) (n := 49) (kc := 0) (ks := 0) dX3_init_5 kcRX3_15 ?_
  refine c_na_long (pc := 7) (n := 49) (kc := 0) (ks := 0) (len := 36872) (show okA dsA [(0, 1), (2, 6), (42, 3), (42, 2), (42, 1), (42, 0), (42, 4), (43, 3), (43, 2), (43, 1), (43, 0), (2, 5), (2, 4), (2, 3), (2, 2), (2, 1), (2, 0), (3, 4), (40, 0), (3, 3), (34, 4), (34, 3), (34, 2), (34, 1), (34, 0), (3, 2), (26, 7), (26, 6), (26, 5), (26, 4), (26, 3), (26, 2), (26, 1), (26, 0), (3, 1), (13, 11), (13, 10), (13, 9), (13, 8), (13, 7), (13, 6), (13, 5), (13, 4), (13, 3), (13, 2), (13, 1), (13, 0), (3, 0), (4, 7), (4, 6), (4, 5), (4, 4), (4, 3), (4, 2), (4, 1), (4, 0), (0, 0)] 49 = true by decide +kernel) (Nat.le_of_ble_eq_true rfl) (Nat.le_of_ble_eq_true rfl) rfl rfl ac_long (by decide) (by decide) (Nat.le_of_ble_eq_true rfl) (Nat.le_of_ble_eq_true rfl) (Nat.le_of_ble_eq_true rfl) (by decide) (by decide) dX3_init_7 ?_
  refine c_putR (pc := 9) (n := 50) (kc := 1) (ks := 36872) (k := 48) (j := 0) (t := 49) (fs := [some 49, some 50, some 51, some 52, some 53, some 54, some 55, some 56, none, none, none, none, none, none, none, none, none, none]) (Nat.le_of_ble_eq_true rfl) rfl rfl rfl cf3 flRX3_16 rfl (by decide) rfl rfl (fun _ => rfl) (fun _ => rfl) dX3_init_9 ?_
  refine c_aload_n (pc := 12) (n := 50) (kc := 1) (ks := 36872) dX3_init_12 rfl 0 rfl ?_
  refine c_ldc (pc := 13) (n := 50) (kc := 1) (ks := 36872) dX3_init_13 kcRX3_20 ?_
  refine c_na_long (pc := 15) (n := 50) (kc := 1) (ks := 36872) (len := 109186) (show okA dsA [(48, 0), (0, 1), (2, 6), (42, 3), (42, 2), (42, 1), (42, 0), (42, 4), (43, 3), (43, 2), (43, 1), (43, 0), (2, 5), (2, 4), (2, 3), (2, 2), (2, 1), (2, 0), (3, 4), (40, 0), (3, 3), (34, 4), (34, 3), (34, 2), (34, 1), (34, 0), (3, 2), (26, 7), (26, 6), (26, 5), (26, 4), (26, 3), (26, 2), (26, 1), (26, 0), (3, 1), (13, 11), (13, 10), (13, 9), (13, 8), (13, 7), (13, 6), (13, 5), (13, 4), (13, 3), (13, 2), (13, 1), (13, 0), (3, 0), (4, 7), (4, 6), (4, 5), (4, 4), (4, 3), (4, 2), (4, 1), (4, 0), (0, 0)] 50 = true by decide +kernel) (Nat.le_of_ble_eq_true rfl) (Nat.le_of_ble_eq_true rfl) rfl rfl ac_long (by decide) (by decide) (Nat.le_of_ble_eq_true rfl) (Nat.le_of_ble_eq_true rfl) (Nat.le_of_ble_eq_true rfl) (by decide) (by decide) dX3_init_15 ?_
  refine c_putR (pc := 17) (n := 51) (kc := 2) (ks := 146058) (k := 48) (j := 1) (t := 50) (fs := [some 49, some 50, some 51, some 52, some 53, some 54, some 55, some 56, none, none, none, none, none, none, none, none, none, none]) (Nat.le_of_ble_eq_true rfl) rfl rfl rfl cf3 flRX3_21 rfl (by decide) rfl rfl (fun _ => rfl) (fun _ => rfl) dX3_init_17 ?_
  refine c_aload_n (pc := 20) (n := 51) (kc := 2) (ks := 146058) dX3_init_20 rfl 0 rfl ?_
  refine c_sipush (pc := 21) (n := 51) (kc := 2) (ks := 146058) dX3_init_21 ks_30622 ?_
  refine c_na_long (pc := 24) (n := 51) (kc := 2) (ks := 146058) (len := 30622) (show okA dsA [(48, 1), (48, 0), (0, 1), (2, 6), (42, 3), (42, 2), (42, 1), (42, 0), (42, 4), (43, 3), (43, 2), (43, 1), (43, 0), (2, 5), (2, 4), (2, 3), (2, 2), (2, 1), (2, 0), (3, 4), (40, 0), (3, 3), (34, 4), (34, 3), (34, 2), (34, 1), (34, 0), (3, 2), (26, 7), (26, 6), (26, 5), (26, 4), (26, 3), (26, 2), (26, 1), (26, 0), (3, 1), (13, 11), (13, 10), (13, 9), (13, 8), (13, 7), (13, 6), (13, 5), (13, 4), (13, 3), (13, 2), (13, 1), (13, 0), (3, 0), (4, 7), (4, 6), (4, 5), (4, 4), (4, 3), (4, 2), (4, 1), (4, 0), (0, 0)] 51 = true by decide +kernel) (Nat.le_of_ble_eq_true rfl) (Nat.le_of_ble_eq_true rfl) rfl rfl ac_long (by decide) (by decide) (Nat.le_of_ble_eq_true rfl) (Nat.le_of_ble_eq_true rfl) (Nat.le_of_ble_eq_true rfl) (by decide) (by decide) dX3_init_24 ?_
  refine c_putR (pc := 26) (n := 52) (kc := 3) (ks := 176680) (k := 48) (j := 2) (t := 51) (fs := [some 49, some 50, some 51, some 52, some 53, some 54, some 55, some 56, none, none, none, none, none, none, none, none, none, none]) (Nat.le_of_ble_eq_true rfl) rfl rfl rfl cf3 flRX3_24 rfl (by decide) rfl rfl (fun _ => rfl) (fun _ => rfl) dX3_init_26 ?_
  refine c_aload_n (pc := 29) (n := 52) (kc := 3) (ks := 176680) dX3_init_29 rfl 0 rfl ?_
  refine c_bipush (pc := 30) (n := 52) (kc := 3) (ks := 176680) dX3_init_30 kb_61 ?_
  refine c_na_int (pc := 32) (n := 52) (kc := 3) (ks := 176680) (len := 61) (show okA dsA [(48, 2), (48, 1), (48, 0), (0, 1), (2, 6), (42, 3), (42, 2), (42, 1), (42, 0), (42, 4), (43, 3), (43, 2), (43, 1), (43, 0), (2, 5), (2, 4), (2, 3), (2, 2), (2, 1), (2, 0), (3, 4), (40, 0), (3, 3), (34, 4), (34, 3), (34, 2), (34, 1), (34, 0), (3, 2), (26, 7), (26, 6), (26, 5), (26, 4), (26, 3), (26, 2), (26, 1), (26, 0), (3, 1), (13, 11), (13, 10), (13, 9), (13, 8), (13, 7), (13, 6), (13, 5), (13, 4), (13, 3), (13, 2), (13, 1), (13, 0), (3, 0), (4, 7), (4, 6), (4, 5), (4, 4), (4, 3), (4, 2), (4, 1), (4, 0), (0, 0)] 52 = true by decide +kernel) (Nat.le_of_ble_eq_true rfl) (Nat.le_of_ble_eq_true rfl) rfl rfl ac_int (by decide) (by decide) (Nat.le_of_ble_eq_true rfl) (Nat.le_of_ble_eq_true rfl) (Nat.le_of_ble_eq_true rfl) (by decide) (by decide) dX3_init_32 ?_
  refine c_putR (pc := 34) (n := 53) (kc := 4) (ks := 176741) (k := 48) (j := 3) (t := 52) (fs := [some 49, some 50, some 51, some 52, some 53, some 54, some 55, some 56, none, none, none, none, none, none, none, none, none, none]) (Nat.le_of_ble_eq_true rfl) rfl rfl rfl cf3 flRX3_27 rfl (by decide) rfl rfl (fun _ => rfl) (fun _ => rfl) dX3_init_34 ?_
  refine c_aload_n (pc := 37) (n := 53) (kc := 4) (ks := 176741) dX3_init_37 rfl 0 rfl ?_
  refine c_bipush (pc := 38) (n := 53) (kc := 4) (ks := 176741) dX3_init_38 kb_61 ?_
  refine c_na_int (pc := 40) (n := 53) (kc := 4) (ks := 176741) (len := 61) (show okA dsA [(48, 3), (48, 2), (48, 1), (48, 0), (0, 1), (2, 6), (42, 3), (42, 2), (42, 1), (42, 0), (42, 4), (43, 3), (43, 2), (43, 1), (43, 0), (2, 5), (2, 4), (2, 3), (2, 2), (2, 1), (2, 0), (3, 4), (40, 0), (3, 3), (34, 4), (34, 3), (34, 2), (34, 1), (34, 0), (3, 2), (26, 7), (26, 6), (26, 5), (26, 4), (26, 3), (26, 2), (26, 1), (26, 0), (3, 1), (13, 11), (13, 10), (13, 9), (13, 8), (13, 7), (13, 6), (13, 5), (13, 4), (13, 3), (13, 2), (13, 1), (13, 0), (3, 0), (4, 7), (4, 6), (4, 5), (4, 4), (4, 3), (4, 2), (4, 1), (4, 0), (0, 0)] 53 = true by decide +kernel) (Nat.le_of_ble_eq_true rfl) (Nat.le_of_ble_eq_true rfl) rfl rfl ac_int (by decide) (by decide) (Nat.le_of_ble_eq_true rfl) (Nat.le_of_ble_eq_true rfl) (Nat.le_of_ble_eq_true rfl) (by decide) (by decide) dX3_init_40 ?_
  refine c_putR (pc := 42) (n := 54) (kc := 5) (ks := 176802) (k := 48) (j := 4) (t := 53) (fs := [some 49, some 50, some 51, some 52, some 53, some 54, some 55, some 56, none, none, none, none, none, none, none, none, none, none]) (Nat.le_of_ble_eq_true rfl) rfl rfl rfl cf3 flRX3_31 rfl (by decide) rfl rfl (fun _ => rfl) (fun _ => rfl) dX3_init_42 ?_
  refine c_aload_n (pc := 45) (n := 54) (kc := 5) (ks := 176802) dX3_init_45 rfl 0 rfl ?_
  refine c_bipush (pc := 46) (n := 54) (kc := 5) (ks := 176802) dX3_init_46 kb_61 ?_
  refine c_na_int (pc := 48) (n := 54) (kc := 5) (ks := 176802) (len := 61) (show okA dsA [(48, 4), (48, 3), (48, 2), (48, 1), (48, 0), (0, 1), (2, 6), (42, 3), (42, 2), (42, 1), (42, 0), (42, 4), (43, 3), (43, 2), (43, 1), (43, 0), (2, 5), (2, 4), (2, 3), (2, 2), (2, 1), (2, 0), (3, 4), (40, 0), (3, 3), (34, 4), (34, 3), (34, 2), (34, 1), (34, 0), (3, 2), (26, 7), (26, 6), (26, 5), (26, 4), (26, 3), (26, 2), (26, 1), (26, 0), (3, 1), (13, 11), (13, 10), (13, 9), (13, 8), (13, 7), (13, 6), (13, 5), (13, 4), (13, 3), (13, 2), (13, 1), (13, 0), (3, 0), (4, 7), (4, 6), (4, 5), (4, 4), (4, 3), (4, 2), (4, 1), (4, 0), (0, 0)] 54 = true by decide +kernel) (Nat.le_of_ble_eq_true rfl) (Nat.le_of_ble_eq_true rfl) rfl rfl ac_int (by decide) (by decide) (Nat.le_of_ble_eq_true rfl) (Nat.le_of_ble_eq_true rfl) (Nat.le_of_ble_eq_true rfl) (by decide) (by decide) dX3_init_48 ?_
  refine c_putR (pc := 50) (n := 55) (kc := 6) (ks := 176863) (k := 48) (j := 5) (t := 54) (fs := [some 49, some 50, some 51, some 52, some 53, some 54, some 55, some 56, none, none, none, none, none, none, none, none, none, none]) (Nat.le_of_ble_eq_true rfl) rfl rfl rfl cf3 flRX3_34 rfl (by decide) rfl rfl (fun _ => rfl) (fun _ => rfl) dX3_init_50 ?_
  refine c_aload_n (pc := 53) (n := 55) (kc := 6) (ks := 176863) dX3_init_53 rfl 0 rfl ?_
  refine c_sipush (pc := 54) (n := 55) (kc := 6) (ks := 176863) dX3_init_54 ks_500 ?_
  refine c_na_long (pc := 57) (n := 55) (kc := 6) (ks := 176863) (len := 500) (show okA dsA [(48, 5), (48, 4), (48, 3), (48, 2), (48, 1), (48, 0), (0, 1), (2, 6), (42, 3), (42, 2), (42, 1), (42, 0), (42, 4), (43, 3), (43, 2), (43, 1), (43, 0), (2, 5), (2, 4), (2, 3), (2, 2), (2, 1), (2, 0), (3, 4), (40, 0), (3, 3), (34, 4), (34, 3), (34, 2), (34, 1), (34, 0), (3, 2), (26, 7), (26, 6), (26, 5), (26, 4), (26, 3), (26, 2), (26, 1), (26, 0), (3, 1), (13, 11), (13, 10), (13, 9), (13, 8), (13, 7), (13, 6), (13, 5), (13, 4), (13, 3), (13, 2), (13, 1), (13, 0), (3, 0), (4, 7), (4, 6), (4, 5), (4, 4), (4, 3), (4, 2), (4, 1), (4, 0), (0, 0)] 55 = true by decide +kernel) (Nat.le_of_ble_eq_true rfl) (Nat.le_of_ble_eq_true rfl) rfl rfl ac_long (by decide) (by decide) (Nat.le_of_ble_eq_true rfl) (Nat.le_of_ble_eq_true rfl) (Nat.le_of_ble_eq_true rfl) (by decide) (by decide) dX3_init_57 ?_
  refine c_putR (pc := 59) (n := 56) (kc := 7) (ks := 177363) (k := 48) (j := 6) (t := 55) (fs := [some 49, some 50, some 51, some 52, some 53, some 54, some 55, some 56, none, none, none, none, none, none, none, none, none, none]) (Nat.le_of_ble_eq_true rfl) rfl rfl rfl cf3 flRX3_37 rfl (by decide) rfl rfl (fun _ => rfl) (fun _ => rfl) dX3_init_59 ?_
  refine c_aload_n (pc := 62) (n := 56) (kc := 7) (ks := 177363) dX3_init_62 rfl 0 rfl ?_
  refine c_bipush (pc := 63) (n := 56) (kc := 7) (ks := 177363) dX3_init_63 kb_8 ?_
  refine c_na_int (pc := 65) (n := 56) (kc := 7) (ks := 177363) (len := 8) (show okA dsA [(48, 6), (48, 5), (48, 4), (48, 3), (48, 2), (48, 1), (48, 0), (0, 1), (2, 6), (42, 3), (42, 2), (42, 1), (42, 0), (42, 4), (43, 3), (43, 2), (43, 1), (43, 0), (2, 5), (2, 4), (2, 3), (2, 2), (2, 1), (2, 0), (3, 4), (40, 0), (3, 3), (34, 4), (34, 3), (34, 2), (34, 1), (34, 0), (3, 2), (26, 7), (26, 6), (26, 5), (26, 4), (26, 3), (26, 2), (26, 1), (26, 0), (3, 1), (13, 11), (13, 10), (13, 9), (13, 8), (13, 7), (13, 6), (13, 5), (13, 4), (13, 3), (13, 2), (13, 1), (13, 0), (3, 0), (4, 7), (4, 6), (4, 5), (4, 4), (4, 3), (4, 2), (4, 1), (4, 0), (0, 0)] 56 = true by decide +kernel) (Nat.le_of_ble_eq_true rfl) (Nat.le_of_ble_eq_true rfl) rfl rfl ac_int (by decide) (by decide) (Nat.le_of_ble_eq_true rfl) (Nat.le_of_ble_eq_true rfl) (Nat.le_of_ble_eq_true rfl) (by decide) (by decide) dX3_init_65 ?_
  refine c_putR (pc := 67) (n := 57) (kc := 8) (ks := 177371) (k := 48) (j := 7) (t := 56) (fs := [some 49, some 50, some 51, some 52, some 53, some 54, some 55, some 56, none, none, none, none, none, none, none, none, none, none]) (Nat.le_of_ble_eq_true rfl) rfl rfl rfl cf3 flRX3_40 rfl (by decide) rfl rfl (fun _ => rfl) (fun _ => rfl) dX3_init_67 ?_
  exact c_ret (pc := 70) (n := 57) (kc := 8) (ks := 177371) dX3_init_70 rfl rfl rfl (Nat.le_of_ble_eq_true rfl) (Nat.le_of_ble_eq_true rfl)
theorem dX11_init_0 : decode cX11_init 0 = .ok (.aload_n 0, 1) := by decide +kernel
theorem dX11_init_1 : decode cX11_init 1 = .ok (.invokespecial 1, 3) := by decide +kernel
theorem dX11_init_4 : decode cX11_init 4 = .ok (.aload_n 0, 1) := by decide +kernel
theorem dX11_init_5 : decode cX11_init 5 = .ok (.sipush 8192, 3) := by decide +kernel
theorem dX11_init_8 : decode cX11_init 8 = .ok (.newarray .int, 2) := by decide +kernel
theorem dX11_init_10 : decode cX11_init 10 = .ok (.putfield 9, 3) := by decide +kernel
theorem dX11_init_13 : decode cX11_init 13 = .ok (.aload_n 0, 1) := by decide +kernel
theorem dX11_init_14 : decode cX11_init 14 = .ok (.new 13, 3) := by decide +kernel
theorem dX11_init_17 : decode cX11_init 17 = .ok (.dup, 1) := by decide +kernel
theorem dX11_init_18 : decode cX11_init 18 = .ok (.invokespecial 15, 3) := by decide +kernel
theorem dX11_init_21 : decode cX11_init 21 = .ok (.putfield 16, 3) := by decide +kernel
theorem dX11_init_24 : decode cX11_init 24 = .ok (.aload_n 0, 1) := by decide +kernel
theorem dX11_init_25 : decode cX11_init 25 = .ok (.new 20, 3) := by decide +kernel
theorem dX11_init_28 : decode cX11_init 28 = .ok (.dup, 1) := by decide +kernel
theorem dX11_init_29 : decode cX11_init 29 = .ok (.invokespecial 22, 3) := by decide +kernel
theorem dX11_init_32 : decode cX11_init 32 = .ok (.putfield 23, 3) := by decide +kernel
theorem dX11_init_35 : decode cX11_init 35 = .ok (.aload_n 0, 1) := by decide +kernel
theorem dX11_init_36 : decode cX11_init 36 = .ok (.iconst (-1), 1) := by decide +kernel
theorem dX11_init_37 : decode cX11_init 37 = .ok (.putfield 27, 3) := by decide +kernel
theorem dX11_init_40 : decode cX11_init 40 = .ok (.return_, 1) := by decide +kernel
def WX11_init (w : Wd) : Wd := (si (WX3_init (zr (WX4_init (zr (zr w 1) 2)) 48)) 0 5 (-1))
theorem kX11_init {q : Gq} {F : Nat → Prop} {l : Launch} (hz : TKI q F l) {w : Wd} : CC (gbA q F) l 13 56 368404 yX11_init cX11_init 1 [.ref 0] 1 [] w 57 [(0, 2), (48, 7), (48, 6), (48, 5), (48, 4), (48, 3), (48, 2), (48, 1), (48, 0), (0, 1), (2, 6), (42, 3), (42, 2), (42, 1), (42, 0), (42, 4), (43, 3), (43, 2), (43, 1), (43, 0), (2, 5), (2, 4), (2, 3), (2, 2), (2, 1), (2, 0), (3, 4), (40, 0), (3, 3), (34, 4), (34, 3), (34, 2), (34, 1), (34, 0), (3, 2), (26, 7), (26, 6), (26, 5), (26, 4), (26, 3), (26, 2), (26, 1), (26, 0), (3, 1), (13, 11), (13, 10), (13, 9), (13, 8), (13, 7), (13, 6), (13, 5), (13, 4), (13, 3), (13, 2), (13, 1), (13, 0), (3, 0), (4, 7), (4, 6), (4, 5), (4, 4), (4, 3), (4, 2), (4, 1), (4, 0), (0, 0)] (WX11_init w) := by
  refine CC.of (by decide) rfl (Nat.le_of_ble_eq_true rfl) (fun ad0 => ?_)
  show RC (gbA q F) ad0 1 57 [(0, 2), (48, 7), (48, 6), (48, 5), (48, 4), (48, 3), (48, 2), (48, 1), (48, 0), (0, 1), (2, 6), (42, 3), (42, 2), (42, 1), (42, 0), (42, 4), (43, 3), (43, 2), (43, 1), (43, 0), (2, 5), (2, 4), (2, 3), (2, 2), (2, 1), (2, 0), (3, 4), (40, 0), (3, 3), (34, 4), (34, 3), (34, 2), (34, 1), (34, 0), (3, 2), (26, 7), (26, 6), (26, 5), (26, 4), (26, 3), (26, 2), (26, 1), (26, 0), (3, 1), (13, 11), (13, 10), (13, 9), (13, 8), (13, 7), (13, 6), (13, 5), (13, 4), (13, 3), (13, 2), (13, 1), (13, 0), (3, 0), (4, 7), (4, 6), (4, 5), (4, 4), (4, 3), (4, 2), (4, 1), (4, 0), (0, 0)] (WX11_init w) l 13 56 368404 yX11_init cX11_init 1 1 [] 0 0 0 [] [(0, .ref 0)] w
  refine c_aload_n (pc := 0) (n := 1) (kc := 0) (ks := 0) dX11_init_0 rfl 0 rfl ?_
  refine c_obj (pc := 1) (n := 1) (kc := 0) (ks := 0) moRX11 oi_i oi_c (Nat.le_of_ble_eq_true rfl) (Nat.le_of_ble_eq_true rfl) dX11_init_1 ?_
  refine c_aload_n (pc := 4) (n := 1) (kc := 0) (ks := 0) dX11_init_4 rfl 0 rfl ?_
  refine c_sipush (pc := 5) (n := 1) (kc := 0) (ks := 0) dX11_init_5 ks_8192 ?_
  refine c_na_int (pc := 8) (n := 1) (kc := 0) (ks := 0) (len := 8192) (show okA dsA [] 1 = true by decide +kernel) (Nat.le_of_ble_eq_true rfl) (Nat.le_of_ble_eq_true rfl) rfl rfl ac_int (by decide) (by decide) (Nat.le_of_ble_eq_true rfl) (Nat.le_of_ble_eq_true rfl) (Nat.le_of_ble_eq_true rfl) (by decide) (by decide) dX11_init_8 ?_
  refine c_putR (pc := 10) (n := 2) (kc := 1) (ks := 8192) (k := 0) (j := 0) (t := 1) (fs := [some 1, some 2, some 48, none, none, none, none]) (Nat.le_of_ble_eq_true rfl) rfl rfl rfl cf11 flRX11_9 rfl (by decide) rfl rfl (fun _ => rfl) (fun _ => rfl) dX11_init_10 ?_
  refine c_aload_n (pc := 13) (n := 2) (kc := 1) (ks := 8192) dX11_init_13 rfl 0 rfl ?_
  refine c_new (pc := 14) (n := 2) (kc := 1) (ks := 8192) (ci := 1) (fs := [some 3, some 4, some 13, some 26, some 34, some 40, some 42]) (show okA dsA [(0, 0)] 2 = true by decide +kernel) (by decide) (Nat.le_of_ble_eq_true rfl) (Nat.le_of_ble_eq_true rfl) rfl rfl rfl cf4 clRX11_13 it4 iz4 df4 (Nat.le_of_ble_eq_true rfl) (Nat.le_of_ble_eq_true rfl) (by decide) (by decide) dX11_init_14 ?_
  refine c_dup (pc := 17) (n := 3) (kc := 2) (ks := 8199) dX11_init_17 rfl ?_
  refine c_ctorN (host := RX11) (pc := 18) (n := 3) (kc := 2) (ks := 8199) (k := 2) (av := []) wyX4_init rfl (fun U H h => h.2.1) iyX4_init ⟨(Nat.le_of_ble_eq_true rfl), (Nat.le_of_ble_eq_true rfl)⟩ (Nat.le_of_ble_eq_true rfl) (Nat.le_of_ble_eq_true rfl) rfl rfl (Nat.le_of_ble_eq_true rfl) (by decide) (by decide) (Nat.le_of_ble_eq_true rfl) dX11_init_18 (kX4_init hz (w := (zr (zr w 1) 2))) ?_
  refine c_putR (pc := 21) (n := 48) (kc := 47) (ks := 191015) (k := 0) (j := 1) (t := 2) (fs := [some 1, some 2, some 48, none, none, none, none]) (Nat.le_of_ble_eq_true rfl) rfl rfl rfl cf11 flRX11_16 rfl (by decide) rfl rfl (fun _ => rfl) (fun _ => rfl) dX11_init_21 ?_
  refine c_aload_n (pc := 24) (n := 48) (kc := 47) (ks := 191015) dX11_init_24 rfl 0 rfl ?_
  refine c_new (pc := 25) (n := 48) (kc := 47) (ks := 191015) (ci := 2) (fs := [some 49, some 50, some 51, some 52, some 53, some 54, some 55, some 56, none, none, none, none, none, none, none, none, none, none]) (show okA dsA [(0, 1), (2, 6), (42, 3), (42, 2), (42, 1), (42, 0), (42, 4), (43, 3), (43, 2), (43, 1), (43, 0), (2, 5), (2, 4), (2, 3), (2, 2), (2, 1), (2, 0), (3, 4), (40, 0), (3, 3), (34, 4), (34, 3), (34, 2), (34, 1), (34, 0), (3, 2), (26, 7), (26, 6), (26, 5), (26, 4), (26, 3), (26, 2), (26, 1), (26, 0), (3, 1), (13, 11), (13, 10), (13, 9), (13, 8), (13, 7), (13, 6), (13, 5), (13, 4), (13, 3), (13, 2), (13, 1), (13, 0), (3, 0), (4, 7), (4, 6), (4, 5), (4, 4), (4, 3), (4, 2), (4, 1), (4, 0), (0, 0)] 48 = true by decide +kernel) (by decide) (Nat.le_of_ble_eq_true rfl) (Nat.le_of_ble_eq_true rfl) rfl rfl rfl cf3 clRX11_20 it3 iz3 df3 (Nat.le_of_ble_eq_true rfl) (Nat.le_of_ble_eq_true rfl) (by decide) (by decide) dX11_init_25 ?_
  refine c_dup (pc := 28) (n := 49) (kc := 48) (ks := 191033) dX11_init_28 rfl ?_
  refine c_ctorN (host := RX11) (pc := 29) (n := 49) (kc := 48) (ks := 191033) (k := 48) (av := []) wyX3_init rfl (fun U H h => h.2.2.2.2.2.2.2) iyX3_init ⟨(Nat.le_of_ble_eq_true rfl), (Nat.le_of_ble_eq_true rfl)⟩ (Nat.le_of_ble_eq_true rfl) (Nat.le_of_ble_eq_true rfl) rfl rfl (Nat.le_of_ble_eq_true rfl) (by decide) (by decide) (Nat.le_of_ble_eq_true rfl) dX11_init_29 (kX3_init (w := (zr (WX4_init (zr (zr w 1) 2)) 48))) ?_
  refine c_putR (pc := 32) (n := 57) (kc := 56) (ks := 368404) (k := 0) (j := 2) (t := 48) (fs := [some 1, some 2, some 48, none, none, none, none]) (Nat.le_of_ble_eq_true rfl) rfl rfl rfl cf11 flRX11_23 rfl (by decide) rfl rfl (fun _ => rfl) (fun _ => rfl) dX11_init_32 ?_
  refine c_aload_n (pc := 35) (n := 57) (kc := 56) (ks := 368404) dX11_init_35 rfl 0 rfl ?_
  refine c_iconst (pc := 36) (n := 57) (kc := 56) (ks := 368404) dX11_init_36 ki_m1 ?_
  refine c_putI (pc := 37) (n := 57) (kc := 56) (ks := 368404) (k := 0) (j := 5) (fs := [some 1, some 2, some 48, none, none, none, none]) (fun ad => ⟨(Nat.le_of_ble_eq_true rfl), rfl, rfl, rfl⟩) cf11 flRX11_27 rfl rfl rfl rfl dX11_init_37 ?_
  exact c_ret (pc := 40) (n := 57) (kc := 56) (ks := 368404) dX11_init_40 rfl rfl rfl (Nat.le_of_ble_eq_true rfl) (Nat.le_of_ble_eq_true rfl)
