/-! methods of strings -/
theorem slRJ0_15 : Cond.fieldLink RJ0 15 "java/lang/String" "coder" "B" ∈ TB := tb1 sg5 18 rfl rfl
theorem slRJ0_38 : Cond.fieldLink RJ0 38 "java/lang/String" "COMPACT_STRINGS" "Z" ∈ TB := tb1 sg1 70 rfl rfl
theorem slRJ0_9 : Cond.fieldLink RJ0 9 "java/lang/String" "value" "[B" ∈ TB := tb1 sg5 17 rfl rfl
theorem dJ0_checkIndex_df160_0 : decode cJ0_checkIndex_df160 0 = .ok (.iload_n 0, 1) := by decide +kernel
theorem dJ0_checkIndex_df160_1 : decode cJ0_checkIndex_df160 1 = .ok (.iload_n 1, 1) := by decide +kernel
theorem dJ0_checkIndex_df160_2 : decode cJ0_checkIndex_df160 2 = .ok (.getstatic 1053, 3) := by decide +kernel
theorem dJ0_checkIndex_df160_5 : decode cJ0_checkIndex_df160 5 = .ok (.invokestatic 1059, 3) := by decide +kernel
theorem dJ0_checkIndex_df160_8 : decode cJ0_checkIndex_df160 8 = .ok (.pop, 1) := by decide +kernel
theorem dJ0_checkIndex_df160_9 : decode cJ0_checkIndex_df160 9 = .ok (.return_, 1) := by decide +kernel
theorem dJ3_checkIndex_8e157_0 : decode cJ3_checkIndex_8e157 0 = .ok (.iload_n 0, 1) := by decide +kernel
theorem dJ3_checkIndex_8e157_1 : decode cJ3_checkIndex_8e157 1 = .ok (.ifCond .lt 8, 3) := by decide +kernel
theorem dJ3_checkIndex_8e157_4 : decode cJ3_checkIndex_8e157 4 = .ok (.iload_n 0, 1) := by decide +kernel
theorem dJ3_checkIndex_8e157_5 : decode cJ3_checkIndex_8e157 5 = .ok (.iload_n 1, 1) := by decide +kernel
theorem dJ3_checkIndex_8e157_6 : decode cJ3_checkIndex_8e157 6 = .ok (.if_icmp .lt 10, 3) := by decide +kernel
theorem dJ3_checkIndex_8e157_9 : decode cJ3_checkIndex_8e157 9 = .ok (.aload_n 2, 1) := by decide +kernel
theorem dJ3_checkIndex_8e157_10 : decode cJ3_checkIndex_8e157 10 = .ok (.iload_n 0, 1) := by decide +kernel
theorem dJ3_checkIndex_8e157_11 : decode cJ3_checkIndex_8e157 11 = .ok (.iload_n 1, 1) := by decide +kernel
theorem dJ3_checkIndex_8e157_12 : decode cJ3_checkIndex_8e157 12 = .ok (.invokestatic 95, 3) := by decide +kernel
theorem dJ3_checkIndex_8e157_15 : decode cJ3_checkIndex_8e157 15 = .ok (.athrow, 1) := by decide +kernel
theorem dJ3_checkIndex_8e157_16 : decode cJ3_checkIndex_8e157 16 = .ok (.iload_n 0, 1) := by decide +kernel
theorem dJ3_checkIndex_8e157_17 : decode cJ3_checkIndex_8e157 17 = .ok (.ireturn, 1) := by decide +kernel
theorem slRJ0_1053 : Cond.fieldLink RJ0 1053 "jdk/internal/util/Preconditions" "SIOOBE_FORMATTER" "Ljava/util/function/BiFunction;" ∈ TB := tb1 sg1 86 rfl rfl
/-! java/lang/String.coder ()B: P, 0 -/
theorem dJ0_coder_7d493_0 : decode cJ0_coder_7d493 0 = .ok (.getstatic 38, 3) := by decide +kernel
theorem dJ0_coder_7d493_3 : decode cJ0_coder_7d493 3 = .ok (.ifCond .eq 10, 3) := by decide +kernel
theorem dJ0_coder_7d493_6 : decode cJ0_coder_7d493 6 = .ok (.aload_n 0, 1) := by decide +kernel
theorem dJ0_coder_7d493_7 : decode cJ0_coder_7d493 7 = .ok (.getfield 15, 3) := by decide +kernel
theorem dJ0_coder_7d493_10 : decode cJ0_coder_7d493 10 = .ok (.goto 4, 3) := by decide +kernel
theorem dJ0_coder_7d493_13 : decode cJ0_coder_7d493 13 = .ok (.iconst 1, 1) := by decide +kernel
theorem dJ0_coder_7d493_14 : decode cJ0_coder_7d493 14 = .ok (.ireturn, 1) := by decide +kernel
def fJ0_coder_7d493 (sn : Nat) (f : Nat → Int32) : Int32 :=
  if (1 : Int32) = 0 then (1) else (0)
theorem pJ0_coder_7d493 {Γ : Gm} {l : Launch} {N : Option Value → Wd → Prop} {X : String → Wd → Prop} {w : Wd} {R : Int32} (hN : N (some (.int R)) w) {k kv sn : Nat} {f : Nat → Int32} {F : Nat → Prop} (hs : STK Γ F k kv sn f) (h : fJ0_coder_7d493 sn f = R) : RT Γ l 0 yJ0_coder_7d493 cJ0_coder_7d493 1 ((some .byte)) N X 0 [] [(0, .ref k)] w := by
  unfold fJ0_coder_7d493 at h
  refine r_xgets (pc := 0) (v := .int 1) hs.1 (fun U H h => (hs.2.1 U H h).2.2.2.2) slRJ0_38 dJ0_coder_7d493_0 ?_
  refine r_if_eq (pc := 3) dJ0_coder_7d493_3 rfl (fun hc1 => ?_) (fun hc1 => ?_)
  · replace h := if_t hc1 h
    refine r_iconst (pc := 13) dJ0_coder_7d493_13 ki_1 ?_
    exact rP_n (pc := 14) rfl rfl dJ0_coder_7d493_14 h hN
  replace h := if_f hc1 h
  refine r_aload_n (pc := 6) dJ0_coder_7d493_6 rfl 0 rfl ?_
  refine r_xget (pc := 7) (v := .int 0) hs.1 (fun U H h => (hs.2.1 U H h).2.1) slRJ0_15 dJ0_coder_7d493_7 ?_
  refine r_goto (pc := 10) dJ0_coder_7d493_10 rfl ?_
  exact rP_n (pc := 14) rfl rfl dJ0_coder_7d493_14 h hN
theorem mJ0_coder_7d493 {Γ : Gm} {l : Launch} {N : Option Value → Wd → Prop} {X : String → Wd → Prop} {k kv sn : Nat} {f : Nat → Int32} {F : Nat → Prop} (hs : STK Γ F k kv sn f) {w : Wd} {x : Int32} (h : fJ0_coder_7d493 sn f = x) (hN : N (some (.int x)) w) : Ct Γ l 0 yJ0_coder_7d493 cJ0_coder_7d493 1 ((some .byte)) [.ref k] w N X := Ct.ofF (by decide +kernel) (Nat.le_of_ble_eq_true rfl) (pJ0_coder_7d493 hN hs h)
/-! java/lang/String.length ()I: P, 1 -/
theorem dJ0_length_8abf5_0 : decode cJ0_length_8abf5 0 = .ok (.aload_n 0, 1) := by decide +kernel
theorem dJ0_length_8abf5_1 : decode cJ0_length_8abf5 1 = .ok (.getfield 9, 3) := by decide +kernel
theorem dJ0_length_8abf5_4 : decode cJ0_length_8abf5 4 = .ok (.arraylength, 1) := by decide +kernel
theorem dJ0_length_8abf5_5 : decode cJ0_length_8abf5 5 = .ok (.aload_n 0, 1) := by decide +kernel
theorem dJ0_length_8abf5_6 : decode cJ0_length_8abf5 6 = .ok (.invokevirtual 335, 3) := by decide +kernel
theorem dJ0_length_8abf5_9 : decode cJ0_length_8abf5 9 = .ok (.ishr, 1) := by decide +kernel
theorem dJ0_length_8abf5_10 : decode cJ0_length_8abf5 10 = .ok (.ireturn, 1) := by decide +kernel
def fJ0_length_8abf5 (sn : Nat) (f : Nat → Int32) : Int32 :=
  lt (fJ0_coder_7d493 sn f) fun x1 => ((Int32.ofNat sn) >>> (x1 &&& 31))
theorem pJ0_length_8abf5 {Γ : Gm} {l : Launch} {N : Option Value → Wd → Prop} {X : String → Wd → Prop} {w : Wd} {R : Int32} (hN : N (some (.int R)) w) {k kv sn : Nat} {f : Nat → Int32} {F : Nat → Prop} (hs : STK Γ F k kv sn f) (h : fJ0_length_8abf5 sn f = R) : RT Γ l 1 yJ0_length_8abf5 cJ0_length_8abf5 1 ((some .int)) N X 0 [] [(0, .ref k)] w := by
  unfold fJ0_length_8abf5 at h
  refine r_aload_n (pc := 0) dJ0_length_8abf5_0 rfl 0 rfl ?_
  refine r_xget (pc := 1) (v := .ref kv) hs.1 (fun U H h => (hs.2.1 U H h).2.2.1) slRJ0_9 dJ0_length_8abf5_1 ?_
  refine r_xlen (pc := 4) hs.1 (fun U H h => (hs.2.1 U H h).2.2.2.1) rfl dJ0_length_8abf5_4 ?_
  refine r_aload_n (pc := 5) dJ0_length_8abf5_5 rfl 0 rfl ?_
  replace h := lt_e h; obtain ⟨x1, ex1, h⟩ := h
  refine r_cXi (pc := 6) wyJ0_coder_7d493 hs.1 (fun U H h => (hs.2.1 U H h).1) rfl mlRJ0_335 iyJ0_coder_7d493 syJ0_coder_7d493 ⟨(Nat.le_of_ble_eq_true rfl), (Nat.le_of_ble_eq_true rfl)⟩ rfl rfl (Nat.le_of_ble_eq_true rfl) dJ0_length_8abf5_6 (mJ0_coder_7d493 hs ex1 (pI.mk ?_))
  refine r_ishr (pc := 9) dJ0_length_8abf5_9 ?_
  exact rP_i (pc := 10) rfl dJ0_length_8abf5_10 h hN
theorem mJ0_length_8abf5 {Γ : Gm} {l : Launch} {N : Option Value → Wd → Prop} {X : String → Wd → Prop} {k kv sn : Nat} {f : Nat → Int32} {F : Nat → Prop} (hs : STK Γ F k kv sn f) {w : Wd} {x : Int32} (h : fJ0_length_8abf5 sn f = x) (hN : N (some (.int x)) w) : Ct Γ l 1 yJ0_length_8abf5 cJ0_length_8abf5 1 ((some .int)) [.ref k] w N X := Ct.ofF (by decide +kernel) (Nat.le_of_ble_eq_true rfl) (pJ0_length_8abf5 hN hs h)
/-! java/lang/String.isLatin1 ()Z: P, 0 -/
theorem dJ0_isLatin1_aae02_0 : decode cJ0_isLatin1_aae02 0 = .ok (.getstatic 38, 3) := by decide +kernel
theorem dJ0_isLatin1_aae02_3 : decode cJ0_isLatin1_aae02 3 = .ok (.ifCond .eq 14, 3) := by decide +kernel
theorem dJ0_isLatin1_aae02_6 : decode cJ0_isLatin1_aae02 6 = .ok (.aload_n 0, 1) := by decide +kernel
theorem dJ0_isLatin1_aae02_7 : decode cJ0_isLatin1_aae02 7 = .ok (.getfield 15, 3) := by decide +kernel
theorem dJ0_isLatin1_aae02_10 : decode cJ0_isLatin1_aae02 10 = .ok (.ifCond .ne 7, 3) := by decide +kernel
theorem dJ0_isLatin1_aae02_13 : decode cJ0_isLatin1_aae02 13 = .ok (.iconst 1, 1) := by decide +kernel
theorem dJ0_isLatin1_aae02_14 : decode cJ0_isLatin1_aae02 14 = .ok (.goto 4, 3) := by decide +kernel
theorem dJ0_isLatin1_aae02_17 : decode cJ0_isLatin1_aae02 17 = .ok (.iconst 0, 1) := by decide +kernel
theorem dJ0_isLatin1_aae02_18 : decode cJ0_isLatin1_aae02 18 = .ok (.ireturn, 1) := by decide +kernel
def fJ0_isLatin1_aae02 (sn : Nat) (f : Nat → Int32) : Bool :=
  if (1 : Int32) = 0 then (false) else (if (0 : Int32) = 0 then (true) else (false))
theorem pJ0_isLatin1_aae02 {Γ : Gm} {l : Launch} {N : Option Value → Wd → Prop} {X : String → Wd → Prop} {w : Wd} {R : Bool} (hN : N (some (.int (b2i R))) w) {k kv sn : Nat} {f : Nat → Int32} {F : Nat → Prop} (hs : STK Γ F k kv sn f) (h : fJ0_isLatin1_aae02 sn f = R) : RT Γ l 0 yJ0_isLatin1_aae02 cJ0_isLatin1_aae02 1 ((some .boolean)) N X 0 [] [(0, .ref k)] w := by
  unfold fJ0_isLatin1_aae02 at h
  refine r_xgets (pc := 0) (v := .int 1) hs.1 (fun U H h => (hs.2.1 U H h).2.2.2.2) slRJ0_38 dJ0_isLatin1_aae02_0 ?_
  refine r_if_eq (pc := 3) dJ0_isLatin1_aae02_3 rfl (fun hc1 => ?_) (fun hc1 => ?_)
  · replace h := if_t hc1 h
    refine r_iconst (pc := 17) dJ0_isLatin1_aae02_17 ki_0 ?_
    exact rP_z (pc := 18) (x := false) rfl dJ0_isLatin1_aae02_18 h hN
  replace h := if_f hc1 h
  refine r_aload_n (pc := 6) dJ0_isLatin1_aae02_6 rfl 0 rfl ?_
  refine r_xget (pc := 7) (v := .int 0) hs.1 (fun U H h => (hs.2.1 U H h).2.1) slRJ0_15 dJ0_isLatin1_aae02_7 ?_
  refine r_if_ne (pc := 10) dJ0_isLatin1_aae02_10 rfl (fun hc2 => ?_) (fun hc2 => ?_)
  · replace h := if_f hc2 h
    refine r_iconst (pc := 17) dJ0_isLatin1_aae02_17 ki_0 ?_
    exact rP_z (pc := 18) (x := false) rfl dJ0_isLatin1_aae02_18 h hN
  replace h := if_t hc2 h
  refine r_iconst (pc := 13) dJ0_isLatin1_aae02_13 ki_1 ?_
  refine r_goto (pc := 14) dJ0_isLatin1_aae02_14 rfl ?_
  exact rP_z (pc := 18) (x := true) rfl dJ0_isLatin1_aae02_18 h hN
theorem mJ0_isLatin1_aae02 {Γ : Gm} {l : Launch} {N : Option Value → Wd → Prop} {X : String → Wd → Prop} {k kv sn : Nat} {f : Nat → Int32} {F : Nat → Prop} (hs : STK Γ F k kv sn f) {w : Wd} {x : Bool} (h : fJ0_isLatin1_aae02 sn f = x) (hN : N (some (.int (b2i x))) w) : Ct Γ l 0 yJ0_isLatin1_aae02 cJ0_isLatin1_aae02 1 ((some .boolean)) [.ref k] w N X := Ct.ofF (by decide +kernel) (Nat.le_of_ble_eq_true rfl) (pJ0_isLatin1_aae02 hN hs h)
/-- an index that lies inside is let pass -/
theorem mJ3_checkIndex {Γ : Gm} {l : Launch} {N : Option Value → Wd → Prop} {X : String → Wd → Prop} {i n : Int32} {v : Value} {w : Wd} (hv : v = .null ∨ v = .ref 998) (h0 : ¬ i < 0) (h1 : i < n) (hN : N (some (.int i)) w) : Ct Γ l 0 yJ3_checkIndex_8e157 cJ3_checkIndex_8e157 3 (some .int) [.int i, .int n, v] w N X := by
  refine Ct.ofF (by decide +kernel) (by rcases hv with rfl | rfl <;> exact Nat.le_of_ble_eq_true rfl) ?_
  show RT Γ l 0 yJ3_checkIndex_8e157 cJ3_checkIndex_8e157 3 (some .int) N X 0 [] [(0, .int i), (1, .int n), (2, v)] w
  refine r_iload_n (pc := 0) dJ3_checkIndex_8e157_0 rfl 0 rfl ?_
  refine r_if_lt (pc := 1) dJ3_checkIndex_8e157_1 rfl (fun h => absurd h h0) (fun _ => ?_)
  refine r_iload_n (pc := 4) dJ3_checkIndex_8e157_4 rfl 0 rfl ?_
  refine r_iload_n (pc := 5) dJ3_checkIndex_8e157_5 rfl 1 rfl ?_
  refine r_icmp_lt (pc := 6) dJ3_checkIndex_8e157_6 rfl (fun _ => ?_) (fun h => absurd h1 h)
  refine r_iload_n (pc := 16) dJ3_checkIndex_8e157_16 rfl 0 rfl ?_
  exact r_ireturn (pc := 17) rfl dJ3_checkIndex_8e157_17 hN
def fJ0_checkIndex_df160 (i n : Int32) (w : Wd) : Option Wd := if ¬ i < 0 ∧ i < n then some w else none
theorem mJ0_checkIndex_df160 {Γ : Gm} {l : Launch} {N : Option Value → Wd → Prop} {X : String → Wd → Prop} {k kv n9 : Nat} {f : Nat → Int32} {F : Nat → Prop} (hs : STK Γ F k kv n9 f) {i n : Int32} {w u : Wd} (h : fJ0_checkIndex_df160 i n w = some u) (hN : N none u) : Ct Γ l 1 yJ0_checkIndex_df160 cJ0_checkIndex_df160 2 none [.int i, .int n] w N X := by
  obtain ⟨⟨h0, h1⟩, hu⟩ := if_n h
  obtain rfl := Option.some.inj hu
  obtain ⟨v, hv, hZ⟩ := hs.2.2
  refine Ct.ofF (by decide +kernel) (Nat.le_of_ble_eq_true rfl) ?_
  show RT Γ l 1 yJ0_checkIndex_df160 cJ0_checkIndex_df160 2 none N X 0 [] [(0, .int i), (1, .int n)] w
  refine r_iload_n (pc := 0) dJ0_checkIndex_df160_0 rfl 0 rfl ?_
  refine r_iload_n (pc := 1) dJ0_checkIndex_df160_1 rfl 1 rfl ?_
  refine r_xgets (pc := 2) (v := v) hs.1 hZ slRJ0_1053 dJ0_checkIndex_df160_2 ?_
  refine r_cSi (pc := 5) (av := [.int i, .int n, v]) wyJ3_checkIndex_8e157 mlRJ0_1059 tyJ3_checkIndex_8e157 ⟨Nat.le_refl _, Nat.le_of_ble_eq_true rfl⟩ rfl rfl (Nat.le_of_ble_eq_true rfl) dJ0_checkIndex_df160_5 (mJ3_checkIndex hv h0 h1 (pI.mk ?_))
  refine r_pop (pc := 8) dJ0_checkIndex_df160_8 rfl ?_
  exact r_vreturn (pc := 9) rfl dJ0_checkIndex_df160_9 hN
/-! java/lang/StringLatin1.charAt ([BI)C: O, 2 -/
theorem dJ1_charAt_3b067_0 : decode cJ1_charAt_3b067 0 = .ok (.iload_n 1, 1) := by decide +kernel
theorem dJ1_charAt_3b067_1 : decode cJ1_charAt_3b067 1 = .ok (.aload_n 0, 1) := by decide +kernel
theorem dJ1_charAt_3b067_2 : decode cJ1_charAt_3b067 2 = .ok (.arraylength, 1) := by decide +kernel
theorem dJ1_charAt_3b067_3 : decode cJ1_charAt_3b067 3 = .ok (.invokestatic 9, 3) := by decide +kernel
theorem dJ1_charAt_3b067_6 : decode cJ1_charAt_3b067 6 = .ok (.aload_n 0, 1) := by decide +kernel
theorem dJ1_charAt_3b067_7 : decode cJ1_charAt_3b067 7 = .ok (.iload_n 1, 1) := by decide +kernel
theorem dJ1_charAt_3b067_8 : decode cJ1_charAt_3b067 8 = .ok (.baload, 1) := by decide +kernel
theorem dJ1_charAt_3b067_9 : decode cJ1_charAt_3b067 9 = .ok (.sipush 255, 3) := by decide +kernel
theorem dJ1_charAt_3b067_12 : decode cJ1_charAt_3b067 12 = .ok (.iand, 1) := by decide +kernel
theorem dJ1_charAt_3b067_13 : decode cJ1_charAt_3b067 13 = .ok (.i2c, 1) := by decide +kernel
theorem dJ1_charAt_3b067_14 : decode cJ1_charAt_3b067 14 = .ok (.ireturn, 1) := by decide +kernel
def fJ1_charAt_3b067 (sn : Nat) (f : Nat → Int32) (a1 : Int32) (w : Wd) : Option (Int32 × Wd) :=
  bn (fJ0_checkIndex_df160 a1 (Int32.ofNat sn) w) fun w1 => if inb a1 sn = true then some ((((Int32.toUInt32 ((f (Int32.toNatClampNeg a1)) &&& 255)) % 65536).toInt32), w1) else none
theorem pJ1_charAt_3b067 {Γ : Gm} {l : Launch} {N : Option Value → Wd → Prop} {X : String → Wd → Prop} {w : Wd} {R : Int32 × Wd} (hN : N (some (.int R.1)) R.2) {k kv sn : Nat} {f : Nat → Int32} {F : Nat → Prop} (hs : STK Γ F k kv sn f) {a1 : Int32} (h : fJ1_charAt_3b067 sn f a1 w = some R) : RT Γ l 2 yJ1_charAt_3b067 cJ1_charAt_3b067 2 ((some .char)) N X 0 [] [(0, .ref kv), (1, .int a1)] w := by
  unfold fJ1_charAt_3b067 at h
  refine r_iload_n (pc := 0) dJ1_charAt_3b067_0 rfl 1 rfl ?_
  refine r_aload_n (pc := 1) dJ1_charAt_3b067_1 rfl 0 rfl ?_
  refine r_xlen (pc := 2) hs.1 (fun U H h => (hs.2.1 U H h).2.2.2.1) rfl dJ1_charAt_3b067_2 ?_
  replace h := bn_e h; obtain ⟨w1, ew1, h⟩ := h
  refine r_cSv (pc := 3) wyJ0_checkIndex_df160 mlRJ1_9 tyJ0_checkIndex_df160 ⟨(Nat.le_of_ble_eq_true rfl), (Nat.le_of_ble_eq_true rfl)⟩ rfl rfl (Nat.le_of_ble_eq_true rfl) dJ1_charAt_3b067_3 (mJ0_checkIndex_df160 hs ew1 (pV.mk ?_))
  refine r_aload_n (pc := 6) dJ1_charAt_3b067_6 rfl 0 rfl ?_
  refine r_iload_n (pc := 7) dJ1_charAt_3b067_7 rfl 1 rfl ?_
  replace h := if_n h; obtain ⟨hb2, h⟩ := h
  refine r_xbald (pc := 8) hs.1 (fun U H h => (hs.2.1 U H h).2.2.2.1) (inb_in hb2) dJ1_charAt_3b067_8 ?_
  refine r_sipush (pc := 9) dJ1_charAt_3b067_9 ks_255 ?_
  refine r_iand (pc := 12) dJ1_charAt_3b067_12 ?_
  refine r_i2c (pc := 13) dJ1_charAt_3b067_13 ?_
  exact rO_n (pc := 14) rfl (pk_nc _) dJ1_charAt_3b067_14 h hN
theorem mJ1_charAt_3b067 {Γ : Gm} {l : Launch} {N : Option Value → Wd → Prop} {X : String → Wd → Prop} {k kv sn : Nat} {f : Nat → Int32} {F : Nat → Prop} (hs : STK Γ F k kv sn f) {a1 : Int32} {w : Wd} {x : Int32} {u : Wd} (h : fJ1_charAt_3b067 sn f a1 w = some (x, u)) (hN : N (some (.int x)) u) : Ct Γ l 2 yJ1_charAt_3b067 cJ1_charAt_3b067 2 ((some .char)) [.ref kv, .int a1] w N X := Ct.ofF (by decide +kernel) (Nat.le_of_ble_eq_true rfl) (pJ1_charAt_3b067 hN hs h)
theorem nar_ch {n : Nat} {f : Nat → Int32} {a : Int32} {w u : Wd} {x : Int32} (h : fJ1_charAt_3b067 n f a w = some (x, u)) : narrow .char (.int x) = .int x := by
  unfold fJ1_charAt_3b067 at h
  obtain ⟨w1, -, h⟩ := bn_e h
  obtain ⟨-, h⟩ := if_n h
  have e := congrArg Prod.fst (Option.some.inj h)
  dsimp only at e
  rw [← e]
  exact pk_nc _
/-! java/lang/String.charAt (I)C: O, 3 -/
theorem dJ0_charAt_5068e_0 : decode cJ0_charAt_5068e 0 = .ok (.aload_n 0, 1) := by decide +kernel
theorem dJ0_charAt_5068e_1 : decode cJ0_charAt_5068e 1 = .ok (.invokevirtual 492, 3) := by decide +kernel
theorem dJ0_charAt_5068e_4 : decode cJ0_charAt_5068e 4 = .ok (.ifCond .eq 12, 3) := by decide +kernel
theorem dJ0_charAt_5068e_7 : decode cJ0_charAt_5068e 7 = .ok (.aload_n 0, 1) := by decide +kernel
theorem dJ0_charAt_5068e_8 : decode cJ0_charAt_5068e 8 = .ok (.getfield 9, 3) := by decide +kernel
theorem dJ0_charAt_5068e_11 : decode cJ0_charAt_5068e 11 = .ok (.iload_n 1, 1) := by decide +kernel
theorem dJ0_charAt_5068e_12 : decode cJ0_charAt_5068e 12 = .ok (.invokestatic 495, 3) := by decide +kernel
theorem dJ0_charAt_5068e_15 : decode cJ0_charAt_5068e 15 = .ok (.ireturn, 1) := by decide +kernel
theorem dJ0_charAt_5068e_16 : decode cJ0_charAt_5068e 16 = .ok (.aload_n 0, 1) := by decide +kernel
theorem dJ0_charAt_5068e_17 : decode cJ0_charAt_5068e 17 = .ok (.getfield 9, 3) := by decide +kernel
theorem dJ0_charAt_5068e_20 : decode cJ0_charAt_5068e 20 = .ok (.iload_n 1, 1) := by decide +kernel
theorem dJ0_charAt_5068e_21 : decode cJ0_charAt_5068e 21 = .ok (.invokestatic 498, 3) := by decide +kernel
theorem dJ0_charAt_5068e_24 : decode cJ0_charAt_5068e 24 = .ok (.ireturn, 1) := by decide +kernel
def fJ0_charAt_5068e (sn : Nat) (f : Nat → Int32) (a1 : Int32) (w : Wd) : Option (Int32 × Wd) :=
  lt (fJ0_isLatin1_aae02 sn f) fun x1 => if x1 = true then (bn2 (fJ1_charAt_3b067 sn f a1 w) fun x3 w4 => some (x3, w4)) else (none)
theorem pJ0_charAt_5068e {Γ : Gm} {l : Launch} {N : Option Value → Wd → Prop} {X : String → Wd → Prop} {w : Wd} {R : Int32 × Wd} (hN : N (some (.int R.1)) R.2) {k kv sn : Nat} {f : Nat → Int32} {F : Nat → Prop} (hs : STK Γ F k kv sn f) {a1 : Int32} (h : fJ0_charAt_5068e sn f a1 w = some R) : RT Γ l 3 yJ0_charAt_5068e cJ0_charAt_5068e 2 ((some .char)) N X 0 [] [(0, .ref k), (1, .int a1)] w := by
  unfold fJ0_charAt_5068e at h
  refine r_aload_n (pc := 0) dJ0_charAt_5068e_0 rfl 0 rfl ?_
  replace h := lt_e h; obtain ⟨x1, ex1, h⟩ := h
  refine r_cXi (pc := 1) wyJ0_isLatin1_aae02 hs.1 (fun U H h => (hs.2.1 U H h).1) rfl mlRJ0_492 iyJ0_isLatin1_aae02 syJ0_isLatin1_aae02 ⟨(Nat.le_of_ble_eq_true rfl), (Nat.le_of_ble_eq_true rfl)⟩ rfl rfl (Nat.le_of_ble_eq_true rfl) dJ0_charAt_5068e_1 (mJ0_isLatin1_aae02 hs ex1 (pI.mk ?_))
  refine r_z_eq (pc := 4) dJ0_charAt_5068e_4 rfl (fun hc2 => ?_) (fun hc2 => ?_)
  · replace h := if_f hc2 h
    refine r_aload_n (pc := 16) dJ0_charAt_5068e_16 rfl 0 rfl ?_
    refine r_xget (pc := 17) (v := .ref kv) hs.1 (fun U H h => (hs.2.1 U H h).2.2.1) slRJ0_9 dJ0_charAt_5068e_17 ?_
    refine r_iload_n (pc := 20) dJ0_charAt_5068e_20 rfl 1 rfl ?_
    cases h
  replace h := if_t hc2 h
  refine r_aload_n (pc := 7) dJ0_charAt_5068e_7 rfl 0 rfl ?_
  refine r_xget (pc := 8) (v := .ref kv) hs.1 (fun U H h => (hs.2.1 U H h).2.2.1) slRJ0_9 dJ0_charAt_5068e_8 ?_
  refine r_iload_n (pc := 11) dJ0_charAt_5068e_11 rfl 1 rfl ?_
  replace h := bn2_e h; obtain ⟨x3, w4, ew4, h⟩ := h
  refine r_cSi (pc := 12) wyJ1_charAt_3b067 mlRJ0_495 tyJ1_charAt_3b067 ⟨(Nat.le_of_ble_eq_true rfl), (Nat.le_of_ble_eq_true rfl)⟩ rfl rfl (Nat.le_of_ble_eq_true rfl) dJ0_charAt_5068e_12 (mJ1_charAt_3b067 hs ew4 (pI.mk ?_))
  exact rO_n (pc := 15) rfl (nar_ch (by assumption)) dJ0_charAt_5068e_15 h hN
theorem mJ0_charAt_5068e {Γ : Gm} {l : Launch} {N : Option Value → Wd → Prop} {X : String → Wd → Prop} {k kv sn : Nat} {f : Nat → Int32} {F : Nat → Prop} (hs : STK Γ F k kv sn f) {a1 : Int32} {w : Wd} {x : Int32} {u : Wd} (h : fJ0_charAt_5068e sn f a1 w = some (x, u)) (hN : N (some (.int x)) u) : Ct Γ l 3 yJ0_charAt_5068e cJ0_charAt_5068e 2 ((some .char)) [.ref k, .int a1] w N X := Ct.ofF (by decide +kernel) (Nat.le_of_ble_eq_true rfl) (pJ0_charAt_5068e hN hs h)
/-! java/lang/StringLatin1.canEncode (I)Z: P, 0 -/
theorem dJ1_canEncode_9a6ad_0 : decode cJ1_canEncode_9a6ad 0 = .ok (.iload_n 0, 1) := by decide +kernel
theorem dJ1_canEncode_9a6ad_1 : decode cJ1_canEncode_9a6ad 1 = .ok (.ifCond .lt 14, 3) := by decide +kernel
theorem dJ1_canEncode_9a6ad_4 : decode cJ1_canEncode_9a6ad 4 = .ok (.iload_n 0, 1) := by decide +kernel
theorem dJ1_canEncode_9a6ad_5 : decode cJ1_canEncode_9a6ad 5 = .ok (.sipush 255, 3) := by decide +kernel
theorem dJ1_canEncode_9a6ad_8 : decode cJ1_canEncode_9a6ad 8 = .ok (.if_icmp .gt 7, 3) := by decide +kernel
theorem dJ1_canEncode_9a6ad_11 : decode cJ1_canEncode_9a6ad 11 = .ok (.iconst 1, 1) := by decide +kernel
theorem dJ1_canEncode_9a6ad_12 : decode cJ1_canEncode_9a6ad 12 = .ok (.goto 4, 3) := by decide +kernel
theorem dJ1_canEncode_9a6ad_15 : decode cJ1_canEncode_9a6ad 15 = .ok (.iconst 0, 1) := by decide +kernel
theorem dJ1_canEncode_9a6ad_16 : decode cJ1_canEncode_9a6ad 16 = .ok (.ireturn, 1) := by decide +kernel
def fJ1_canEncode_9a6ad (a0 : Int32) : Bool :=
  if a0 < 0 then (false) else (if 255 < a0 then (false) else (true))
theorem pJ1_canEncode_9a6ad {Γ : Gm} {l : Launch} {N : Option Value → Wd → Prop} {X : String → Wd → Prop} {w : Wd} {R : Bool} (hN : N (some (.int (b2i R))) w) {a0 : Int32} (h : fJ1_canEncode_9a6ad a0 = R) : RT Γ l 0 yJ1_canEncode_9a6ad cJ1_canEncode_9a6ad 1 ((some .boolean)) N X 0 [] [(0, .int a0)] w := by
  unfold fJ1_canEncode_9a6ad at h
  refine r_iload_n (pc := 0) dJ1_canEncode_9a6ad_0 rfl 0 rfl ?_
  refine r_if_lt (pc := 1) dJ1_canEncode_9a6ad_1 rfl (fun hc1 => ?_) (fun hc1 => ?_)
  · replace h := if_t hc1 h
    refine r_iconst (pc := 15) dJ1_canEncode_9a6ad_15 ki_0 ?_
    exact rP_z (pc := 16) (x := false) rfl dJ1_canEncode_9a6ad_16 h hN
  replace h := if_f hc1 h
  refine r_iload_n (pc := 4) dJ1_canEncode_9a6ad_4 rfl 0 rfl ?_
  refine r_sipush (pc := 5) dJ1_canEncode_9a6ad_5 ks_255 ?_
  refine r_icmp_gt (pc := 8) dJ1_canEncode_9a6ad_8 rfl (fun hc2 => ?_) (fun hc2 => ?_)
  · replace h := if_t hc2 h
    refine r_iconst (pc := 15) dJ1_canEncode_9a6ad_15 ki_0 ?_
    exact rP_z (pc := 16) (x := false) rfl dJ1_canEncode_9a6ad_16 h hN
  replace h := if_f hc2 h
  refine r_iconst (pc := 11) dJ1_canEncode_9a6ad_11 ki_1 ?_
  refine r_goto (pc := 12) dJ1_canEncode_9a6ad_12 rfl ?_
  exact rP_z (pc := 16) (x := true) rfl dJ1_canEncode_9a6ad_16 h hN
theorem mJ1_canEncode_9a6ad {Γ : Gm} {l : Launch} {N : Option Value → Wd → Prop} {X : String → Wd → Prop} {a0 : Int32} {w : Wd} {x : Bool} (h : fJ1_canEncode_9a6ad a0 = x) (hN : N (some (.int (b2i x))) w) : Ct Γ l 0 yJ1_canEncode_9a6ad cJ1_canEncode_9a6ad 1 ((some .boolean)) [.int a0] w N X := Ct.ofF (by decide +kernel) (Nat.le_of_ble_eq_true rfl) (pJ1_canEncode_9a6ad hN h)
/-! java/lang/StringLatin1.indexOfChar ([BIII)I: O, 0 -/
theorem dJ1_indexOfChar_4cfef_0 : decode cJ1_indexOfChar_4cfef 0 = .ok (.iload_n 1, 1) := by decide +kernel
theorem dJ1_indexOfChar_4cfef_1 : decode cJ1_indexOfChar_4cfef 1 = .ok (.i2b, 1) := by decide +kernel
theorem dJ1_indexOfChar_4cfef_2 : decode cJ1_indexOfChar_4cfef 2 = .ok (.istore 4, 2) := by decide +kernel
theorem dJ1_indexOfChar_4cfef_4 : decode cJ1_indexOfChar_4cfef 4 = .ok (.iload_n 2, 1) := by decide +kernel
theorem dJ1_indexOfChar_4cfef_5 : decode cJ1_indexOfChar_4cfef 5 = .ok (.istore 5, 2) := by decide +kernel
theorem dJ1_indexOfChar_4cfef_7 : decode cJ1_indexOfChar_4cfef 7 = .ok (.iload 5, 2) := by decide +kernel
theorem dJ1_indexOfChar_4cfef_9 : decode cJ1_indexOfChar_4cfef 9 = .ok (.iload_n 3, 1) := by decide +kernel
theorem dJ1_indexOfChar_4cfef_10 : decode cJ1_indexOfChar_4cfef 10 = .ok (.if_icmp .ge 21, 3) := by decide +kernel
theorem dJ1_indexOfChar_4cfef_13 : decode cJ1_indexOfChar_4cfef 13 = .ok (.aload_n 0, 1) := by decide +kernel
theorem dJ1_indexOfChar_4cfef_14 : decode cJ1_indexOfChar_4cfef 14 = .ok (.iload 5, 2) := by decide +kernel
theorem dJ1_indexOfChar_4cfef_16 : decode cJ1_indexOfChar_4cfef 16 = .ok (.baload, 1) := by decide +kernel
theorem dJ1_indexOfChar_4cfef_17 : decode cJ1_indexOfChar_4cfef 17 = .ok (.iload 4, 2) := by decide +kernel
theorem dJ1_indexOfChar_4cfef_19 : decode cJ1_indexOfChar_4cfef 19 = .ok (.if_icmp .ne 6, 3) := by decide +kernel
theorem dJ1_indexOfChar_4cfef_22 : decode cJ1_indexOfChar_4cfef 22 = .ok (.iload 5, 2) := by decide +kernel
theorem dJ1_indexOfChar_4cfef_24 : decode cJ1_indexOfChar_4cfef 24 = .ok (.ireturn, 1) := by decide +kernel
theorem dJ1_indexOfChar_4cfef_25 : decode cJ1_indexOfChar_4cfef 25 = .ok (.iinc 5 1, 3) := by decide +kernel
theorem dJ1_indexOfChar_4cfef_28 : decode cJ1_indexOfChar_4cfef 28 = .ok (.goto (-21), 3) := by decide +kernel
theorem dJ1_indexOfChar_4cfef_31 : decode cJ1_indexOfChar_4cfef 31 = .ok (.iconst (-1), 1) := by decide +kernel
theorem dJ1_indexOfChar_4cfef_32 : decode cJ1_indexOfChar_4cfef 32 = .ok (.ireturn, 1) := by decide +kernel
def fJ1_indexOfChar_4cfef_7 (k_7 : Int32 → Int32 → Int32 → Wd → Option (Int32 × Wd)) (sn : Nat) (f : Nat → Int32) (a3 : Int32) (a4 : Int32) (a5 : Int32) (w : Wd) : Option (Int32 × Wd) :=
  if a3 ≤ a5 then (some ((-1), w)) else (if inb a5 sn = true then if (f (Int32.toNatClampNeg a5)) = a4 then (some (a5, w)) else (lt (a5 + 1) fun x4 => k_7 a3 a4 x4 w) else none)
theorem pJ1_indexOfChar_4cfef_7 {Γ : Gm} {l : Launch} {N : Option Value → Wd → Prop} {X : String → Wd → Prop} {w : Wd} {R : Int32 × Wd} (hN : N (some (.int R.1)) R.2) {k kv sn : Nat} {f : Nat → Int32} {F : Nat → Prop} (hs : STK Γ F k kv sn f) {k_7 : Int32 → Int32 → Int32 → Wd → Option (Int32 × Wd)} (hk_7 : ∀ (a3 : Int32) (a4 : Int32) (a5 : Int32) (w : Wd), k_7 a3 a4 a5 w = some R → RT Γ l 0 yJ1_indexOfChar_4cfef cJ1_indexOfChar_4cfef 6 ((some .int)) N X 7 [] [(0, .ref kv), (3, .int a3), (4, .int a4), (5, .int a5)] w) {a3 : Int32} {a4 : Int32} {a5 : Int32} (h : fJ1_indexOfChar_4cfef_7 k_7 sn f a3 a4 a5 w = some R) : RT Γ l 0 yJ1_indexOfChar_4cfef cJ1_indexOfChar_4cfef 6 ((some .int)) N X 7 [] [(0, .ref kv), (3, .int a3), (4, .int a4), (5, .int a5)] w := by
  unfold fJ1_indexOfChar_4cfef_7 at h
  refine r_iload (pc := 7) dJ1_indexOfChar_4cfef_7 3 rfl ?_
  refine r_iload_n (pc := 9) dJ1_indexOfChar_4cfef_9 rfl 1 rfl ?_
  refine r_icmp_ge (pc := 10) dJ1_indexOfChar_4cfef_10 rfl (fun hc1 => ?_) (fun hc1 => ?_)
  · replace h := if_t hc1 h
    refine r_iconst (pc := 31) dJ1_indexOfChar_4cfef_31 ki_m1 ?_
    exact rO_i (pc := 32) rfl dJ1_indexOfChar_4cfef_32 h hN
  replace h := if_f hc1 h
  refine r_aload_n (pc := 13) dJ1_indexOfChar_4cfef_13 rfl 0 rfl ?_
  refine r_iload (pc := 14) dJ1_indexOfChar_4cfef_14 3 rfl ?_
  replace h := if_n h; obtain ⟨hb2, h⟩ := h
  refine r_xbald (pc := 16) hs.1 (fun U H h => (hs.2.1 U H h).2.2.2.1) (inb_in hb2) dJ1_indexOfChar_4cfef_16 ?_
  refine r_iload (pc := 17) dJ1_indexOfChar_4cfef_17 2 rfl ?_
  refine r_icmp_ne (pc := 19) dJ1_indexOfChar_4cfef_19 rfl (fun hc3 => ?_) (fun hc3 => ?_)
  · replace h := if_f hc3 h
    replace h := lt_e h; obtain ⟨x4, ex4, h⟩ := h
    refine r_inc (pc := 25) (loc' := [(5, .int x4), (0, .ref kv), (3, .int a3), (4, .int a4)]) dJ1_indexOfChar_4cfef_25 ki_1 ex4 3 rfl (Nat.le_of_ble_eq_true rfl) rfl ?_
    refine r_goto (pc := 28) dJ1_indexOfChar_4cfef_28 rfl ?_
    refine r_drop (loc' := [(0, .ref kv), (3, .int a3), (4, .int a4), (5, .int x4)]) [1, 2, 3, 0] rfl ?_
    exact hk_7 a3 a4 x4 w h
  replace h := if_t hc3 h
  refine r_iload (pc := 22) dJ1_indexOfChar_4cfef_22 3 rfl ?_
  exact rO_i (pc := 24) rfl dJ1_indexOfChar_4cfef_24 h hN
def oJ1_indexOfChar_4cfef_7 (sn : Nat) (f : Nat → Int32) : Nat → Int32 → Int32 → Int32 → Wd → Option (Int32 × Wd)
  | 0 => fun _ _ _ _ => none
  | n + 1 => fJ1_indexOfChar_4cfef_7 (oJ1_indexOfChar_4cfef_7 sn f n) sn f
theorem qJ1_indexOfChar_4cfef_7 {Γ : Gm} {l : Launch} {N : Option Value → Wd → Prop} {X : String → Wd → Prop} {R : Int32 × Wd} (hN : N (some (.int R.1)) R.2) {k kv sn : Nat} {f : Nat → Int32} {F : Nat → Prop} (hs : STK Γ F k kv sn f) : ∀ (n : Nat) (a3 : Int32) (a4 : Int32) (a5 : Int32) (w : Wd), oJ1_indexOfChar_4cfef_7 sn f n a3 a4 a5 w = some R → RT Γ l 0 yJ1_indexOfChar_4cfef cJ1_indexOfChar_4cfef 6 ((some .int)) N X 7 [] [(0, .ref kv), (3, .int a3), (4, .int a4), (5, .int a5)] w := by
  intro n
  induction n with
  | zero =>
    intro a3 a4 a5 w h
    exact absurd h (fun q => nomatch q)
  | succ n ih =>
    intro a3 a4 a5 w h
    exact pJ1_indexOfChar_4cfef_7 hN hs ih h
def fJ1_indexOfChar_4cfef (sn : Nat) (f : Nat → Int32) (a1 : Int32) (a2 : Int32) (a3 : Int32) (w : Wd) : Option (Int32 × Wd) :=
  lt (((Int32.toInt8 a1).toInt32)) fun x1 => oJ1_indexOfChar_4cfef_7 sn f FU a3 x1 a2 w
theorem pJ1_indexOfChar_4cfef {Γ : Gm} {l : Launch} {N : Option Value → Wd → Prop} {X : String → Wd → Prop} {w : Wd} {R : Int32 × Wd} (hN : N (some (.int R.1)) R.2) {k kv sn : Nat} {f : Nat → Int32} {F : Nat → Prop} (hs : STK Γ F k kv sn f) {a1 : Int32} {a2 : Int32} {a3 : Int32} (h : fJ1_indexOfChar_4cfef sn f a1 a2 a3 w = some R) : RT Γ l 0 yJ1_indexOfChar_4cfef cJ1_indexOfChar_4cfef 6 ((some .int)) N X 0 [] [(0, .ref kv), (1, .int a1), (2, .int a2), (3, .int a3)] w := by
  unfold fJ1_indexOfChar_4cfef at h
  refine r_iload_n (pc := 0) dJ1_indexOfChar_4cfef_0 rfl 1 rfl ?_
  refine r_i2b (pc := 1) dJ1_indexOfChar_4cfef_1 ?_
  replace h := lt_e h; obtain ⟨x1, ex1, h⟩ := h
  refine r_topi ex1 ?_
  refine r_istore (pc := 2) (loc' := [(4, .int x1), (0, .ref kv), (1, .int a1), (2, .int a2), (3, .int a3)]) dJ1_indexOfChar_4cfef_2 (Nat.le_of_ble_eq_true rfl) rfl ?_
  refine r_iload_n (pc := 4) dJ1_indexOfChar_4cfef_4 rfl 3 rfl ?_
  refine r_istore (pc := 5) (loc' := [(5, .int a2), (4, .int x1), (0, .ref kv), (1, .int a1), (2, .int a2), (3, .int a3)]) dJ1_indexOfChar_4cfef_5 (Nat.le_of_ble_eq_true rfl) rfl ?_
  refine r_drop (loc' := [(0, .ref kv), (3, .int a3), (4, .int x1), (5, .int a2)]) [2, 5, 1, 0] rfl ?_
  exact qJ1_indexOfChar_4cfef_7 hN hs FU a3 x1 a2 w h
theorem mJ1_indexOfChar_4cfef {Γ : Gm} {l : Launch} {N : Option Value → Wd → Prop} {X : String → Wd → Prop} {k kv sn : Nat} {f : Nat → Int32} {F : Nat → Prop} (hs : STK Γ F k kv sn f) {a1 : Int32} {a2 : Int32} {a3 : Int32} {w : Wd} {x : Int32} {u : Wd} (h : fJ1_indexOfChar_4cfef sn f a1 a2 a3 w = some (x, u)) (hN : N (some (.int x)) u) : Ct Γ l 0 yJ1_indexOfChar_4cfef cJ1_indexOfChar_4cfef 6 ((some .int)) [.ref kv, .int a1, .int a2, .int a3] w N X := Ct.ofF (by decide +kernel) (Nat.le_of_ble_eq_true rfl) (pJ1_indexOfChar_4cfef hN hs h)
/-! java/lang/StringLatin1.indexOf ([BIII)I: O, 1 -/
theorem dJ1_indexOf_4cfef_0 : decode cJ1_indexOf_4cfef 0 = .ok (.iload_n 1, 1) := by decide +kernel
theorem dJ1_indexOf_4cfef_1 : decode cJ1_indexOf_4cfef 1 = .ok (.invokestatic 88, 3) := by decide +kernel
theorem dJ1_indexOf_4cfef_4 : decode cJ1_indexOf_4cfef 4 = .ok (.ifCond .ne 5, 3) := by decide +kernel
theorem dJ1_indexOf_4cfef_7 : decode cJ1_indexOf_4cfef 7 = .ok (.iconst (-1), 1) := by decide +kernel
theorem dJ1_indexOf_4cfef_8 : decode cJ1_indexOf_4cfef 8 = .ok (.ireturn, 1) := by decide +kernel
theorem dJ1_indexOf_4cfef_9 : decode cJ1_indexOf_4cfef 9 = .ok (.iload_n 2, 1) := by decide +kernel
theorem dJ1_indexOf_4cfef_10 : decode cJ1_indexOf_4cfef 10 = .ok (.iconst 0, 1) := by decide +kernel
theorem dJ1_indexOf_4cfef_11 : decode cJ1_indexOf_4cfef 11 = .ok (.invokestatic 92, 3) := by decide +kernel
theorem dJ1_indexOf_4cfef_14 : decode cJ1_indexOf_4cfef 14 = .ok (.istore_n 2, 1) := by decide +kernel
theorem dJ1_indexOf_4cfef_15 : decode cJ1_indexOf_4cfef 15 = .ok (.iload_n 3, 1) := by decide +kernel
theorem dJ1_indexOf_4cfef_16 : decode cJ1_indexOf_4cfef 16 = .ok (.aload_n 0, 1) := by decide +kernel
theorem dJ1_indexOf_4cfef_17 : decode cJ1_indexOf_4cfef 17 = .ok (.arraylength, 1) := by decide +kernel
theorem dJ1_indexOf_4cfef_18 : decode cJ1_indexOf_4cfef 18 = .ok (.invokestatic 38, 3) := by decide +kernel
theorem dJ1_indexOf_4cfef_21 : decode cJ1_indexOf_4cfef 21 = .ok (.istore_n 3, 1) := by decide +kernel
theorem dJ1_indexOf_4cfef_22 : decode cJ1_indexOf_4cfef 22 = .ok (.iload_n 2, 1) := by decide +kernel
theorem dJ1_indexOf_4cfef_23 : decode cJ1_indexOf_4cfef 23 = .ok (.iload_n 3, 1) := by decide +kernel
theorem dJ1_indexOf_4cfef_24 : decode cJ1_indexOf_4cfef 24 = .ok (.if_icmp .lt 5, 3) := by decide +kernel
theorem dJ1_indexOf_4cfef_27 : decode cJ1_indexOf_4cfef 27 = .ok (.iconst (-1), 1) := by decide +kernel
theorem dJ1_indexOf_4cfef_28 : decode cJ1_indexOf_4cfef 28 = .ok (.ireturn, 1) := by decide +kernel
theorem dJ1_indexOf_4cfef_29 : decode cJ1_indexOf_4cfef 29 = .ok (.aload_n 0, 1) := by decide +kernel
theorem dJ1_indexOf_4cfef_30 : decode cJ1_indexOf_4cfef 30 = .ok (.iload_n 1, 1) := by decide +kernel
theorem dJ1_indexOf_4cfef_31 : decode cJ1_indexOf_4cfef 31 = .ok (.iload_n 2, 1) := by decide +kernel
theorem dJ1_indexOf_4cfef_32 : decode cJ1_indexOf_4cfef 32 = .ok (.iload_n 3, 1) := by decide +kernel
theorem dJ1_indexOf_4cfef_33 : decode cJ1_indexOf_4cfef 33 = .ok (.invokestatic 95, 3) := by decide +kernel
theorem dJ1_indexOf_4cfef_36 : decode cJ1_indexOf_4cfef 36 = .ok (.ireturn, 1) := by decide +kernel
def fJ1_indexOf_4cfef (sn : Nat) (f : Nat → Int32) (a1 : Int32) (a2 : Int32) (a3 : Int32) (w : Wd) : Option (Int32 × Wd) :=
  lt (fJ1_canEncode_9a6ad a1) fun x1 => if x1 = true then (lt (fJ9_max_7cf53 a2 0) fun x3 => lt (fJ9_min_7cf53 a3 (Int32.ofNat sn)) fun x4 => if x3 < x4 then (bn2 (fJ1_indexOfChar_4cfef sn f a1 x3 x4 w) fun x6 w7 => some (x6, w7)) else (some ((-1), w))) else (some ((-1), w))
theorem pJ1_indexOf_4cfef {Γ : Gm} {l : Launch} {N : Option Value → Wd → Prop} {X : String → Wd → Prop} {w : Wd} {R : Int32 × Wd} (hN : N (some (.int R.1)) R.2) {k kv sn : Nat} {f : Nat → Int32} {F : Nat → Prop} (hs : STK Γ F k kv sn f) {a1 : Int32} {a2 : Int32} {a3 : Int32} (h : fJ1_indexOf_4cfef sn f a1 a2 a3 w = some R) : RT Γ l 1 yJ1_indexOf_4cfef cJ1_indexOf_4cfef 4 ((some .int)) N X 0 [] [(0, .ref kv), (1, .int a1), (2, .int a2), (3, .int a3)] w := by
  unfold fJ1_indexOf_4cfef at h
  refine r_iload_n (pc := 0) dJ1_indexOf_4cfef_0 rfl 1 rfl ?_
  replace h := lt_e h; obtain ⟨x1, ex1, h⟩ := h
  refine r_cSi (pc := 1) wyJ1_canEncode_9a6ad mlRJ1_88 tyJ1_canEncode_9a6ad ⟨(Nat.le_of_ble_eq_true rfl), (Nat.le_of_ble_eq_true rfl)⟩ rfl rfl (Nat.le_of_ble_eq_true rfl) dJ1_indexOf_4cfef_1 (mJ1_canEncode_9a6ad ex1 (pI.mk ?_))
  refine r_z_ne (pc := 4) dJ1_indexOf_4cfef_4 rfl (fun hc2 => ?_) (fun hc2 => ?_)
  · replace h := if_t hc2 h
    refine r_iload_n (pc := 9) dJ1_indexOf_4cfef_9 rfl 2 rfl ?_
    refine r_iconst (pc := 10) dJ1_indexOf_4cfef_10 ki_0 ?_
    replace h := lt_e h; obtain ⟨x3, ex3, h⟩ := h
    refine r_cSi (pc := 11) wyJ9_max_7cf53 mlRJ1_92 tyJ9_max_7cf53 ⟨(Nat.le_of_ble_eq_true rfl), (Nat.le_of_ble_eq_true rfl)⟩ rfl rfl (Nat.le_of_ble_eq_true rfl) dJ1_indexOf_4cfef_11 (mJ9_max_7cf53 ex3 (pI.mk ?_))
    refine r_istore_n (pc := 14) (loc' := [(2, .int x3), (0, .ref kv), (1, .int a1), (3, .int a3)]) dJ1_indexOf_4cfef_14 rfl (Nat.le_of_ble_eq_true rfl) rfl ?_
    refine r_iload_n (pc := 15) dJ1_indexOf_4cfef_15 rfl 3 rfl ?_
    refine r_aload_n (pc := 16) dJ1_indexOf_4cfef_16 rfl 1 rfl ?_
    refine r_xlen (pc := 17) hs.1 (fun U H h => (hs.2.1 U H h).2.2.2.1) rfl dJ1_indexOf_4cfef_17 ?_
    replace h := lt_e h; obtain ⟨x4, ex4, h⟩ := h
    refine r_cSi (pc := 18) wyJ9_min_7cf53 mlRJ1_38 tyJ9_min_7cf53 ⟨(Nat.le_of_ble_eq_true rfl), (Nat.le_of_ble_eq_true rfl)⟩ rfl rfl (Nat.le_of_ble_eq_true rfl) dJ1_indexOf_4cfef_18 (mJ9_min_7cf53 ex4 (pI.mk ?_))
    refine r_istore_n (pc := 21) (loc' := [(3, .int x4), (2, .int x3), (0, .ref kv), (1, .int a1)]) dJ1_indexOf_4cfef_21 rfl (Nat.le_of_ble_eq_true rfl) rfl ?_
    refine r_iload_n (pc := 22) dJ1_indexOf_4cfef_22 rfl 1 rfl ?_
    refine r_iload_n (pc := 23) dJ1_indexOf_4cfef_23 rfl 0 rfl ?_
    refine r_icmp_lt (pc := 24) dJ1_indexOf_4cfef_24 rfl (fun hc5 => ?_) (fun hc5 => ?_)
    · replace h := if_t hc5 h
      refine r_aload_n (pc := 29) dJ1_indexOf_4cfef_29 rfl 2 rfl ?_
      refine r_iload_n (pc := 30) dJ1_indexOf_4cfef_30 rfl 3 rfl ?_
      refine r_iload_n (pc := 31) dJ1_indexOf_4cfef_31 rfl 1 rfl ?_
      refine r_iload_n (pc := 32) dJ1_indexOf_4cfef_32 rfl 0 rfl ?_
      replace h := bn2_e h; obtain ⟨x6, w7, ew7, h⟩ := h
      refine r_cSi (pc := 33) wyJ1_indexOfChar_4cfef mlRJ1_95 tyJ1_indexOfChar_4cfef ⟨(Nat.le_of_ble_eq_true rfl), (Nat.le_of_ble_eq_true rfl)⟩ rfl rfl (Nat.le_of_ble_eq_true rfl) dJ1_indexOf_4cfef_33 (mJ1_indexOfChar_4cfef hs ew7 (pI.mk ?_))
      exact rO_i (pc := 36) rfl dJ1_indexOf_4cfef_36 h hN
    replace h := if_f hc5 h
    refine r_iconst (pc := 27) dJ1_indexOf_4cfef_27 ki_m1 ?_
    exact rO_i (pc := 28) rfl dJ1_indexOf_4cfef_28 h hN
  replace h := if_f hc2 h
  refine r_iconst (pc := 7) dJ1_indexOf_4cfef_7 ki_m1 ?_
  exact rO_i (pc := 8) rfl dJ1_indexOf_4cfef_8 h hN
theorem mJ1_indexOf_4cfef {Γ : Gm} {l : Launch} {N : Option Value → Wd → Prop} {X : String → Wd → Prop} {k kv sn : Nat} {f : Nat → Int32} {F : Nat → Prop} (hs : STK Γ F k kv sn f) {a1 : Int32} {a2 : Int32} {a3 : Int32} {w : Wd} {x : Int32} {u : Wd} (h : fJ1_indexOf_4cfef sn f a1 a2 a3 w = some (x, u)) (hN : N (some (.int x)) u) : Ct Γ l 1 yJ1_indexOf_4cfef cJ1_indexOf_4cfef 4 ((some .int)) [.ref kv, .int a1, .int a2, .int a3] w N X := Ct.ofF (by decide +kernel) (Nat.le_of_ble_eq_true rfl) (pJ1_indexOf_4cfef hN hs h)
/-! java/lang/String.indexOf (II)I: O, 2 -/
theorem dJ0_indexOf_7cf53_0 : decode cJ0_indexOf_7cf53 0 = .ok (.aload_n 0, 1) := by decide +kernel
theorem dJ0_indexOf_7cf53_1 : decode cJ0_indexOf_7cf53 1 = .ok (.invokevirtual 492, 3) := by decide +kernel
theorem dJ0_indexOf_7cf53_4 : decode cJ0_indexOf_7cf53 4 = .ok (.ifCond .eq 19, 3) := by decide +kernel
theorem dJ0_indexOf_7cf53_7 : decode cJ0_indexOf_7cf53 7 = .ok (.aload_n 0, 1) := by decide +kernel
theorem dJ0_indexOf_7cf53_8 : decode cJ0_indexOf_7cf53 8 = .ok (.getfield 9, 3) := by decide +kernel
theorem dJ0_indexOf_7cf53_11 : decode cJ0_indexOf_7cf53 11 = .ok (.iload_n 1, 1) := by decide +kernel
theorem dJ0_indexOf_7cf53_12 : decode cJ0_indexOf_7cf53 12 = .ok (.iload_n 2, 1) := by decide +kernel
theorem dJ0_indexOf_7cf53_13 : decode cJ0_indexOf_7cf53 13 = .ok (.aload_n 0, 1) := by decide +kernel
theorem dJ0_indexOf_7cf53_14 : decode cJ0_indexOf_7cf53 14 = .ok (.invokevirtual 505, 3) := by decide +kernel
theorem dJ0_indexOf_7cf53_17 : decode cJ0_indexOf_7cf53 17 = .ok (.invokestatic 637, 3) := by decide +kernel
theorem dJ0_indexOf_7cf53_20 : decode cJ0_indexOf_7cf53 20 = .ok (.goto 16, 3) := by decide +kernel
theorem dJ0_indexOf_7cf53_23 : decode cJ0_indexOf_7cf53 23 = .ok (.aload_n 0, 1) := by decide +kernel
theorem dJ0_indexOf_7cf53_24 : decode cJ0_indexOf_7cf53 24 = .ok (.getfield 9, 3) := by decide +kernel
theorem dJ0_indexOf_7cf53_27 : decode cJ0_indexOf_7cf53 27 = .ok (.iload_n 1, 1) := by decide +kernel
theorem dJ0_indexOf_7cf53_28 : decode cJ0_indexOf_7cf53 28 = .ok (.iload_n 2, 1) := by decide +kernel
theorem dJ0_indexOf_7cf53_29 : decode cJ0_indexOf_7cf53 29 = .ok (.aload_n 0, 1) := by decide +kernel
theorem dJ0_indexOf_7cf53_30 : decode cJ0_indexOf_7cf53 30 = .ok (.invokevirtual 505, 3) := by decide +kernel
theorem dJ0_indexOf_7cf53_33 : decode cJ0_indexOf_7cf53 33 = .ok (.invokestatic 640, 3) := by decide +kernel
theorem dJ0_indexOf_7cf53_36 : decode cJ0_indexOf_7cf53 36 = .ok (.ireturn, 1) := by decide +kernel
def fJ0_indexOf_7cf53 (sn : Nat) (f : Nat → Int32) (a1 : Int32) (a2 : Int32) (w : Wd) : Option (Int32 × Wd) :=
  lt (fJ0_isLatin1_aae02 sn f) fun x1 => if x1 = true then (lt (fJ0_length_8abf5 sn f) fun x3 => bn2 (fJ1_indexOf_4cfef sn f a1 a2 x3 w) fun x4 w5 => some (x4, w5)) else (lt (fJ0_length_8abf5 sn f) fun x6 => none)
theorem pJ0_indexOf_7cf53 {Γ : Gm} {l : Launch} {N : Option Value → Wd → Prop} {X : String → Wd → Prop} {w : Wd} {R : Int32 × Wd} (hN : N (some (.int R.1)) R.2) {k kv sn : Nat} {f : Nat → Int32} {F : Nat → Prop} (hs : STK Γ F k kv sn f) {a1 : Int32} {a2 : Int32} (h : fJ0_indexOf_7cf53 sn f a1 a2 w = some R) : RT Γ l 2 yJ0_indexOf_7cf53 cJ0_indexOf_7cf53 3 ((some .int)) N X 0 [] [(0, .ref k), (1, .int a1), (2, .int a2)] w := by
  unfold fJ0_indexOf_7cf53 at h
  refine r_aload_n (pc := 0) dJ0_indexOf_7cf53_0 rfl 0 rfl ?_
  replace h := lt_e h; obtain ⟨x1, ex1, h⟩ := h
  refine r_cXi (pc := 1) wyJ0_isLatin1_aae02 hs.1 (fun U H h => (hs.2.1 U H h).1) rfl mlRJ0_492 iyJ0_isLatin1_aae02 syJ0_isLatin1_aae02 ⟨(Nat.le_of_ble_eq_true rfl), (Nat.le_of_ble_eq_true rfl)⟩ rfl rfl (Nat.le_of_ble_eq_true rfl) dJ0_indexOf_7cf53_1 (mJ0_isLatin1_aae02 hs ex1 (pI.mk ?_))
  refine r_z_eq (pc := 4) dJ0_indexOf_7cf53_4 rfl (fun hc2 => ?_) (fun hc2 => ?_)
  · replace h := if_f hc2 h
    refine r_aload_n (pc := 23) dJ0_indexOf_7cf53_23 rfl 0 rfl ?_
    refine r_xget (pc := 24) (v := .ref kv) hs.1 (fun U H h => (hs.2.1 U H h).2.2.1) slRJ0_9 dJ0_indexOf_7cf53_24 ?_
    refine r_iload_n (pc := 27) dJ0_indexOf_7cf53_27 rfl 1 rfl ?_
    refine r_iload_n (pc := 28) dJ0_indexOf_7cf53_28 rfl 2 rfl ?_
    refine r_aload_n (pc := 29) dJ0_indexOf_7cf53_29 rfl 0 rfl ?_
    replace h := lt_e h; obtain ⟨x6, ex6, h⟩ := h
    refine r_cXi (pc := 30) wyJ0_length_8abf5 hs.1 (fun U H h => (hs.2.1 U H h).1) rfl mlRJ0_505 iyJ0_length_8abf5 syJ0_length_8abf5 ⟨(Nat.le_of_ble_eq_true rfl), (Nat.le_of_ble_eq_true rfl)⟩ rfl rfl (Nat.le_of_ble_eq_true rfl) dJ0_indexOf_7cf53_30 (mJ0_length_8abf5 hs ex6 (pI.mk ?_))
    cases h
  replace h := if_t hc2 h
  refine r_aload_n (pc := 7) dJ0_indexOf_7cf53_7 rfl 0 rfl ?_
  refine r_xget (pc := 8) (v := .ref kv) hs.1 (fun U H h => (hs.2.1 U H h).2.2.1) slRJ0_9 dJ0_indexOf_7cf53_8 ?_
  refine r_iload_n (pc := 11) dJ0_indexOf_7cf53_11 rfl 1 rfl ?_
  refine r_iload_n (pc := 12) dJ0_indexOf_7cf53_12 rfl 2 rfl ?_
  refine r_aload_n (pc := 13) dJ0_indexOf_7cf53_13 rfl 0 rfl ?_
  replace h := lt_e h; obtain ⟨x3, ex3, h⟩ := h
  refine r_cXi (pc := 14) wyJ0_length_8abf5 hs.1 (fun U H h => (hs.2.1 U H h).1) rfl mlRJ0_505 iyJ0_length_8abf5 syJ0_length_8abf5 ⟨(Nat.le_of_ble_eq_true rfl), (Nat.le_of_ble_eq_true rfl)⟩ rfl rfl (Nat.le_of_ble_eq_true rfl) dJ0_indexOf_7cf53_14 (mJ0_length_8abf5 hs ex3 (pI.mk ?_))
  replace h := bn2_e h; obtain ⟨x4, w5, ew5, h⟩ := h
  refine r_cSi (pc := 17) wyJ1_indexOf_4cfef mlRJ0_637 tyJ1_indexOf_4cfef ⟨(Nat.le_of_ble_eq_true rfl), (Nat.le_of_ble_eq_true rfl)⟩ rfl rfl (Nat.le_of_ble_eq_true rfl) dJ0_indexOf_7cf53_17 (mJ1_indexOf_4cfef hs ew5 (pI.mk ?_))
  refine r_goto (pc := 20) dJ0_indexOf_7cf53_20 rfl ?_
  exact rO_i (pc := 36) rfl dJ0_indexOf_7cf53_36 h hN
theorem mJ0_indexOf_7cf53 {Γ : Gm} {l : Launch} {N : Option Value → Wd → Prop} {X : String → Wd → Prop} {k kv sn : Nat} {f : Nat → Int32} {F : Nat → Prop} (hs : STK Γ F k kv sn f) {a1 : Int32} {a2 : Int32} {w : Wd} {x : Int32} {u : Wd} (h : fJ0_indexOf_7cf53 sn f a1 a2 w = some (x, u)) (hN : N (some (.int x)) u) : Ct Γ l 2 yJ0_indexOf_7cf53 cJ0_indexOf_7cf53 3 ((some .int)) [.ref k, .int a1, .int a2] w N X := Ct.ofF (by decide +kernel) (Nat.le_of_ble_eq_true rfl) (pJ0_indexOf_7cf53 hN hs h)
/-! java/lang/String.indexOf (I)I: O, 3 -/
theorem dJ0_indexOf_0f7a4_0 : decode cJ0_indexOf_0f7a4 0 = .ok (.aload_n 0, 1) := by decide +kernel
theorem dJ0_indexOf_0f7a4_1 : decode cJ0_indexOf_0f7a4 1 = .ok (.iload_n 1, 1) := by decide +kernel
theorem dJ0_indexOf_0f7a4_2 : decode cJ0_indexOf_0f7a4 2 = .ok (.iconst 0, 1) := by decide +kernel
theorem dJ0_indexOf_0f7a4_3 : decode cJ0_indexOf_0f7a4 3 = .ok (.invokevirtual 633, 3) := by decide +kernel
theorem dJ0_indexOf_0f7a4_6 : decode cJ0_indexOf_0f7a4 6 = .ok (.ireturn, 1) := by decide +kernel
def fJ0_indexOf_0f7a4 (sn : Nat) (f : Nat → Int32) (a1 : Int32) (w : Wd) : Option (Int32 × Wd) :=
  bn2 (fJ0_indexOf_7cf53 sn f a1 0 w) fun x1 w2 => some (x1, w2)
theorem pJ0_indexOf_0f7a4 {Γ : Gm} {l : Launch} {N : Option Value → Wd → Prop} {X : String → Wd → Prop} {w : Wd} {R : Int32 × Wd} (hN : N (some (.int R.1)) R.2) {k kv sn : Nat} {f : Nat → Int32} {F : Nat → Prop} (hs : STK Γ F k kv sn f) {a1 : Int32} (h : fJ0_indexOf_0f7a4 sn f a1 w = some R) : RT Γ l 3 yJ0_indexOf_0f7a4 cJ0_indexOf_0f7a4 2 ((some .int)) N X 0 [] [(0, .ref k), (1, .int a1)] w := by
  unfold fJ0_indexOf_0f7a4 at h
  refine r_aload_n (pc := 0) dJ0_indexOf_0f7a4_0 rfl 0 rfl ?_
  refine r_iload_n (pc := 1) dJ0_indexOf_0f7a4_1 rfl 1 rfl ?_
  refine r_iconst (pc := 2) dJ0_indexOf_0f7a4_2 ki_0 ?_
  replace h := bn2_e h; obtain ⟨x1, w2, ew2, h⟩ := h
  refine r_cXi (pc := 3) wyJ0_indexOf_7cf53 hs.1 (fun U H h => (hs.2.1 U H h).1) rfl mlRJ0_633 iyJ0_indexOf_7cf53 syJ0_indexOf_7cf53 ⟨(Nat.le_of_ble_eq_true rfl), (Nat.le_of_ble_eq_true rfl)⟩ rfl rfl (Nat.le_of_ble_eq_true rfl) dJ0_indexOf_0f7a4_3 (mJ0_indexOf_7cf53 hs ew2 (pI.mk ?_))
  exact rO_i (pc := 6) rfl dJ0_indexOf_0f7a4_6 h hN
theorem mJ0_indexOf_0f7a4 {Γ : Gm} {l : Launch} {N : Option Value → Wd → Prop} {X : String → Wd → Prop} {k kv sn : Nat} {f : Nat → Int32} {F : Nat → Prop} (hs : STK Γ F k kv sn f) {a1 : Int32} {w : Wd} {x : Int32} {u : Wd} (h : fJ0_indexOf_0f7a4 sn f a1 w = some (x, u)) (hN : N (some (.int x)) u) : Ct Γ l 3 yJ0_indexOf_0f7a4 cJ0_indexOf_0f7a4 2 ((some .int)) [.ref k, .int a1] w N X := Ct.ofF (by decide +kernel) (Nat.le_of_ble_eq_true rfl) (pJ0_indexOf_0f7a4 hN hs h)
