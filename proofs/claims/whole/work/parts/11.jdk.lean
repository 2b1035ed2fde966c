/-! JDK methods that both sides call -/
theorem kl_0 : Int64.ofNat ((0 : Fin 2) : Nat) = 0 := by decide
/-! java/lang/Math.floorMod (JJ)J: P, 0 -/
theorem dJ9_floorMod_f86c9_0 : decode cJ9_floorMod_f86c9 0 = .ok (.lload_n 0, 1) := by decide +kernel
theorem dJ9_floorMod_f86c9_1 : decode cJ9_floorMod_f86c9 1 = .ok (.lload_n 2, 1) := by decide +kernel
theorem dJ9_floorMod_f86c9_2 : decode cJ9_floorMod_f86c9 2 = .ok (.lrem, 1) := by decide +kernel
theorem dJ9_floorMod_f86c9_3 : decode cJ9_floorMod_f86c9 3 = .ok (.lstore 4, 2) := by decide +kernel
theorem dJ9_floorMod_f86c9_5 : decode cJ9_floorMod_f86c9 5 = .ok (.lload_n 0, 1) := by decide +kernel
theorem dJ9_floorMod_f86c9_6 : decode cJ9_floorMod_f86c9 6 = .ok (.lload_n 2, 1) := by decide +kernel
theorem dJ9_floorMod_f86c9_7 : decode cJ9_floorMod_f86c9 7 = .ok (.lxor, 1) := by decide +kernel
theorem dJ9_floorMod_f86c9_8 : decode cJ9_floorMod_f86c9 8 = .ok (.lconst 0, 1) := by decide +kernel
theorem dJ9_floorMod_f86c9_9 : decode cJ9_floorMod_f86c9 9 = .ok (.lcmp, 1) := by decide +kernel
theorem dJ9_floorMod_f86c9_10 : decode cJ9_floorMod_f86c9 10 = .ok (.ifCond .ge 15, 3) := by decide +kernel
theorem dJ9_floorMod_f86c9_13 : decode cJ9_floorMod_f86c9 13 = .ok (.lload 4, 2) := by decide +kernel
theorem dJ9_floorMod_f86c9_15 : decode cJ9_floorMod_f86c9 15 = .ok (.lconst 0, 1) := by decide +kernel
theorem dJ9_floorMod_f86c9_16 : decode cJ9_floorMod_f86c9 16 = .ok (.lcmp, 1) := by decide +kernel
theorem dJ9_floorMod_f86c9_17 : decode cJ9_floorMod_f86c9 17 = .ok (.ifCond .eq 8, 3) := by decide +kernel
theorem dJ9_floorMod_f86c9_20 : decode cJ9_floorMod_f86c9 20 = .ok (.lload 4, 2) := by decide +kernel
theorem dJ9_floorMod_f86c9_22 : decode cJ9_floorMod_f86c9 22 = .ok (.lload_n 2, 1) := by decide +kernel
theorem dJ9_floorMod_f86c9_23 : decode cJ9_floorMod_f86c9 23 = .ok (.ladd, 1) := by decide +kernel
theorem dJ9_floorMod_f86c9_24 : decode cJ9_floorMod_f86c9 24 = .ok (.lreturn, 1) := by decide +kernel
theorem dJ9_floorMod_f86c9_25 : decode cJ9_floorMod_f86c9 25 = .ok (.lload 4, 2) := by decide +kernel
theorem dJ9_floorMod_f86c9_27 : decode cJ9_floorMod_f86c9 27 = .ok (.lreturn, 1) := by decide +kernel
def fJ9_floorMod_f86c9 (a0 : Int64) (a2 : Int64) : Int64 :=
  lt ((a0 - a0 / a2 * a2)) fun x1 => if 0 ≤ (a0 ^^^ a2) then (x1) else (if x1 = 0 then (x1) else ((x1 + a2)))
theorem pJ9_floorMod_f86c9 {Γ : Gm} {l : Launch} {N : Option Value → Wd → Prop} {X : String → Wd → Prop} {a0 a2 : Int64} (hz : ¬ a2 = 0) {w : Wd} {R : Int64} (hN : N (some (.long R)) w) (h : fJ9_floorMod_f86c9 a0 a2 = R) : RT Γ l 0 yJ9_floorMod_f86c9 cJ9_floorMod_f86c9 6 ((some .long)) N X 0 [] [(0, .long a0), (2, .long a2)] w := by
  unfold fJ9_floorMod_f86c9 at h
  refine r_lload_n (pc := 0) dJ9_floorMod_f86c9_0 rfl 0 rfl ?_
  refine r_lload_n (pc := 1) dJ9_floorMod_f86c9_1 rfl 1 rfl ?_
  refine r_lrem (pc := 2) dJ9_floorMod_f86c9_2 (by assumption) ?_
  replace h := lt_e h; obtain ⟨x1, ex1, h⟩ := h
  refine r_topl ex1 ?_
  refine r_lstore (pc := 3) (loc' := [(4, .long x1), (0, .long a0), (2, .long a2)]) dJ9_floorMod_f86c9_3 (Nat.le_of_ble_eq_true rfl) rfl ?_
  refine r_lload_n (pc := 5) dJ9_floorMod_f86c9_5 rfl 1 rfl ?_
  refine r_lload_n (pc := 6) dJ9_floorMod_f86c9_6 rfl 2 rfl ?_
  refine r_lxor (pc := 7) dJ9_floorMod_f86c9_7 ?_
  refine r_lconst (pc := 8) dJ9_floorMod_f86c9_8 kl_0 ?_
  refine r_l_ge (pc := 9) dJ9_floorMod_f86c9_9 dJ9_floorMod_f86c9_10 rfl (fun hc2 => ?_) (fun hc2 => ?_)
  · replace h := if_t hc2 h
    refine r_lload (pc := 25) dJ9_floorMod_f86c9_25 0 rfl ?_
    exact rP_l (pc := 27) rfl dJ9_floorMod_f86c9_27 h hN
  replace h := if_f hc2 h
  refine r_lload (pc := 13) dJ9_floorMod_f86c9_13 0 rfl ?_
  refine r_lconst (pc := 15) dJ9_floorMod_f86c9_15 kl_0 ?_
  refine r_l_eq (pc := 16) dJ9_floorMod_f86c9_16 dJ9_floorMod_f86c9_17 rfl (fun hc3 => ?_) (fun hc3 => ?_)
  · replace h := if_t hc3 h
    refine r_lload (pc := 25) dJ9_floorMod_f86c9_25 0 rfl ?_
    exact rP_l (pc := 27) rfl dJ9_floorMod_f86c9_27 h hN
  replace h := if_f hc3 h
  refine r_lload (pc := 20) dJ9_floorMod_f86c9_20 0 rfl ?_
  refine r_lload_n (pc := 22) dJ9_floorMod_f86c9_22 rfl 2 rfl ?_
  refine r_ladd (pc := 23) dJ9_floorMod_f86c9_23 ?_
  exact rP_l (pc := 24) rfl dJ9_floorMod_f86c9_24 h hN
theorem mJ9_floorMod_f86c9 {Γ : Gm} {l : Launch} {N : Option Value → Wd → Prop} {X : String → Wd → Prop} {a0 : Int64} {a2 : Int64} {w : Wd} (hz : ¬ a2 = 0) {x : Int64} (h : fJ9_floorMod_f86c9 a0 a2 = x) (hN : N (some (.long x)) w) : Ct Γ l 0 yJ9_floorMod_f86c9 cJ9_floorMod_f86c9 6 ((some .long)) [.long a0, .long a2] w N X := Ct.ofF (by decide +kernel) (Nat.le_of_ble_eq_true rfl) (pJ9_floorMod_f86c9 hz hN h)
/-! java/lang/Math.abs (I)I: P, 0 -/
theorem dJ9_abs_0f7a4_0 : decode cJ9_abs_0f7a4 0 = .ok (.iload_n 0, 1) := by decide +kernel
theorem dJ9_abs_0f7a4_1 : decode cJ9_abs_0f7a4 1 = .ok (.ifCond .ge 8, 3) := by decide +kernel
theorem dJ9_abs_0f7a4_4 : decode cJ9_abs_0f7a4 4 = .ok (.iload_n 0, 1) := by decide +kernel
theorem dJ9_abs_0f7a4_5 : decode cJ9_abs_0f7a4 5 = .ok (.ineg, 1) := by decide +kernel
theorem dJ9_abs_0f7a4_6 : decode cJ9_abs_0f7a4 6 = .ok (.goto 4, 3) := by decide +kernel
theorem dJ9_abs_0f7a4_9 : decode cJ9_abs_0f7a4 9 = .ok (.iload_n 0, 1) := by decide +kernel
theorem dJ9_abs_0f7a4_10 : decode cJ9_abs_0f7a4 10 = .ok (.ireturn, 1) := by decide +kernel
def fJ9_abs_0f7a4 (a0 : Int32) : Int32 :=
  if 0 ≤ a0 then (a0) else ((-a0))
theorem pJ9_abs_0f7a4 {Γ : Gm} {l : Launch} {N : Option Value → Wd → Prop} {X : String → Wd → Prop} {w : Wd} {R : Int32} (hN : N (some (.int R)) w) {a0 : Int32} (h : fJ9_abs_0f7a4 a0 = R) : RT Γ l 0 yJ9_abs_0f7a4 cJ9_abs_0f7a4 1 ((some .int)) N X 0 [] [(0, .int a0)] w := by
  unfold fJ9_abs_0f7a4 at h
  refine r_iload_n (pc := 0) dJ9_abs_0f7a4_0 rfl 0 rfl ?_
  refine r_if_ge (pc := 1) dJ9_abs_0f7a4_1 rfl (fun hc1 => ?_) (fun hc1 => ?_)
  · replace h := if_t hc1 h
    refine r_iload_n (pc := 9) dJ9_abs_0f7a4_9 rfl 0 rfl ?_
    exact rP_i (pc := 10) rfl dJ9_abs_0f7a4_10 h hN
  replace h := if_f hc1 h
  refine r_iload_n (pc := 4) dJ9_abs_0f7a4_4 rfl 0 rfl ?_
  refine r_ineg (pc := 5) dJ9_abs_0f7a4_5 ?_
  refine r_goto (pc := 6) dJ9_abs_0f7a4_6 rfl ?_
  exact rP_i (pc := 10) rfl dJ9_abs_0f7a4_10 h hN
theorem mJ9_abs_0f7a4 {Γ : Gm} {l : Launch} {N : Option Value → Wd → Prop} {X : String → Wd → Prop} {a0 : Int32} {w : Wd} {x : Int32} (h : fJ9_abs_0f7a4 a0 = x) (hN : N (some (.int x)) w) : Ct Γ l 0 yJ9_abs_0f7a4 cJ9_abs_0f7a4 1 ((some .int)) [.int a0] w N X := Ct.ofF (by decide +kernel) (Nat.le_of_ble_eq_true rfl) (pJ9_abs_0f7a4 hN h)
/-! java/lang/Math.max (II)I: P, 0 -/
theorem dJ9_max_7cf53_0 : decode cJ9_max_7cf53 0 = .ok (.iload_n 0, 1) := by decide +kernel
theorem dJ9_max_7cf53_1 : decode cJ9_max_7cf53 1 = .ok (.iload_n 1, 1) := by decide +kernel
theorem dJ9_max_7cf53_2 : decode cJ9_max_7cf53 2 = .ok (.if_icmp .lt 7, 3) := by decide +kernel
theorem dJ9_max_7cf53_5 : decode cJ9_max_7cf53 5 = .ok (.iload_n 0, 1) := by decide +kernel
theorem dJ9_max_7cf53_6 : decode cJ9_max_7cf53 6 = .ok (.goto 4, 3) := by decide +kernel
theorem dJ9_max_7cf53_9 : decode cJ9_max_7cf53 9 = .ok (.iload_n 1, 1) := by decide +kernel
theorem dJ9_max_7cf53_10 : decode cJ9_max_7cf53 10 = .ok (.ireturn, 1) := by decide +kernel
def fJ9_max_7cf53 (a0 : Int32) (a1 : Int32) : Int32 :=
  if a0 < a1 then (a1) else (a0)
theorem pJ9_max_7cf53 {Γ : Gm} {l : Launch} {N : Option Value → Wd → Prop} {X : String → Wd → Prop} {w : Wd} {R : Int32} (hN : N (some (.int R)) w) {a0 : Int32} {a1 : Int32} (h : fJ9_max_7cf53 a0 a1 = R) : RT Γ l 0 yJ9_max_7cf53 cJ9_max_7cf53 2 ((some .int)) N X 0 [] [(0, .int a0), (1, .int a1)] w := by
  unfold fJ9_max_7cf53 at h
  refine r_iload_n (pc := 0) dJ9_max_7cf53_0 rfl 0 rfl ?_
  refine r_iload_n (pc := 1) dJ9_max_7cf53_1 rfl 1 rfl ?_
  refine r_icmp_lt (pc := 2) dJ9_max_7cf53_2 rfl (fun hc1 => ?_) (fun hc1 => ?_)
  · replace h := if_t hc1 h
    refine r_iload_n (pc := 9) dJ9_max_7cf53_9 rfl 1 rfl ?_
    exact rP_i (pc := 10) rfl dJ9_max_7cf53_10 h hN
  replace h := if_f hc1 h
  refine r_iload_n (pc := 5) dJ9_max_7cf53_5 rfl 0 rfl ?_
  refine r_goto (pc := 6) dJ9_max_7cf53_6 rfl ?_
  exact rP_i (pc := 10) rfl dJ9_max_7cf53_10 h hN
theorem mJ9_max_7cf53 {Γ : Gm} {l : Launch} {N : Option Value → Wd → Prop} {X : String → Wd → Prop} {a0 : Int32} {a1 : Int32} {w : Wd} {x : Int32} (h : fJ9_max_7cf53 a0 a1 = x) (hN : N (some (.int x)) w) : Ct Γ l 0 yJ9_max_7cf53 cJ9_max_7cf53 2 ((some .int)) [.int a0, .int a1] w N X := Ct.ofF (by decide +kernel) (Nat.le_of_ble_eq_true rfl) (pJ9_max_7cf53 hN h)
/-! java/lang/Math.max (JJ)J: P, 0 -/
theorem dJ9_max_f86c9_0 : decode cJ9_max_f86c9 0 = .ok (.lload_n 0, 1) := by decide +kernel
theorem dJ9_max_f86c9_1 : decode cJ9_max_f86c9 1 = .ok (.lload_n 2, 1) := by decide +kernel
theorem dJ9_max_f86c9_2 : decode cJ9_max_f86c9 2 = .ok (.lcmp, 1) := by decide +kernel
theorem dJ9_max_f86c9_3 : decode cJ9_max_f86c9 3 = .ok (.ifCond .lt 7, 3) := by decide +kernel
theorem dJ9_max_f86c9_6 : decode cJ9_max_f86c9 6 = .ok (.lload_n 0, 1) := by decide +kernel
theorem dJ9_max_f86c9_7 : decode cJ9_max_f86c9 7 = .ok (.goto 4, 3) := by decide +kernel
theorem dJ9_max_f86c9_10 : decode cJ9_max_f86c9 10 = .ok (.lload_n 2, 1) := by decide +kernel
theorem dJ9_max_f86c9_11 : decode cJ9_max_f86c9 11 = .ok (.lreturn, 1) := by decide +kernel
def fJ9_max_f86c9 (a0 : Int64) (a2 : Int64) : Int64 :=
  if a0 < a2 then (a2) else (a0)
theorem pJ9_max_f86c9 {Γ : Gm} {l : Launch} {N : Option Value → Wd → Prop} {X : String → Wd → Prop} {w : Wd} {R : Int64} (hN : N (some (.long R)) w) {a0 : Int64} {a2 : Int64} (h : fJ9_max_f86c9 a0 a2 = R) : RT Γ l 0 yJ9_max_f86c9 cJ9_max_f86c9 4 ((some .long)) N X 0 [] [(0, .long a0), (2, .long a2)] w := by
  unfold fJ9_max_f86c9 at h
  refine r_lload_n (pc := 0) dJ9_max_f86c9_0 rfl 0 rfl ?_
  refine r_lload_n (pc := 1) dJ9_max_f86c9_1 rfl 1 rfl ?_
  refine r_l_lt (pc := 2) dJ9_max_f86c9_2 dJ9_max_f86c9_3 rfl (fun hc1 => ?_) (fun hc1 => ?_)
  · replace h := if_t hc1 h
    refine r_lload_n (pc := 10) dJ9_max_f86c9_10 rfl 1 rfl ?_
    exact rP_l (pc := 11) rfl dJ9_max_f86c9_11 h hN
  replace h := if_f hc1 h
  refine r_lload_n (pc := 6) dJ9_max_f86c9_6 rfl 0 rfl ?_
  refine r_goto (pc := 7) dJ9_max_f86c9_7 rfl ?_
  exact rP_l (pc := 11) rfl dJ9_max_f86c9_11 h hN
theorem mJ9_max_f86c9 {Γ : Gm} {l : Launch} {N : Option Value → Wd → Prop} {X : String → Wd → Prop} {a0 : Int64} {a2 : Int64} {w : Wd} {x : Int64} (h : fJ9_max_f86c9 a0 a2 = x) (hN : N (some (.long x)) w) : Ct Γ l 0 yJ9_max_f86c9 cJ9_max_f86c9 4 ((some .long)) [.long a0, .long a2] w N X := Ct.ofF (by decide +kernel) (Nat.le_of_ble_eq_true rfl) (pJ9_max_f86c9 hN h)
/-! java/lang/Math.min (II)I: P, 0 -/
theorem dJ9_min_7cf53_0 : decode cJ9_min_7cf53 0 = .ok (.iload_n 0, 1) := by decide +kernel
theorem dJ9_min_7cf53_1 : decode cJ9_min_7cf53 1 = .ok (.iload_n 1, 1) := by decide +kernel
theorem dJ9_min_7cf53_2 : decode cJ9_min_7cf53 2 = .ok (.if_icmp .gt 7, 3) := by decide +kernel
theorem dJ9_min_7cf53_5 : decode cJ9_min_7cf53 5 = .ok (.iload_n 0, 1) := by decide +kernel
theorem dJ9_min_7cf53_6 : decode cJ9_min_7cf53 6 = .ok (.goto 4, 3) := by decide +kernel
theorem dJ9_min_7cf53_9 : decode cJ9_min_7cf53 9 = .ok (.iload_n 1, 1) := by decide +kernel
theorem dJ9_min_7cf53_10 : decode cJ9_min_7cf53 10 = .ok (.ireturn, 1) := by decide +kernel
def fJ9_min_7cf53 (a0 : Int32) (a1 : Int32) : Int32 :=
  if a1 < a0 then (a1) else (a0)
theorem pJ9_min_7cf53 {Γ : Gm} {l : Launch} {N : Option Value → Wd → Prop} {X : String → Wd → Prop} {w : Wd} {R : Int32} (hN : N (some (.int R)) w) {a0 : Int32} {a1 : Int32} (h : fJ9_min_7cf53 a0 a1 = R) : RT Γ l 0 yJ9_min_7cf53 cJ9_min_7cf53 2 ((some .int)) N X 0 [] [(0, .int a0), (1, .int a1)] w := by
  unfold fJ9_min_7cf53 at h
  refine r_iload_n (pc := 0) dJ9_min_7cf53_0 rfl 0 rfl ?_
  refine r_iload_n (pc := 1) dJ9_min_7cf53_1 rfl 1 rfl ?_
  refine r_icmp_gt (pc := 2) dJ9_min_7cf53_2 rfl (fun hc1 => ?_) (fun hc1 => ?_)
  · replace h := if_t hc1 h
    refine r_iload_n (pc := 9) dJ9_min_7cf53_9 rfl 1 rfl ?_
    exact rP_i (pc := 10) rfl dJ9_min_7cf53_10 h hN
  replace h := if_f hc1 h
  refine r_iload_n (pc := 5) dJ9_min_7cf53_5 rfl 0 rfl ?_
  refine r_goto (pc := 6) dJ9_min_7cf53_6 rfl ?_
  exact rP_i (pc := 10) rfl dJ9_min_7cf53_10 h hN
theorem mJ9_min_7cf53 {Γ : Gm} {l : Launch} {N : Option Value → Wd → Prop} {X : String → Wd → Prop} {a0 : Int32} {a1 : Int32} {w : Wd} {x : Int32} (h : fJ9_min_7cf53 a0 a1 = x) (hN : N (some (.int x)) w) : Ct Γ l 0 yJ9_min_7cf53 cJ9_min_7cf53 2 ((some .int)) [.int a0, .int a1] w N X := Ct.ofF (by decide +kernel) (Nat.le_of_ble_eq_true rfl) (pJ9_min_7cf53 hN h)
/-! java/lang/Math.min (JJ)J: P, 0 -/
theorem dJ9_min_f86c9_0 : decode cJ9_min_f86c9 0 = .ok (.lload_n 0, 1) := by decide +kernel
theorem dJ9_min_f86c9_1 : decode cJ9_min_f86c9 1 = .ok (.lload_n 2, 1) := by decide +kernel
theorem dJ9_min_f86c9_2 : decode cJ9_min_f86c9 2 = .ok (.lcmp, 1) := by decide +kernel
theorem dJ9_min_f86c9_3 : decode cJ9_min_f86c9 3 = .ok (.ifCond .gt 7, 3) := by decide +kernel
theorem dJ9_min_f86c9_6 : decode cJ9_min_f86c9 6 = .ok (.lload_n 0, 1) := by decide +kernel
theorem dJ9_min_f86c9_7 : decode cJ9_min_f86c9 7 = .ok (.goto 4, 3) := by decide +kernel
theorem dJ9_min_f86c9_10 : decode cJ9_min_f86c9 10 = .ok (.lload_n 2, 1) := by decide +kernel
theorem dJ9_min_f86c9_11 : decode cJ9_min_f86c9 11 = .ok (.lreturn, 1) := by decide +kernel
def fJ9_min_f86c9 (a0 : Int64) (a2 : Int64) : Int64 :=
  if a2 < a0 then (a2) else (a0)
theorem pJ9_min_f86c9 {Γ : Gm} {l : Launch} {N : Option Value → Wd → Prop} {X : String → Wd → Prop} {w : Wd} {R : Int64} (hN : N (some (.long R)) w) {a0 : Int64} {a2 : Int64} (h : fJ9_min_f86c9 a0 a2 = R) : RT Γ l 0 yJ9_min_f86c9 cJ9_min_f86c9 4 ((some .long)) N X 0 [] [(0, .long a0), (2, .long a2)] w := by
  unfold fJ9_min_f86c9 at h
  refine r_lload_n (pc := 0) dJ9_min_f86c9_0 rfl 0 rfl ?_
  refine r_lload_n (pc := 1) dJ9_min_f86c9_1 rfl 1 rfl ?_
  refine r_l_gt (pc := 2) dJ9_min_f86c9_2 dJ9_min_f86c9_3 rfl (fun hc1 => ?_) (fun hc1 => ?_)
  · replace h := if_t hc1 h
    refine r_lload_n (pc := 10) dJ9_min_f86c9_10 rfl 1 rfl ?_
    exact rP_l (pc := 11) rfl dJ9_min_f86c9_11 h hN
  replace h := if_f hc1 h
  refine r_lload_n (pc := 6) dJ9_min_f86c9_6 rfl 0 rfl ?_
  refine r_goto (pc := 7) dJ9_min_f86c9_7 rfl ?_
  exact rP_l (pc := 11) rfl dJ9_min_f86c9_11 h hN
theorem mJ9_min_f86c9 {Γ : Gm} {l : Launch} {N : Option Value → Wd → Prop} {X : String → Wd → Prop} {a0 : Int64} {a2 : Int64} {w : Wd} {x : Int64} (h : fJ9_min_f86c9 a0 a2 = x) (hN : N (some (.long x)) w) : Ct Γ l 0 yJ9_min_f86c9 cJ9_min_f86c9 4 ((some .long)) [.long a0, .long a2] w N X := Ct.ofF (by decide +kernel) (Nat.le_of_ble_eq_true rfl) (pJ9_min_f86c9 hN h)
