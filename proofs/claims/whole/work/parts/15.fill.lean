/-! Arrays.fill, for any row -/
/-! java/util/Arrays.rangeCheck (III)V: O, 0 -/
theorem dJ7_rangeCheck_23922_0 : decode cJ7_rangeCheck_23922 0 = .ok (.iload_n 1, 1) := by decide +kernel
theorem dJ7_rangeCheck_23922_1 : decode cJ7_rangeCheck_23922 1 = .ok (.iload_n 2, 1) := by decide +kernel
theorem dJ7_rangeCheck_23922_2 : decode cJ7_rangeCheck_23922 2 = .ok (.if_icmp .le 44, 3) := by decide +kernel
theorem dJ7_rangeCheck_23922_5 : decode cJ7_rangeCheck_23922 5 = .ok (.new 43, 3) := by decide +kernel
theorem dJ7_rangeCheck_23922_46 : decode cJ7_rangeCheck_23922 46 = .ok (.iload_n 1, 1) := by decide +kernel
theorem dJ7_rangeCheck_23922_47 : decode cJ7_rangeCheck_23922 47 = .ok (.ifCond .ge 12, 3) := by decide +kernel
theorem dJ7_rangeCheck_23922_50 : decode cJ7_rangeCheck_23922 50 = .ok (.new 68, 3) := by decide +kernel
theorem dJ7_rangeCheck_23922_59 : decode cJ7_rangeCheck_23922 59 = .ok (.iload_n 2, 1) := by decide +kernel
theorem dJ7_rangeCheck_23922_60 : decode cJ7_rangeCheck_23922 60 = .ok (.iload_n 0, 1) := by decide +kernel
theorem dJ7_rangeCheck_23922_61 : decode cJ7_rangeCheck_23922 61 = .ok (.if_icmp .le 12, 3) := by decide +kernel
theorem dJ7_rangeCheck_23922_64 : decode cJ7_rangeCheck_23922 64 = .ok (.new 68, 3) := by decide +kernel
theorem dJ7_rangeCheck_23922_73 : decode cJ7_rangeCheck_23922 73 = .ok (.return_, 1) := by decide +kernel
def fJ7_rangeCheck_23922 (a0 : Int32) (a1 : Int32) (a2 : Int32) (w : Wd) : Option Wd :=
  if a1 ≤ a2 then (if 0 ≤ a1 then (if a2 ≤ a0 then (some w) else (none)) else (none)) else (none)
theorem pJ7_rangeCheck_23922 {Γ : Gm} {l : Launch} {N : Option Value → Wd → Prop} {X : String → Wd → Prop} {w : Wd} {R : Wd} (hN : N none R) {a0 : Int32} {a1 : Int32} {a2 : Int32} (h : fJ7_rangeCheck_23922 a0 a1 a2 w = some R) : RT Γ l 0 yJ7_rangeCheck_23922 cJ7_rangeCheck_23922 3 (none) N X 0 [] [(0, .int a0), (1, .int a1), (2, .int a2)] w := by
  unfold fJ7_rangeCheck_23922 at h
  refine r_iload_n (pc := 0) dJ7_rangeCheck_23922_0 rfl 1 rfl ?_
  refine r_iload_n (pc := 1) dJ7_rangeCheck_23922_1 rfl 2 rfl ?_
  refine r_icmp_le (pc := 2) dJ7_rangeCheck_23922_2 rfl (fun hc1 => ?_) (fun hc1 => ?_)
  · replace h := if_t hc1 h
    refine r_iload_n (pc := 46) dJ7_rangeCheck_23922_46 rfl 1 rfl ?_
    refine r_if_ge (pc := 47) dJ7_rangeCheck_23922_47 rfl (fun hc2 => ?_) (fun hc2 => ?_)
    · replace h := if_t hc2 h
      refine r_iload_n (pc := 59) dJ7_rangeCheck_23922_59 rfl 2 rfl ?_
      refine r_iload_n (pc := 60) dJ7_rangeCheck_23922_60 rfl 0 rfl ?_
      refine r_icmp_le (pc := 61) dJ7_rangeCheck_23922_61 rfl (fun hc3 => ?_) (fun hc3 => ?_)
      · replace h := if_t hc3 h
        exact rO_v (pc := 73) rfl dJ7_rangeCheck_23922_73 h hN
      replace h := if_f hc3 h
      cases h
    replace h := if_f hc2 h
    cases h
  replace h := if_f hc1 h
  cases h
theorem mJ7_rangeCheck_23922 {Γ : Gm} {l : Launch} {N : Option Value → Wd → Prop} {X : String → Wd → Prop} {a0 : Int32} {a1 : Int32} {a2 : Int32} {w : Wd} {u : Wd} (h : fJ7_rangeCheck_23922 a0 a1 a2 w = some u) (hN : N none u) : Ct Γ l 0 yJ7_rangeCheck_23922 cJ7_rangeCheck_23922 3 (none) [.int a0, .int a1, .int a2] w N X := Ct.ofF (by decide +kernel) (Nat.le_of_ble_eq_true rfl) (pJ7_rangeCheck_23922 hN h)
/-! java/util/Arrays.fill ([JIIJ)V: O, 1 -/
theorem dJ7_fill_bad5a_0 : decode cJ7_fill_bad5a 0 = .ok (.aload_n 0, 1) := by decide +kernel
theorem dJ7_fill_bad5a_1 : decode cJ7_fill_bad5a 1 = .ok (.arraylength, 1) := by decide +kernel
theorem dJ7_fill_bad5a_2 : decode cJ7_fill_bad5a 2 = .ok (.iload_n 1, 1) := by decide +kernel
theorem dJ7_fill_bad5a_3 : decode cJ7_fill_bad5a 3 = .ok (.iload_n 2, 1) := by decide +kernel
theorem dJ7_fill_bad5a_4 : decode cJ7_fill_bad5a 4 = .ok (.invokestatic 13, 3) := by decide +kernel
theorem dJ7_fill_bad5a_7 : decode cJ7_fill_bad5a 7 = .ok (.iload_n 1, 1) := by decide +kernel
theorem dJ7_fill_bad5a_8 : decode cJ7_fill_bad5a 8 = .ok (.istore 5, 2) := by decide +kernel
theorem dJ7_fill_bad5a_10 : decode cJ7_fill_bad5a 10 = .ok (.iload 5, 2) := by decide +kernel
theorem dJ7_fill_bad5a_12 : decode cJ7_fill_bad5a 12 = .ok (.iload_n 2, 1) := by decide +kernel
theorem dJ7_fill_bad5a_13 : decode cJ7_fill_bad5a 13 = .ok (.if_icmp .ge 14, 3) := by decide +kernel
theorem dJ7_fill_bad5a_16 : decode cJ7_fill_bad5a 16 = .ok (.aload_n 0, 1) := by decide +kernel
theorem dJ7_fill_bad5a_17 : decode cJ7_fill_bad5a 17 = .ok (.iload 5, 2) := by decide +kernel
theorem dJ7_fill_bad5a_19 : decode cJ7_fill_bad5a 19 = .ok (.lload_n 3, 1) := by decide +kernel
theorem dJ7_fill_bad5a_20 : decode cJ7_fill_bad5a 20 = .ok (.lastore, 1) := by decide +kernel
theorem dJ7_fill_bad5a_21 : decode cJ7_fill_bad5a 21 = .ok (.iinc 5 1, 3) := by decide +kernel
theorem dJ7_fill_bad5a_24 : decode cJ7_fill_bad5a 24 = .ok (.goto (-14), 3) := by decide +kernel
theorem dJ7_fill_bad5a_27 : decode cJ7_fill_bad5a 27 = .ok (.return_, 1) := by decide +kernel
def fJ7_fill_bad5a_10 (k_10 : Int32 → Int64 → Int32 → Wd → Option Wd) (k0 n0 : Nat) (a2 : Int32) (a3 : Int64) (a5 : Int32) (w : Wd) : Option Wd :=
  if a2 ≤ a5 then (some w) else (if inb a5 n0 = true then lt (sl w k0 (Int32.toNatClampNeg a5) a3) fun w3 => lt (a5 + 1) fun x4 => k_10 a2 a3 x4 w3 else none)
theorem pJ7_fill_bad5a_10 {Γ : Gm} {l : Launch} {N : Option Value → Wd → Prop} {X : String → Wd → Prop} {w : Wd} {R : Wd} (hN : N none R) {k0 n0 : Nat} (hA0 : AR Γ k0 1 n0 .long) {k_10 : Int32 → Int64 → Int32 → Wd → Option Wd} (hk_10 : ∀ (a2 : Int32) (a3 : Int64) (a5 : Int32) (w : Wd), k_10 a2 a3 a5 w = some R → RT Γ l 1 yJ7_fill_bad5a cJ7_fill_bad5a 6 (none) N X 10 [] [(0, .ref k0), (2, .int a2), (3, .long a3), (5, .int a5)] w) {a2 : Int32} {a3 : Int64} {a5 : Int32} (h : fJ7_fill_bad5a_10 k_10 k0 n0 a2 a3 a5 w = some R) : RT Γ l 1 yJ7_fill_bad5a cJ7_fill_bad5a 6 (none) N X 10 [] [(0, .ref k0), (2, .int a2), (3, .long a3), (5, .int a5)] w := by
  unfold fJ7_fill_bad5a_10 at h
  refine r_iload (pc := 10) dJ7_fill_bad5a_10 3 rfl ?_
  refine r_iload_n (pc := 12) dJ7_fill_bad5a_12 rfl 1 rfl ?_
  refine r_icmp_ge (pc := 13) dJ7_fill_bad5a_13 rfl (fun hc1 => ?_) (fun hc1 => ?_)
  · replace h := if_t hc1 h
    exact rO_v (pc := 27) rfl dJ7_fill_bad5a_27 h hN
  replace h := if_f hc1 h
  refine r_aload_n (pc := 16) dJ7_fill_bad5a_16 rfl 0 rfl ?_
  refine r_iload (pc := 17) dJ7_fill_bad5a_17 3 rfl ?_
  refine r_lload_n (pc := 19) dJ7_fill_bad5a_19 rfl 2 rfl ?_
  replace h := if_n h; obtain ⟨hb2, h⟩ := h
  replace h := lt_e h; obtain ⟨w3, ew3, h⟩ := h
  refine r_last (pc := 20) hA0 (inb_in hb2) dJ7_fill_bad5a_20 ?_
  refine r_w ew3 ?_
  replace h := lt_e h; obtain ⟨x4, ex4, h⟩ := h
  refine r_inc (pc := 21) (loc' := [(5, .int x4), (0, .ref k0), (2, .int a2), (3, .long a3)]) dJ7_fill_bad5a_21 ki_1 ex4 3 rfl (Nat.le_of_ble_eq_true rfl) rfl ?_
  refine r_goto (pc := 24) dJ7_fill_bad5a_24 rfl ?_
  refine r_drop (loc' := [(0, .ref k0), (2, .int a2), (3, .long a3), (5, .int x4)]) [1, 2, 3, 0] rfl ?_
  exact hk_10 a2 a3 x4 w3 h
def oJ7_fill_bad5a_10 (k0 n0 : Nat) : Nat → Int32 → Int64 → Int32 → Wd → Option Wd
  | 0 => fun _ _ _ _ => none
  | n + 1 => fJ7_fill_bad5a_10 (oJ7_fill_bad5a_10 k0 n0 n) k0 n0
theorem qJ7_fill_bad5a_10 {Γ : Gm} {l : Launch} {N : Option Value → Wd → Prop} {X : String → Wd → Prop} {R : Wd} (hN : N none R) {k0 n0 : Nat} (hA0 : AR Γ k0 1 n0 .long) : ∀ (n : Nat) (a2 : Int32) (a3 : Int64) (a5 : Int32) (w : Wd), oJ7_fill_bad5a_10 k0 n0 n a2 a3 a5 w = some R → RT Γ l 1 yJ7_fill_bad5a cJ7_fill_bad5a 6 (none) N X 10 [] [(0, .ref k0), (2, .int a2), (3, .long a3), (5, .int a5)] w := by
  intro n
  induction n with
  | zero =>
    intro a2 a3 a5 w h
    exact absurd h (fun q => nomatch q)
  | succ n ih =>
    intro a2 a3 a5 w h
    exact pJ7_fill_bad5a_10 hN hA0 ih h
def fJ7_fill_bad5a (k0 n0 : Nat) (a1 : Int32) (a2 : Int32) (a3 : Int64) (w : Wd) : Option Wd :=
  bn (fJ7_rangeCheck_23922 (Int32.ofNat n0) a1 a2 w) fun w1 => oJ7_fill_bad5a_10 k0 n0 FU a2 a3 a1 w1
theorem pJ7_fill_bad5a {Γ : Gm} {l : Launch} {N : Option Value → Wd → Prop} {X : String → Wd → Prop} {w : Wd} {R : Wd} (hN : N none R) {k0 n0 : Nat} (hA0 : AR Γ k0 1 n0 .long) {a1 : Int32} {a2 : Int32} {a3 : Int64} (h : fJ7_fill_bad5a k0 n0 a1 a2 a3 w = some R) : RT Γ l 1 yJ7_fill_bad5a cJ7_fill_bad5a 6 (none) N X 0 [] [(0, .ref k0), (1, .int a1), (2, .int a2), (3, .long a3)] w := by
  unfold fJ7_fill_bad5a at h
  refine r_aload_n (pc := 0) dJ7_fill_bad5a_0 rfl 0 rfl ?_
  refine r_alen (pc := 1) hA0 rfl dJ7_fill_bad5a_1 ?_
  refine r_iload_n (pc := 2) dJ7_fill_bad5a_2 rfl 1 rfl ?_
  refine r_iload_n (pc := 3) dJ7_fill_bad5a_3 rfl 2 rfl ?_
  replace h := bn_e h; obtain ⟨w1, ew1, h⟩ := h
  refine r_cSv (pc := 4) wyJ7_rangeCheck_23922 mlRJ7_13 tyJ7_rangeCheck_23922 ⟨(Nat.le_of_ble_eq_true rfl), (Nat.le_of_ble_eq_true rfl)⟩ rfl rfl (Nat.le_of_ble_eq_true rfl) dJ7_fill_bad5a_4 (mJ7_rangeCheck_23922 ew1 (pV.mk ?_))
  refine r_iload_n (pc := 7) dJ7_fill_bad5a_7 rfl 1 rfl ?_
  refine r_istore (pc := 8) (loc' := [(5, .int a1), (0, .ref k0), (1, .int a1), (2, .int a2), (3, .long a3)]) dJ7_fill_bad5a_8 (Nat.le_of_ble_eq_true rfl) rfl ?_
  refine r_drop (loc' := [(0, .ref k0), (2, .int a2), (3, .long a3), (5, .int a1)]) [1, 3, 4, 0] rfl ?_
  exact qJ7_fill_bad5a_10 hN hA0 FU a2 a3 a1 w1 h
theorem mJ7_fill_bad5a {Γ : Gm} {l : Launch} {N : Option Value → Wd → Prop} {X : String → Wd → Prop} {k0 n0 : Nat} (hA0 : AR Γ k0 1 n0 .long) {a1 : Int32} {a2 : Int32} {a3 : Int64} {w : Wd} {u : Wd} (h : fJ7_fill_bad5a k0 n0 a1 a2 a3 w = some u) (hN : N none u) : Ct Γ l 1 yJ7_fill_bad5a cJ7_fill_bad5a 6 (none) [.ref k0, .int a1, .int a2, .long a3] w N X := Ct.ofF (by decide +kernel) (Nat.le_of_ble_eq_true rfl) (pJ7_fill_bad5a hN hA0 h)
/-! java/util/Arrays.fill ([II)V: O, 0 -/
theorem dJ7_fill_53178_0 : decode cJ7_fill_53178 0 = .ok (.iconst 0, 1) := by decide +kernel
theorem dJ7_fill_53178_1 : decode cJ7_fill_53178 1 = .ok (.istore_n 2, 1) := by decide +kernel
theorem dJ7_fill_53178_2 : decode cJ7_fill_53178 2 = .ok (.aload_n 0, 1) := by decide +kernel
theorem dJ7_fill_53178_3 : decode cJ7_fill_53178 3 = .ok (.arraylength, 1) := by decide +kernel
theorem dJ7_fill_53178_4 : decode cJ7_fill_53178 4 = .ok (.istore_n 3, 1) := by decide +kernel
theorem dJ7_fill_53178_5 : decode cJ7_fill_53178 5 = .ok (.iload_n 2, 1) := by decide +kernel
theorem dJ7_fill_53178_6 : decode cJ7_fill_53178 6 = .ok (.iload_n 3, 1) := by decide +kernel
theorem dJ7_fill_53178_7 : decode cJ7_fill_53178 7 = .ok (.if_icmp .ge 13, 3) := by decide +kernel
theorem dJ7_fill_53178_10 : decode cJ7_fill_53178 10 = .ok (.aload_n 0, 1) := by decide +kernel
theorem dJ7_fill_53178_11 : decode cJ7_fill_53178 11 = .ok (.iload_n 2, 1) := by decide +kernel
theorem dJ7_fill_53178_12 : decode cJ7_fill_53178 12 = .ok (.iload_n 1, 1) := by decide +kernel
theorem dJ7_fill_53178_13 : decode cJ7_fill_53178 13 = .ok (.iastore, 1) := by decide +kernel
theorem dJ7_fill_53178_14 : decode cJ7_fill_53178 14 = .ok (.iinc 2 1, 3) := by decide +kernel
theorem dJ7_fill_53178_17 : decode cJ7_fill_53178 17 = .ok (.goto (-12), 3) := by decide +kernel
theorem dJ7_fill_53178_20 : decode cJ7_fill_53178 20 = .ok (.return_, 1) := by decide +kernel
def fJ7_fill_53178_5 (k_5 : Int32 → Int32 → Int32 → Wd → Option Wd) (k0 n0 : Nat) (a1 : Int32) (a2 : Int32) (a3 : Int32) (w : Wd) : Option Wd :=
  if a3 ≤ a2 then (some w) else (if inb a2 n0 = true then lt (si w k0 (Int32.toNatClampNeg a2) a1) fun w3 => lt (a2 + 1) fun x4 => k_5 a1 x4 a3 w3 else none)
theorem pJ7_fill_53178_5 {Γ : Gm} {l : Launch} {N : Option Value → Wd → Prop} {X : String → Wd → Prop} {w : Wd} {R : Wd} (hN : N none R) {k0 n0 : Nat} (hA0 : AR Γ k0 0 n0 .int) {k_5 : Int32 → Int32 → Int32 → Wd → Option Wd} (hk_5 : ∀ (a1 : Int32) (a2 : Int32) (a3 : Int32) (w : Wd), k_5 a1 a2 a3 w = some R → RT Γ l 0 yJ7_fill_53178 cJ7_fill_53178 4 (none) N X 5 [] [(0, .ref k0), (1, .int a1), (2, .int a2), (3, .int a3)] w) {a1 : Int32} {a2 : Int32} {a3 : Int32} (h : fJ7_fill_53178_5 k_5 k0 n0 a1 a2 a3 w = some R) : RT Γ l 0 yJ7_fill_53178 cJ7_fill_53178 4 (none) N X 5 [] [(0, .ref k0), (1, .int a1), (2, .int a2), (3, .int a3)] w := by
  unfold fJ7_fill_53178_5 at h
  refine r_iload_n (pc := 5) dJ7_fill_53178_5 rfl 2 rfl ?_
  refine r_iload_n (pc := 6) dJ7_fill_53178_6 rfl 3 rfl ?_
  refine r_icmp_ge (pc := 7) dJ7_fill_53178_7 rfl (fun hc1 => ?_) (fun hc1 => ?_)
  · replace h := if_t hc1 h
    exact rO_v (pc := 20) rfl dJ7_fill_53178_20 h hN
  replace h := if_f hc1 h
  refine r_aload_n (pc := 10) dJ7_fill_53178_10 rfl 0 rfl ?_
  refine r_iload_n (pc := 11) dJ7_fill_53178_11 rfl 2 rfl ?_
  refine r_iload_n (pc := 12) dJ7_fill_53178_12 rfl 1 rfl ?_
  replace h := if_n h; obtain ⟨hb2, h⟩ := h
  replace h := lt_e h; obtain ⟨w3, ew3, h⟩ := h
  refine r_iast (pc := 13) hA0 (inb_in hb2) dJ7_fill_53178_13 ?_
  refine r_w ew3 ?_
  replace h := lt_e h; obtain ⟨x4, ex4, h⟩ := h
  refine r_inc (pc := 14) (loc' := [(2, .int x4), (0, .ref k0), (1, .int a1), (3, .int a3)]) dJ7_fill_53178_14 ki_1 ex4 2 rfl (Nat.le_of_ble_eq_true rfl) rfl ?_
  refine r_goto (pc := 17) dJ7_fill_53178_17 rfl ?_
  refine r_drop (loc' := [(0, .ref k0), (1, .int a1), (2, .int x4), (3, .int a3)]) [1, 2, 0, 3] rfl ?_
  exact hk_5 a1 x4 a3 w3 h
def oJ7_fill_53178_5 (k0 n0 : Nat) : Nat → Int32 → Int32 → Int32 → Wd → Option Wd
  | 0 => fun _ _ _ _ => none
  | n + 1 => fJ7_fill_53178_5 (oJ7_fill_53178_5 k0 n0 n) k0 n0
theorem qJ7_fill_53178_5 {Γ : Gm} {l : Launch} {N : Option Value → Wd → Prop} {X : String → Wd → Prop} {R : Wd} (hN : N none R) {k0 n0 : Nat} (hA0 : AR Γ k0 0 n0 .int) : ∀ (n : Nat) (a1 : Int32) (a2 : Int32) (a3 : Int32) (w : Wd), oJ7_fill_53178_5 k0 n0 n a1 a2 a3 w = some R → RT Γ l 0 yJ7_fill_53178 cJ7_fill_53178 4 (none) N X 5 [] [(0, .ref k0), (1, .int a1), (2, .int a2), (3, .int a3)] w := by
  intro n
  induction n with
  | zero =>
    intro a1 a2 a3 w h
    exact absurd h (fun q => nomatch q)
  | succ n ih =>
    intro a1 a2 a3 w h
    exact pJ7_fill_53178_5 hN hA0 ih h
def fJ7_fill_53178 (k0 n0 : Nat) (a1 : Int32) (w : Wd) : Option Wd :=
  lt ((Int32.ofNat n0)) fun x1 => oJ7_fill_53178_5 k0 n0 FU a1 0 x1 w
theorem pJ7_fill_53178 {Γ : Gm} {l : Launch} {N : Option Value → Wd → Prop} {X : String → Wd → Prop} {w : Wd} {R : Wd} (hN : N none R) {k0 n0 : Nat} (hA0 : AR Γ k0 0 n0 .int) {a1 : Int32} (h : fJ7_fill_53178 k0 n0 a1 w = some R) : RT Γ l 0 yJ7_fill_53178 cJ7_fill_53178 4 (none) N X 0 [] [(0, .ref k0), (1, .int a1)] w := by
  unfold fJ7_fill_53178 at h
  refine r_iconst (pc := 0) dJ7_fill_53178_0 ki_0 ?_
  refine r_istore_n (pc := 1) (loc' := [(2, .int 0), (0, .ref k0), (1, .int a1)]) dJ7_fill_53178_1 rfl (Nat.le_of_ble_eq_true rfl) rfl ?_
  refine r_aload_n (pc := 2) dJ7_fill_53178_2 rfl 1 rfl ?_
  refine r_alen (pc := 3) hA0 rfl dJ7_fill_53178_3 ?_
  replace h := lt_e h; obtain ⟨x1, ex1, h⟩ := h
  refine r_topi ex1 ?_
  refine r_istore_n (pc := 4) (loc' := [(3, .int x1), (2, .int 0), (0, .ref k0), (1, .int a1)]) dJ7_fill_53178_4 rfl (Nat.le_of_ble_eq_true rfl) rfl ?_
  refine r_drop (loc' := [(0, .ref k0), (1, .int a1), (2, .int 0), (3, .int x1)]) [2, 3, 1, 0] rfl ?_
  exact qJ7_fill_53178_5 hN hA0 FU a1 0 x1 w h
theorem mJ7_fill_53178 {Γ : Gm} {l : Launch} {N : Option Value → Wd → Prop} {X : String → Wd → Prop} {k0 n0 : Nat} (hA0 : AR Γ k0 0 n0 .int) {a1 : Int32} {w : Wd} {u : Wd} (h : fJ7_fill_53178 k0 n0 a1 w = some u) (hN : N none u) : Ct Γ l 0 yJ7_fill_53178 cJ7_fill_53178 4 (none) [.ref k0, .int a1] w N X := Ct.ofF (by decide +kernel) (Nat.le_of_ble_eq_true rfl) (pJ7_fill_53178 hN hA0 h)
/-! java/util/Arrays.fill ([IIII)V: O, 1 -/
theorem dJ7_fill_fda19_0 : decode cJ7_fill_fda19 0 = .ok (.aload_n 0, 1) := by decide +kernel
theorem dJ7_fill_fda19_1 : decode cJ7_fill_fda19 1 = .ok (.arraylength, 1) := by decide +kernel
theorem dJ7_fill_fda19_2 : decode cJ7_fill_fda19 2 = .ok (.iload_n 1, 1) := by decide +kernel
theorem dJ7_fill_fda19_3 : decode cJ7_fill_fda19 3 = .ok (.iload_n 2, 1) := by decide +kernel
theorem dJ7_fill_fda19_4 : decode cJ7_fill_fda19 4 = .ok (.invokestatic 13, 3) := by decide +kernel
theorem dJ7_fill_fda19_7 : decode cJ7_fill_fda19 7 = .ok (.iload_n 1, 1) := by decide +kernel
theorem dJ7_fill_fda19_8 : decode cJ7_fill_fda19 8 = .ok (.istore 4, 2) := by decide +kernel
theorem dJ7_fill_fda19_10 : decode cJ7_fill_fda19 10 = .ok (.iload 4, 2) := by decide +kernel
theorem dJ7_fill_fda19_12 : decode cJ7_fill_fda19 12 = .ok (.iload_n 2, 1) := by decide +kernel
theorem dJ7_fill_fda19_13 : decode cJ7_fill_fda19 13 = .ok (.if_icmp .ge 14, 3) := by decide +kernel
theorem dJ7_fill_fda19_16 : decode cJ7_fill_fda19 16 = .ok (.aload_n 0, 1) := by decide +kernel
theorem dJ7_fill_fda19_17 : decode cJ7_fill_fda19 17 = .ok (.iload 4, 2) := by decide +kernel
theorem dJ7_fill_fda19_19 : decode cJ7_fill_fda19 19 = .ok (.iload_n 3, 1) := by decide +kernel
theorem dJ7_fill_fda19_20 : decode cJ7_fill_fda19 20 = .ok (.iastore, 1) := by decide +kernel
theorem dJ7_fill_fda19_21 : decode cJ7_fill_fda19 21 = .ok (.iinc 4 1, 3) := by decide +kernel
theorem dJ7_fill_fda19_24 : decode cJ7_fill_fda19 24 = .ok (.goto (-14), 3) := by decide +kernel
theorem dJ7_fill_fda19_27 : decode cJ7_fill_fda19 27 = .ok (.return_, 1) := by decide +kernel
def fJ7_fill_fda19_10 (k_10 : Int32 → Int32 → Int32 → Wd → Option Wd) (k0 n0 : Nat) (a2 : Int32) (a3 : Int32) (a4 : Int32) (w : Wd) : Option Wd :=
  if a2 ≤ a4 then (some w) else (if inb a4 n0 = true then lt (si w k0 (Int32.toNatClampNeg a4) a3) fun w3 => lt (a4 + 1) fun x4 => k_10 a2 a3 x4 w3 else none)
theorem pJ7_fill_fda19_10 {Γ : Gm} {l : Launch} {N : Option Value → Wd → Prop} {X : String → Wd → Prop} {w : Wd} {R : Wd} (hN : N none R) {k0 n0 : Nat} (hA0 : AR Γ k0 0 n0 .int) {k_10 : Int32 → Int32 → Int32 → Wd → Option Wd} (hk_10 : ∀ (a2 : Int32) (a3 : Int32) (a4 : Int32) (w : Wd), k_10 a2 a3 a4 w = some R → RT Γ l 1 yJ7_fill_fda19 cJ7_fill_fda19 5 (none) N X 10 [] [(0, .ref k0), (2, .int a2), (3, .int a3), (4, .int a4)] w) {a2 : Int32} {a3 : Int32} {a4 : Int32} (h : fJ7_fill_fda19_10 k_10 k0 n0 a2 a3 a4 w = some R) : RT Γ l 1 yJ7_fill_fda19 cJ7_fill_fda19 5 (none) N X 10 [] [(0, .ref k0), (2, .int a2), (3, .int a3), (4, .int a4)] w := by
  unfold fJ7_fill_fda19_10 at h
  refine r_iload (pc := 10) dJ7_fill_fda19_10 3 rfl ?_
  refine r_iload_n (pc := 12) dJ7_fill_fda19_12 rfl 1 rfl ?_
  refine r_icmp_ge (pc := 13) dJ7_fill_fda19_13 rfl (fun hc1 => ?_) (fun hc1 => ?_)
  · replace h := if_t hc1 h
    exact rO_v (pc := 27) rfl dJ7_fill_fda19_27 h hN
  replace h := if_f hc1 h
  refine r_aload_n (pc := 16) dJ7_fill_fda19_16 rfl 0 rfl ?_
  refine r_iload (pc := 17) dJ7_fill_fda19_17 3 rfl ?_
  refine r_iload_n (pc := 19) dJ7_fill_fda19_19 rfl 2 rfl ?_
  replace h := if_n h; obtain ⟨hb2, h⟩ := h
  replace h := lt_e h; obtain ⟨w3, ew3, h⟩ := h
  refine r_iast (pc := 20) hA0 (inb_in hb2) dJ7_fill_fda19_20 ?_
  refine r_w ew3 ?_
  replace h := lt_e h; obtain ⟨x4, ex4, h⟩ := h
  refine r_inc (pc := 21) (loc' := [(4, .int x4), (0, .ref k0), (2, .int a2), (3, .int a3)]) dJ7_fill_fda19_21 ki_1 ex4 3 rfl (Nat.le_of_ble_eq_true rfl) rfl ?_
  refine r_goto (pc := 24) dJ7_fill_fda19_24 rfl ?_
  refine r_drop (loc' := [(0, .ref k0), (2, .int a2), (3, .int a3), (4, .int x4)]) [1, 2, 3, 0] rfl ?_
  exact hk_10 a2 a3 x4 w3 h
def oJ7_fill_fda19_10 (k0 n0 : Nat) : Nat → Int32 → Int32 → Int32 → Wd → Option Wd
  | 0 => fun _ _ _ _ => none
  | n + 1 => fJ7_fill_fda19_10 (oJ7_fill_fda19_10 k0 n0 n) k0 n0
theorem qJ7_fill_fda19_10 {Γ : Gm} {l : Launch} {N : Option Value → Wd → Prop} {X : String → Wd → Prop} {R : Wd} (hN : N none R) {k0 n0 : Nat} (hA0 : AR Γ k0 0 n0 .int) : ∀ (n : Nat) (a2 : Int32) (a3 : Int32) (a4 : Int32) (w : Wd), oJ7_fill_fda19_10 k0 n0 n a2 a3 a4 w = some R → RT Γ l 1 yJ7_fill_fda19 cJ7_fill_fda19 5 (none) N X 10 [] [(0, .ref k0), (2, .int a2), (3, .int a3), (4, .int a4)] w := by
  intro n
  induction n with
  | zero =>
    intro a2 a3 a4 w h
    exact absurd h (fun q => nomatch q)
  | succ n ih =>
    intro a2 a3 a4 w h
    exact pJ7_fill_fda19_10 hN hA0 ih h
def fJ7_fill_fda19 (k0 n0 : Nat) (a1 : Int32) (a2 : Int32) (a3 : Int32) (w : Wd) : Option Wd :=
  bn (fJ7_rangeCheck_23922 (Int32.ofNat n0) a1 a2 w) fun w1 => oJ7_fill_fda19_10 k0 n0 FU a2 a3 a1 w1
theorem pJ7_fill_fda19 {Γ : Gm} {l : Launch} {N : Option Value → Wd → Prop} {X : String → Wd → Prop} {w : Wd} {R : Wd} (hN : N none R) {k0 n0 : Nat} (hA0 : AR Γ k0 0 n0 .int) {a1 : Int32} {a2 : Int32} {a3 : Int32} (h : fJ7_fill_fda19 k0 n0 a1 a2 a3 w = some R) : RT Γ l 1 yJ7_fill_fda19 cJ7_fill_fda19 5 (none) N X 0 [] [(0, .ref k0), (1, .int a1), (2, .int a2), (3, .int a3)] w := by
  unfold fJ7_fill_fda19 at h
  refine r_aload_n (pc := 0) dJ7_fill_fda19_0 rfl 0 rfl ?_
  refine r_alen (pc := 1) hA0 rfl dJ7_fill_fda19_1 ?_
  refine r_iload_n (pc := 2) dJ7_fill_fda19_2 rfl 1 rfl ?_
  refine r_iload_n (pc := 3) dJ7_fill_fda19_3 rfl 2 rfl ?_
  replace h := bn_e h; obtain ⟨w1, ew1, h⟩ := h
  refine r_cSv (pc := 4) wyJ7_rangeCheck_23922 mlRJ7_13 tyJ7_rangeCheck_23922 ⟨(Nat.le_of_ble_eq_true rfl), (Nat.le_of_ble_eq_true rfl)⟩ rfl rfl (Nat.le_of_ble_eq_true rfl) dJ7_fill_fda19_4 (mJ7_rangeCheck_23922 ew1 (pV.mk ?_))
  refine r_iload_n (pc := 7) dJ7_fill_fda19_7 rfl 1 rfl ?_
  refine r_istore (pc := 8) (loc' := [(4, .int a1), (0, .ref k0), (1, .int a1), (2, .int a2), (3, .int a3)]) dJ7_fill_fda19_8 (Nat.le_of_ble_eq_true rfl) rfl ?_
  refine r_drop (loc' := [(0, .ref k0), (2, .int a2), (3, .int a3), (4, .int a1)]) [1, 3, 4, 0] rfl ?_
  exact qJ7_fill_fda19_10 hN hA0 FU a2 a3 a1 w1 h
theorem mJ7_fill_fda19 {Γ : Gm} {l : Launch} {N : Option Value → Wd → Prop} {X : String → Wd → Prop} {k0 n0 : Nat} (hA0 : AR Γ k0 0 n0 .int) {a1 : Int32} {a2 : Int32} {a3 : Int32} {w : Wd} {u : Wd} (h : fJ7_fill_fda19 k0 n0 a1 a2 a3 w = some u) (hN : N none u) : Ct Γ l 1 yJ7_fill_fda19 cJ7_fill_fda19 5 (none) [.ref k0, .int a1, .int a2, .int a3] w N X := Ct.ofF (by decide +kernel) (Nat.le_of_ble_eq_true rfl) (pJ7_fill_fda19 hN hA0 h)
