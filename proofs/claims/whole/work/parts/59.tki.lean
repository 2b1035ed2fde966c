/-! TOKENS' MAKER: THE TABLE OF WORDS -/
theorem pgX9_isDigit {Γ : Gm} {l : Launch} {N : Option Value → Wd → Prop} {X : String → Wd → Prop} {w : Wd} {R : Bool} (hN : N (some (.int (b2i R))) w) {a0 : Int32} (h : fX9_isDigit a0 w = R) : RT Γ l 0 yX9_isDigit cX9_isDigit 1 ((some .boolean)) N X 0 [] [(0, .int a0)] w := by
  unfold fX9_isDigit at h
  refine r_iload_n (pc := 0) dX9_isDigit_0 rfl 0 rfl ?_
  refine r_bipush (pc := 1) dX9_isDigit_1 kb_48 ?_
  refine r_icmp_lt (pc := 3) dX9_isDigit_3 rfl (fun hc1 => ?_) (fun hc1 => ?_)
  · replace h := if_t hc1 h
    refine r_iconst (pc := 16) dX9_isDigit_16 ki_0 ?_
    exact rP_z (pc := 17) (x := false) rfl dX9_isDigit_17 h hN
  replace h := if_f hc1 h
  refine r_iload_n (pc := 6) dX9_isDigit_6 rfl 0 rfl ?_
  refine r_bipush (pc := 7) dX9_isDigit_7 kb_57 ?_
  refine r_icmp_gt (pc := 9) dX9_isDigit_9 rfl (fun hc2 => ?_) (fun hc2 => ?_)
  · replace h := if_t hc2 h
    refine r_iconst (pc := 16) dX9_isDigit_16 ki_0 ?_
    exact rP_z (pc := 17) (x := false) rfl dX9_isDigit_17 h hN
  replace h := if_f hc2 h
  refine r_iconst (pc := 12) dX9_isDigit_12 ki_1 ?_
  refine r_goto (pc := 13) dX9_isDigit_13 rfl ?_
  exact rP_z (pc := 17) (x := true) rfl dX9_isDigit_17 h hN
theorem mgX9_isDigit {Γ : Gm} {l : Launch} {N : Option Value → Wd → Prop} {X : String → Wd → Prop} {a0 : Int32} {w : Wd} {x : Bool} (h : fX9_isDigit a0 w = x) (hN : N (some (.int (b2i x))) w) : Ct Γ l 0 yX9_isDigit cX9_isDigit 1 ((some .boolean)) [.int a0] w N X := Ct.of (by decide) (Nat.le_of_ble_eq_true rfl) (pgX9_isDigit hN h)
theorem pgX9_code_19 {Γ : Gm} {l : Launch} {N : Option Value → Wd → Prop} {X : String → Wd → Prop} {w : Wd} {R : Int32} (hN : N (some (.int R)) w) {a0 : Int32} (h : fX9_code_19 a0 w = R) : RT Γ l 1 yX9_code cX9_code 1 ((some .int)) N X 19 [] [(0, .int a0)] w := by
  unfold fX9_code_19 at h
  refine r_iload_n (pc := 19) dX9_code_19 rfl 0 rfl ?_
  replace h := lt_e h; obtain ⟨x1, ex1, h⟩ := h
  refine r_cSi (pc := 20) wyX9_isDigit mlRX9_61 tyX9_isDigit ⟨(Nat.le_of_ble_eq_true rfl), (Nat.le_of_ble_eq_true rfl)⟩ rfl rfl (Nat.le_of_ble_eq_true rfl) dX9_code_20 (mgX9_isDigit ex1 (pI.mk ?_))
  refine r_z_eq (pc := 23) dX9_code_23 rfl (fun hc2 => ?_) (fun hc2 => ?_)
  · replace h := if_f hc2 h
    refine r_iconst (pc := 38) dX9_code_38 ki_0 ?_
    exact rP_i (pc := 39) rfl dX9_code_39 h hN
  replace h := if_t hc2 h
  refine r_iload_n (pc := 26) dX9_code_26 rfl 0 rfl ?_
  refine r_bipush (pc := 27) dX9_code_27 kb_48 ?_
  refine r_isub (pc := 29) dX9_code_29 ?_
  refine r_bipush (pc := 30) dX9_code_30 kb_26 ?_
  refine r_iadd (pc := 32) dX9_code_32 ?_
  refine r_iconst (pc := 33) dX9_code_33 ki_1 ?_
  refine r_iadd (pc := 34) dX9_code_34 ?_
  refine r_goto (pc := 35) dX9_code_35 rfl ?_
  exact rP_i (pc := 39) rfl dX9_code_39 h hN
theorem pgX9_code {Γ : Gm} {l : Launch} {N : Option Value → Wd → Prop} {X : String → Wd → Prop} {w : Wd} {R : Int32} (hN : N (some (.int R)) w) {a0 : Int32} (h : fX9_code a0 w = R) : RT Γ l 1 yX9_code cX9_code 1 ((some .int)) N X 0 [] [(0, .int a0)] w := by
  unfold fX9_code at h
  refine r_iload_n (pc := 0) dX9_code_0 rfl 0 rfl ?_
  refine r_bipush (pc := 1) dX9_code_1 kb_97 ?_
  refine r_icmp_lt (pc := 3) dX9_code_3 rfl (fun hc1 => ?_) (fun hc1 => ?_)
  · replace h := if_t hc1 h
    exact pgX9_code_19 hN h
  replace h := if_f hc1 h
  refine r_iload_n (pc := 6) dX9_code_6 rfl 0 rfl ?_
  refine r_bipush (pc := 7) dX9_code_7 kb_122 ?_
  refine r_icmp_gt (pc := 9) dX9_code_9 rfl (fun hc2 => ?_) (fun hc2 => ?_)
  · replace h := if_t hc2 h
    exact pgX9_code_19 hN h
  replace h := if_f hc2 h
  refine r_iload_n (pc := 12) dX9_code_12 rfl 0 rfl ?_
  refine r_bipush (pc := 13) dX9_code_13 kb_97 ?_
  refine r_isub (pc := 15) dX9_code_15 ?_
  refine r_iconst (pc := 16) dX9_code_16 ki_1 ?_
  refine r_iadd (pc := 17) dX9_code_17 ?_
  exact rP_i (pc := 18) rfl dX9_code_18 h hN
theorem mgX9_code {Γ : Gm} {l : Launch} {N : Option Value → Wd → Prop} {X : String → Wd → Prop} {a0 : Int32} {w : Wd} {x : Int32} (h : fX9_code a0 w = x) (hN : N (some (.int x)) w) : Ct Γ l 1 yX9_code cX9_code 1 ((some .int)) [.int a0] w N X := Ct.of (by decide) (Nat.le_of_ble_eq_true rfl) (pgX9_code hN h)
abbrev tA : List (Nat × Nat) := [(4, 7), (4, 6), (4, 5), (4, 4), (4, 3), (4, 2), (4, 1), (4, 0), (0, 0)]
/-- the letter at i -/
def wch1 (i : Int32) : Int32 := (((Int32.toUInt32 (sbf 30 (Int32.toNatClampNeg i) &&& 255)) % 65536).toInt32)
def tkl : Nat → Int32 → Int64 → Int32 → Wd → Option Wd
  | 0 => fun _ _ _ _ => none
  | n + 1 => fun a1 a2 a4 w => if 154 ≤ a4 then some w else if inb a4 154 = true then (if wch1 a4 = 32 then tkl n (a1 + 1) 0 (a4 + 1) (rsl w 11 33 a1 a2) else tkl n a1 (a2 * 37 + (fX9_code (wch1 a4) w).toInt64) (a4 + 1) w) else none
theorem stk30 {q : Gq} {F : Nat → Prop} {nz : Bool} (hE : ∀ (U : State) (H : Heap), q.2.2.2 U H → EB F q.2.2.1 nz U H) {ad : Nat → Nat} {n : Nat} {A : List (Nat × Nat)} (hhi : ∀ k, 600 ≤ k → ad k = bhi (gbA q F) k) (hAF : ∀ z, gAw (gsA (gbA q F) ad n A) z → F z) : STK (gsA (gbA q F) ad n A) F 701 1701 154 (sbf 30) := stk_of (Γ := gsA (gbA q F) ad n A) (hi := q.2.2.1) (i := 30) (fun U H h => hE U H h.1) hAF hhi (by omega)
theorem chr_ok9 {j : Int32} {w : Wd} (hj : inb j 154 = true) : fJ0_charAt_5068e 154 (sbf 30) j w = some (wch1 j, w) := by
  have hl : fJ0_isLatin1_aae02 154 (sbf 30) = true := rfl
  obtain ⟨h1, h2⟩ := inb_lt hj
  have h3 : j < Int32.ofNat 154 := by
    apply Int32.lt_iff_toInt_lt.mpr
    rw [Int32.toInt_ofNat_of_lt (by omega)]
    have e := mt Int32.lt_iff_toInt_lt.mpr h2
    have z : (0 : Int32).toInt = 0 := rfl
    have h6 : j.toNatClampNeg = j.toInt.toNat := rfl
    rw [z] at e
    omega
  unfold fJ0_charAt_5068e fJ1_charAt_3b067 fJ0_checkIndex_df160 lt
  dsimp only
  rw [if_pos hl, if_pos ⟨h2, h3⟩]
  show bn2 (if inb j 154 = true then _ else none) _ = _
  rw [if_pos hj]
  rfl
theorem tk_loop {q : Gq} {F : Nat → Prop} {l : Launch} {nz : Bool} (hE : ∀ (U : State) (H : Heap), q.2.2.2 U H → EB F q.2.2.1 nz U H) {ad0 : Nat → Nat} {w1 : Wd} : ∀ (n : Nat) (a1 : Int32) (a2 : Int64) (a4 : Int32) (w : Wd), tkl n a1 a2 a4 w = some w1 → RC (gbA q F) ad0 5 13 tA w1 l 10 8 57383 yX9_init cX9_init 5 13 tA 8 57383 82 [] [(0, .ref 4), (1, .int a1), (2, .long a2), (4, .int a4)] w := by
  intro n
  induction n with
  | zero => intro a1 a2 a4 w h; exact absurd h (fun z => nomatch z)
  | succ n ih =>
    intro a1 a2 a4 w h
    replace h : (if 154 ≤ a4 then some w else if inb a4 154 = true then (if wch1 a4 = 32 then tkl n (a1 + 1) 0 (a4 + 1) (rsl w 11 33 a1 a2) else tkl n a1 (a2 * 37 + (fX9_code (wch1 a4) w).toInt64) (a4 + 1) w) else none) = some w1 := h
    refine c_iload (pc := 82) dX9_init_82 3 rfl ?_
    refine c_ldcS (pc := 84) (by omega) (fun U H h => (hE U H h.1).2.2.2.2.2.2.1) dX9_init_84 ?_
    refine c_callX (pc := 86) (rest := [.int a4]) (av := []) (N9 := fun v u => v = some (.int 154) ∧ u = w) wyJ0_length_8abf5 (fun ad hh U H h => by rw [hh 701 (by omega)]; exact ((hE U H h.1).2.1 30 (by omega)).1) rfl mlRX9_39 iyJ0_length_8abf5 syJ0_length_8abf5 ⟨(Nat.le_of_ble_eq_true rfl), (Nat.le_of_ble_eq_true rfl)⟩ rfl rfl (Nat.le_of_ble_eq_true rfl) ⟨(Nat.le_of_ble_eq_true rfl), (Nat.le_of_ble_eq_true rfl)⟩ dX9_init_86 (fun ad hh hA => mJ0_length_8abf5 (stk30 hE hh hA) (len_ok (by decide)) ⟨rfl, rfl⟩) (fun v u hv => ?_)
    obtain ⟨rfl, rfl⟩ := hv
    show RC (gbA q F) ad0 5 13 tA w1 l 10 8 57383 yX9_init cX9_init 5 13 tA 8 57383 89 (.int 154 :: [.int a4]) [(0, .ref 4), (1, .int a1), (2, .long a2), (4, .int a4)] u
    refine c_icmp_ge (pc := 89) dX9_init_89 rfl (fun hc => ?_) (fun hc => ?_)
    · replace h := if_t hc h
      exact c_ret (pc := 145) dX9_init_145 rfl rfl (Option.some.inj h) (Nat.le_of_ble_eq_true rfl) (Nat.le_of_ble_eq_true rfl)
    replace h := if_f hc h
    obtain ⟨hb, h⟩ := if_n h
    refine c_ldcS (pc := 92) (by omega) (fun U H h => (hE U H h.1).2.2.2.2.2.2.1) dX9_init_92 ?_
    refine c_iload (pc := 94) dX9_init_94 3 rfl ?_
    refine c_callX (pc := 96) (rest := []) (av := [.int a4]) (N9 := fun v z => v = some (.int (wch1 a4)) ∧ z = u) wyJ0_charAt_5068e (fun ad hh U H h => by rw [hh 701 (by omega)]; exact ((hE U H h.1).2.1 30 (by omega)).1) rfl mlRX9_45 iyJ0_charAt_5068e syJ0_charAt_5068e ⟨(Nat.le_of_ble_eq_true rfl), (Nat.le_of_ble_eq_true rfl)⟩ rfl rfl (Nat.le_of_ble_eq_true rfl) ⟨(Nat.le_of_ble_eq_true rfl), (Nat.le_of_ble_eq_true rfl)⟩ dX9_init_96 (fun ad hh hA => mJ0_charAt_5068e (stk30 hE hh hA) (chr_ok9 hb) ⟨rfl, rfl⟩) (fun v z hv => ?_)
    obtain ⟨rfl, rfl⟩ := hv
    show RC (gbA q F) ad0 5 13 tA w1 l 10 8 57383 yX9_init cX9_init 5 13 tA 8 57383 99 (.int (wch1 a4) :: []) [(0, .ref 4), (1, .int a1), (2, .long a2), (4, .int a4)] z
    refine c_bipush (pc := 99) dX9_init_99 kb_32 ?_
    refine c_icmp_ne (pc := 101) dX9_init_101 rfl (fun hc2 => ?_) (fun hc2 => ?_)
    · replace h := if_f hc2 h
      refine c_lload_n (pc := 121) dX9_init_121 rfl 2 rfl ?_
      refine c_ldc2 (pc := 122) dX9_init_122 kcRX9_55 ?_
      refine c_lmul (pc := 125) dX9_init_125 ?_
      refine c_ldcS (pc := 126) (by omega) (fun U H h => (hE U H h.1).2.2.2.2.2.2.1) dX9_init_126 ?_
      refine c_iload (pc := 128) dX9_init_128 3 rfl ?_
      refine c_callX (pc := 130) (rest := [.long (a2 * 37)]) (av := [.int a4]) (N9 := fun v y => v = some (.int (wch1 a4)) ∧ y = z) wyJ0_charAt_5068e (fun ad hh U H h => by rw [hh 701 (by omega)]; exact ((hE U H h.1).2.1 30 (by omega)).1) rfl mlRX9_45 iyJ0_charAt_5068e syJ0_charAt_5068e ⟨(Nat.le_of_ble_eq_true rfl), (Nat.le_of_ble_eq_true rfl)⟩ rfl rfl (Nat.le_of_ble_eq_true rfl) ⟨(Nat.le_of_ble_eq_true rfl), (Nat.le_of_ble_eq_true rfl)⟩ dX9_init_130 (fun ad hh hA => mJ0_charAt_5068e (stk30 hE hh hA) (chr_ok9 hb) ⟨rfl, rfl⟩) (fun v y hv => ?_)
      obtain ⟨rfl, rfl⟩ := hv
      show RC (gbA q F) ad0 5 13 tA w1 l 10 8 57383 yX9_init cX9_init 5 13 tA 8 57383 133 (.int (wch1 a4) :: [.long (a2 * 37)]) [(0, .ref 4), (1, .int a1), (2, .long a2), (4, .int a4)] y
      refine c_callS (pc := 133) (rest := [.long (a2 * 37)]) (av := [.int (wch1 a4)]) (N9 := fun v x => v = some (.int (fX9_code (wch1 a4) y)) ∧ x = y) wyX9_code mlRX9_57 tyX9_code ⟨(Nat.le_of_ble_eq_true rfl), (Nat.le_of_ble_eq_true rfl)⟩ rfl rfl (Nat.le_of_ble_eq_true rfl) ⟨(Nat.le_of_ble_eq_true rfl), (Nat.le_of_ble_eq_true rfl)⟩ dX9_init_133 (fun ad => mgX9_code rfl ⟨rfl, rfl⟩) (fun v x hv => ?_)
      obtain ⟨rfl, rfl⟩ := hv
      show RC (gbA q F) ad0 5 13 tA w1 l 10 8 57383 yX9_init cX9_init 5 13 tA 8 57383 136 (.int (fX9_code (wch1 a4) x) :: [.long (a2 * 37)]) [(0, .ref 4), (1, .int a1), (2, .long a2), (4, .int a4)] x
      refine c_i2l (pc := 136) dX9_init_136 ?_
      refine c_ladd (pc := 137) dX9_init_137 ?_
      refine c_lstore_n (pc := 138) (loc' := [(2, .long (a2 * 37 + (fX9_code (wch1 a4) x).toInt64)), (0, .ref 4), (1, .int a1), (4, .int a4)]) dX9_init_138 rfl (Nat.le_of_ble_eq_true rfl) rfl ?_
      refine c_inc (pc := 139) (loc' := [(4, .int (a4 + 1)), (2, .long (a2 * 37 + (fX9_code (wch1 a4) x).toInt64)), (0, .ref 4), (1, .int a1)]) dX9_init_139 ki_1 rfl 3 rfl (Nat.le_of_ble_eq_true rfl) rfl ?_
      refine c_goto (pc := 142) dX9_init_142 rfl ?_
      refine c_drop (loc' := [(0, .ref 4), (1, .int a1), (2, .long (a2 * 37 + (fX9_code (wch1 a4) x).toInt64)), (4, .int (a4 + 1))]) [2, 3, 1, 0] rfl ?_
      exact ih _ _ _ _ h
    replace h := if_t hc2 h
    refine c_aload_n (pc := 104) dX9_init_104 rfl 0 rfl ?_
    refine c_get (pc := 105) (j := 6) (v := .ref 11) (fs := [some 5, some 6, some 7, some 8, some 9, some 10, some 11, some 12, none, none, none]) (fun ad => ⟨(Nat.le_of_ble_eq_true rfl), rfl, rfl, rfl⟩) cf9 flRX9_31 rfl dX9_init_105 rfl ?_
    refine c_iload_n (pc := 108) dX9_init_108 rfl 1 rfl ?_
    refine c_lload_n (pc := 109) dX9_init_109 rfl 2 rfl ?_
    refine c_callS (pc := 110) (rest := []) (av := [.ref 11, .int a1, .long a2]) (N9 := fun v x => v = none ∧ x = rsl z 11 33 a1 a2) wyX6_set_ mlRX9_49 tyX6_set_ ⟨(Nat.le_of_ble_eq_true rfl), (Nat.le_of_ble_eq_true rfl)⟩ rfl rfl (Nat.le_of_ble_eq_true rfl) ⟨(Nat.le_of_ble_eq_true rfl), (Nat.le_of_ble_eq_true rfl)⟩ dX9_init_110 (fun ad => mX6_set_ ⟨(Nat.le_of_ble_eq_true rfl), rfl, rfl⟩ (Nat.le_of_ble_eq_true rfl) rfl ⟨rfl, rfl⟩) (fun v x hv => ?_)
    obtain ⟨rfl, rfl⟩ := hv
    show RC (gbA q F) ad0 5 13 tA w1 l 10 8 57383 yX9_init cX9_init 5 13 tA 8 57383 113 [] [(0, .ref 4), (1, .int a1), (2, .long a2), (4, .int a4)] (rsl z 11 33 a1 a2)
    refine c_inc (pc := 113) (loc' := [(1, .int (a1 + 1)), (0, .ref 4), (2, .long a2), (4, .int a4)]) dX9_init_113 ki_1 rfl 1 rfl (Nat.le_of_ble_eq_true rfl) rfl ?_
    refine c_lconst (pc := 116) dX9_init_116 kl_0 ?_
    refine c_lstore_n (pc := 117) (loc' := [(2, .long 0), (1, .int (a1 + 1)), (0, .ref 4), (4, .int a4)]) dX9_init_117 rfl (Nat.le_of_ble_eq_true rfl) rfl ?_
    refine c_goto (pc := 118) dX9_init_118 rfl ?_
    refine c_inc (pc := 139) (loc' := [(4, .int (a4 + 1)), (2, .long 0), (1, .int (a1 + 1)), (0, .ref 4)]) dX9_init_139 ki_1 rfl 3 rfl (Nat.le_of_ble_eq_true rfl) rfl ?_
    refine c_goto (pc := 142) dX9_init_142 rfl ?_
    refine c_drop (loc' := [(0, .ref 4), (1, .int (a1 + 1)), (2, .long 0), (4, .int (a4 + 1))]) [3, 2, 1, 0] rfl ?_
    exact ih _ _ _ _ h
