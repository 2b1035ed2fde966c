/-! THE CLASS'S MACHINE: what a word does (1) -/
section M0
theorem tl_iN {n : Nat} : Int64.toInt32 (Int64.ofNat n) = Int32.ofNat n := by
  apply Int32.toBitVec_inj.mp
  rw [Int64.toBitVec_toInt32, BitVec.signExtend_eq_setWidth_of_le _ (by omega)]
  show BitVec.setWidth 32 (BitVec.ofNat 64 n) = BitVec.ofNat 32 n
  apply BitVec.eq_of_toNat_eq
  rw [BitVec.toNat_setWidth, BitVec.toNat_ofNat, BitVec.toNat_ofNat]
  omega
theorem ti64 {n : Nat} (h : n < 4611686018427387904) : (Int64.ofNat n).toInt = (n : Int) := Int64.toInt_ofNat_of_lt (by omega)
theorem lt64 {a b : Nat} (ha : a < 4611686018427387904) (hb : b < 4611686018427387904) : (Int64.ofNat a < Int64.ofNat b) ↔ a < b := by
  rw [Int64.lt_iff_toInt_lt, ti64 ha, ti64 hb]
  omega
theorem le64 {a b : Nat} (ha : a < 4611686018427387904) (hb : b < 4611686018427387904) : (Int64.ofNat a ≤ Int64.ofNat b) ↔ a ≤ b := by
  rw [Int64.le_iff_toInt_le, ti64 ha, ti64 hb]
  omega
theorem nn64 {a : Nat} (ha : a < 4611686018427387904) : ¬ (Int64.ofNat a < 0) := fun h => absurd ((lt64 (b := 0) ha (by omega)).mp h) (by omega)
theorem eq64 {a b : Nat} (ha : a < 4611686018427387904) (hb : b < 4611686018427387904) : (Int64.ofNat a = Int64.ofNat b) ↔ a = b :=
  ⟨fun h => by
    have := congrArg Int64.toInt h
    rw [ti64 ha, ti64 hb] at this
    omega, fun h => by rw [h]⟩
/-- the class's machine goes: code, next word, frame, top, height, depth, ELEMENTS -/
def CK (gA : Wd) (N a fr tp h dp el : Nat) (w : Wd) : Prop :=
  (gi w 48 8 = Int32.ofNat N ∧ N ≤ 36872 ∧ ∀ j, j < N → gl w 49 j = gl gA 41 j) ∧ gi w 48 10 = -2 ∧ gi w 48 11 = Int32.ofNat a ∧ gi w 48 12 = Int32.ofNat fr ∧ gi w 48 13 = Int32.ofNat tp ∧ gi w 48 14 = Int32.ofNat h ∧ gi w 48 15 = Int32.ofNat dp ∧ gi w 48 16 = Int32.ofNat el ∧ fr ≤ 109186 ∧ tp ≤ 109186 ∧ h ≤ 30622 ∧ dp ≤ 60 ∧ el ≤ 2000
/-- STEPS: allowed, taken; prints; the deepest depth; the most ELEMENTS -/
def TLY (al st pr de fu : Nat) (w : Wd) : Prop := gi w 48 17 = Int32.ofNat al ∧ gi w 56 4 = Int32.ofNat st ∧ gi w 56 3 = Int32.ofNat pr ∧ gi w 56 5 = Int32.ofNat de ∧ gi w 56 6 = Int32.ofNat fu ∧ gi w 56 7 = 0 ∧ st ≤ al ∧ al ≤ 20000 ∧ pr ≤ st ∧ de ≤ 60 ∧ fu ≤ 2000
/-- only the stack from h on, and what's next, changes -/
def PSK (h k j : Nat) : Prop := (k = 48 ∧ (j = 11 ∨ j = 14)) ∨ (k = 51 ∧ h ≤ j)
theorem PSK.le {h h' k j : Nat} (p : PSK h' k j) (q : h ≤ h') : PSK h k j := p.elim Or.inl (fun p => Or.inr ⟨p.1, by omega⟩)
variable {gA : Wd} {N a fr tp h dp el a1 fr1 tp1 h1 dp1 el1 al st pr de fu : Nat} {w u v : Wd}
theorem CK.nw (H : CK gA N a fr tp h dp el w) (hO : OFF (fun k j => (k = 48 ∧ 11 ≤ j ∧ j ≤ 16) ∨ 50 ≤ k) u w) (h11 : gi u 48 11 = Int32.ofNat a1) (h12 : gi u 48 12 = Int32.ofNat fr1) (h13 : gi u 48 13 = Int32.ofNat tp1) (h14 : gi u 48 14 = Int32.ofNat h1) (h15 : gi u 48 15 = Int32.ofNat dp1) (h16 : gi u 48 16 = Int32.ofNat el1) (hb : fr1 ≤ 109186 ∧ tp1 ≤ 109186 ∧ h1 ≤ 30622 ∧ dp1 ≤ 60 ∧ el1 ≤ 2000) : CK gA N a1 fr1 tp1 h1 dp1 el1 u := by
  obtain ⟨⟨c1, c2, c3⟩, c4, c5⟩ := H
  exact ⟨⟨(hO 48 8 (by omega)).1.trans c1, c2, fun j hj => (hO 49 j (by omega)).2.trans (c3 j hj)⟩, (hO 48 10 (by omega)).1.trans c4, h11, h12, h13, h14, h15, h16, hb.1, hb.2.1, hb.2.2.1, hb.2.2.2.1, hb.2.2.2.2⟩
/-- of a world that differs on the stack -/
theorem CK.ps (H : CK gA N a fr tp h dp el w) {h0 : Nat} (hO : OFF (PSK h0) u w) (h11 : gi u 48 11 = Int32.ofNat a1) (h14 : gi u 48 14 = Int32.ofNat h1) (hb : h1 ≤ 30622) : CK gA N a1 fr tp h1 dp el u := by
  obtain ⟨c0, c4, c5, c6, c7, c8, c9, c10, c11, c12, c13, c14, c15⟩ := H
  have e : ∀ j, j ≠ 11 → j ≠ 14 → gi u 48 j = gi w 48 j := fun j p q => (hO 48 j (by unfold PSK; omega)).1
  exact CK.nw ⟨c0, c4, c5, c6, c7, c8, c9, c10, c11, c12, c13, c14, c15⟩ (hO.mono fun k j p => by unfold PSK at p; omega) h11 ((e 12 (by omega) (by omega)).trans c6) ((e 13 (by omega) (by omega)).trans c7) h14 ((e 15 (by omega) (by omega)).trans c9) ((e 16 (by omega) (by omega)).trans c10) ⟨c11, c12, hb, c14, c15⟩
theorem TLY.off {Q : Nat → Nat → Prop} (H : TLY al st pr de fu w) (hO : OFF Q u w) (hQ : ∀ k j, Q k j → ¬ (k = 48 ∧ j = 17) ∧ k ≠ 56) : TLY al st pr de fu u := by
  obtain ⟨t1, t2, t3, t4, t5, t6, t7⟩ := H
  have e : ∀ j, gi u 56 j = gi w 56 j := fun j => (hO 56 j (fun p => (hQ _ _ p).2 rfl)).1
  exact ⟨(hO 48 17 (fun p => (hQ _ _ p).1 ⟨rfl, rfl⟩)).1.trans t1, (e 4).trans t2, (e 3).trans t3, (e 5).trans t4, (e 6).trans t5, (e 7).trans t6, t7⟩
theorem CK.word (H : CK gA N a fr tp h dp el w) {j : Nat} (hj : j < N) : fX3_wordAt (Int32.ofNat j) w = (gl gA 41 j, w) := by
  obtain ⟨⟨c1, c2, c3⟩, c4⟩ := H
  unfold fX3_wordAt
  rw [if_neg (nn_iN (by omega)), c1, if_pos ((lt_iN (by omega) (by omega)).mpr hj), ltq, rgl_iN (by omega) (by omega), c3 j hj]
theorem CK.read (H : CK gA N a fr tp h dp el w) {x : Nat} (hx : x < tp) : fX3_read (Int64.ofNat x) w = (gl w 50 x, w) := by
  obtain ⟨c0, c4, c5, c6, c7, c8, c9, c10, c11, c12, c13⟩ := H
  unfold fX3_read
  rw [if_neg (nn64 (by omega)), c7, i64_iN (by omega), if_pos ((lt64 (by omega) (by omega)).mpr hx), ltq, tl_iN, rgl_iN (by omega) (by omega)]
theorem CK.write (H : CK gA N a fr tp h dp el w) {x : Nat} (hx : x < tp) {v : Int64} : fX3_write (Int64.ofNat x) v w = sl w 50 x v := by
  obtain ⟨c0, c4, c5, c6, c7, c8, c9, c10, c11, c12, c13⟩ := H
  unfold fX3_write
  rw [if_neg (nn64 (by omega)), c7, i64_iN (by omega), if_pos ((lt64 (by omega) (by omega)).mpr hx), ltq, tl_iN, rsl_iN (by omega) (by omega)]
theorem push_ok (h14 : gi w 48 14 = Int32.ofNat h) (hh : h < 30622) {v : Int64} : fX3_push v w = si (sl w 51 h v) 48 14 (Int32.ofNat (h + 1)) := by
  unfold fX3_push
  rw [h14, if_pos (show Int32.ofNat h < 30622 from (lt_iN (a := h) (b := 30622) (by omega) (by omega)).mpr hh), rsl_iN hh (by omega), ltq, gi_sl, h14, ad1_iN, ltq]
theorem pop_ok (h14 : gi w 48 14 = Int32.ofNat (h + 1)) (hh : h < 30622) : fX3_pop w = (gl w 51 h, si w 48 14 (Int32.ofNat h)) := by
  unfold fX3_pop
  rw [h14, if_pos (show (0 : Int32) < Int32.ofNat (h + 1) from (lt_iN (a := 0) (b := h + 1) (by omega) (by omega)).mpr (by omega)), ltq, sb1_iN (by omega) (by omega), Nat.add_sub_cancel, ltq, gi_si0, rgl_iN hh (by omega), gl_si]
theorem tal_ok {j : Nat} (hj : 3 ≤ j) (hj7 : j ≤ 7) : fX3_tally (Int32.ofNat j) w = gi w 56 j := by
  unfold fX3_tally
  rw [if_neg (show ¬ (Int32.ofNat j < 3) from nlt_iN (a := j) (b := 3) (by omega) (by omega)), if_neg (show ¬ ((7 : Int32) < Int32.ofNat j) from nlt_iN (a := 7) (b := j) (by omega) (by omega)), ltq, rgi_iN (by omega) (by omega)]
/-- a word is taken apart -/
theorem tk_flow {x c : Nat} (H : CK gA N a fr tp h dp el w) (ha : a < N) (hw : gl gA 41 a = wdC (Int32.ofNat x) 0 (Int32.ofNat c)) (hx : 40 ≤ x ∧ x < 64) (hc : c < 4194304) : fX3_tick w = fX3_flow (Int32.ofNat x) (Int32.ofNat c) (si w 48 11 (Int32.ofNat (a + 1))) := by
  unfold fX3_tick fX0_what fX0_operand
  rw [H.2.2.1, H.word ha, lt2q, H.2.2.1, ad1_iN, ltq, ltq, ltq, hw, show wdC (Int32.ofNat x) 0 (Int32.ofNat c) = wdC (Int32.ofNat x) (Int32.ofNat 0) (Int32.ofNat c) from rfl, wdC_iN (by omega) (by omega) hc, wd_what (by omega) (by omega) hc, wd_op hc, if_pos (show (16 : Int32) ≤ Int32.ofNat x from (le_iN (a := 16) (b := x) (by omega) (by omega)).mpr (by omega)), if_pos (show (30 : Int32) ≤ Int32.ofNat x from (le_iN (a := 30) (b := x) (by omega) (by omega)).mpr (by omega)), if_pos (show (40 : Int32) ≤ Int32.ofNat x from (le_iN (a := 40) (b := x) (by omega) (by omega)).mpr (by omega))]
  cases fX3_flow (Int32.ofNat x) (Int32.ofNat c) (si w 48 11 (Int32.ofNat (a + 1))) <;> rfl
theorem tk_jump {x y c : Nat} (H : CK gA N a fr tp h dp el w) (ha : a < N) (hw : gl gA 41 a = wdC (Int32.ofNat x) (Int32.ofNat y) (Int32.ofNat c)) (hx : 30 ≤ x ∧ x < 40) (hy : y < 64) (hc : c < 4194304) : fX3_tick w = fX3_jump (Int32.ofNat x) (Int32.ofNat y) (Int32.ofNat c) (si w 48 11 (Int32.ofNat (a + 1))) := by
  unfold fX3_tick fX0_what fX0_operand fX0_hops
  rw [H.2.2.1, H.word ha, lt2q, H.2.2.1, ad1_iN, ltq, ltq, ltq, hw, wdC_iN (by omega) (by omega) hc, wd_what (by omega) (by omega) hc, wd_op hc, if_pos (show (16 : Int32) ≤ Int32.ofNat x from (le_iN (a := 16) (b := x) (by omega) (by omega)).mpr (by omega)), if_pos (show (30 : Int32) ≤ Int32.ofNat x from (le_iN (a := 30) (b := x) (by omega) (by omega)).mpr (by omega)), if_neg (show ¬ ((40 : Int32) ≤ Int32.ofNat x) from nle_iN (a := 40) (b := x) (by omega) (by omega)), ltq, wd_hops (by omega) hy hc]
  cases fX3_jump (Int32.ofNat x) (Int32.ofNat y) (Int32.ofNat c) (si w 48 11 (Int32.ofNat (a + 1))) <;> rfl
theorem tk_move {x y c : Nat} (H : CK gA N a fr tp h dp el w) (ha : a < N) (hw : gl gA 41 a = wdC (Int32.ofNat x) (Int32.ofNat y) (Int32.ofNat c)) (hx : 16 ≤ x ∧ x < 30) (hy : y < 64) (hc : c < 4194304) : fX3_tick w = fX3_move (Int32.ofNat x) (Int32.ofNat y) (Int32.ofNat c) (si w 48 11 (Int32.ofNat (a + 1))) := by
  unfold fX3_tick fX0_what fX0_operand fX0_hops
  rw [H.2.2.1, H.word ha, lt2q, H.2.2.1, ad1_iN, ltq, ltq, ltq, hw, wdC_iN (by omega) (by omega) hc, wd_what (by omega) (by omega) hc, wd_op hc, if_pos (show (16 : Int32) ≤ Int32.ofNat x from (le_iN (a := 16) (b := x) (by omega) (by omega)).mpr (by omega)), if_neg (show ¬ ((30 : Int32) ≤ Int32.ofNat x) from nle_iN (a := 30) (b := x) (by omega) (by omega)), ltq, wd_hops (by omega) hy hc]
  cases fX3_move (Int32.ofNat x) (Int32.ofNat y) (Int32.ofNat c) (si w 48 11 (Int32.ofNat (a + 1))) <;> rfl
theorem tk_calc {x : Nat} (H : CK gA N a fr tp (h + 2) dp el w) (ha : a < N) (hw : gl gA 41 a = wdC (Int32.ofNat x) 0 0) (hx : x < 16) : fX3_tick w = fX3_calculate (Int32.ofNat x) (gl w 51 h) (gl w 51 (h + 1)) (si (si (si w 48 11 (Int32.ofNat (a + 1))) 48 14 (Int32.ofNat (h + 1))) 48 14 (Int32.ofNat h)) := by
  have hb := H.2.2.2.2.2.2.2.2.2.2.1
  have h14 := H.2.2.2.2.2.1
  unfold fX3_tick fX0_what fX0_operand
  rw [H.2.2.1, H.word ha, lt2q, H.2.2.1, ad1_iN, ltq, ltq, ltq, hw, show wdC (Int32.ofNat x) 0 0 = wdC (Int32.ofNat x) (Int32.ofNat 0) (Int32.ofNat 0) from rfl, wdC_iN (by omega) (by omega) (by omega), wd_what (by omega) (by omega) (by omega), wd_op (by omega), if_neg (show ¬ ((16 : Int32) ≤ Int32.ofNat x) from nle_iN (a := 16) (b := x) (by omega) (by omega)), pop_ok (h := h + 1) (by rw [gi_si1 (by omega)]; exact h14) (by omega), lt2q, pop_ok (h := h) (gi_si0 _ _ _ _) (by omega), lt2q, gl_si, gl_si, gl_si]
  cases fX3_calculate (Int32.ofNat x) (gl w 51 h) (gl w 51 (h + 1)) (si (si (si w 48 11 (Int32.ofNat (a + 1))) 48 14 (Int32.ofNat (h + 1))) 48 14 (Int32.ofNat h)) <;> rfl
end M0
