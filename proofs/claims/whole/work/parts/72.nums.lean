/-! LEVEL 2: the two pure faces side by side. Numbers: Int32 out of Nat -/
theorem tc_iN {n : Nat} (h : n < 2147483648) : (Int32.ofNat n).toNatClampNeg = n := Int32.toNatClampNeg_ofNat_of_lt h
theorem ti_iN {n : Nat} (h : n < 2147483648) : (Int32.ofNat n).toInt = (n : Int) := Int32.toInt_ofNat_of_lt h
theorem nn_iN {n : Nat} (h : n < 2147483648) : ¬ Int32.ofNat n < 0 := by
  rw [Int32.lt_iff_toInt_lt, ti_iN h]
  have : (0 : Int32).toInt = 0 := rfl
  omega
theorem zl_iN {n : Nat} (h : n < 2147483648) : (0 : Int32) ≤ Int32.ofNat n := by
  rw [Int32.le_iff_toInt_le, ti_iN h]
  have : (0 : Int32).toInt = 0 := rfl
  omega
theorem lt_iN {a b : Nat} (ha : a < 2147483648) (hb : b < 2147483648) : (Int32.ofNat a < Int32.ofNat b) ↔ a < b := by
  rw [Int32.lt_iff_toInt_lt, ti_iN ha, ti_iN hb]
  omega
theorem le_iN {a b : Nat} (ha : a < 2147483648) (hb : b < 2147483648) : (Int32.ofNat a ≤ Int32.ofNat b) ↔ a ≤ b := by
  rw [Int32.le_iff_toInt_le, ti_iN ha, ti_iN hb]
  omega
theorem eq_iN {a b : Nat} (ha : a < 2147483648) (hb : b < 2147483648) : (Int32.ofNat a = Int32.ofNat b) ↔ a = b := by
  rw [← Int32.toInt_inj, ti_iN ha, ti_iN hb]
  omega
theorem add_iN (a b : Nat) : Int32.ofNat a + Int32.ofNat b = Int32.ofNat (a + b) := (Int32.ofNat_add a b).symm
theorem ad1_iN (a : Nat) : Int32.ofNat a + 1 = Int32.ofNat (a + 1) := add_iN a 1
theorem sub_iN {a b : Nat} (h : b ≤ a) (ha : a < 2147483648) : Int32.ofNat a - Int32.ofNat b = Int32.ofNat (a - b) := by
  apply Int32.toInt_inj.mp
  rw [Int32.toInt_sub, ti_iN ha, ti_iN (by omega), ti_iN (by omega), Int.bmod_eq_of_le (by omega) (by omega)]
  omega
theorem sb1_iN {a : Nat} (h : 1 ≤ a) (ha : a < 2147483648) : Int32.ofNat a - 1 = Int32.ofNat (a - 1) := sub_iN h ha
theorem inb_iN {n m : Nat} (h : n < m) (hm : m < 2147483648) : inb (Int32.ofNat n) m = true := by
  unfold inb
  rw [tc_iN (by omega)]
  simp only [Bool.and_eq_true, Bool.not_eq_true', decide_eq_false_iff_not, Nat.ble_eq]
  exact ⟨nn_iN (by omega), by omega⟩
theorem inb_iNn {n m : Nat} (h : m ≤ n) (hn : n < 2147483648) : inb (Int32.ofNat n) m = false := by
  unfold inb
  rw [tc_iN hn, Bool.and_eq_false_iff]
  refine Or.inr ?_
  cases hb : (n + 1).ble m with
  | false => rfl
  | true => exact absurd (Nat.le_of_ble_eq_true hb) (by omega)
/-- a number read as a Nat, if it isn't below nought -/
theorem of_nn {x : Int32} (h : ¬ x < 0) : ∃ n : Nat, n < 2147483648 ∧ x = Int32.ofNat n := by
  have h1 : 0 ≤ x.toInt := by
    have := mt Int32.lt_iff_toInt_lt.mpr h
    have h0 : (0 : Int32).toInt = 0 := rfl
    omega
  have h2 := Int32.toInt_lt x
  refine ⟨x.toInt.toNat, by omega, ?_⟩
  apply Int32.toInt_inj.mp
  rw [ti_iN (by omega)]
  omega
theorem gi_si0 (w : Wd) (k j : Nat) (v : Int32) : gi (si w k j v) k j = v := if_pos ⟨rfl, rfl⟩
theorem gi_si1 {w : Wd} {k j a b : Nat} {v : Int32} (h : ¬ (a = k ∧ b = j)) : gi (si w k j v) a b = gi w a b := if_neg h
theorem gl_sl0 (w : Wd) (k j : Nat) (v : Int64) : gl (sl w k j v) k j = v := if_pos ⟨rfl, rfl⟩
theorem gl_sl1 {w : Wd} {k j a b : Nat} {v : Int64} (h : ¬ (a = k ∧ b = j)) : gl (sl w k j v) a b = gl w a b := if_neg h
/-- two worlds that agree but where P says -/
def OFF (P : Nat → Nat → Prop) (u w : Wd) : Prop := ∀ k j, ¬ P k j → gi u k j = gi w k j ∧ gl u k j = gl w k j
theorem OFF.rf {P : Nat → Nat → Prop} {w : Wd} : OFF P w w := fun _ _ _ => ⟨rfl, rfl⟩
theorem OFF.tr {P : Nat → Nat → Prop} {u v w : Wd} (h : OFF P u v) (g : OFF P v w) : OFF P u w := fun k j hp => ⟨(h k j hp).1.trans (g k j hp).1, (h k j hp).2.trans (g k j hp).2⟩
theorem OFF.mono {P Q : Nat → Nat → Prop} {u w : Wd} (h : OFF P u w) (hPQ : ∀ k j, P k j → Q k j) : OFF Q u w := fun k j hq => h k j (fun hp => hq (hPQ k j hp))
theorem OFF.si {P : Nat → Nat → Prop} {w : Wd} {k j : Nat} {v : Int32} (h : P k j) : OFF P (si w k j v) w := fun a b hp => ⟨gi_si1 (fun e => hp (by rw [e.1, e.2]; exact h)), rfl⟩
theorem OFF.sl {P : Nat → Nat → Prop} {w : Wd} {k j : Nat} {v : Int64} (h : P k j) : OFF P (sl w k j v) w := fun a b hp => ⟨rfl, gl_sl1 (fun e => hp (by rw [e.1, e.2]; exact h))⟩
/-! bytes -/
def bA (v s : Int32) : Int32 := ((Int32.toUInt32 v >>> (Int32.toUInt32 s &&& Int32.toUInt32 31)).toInt32) &&& 255
def bM (v s : Int32) : Int32 := vp_nar .byte ((Int32.toInt8 (v >>> (s &&& 31))).toInt32)
theorem and255 (x : Int32) : ∃ b : Nat, b < 256 ∧ x &&& 255 = Int32.ofNat b := by
  refine ⟨(x.toBitVec &&& 255#32).toNat, ?_, ?_⟩
  · rw [BitVec.toNat_and]
    exact Nat.lt_of_le_of_lt Nat.and_le_right (by decide)
  · apply Int32.toBitVec_inj.mp
    apply BitVec.eq_of_toNat_eq
    simp
theorem b255 : ∀ i : Nat, i < 32 → 8 ≤ i → (255#32).getLsbD i = false := by decide
theorem bM_is (v s : Int32) (n : Nat) (hn : n ≤ 24) (h1 : (v >>> (s &&& 31)).toBitVec = v.toBitVec.sshiftRight n) (h2 : (Int32.toUInt32 v >>> (Int32.toUInt32 s &&& Int32.toUInt32 31)).toBitVec = v.toBitVec >>> n) : bM v s &&& 255 = bA v s := by
  apply Int32.toBitVec_inj.mp
  unfold bM bA vp_nar
  simp only [narrow]
  have e1 : ((Int32.toUInt32 v >>> (Int32.toUInt32 s &&& Int32.toUInt32 31)).toInt32).toBitVec = v.toBitVec >>> n := h2
  have e3 : ((v >>> (s &&& 31)).toInt8.toInt32.toInt8.toInt32).toBitVec = BitVec.signExtend 32 (BitVec.signExtend 8 (v.toBitVec.sshiftRight n)) := by
    rw [← h1]
    simp
  have e4 : (255 : Int32).toBitVec = 255#32 := rfl
  rw [Int32.toBitVec_and, Int32.toBitVec_and, e1, e3, e4]
  apply BitVec.eq_of_getLsbD_eq
  intro i hi
  rw [BitVec.getLsbD_and, BitVec.getLsbD_and]
  by_cases h8 : i < 8
  · congr 1
    have z1 : i < 32 := hi
    have z2 : n + i < 32 := by omega
    have z3 : ¬ 32 ≤ i := by omega
    simp only [BitVec.getLsbD_signExtend, BitVec.getLsbD_sshiftRight, BitVec.getLsbD_ushiftRight, if_pos h8, if_pos z2, decide_eq_true z1, decide_eq_true h8, decide_eq_false z3, Bool.true_and, Bool.not_false, if_pos z1]
  · rw [b255 i hi (by omega), Bool.and_false, Bool.and_false]
theorem bM_24 (v : Int32) : bM v 24 &&& 255 = bA v 24 := bM_is v 24 24 (by omega) rfl rfl
theorem bM_16 (v : Int32) : bM v 16 &&& 255 = bA v 16 := bM_is v 16 16 (by omega) rfl rfl
theorem bM_8 (v : Int32) : bM v 8 &&& 255 = bA v 8 := bM_is v 8 8 (by omega) rfl rfl
theorem bM_0 (v : Int32) : bM v 0 &&& 255 = bA v 0 := bM_is v 0 0 (by omega) rfl rfl
theorem sx8 : ∀ k : Nat, k < 256 → ((Int8.ofNat k).toInt32 &&& 255 = Int32.ofNat k) ∧ (k < 128 → (Int8.ofNat k).toInt32 = Int32.ofNat k) := by decide +kernel
theorem sx8_of (y : Int8) : ∃ b : Nat, b < 256 ∧ y.toInt32 &&& 255 = Int32.ofNat b ∧ (b < 128 → y.toInt32 = Int32.ofNat b) := by
  have hk : y = Int8.ofNat y.toBitVec.toNat := by
    apply Int8.toBitVec_inj.mp
    apply BitVec.eq_of_toNat_eq
    simp
  have hb : y.toBitVec.toNat < 256 := y.toBitVec.isLt
  refine ⟨y.toBitVec.toNat, hb, ?_, fun h => ?_⟩
  · rw [hk]
    have := (sx8 _ hb).1
    rw [← hk] at this ⊢
    exact this
  · have := (sx8 _ hb).2 h
    rw [← hk] at this
    exact this
theorem bM_sx (v s : Int32) : ∃ b : Nat, b < 256 ∧ bM v s &&& 255 = Int32.ofNat b ∧ (b < 128 → bM v s = Int32.ofNat b) := by
  have e : bM v s = (Int32.toInt8 (v >>> (s &&& 31))).toInt32.toInt8.toInt32 := by
    unfold bM vp_nar
    simp only [narrow]
  rw [e]
  exact sx8_of _
