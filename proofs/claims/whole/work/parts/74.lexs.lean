/-! LEXING: Int64 out of Nat; what the bytes say -/
theorem ti_lN {n : Nat} (h : n < 9223372036854775808) : (Int64.ofNat n).toInt = (n : Int) := Int64.toInt_ofNat_of_lt h
theorem lt_lN {a b : Nat} (ha : a < 9223372036854775808) (hb : b < 9223372036854775808) : (Int64.ofNat a < Int64.ofNat b) ↔ a < b := by
  rw [Int64.lt_iff_toInt_lt, ti_lN ha, ti_lN hb]
  omega
theorem le_lN {a b : Nat} (ha : a < 9223372036854775808) (hb : b < 9223372036854775808) : (Int64.ofNat a ≤ Int64.ofNat b) ↔ a ≤ b := by
  rw [Int64.le_iff_toInt_le, ti_lN ha, ti_lN hb]
  omega
theorem eq_lN {a b : Nat} (ha : a < 9223372036854775808) (hb : b < 9223372036854775808) : (Int64.ofNat a = Int64.ofNat b) ↔ a = b := by
  rw [← Int64.toInt_inj, ti_lN ha, ti_lN hb]
  omega
theorem add_lN (a b : Nat) : Int64.ofNat a + Int64.ofNat b = Int64.ofNat (a + b) := (Int64.ofNat_add a b).symm
theorem mul_lN (a b : Nat) : Int64.ofNat a * Int64.ofNat b = Int64.ofNat (a * b) := (Int64.ofNat_mul a b).symm
theorem mul_iN (a b : Nat) : Int32.ofNat a * Int32.ofNat b = Int32.ofNat (a * b) := (Int32.ofNat_mul a b).symm
theorem sub_lN {a b : Nat} (h : b ≤ a) (ha : a < 9223372036854775808) : Int64.ofNat a - Int64.ofNat b = Int64.ofNat (a - b) := by
  apply Int64.toInt_inj.mp
  rw [Int64.toInt_sub, ti_lN ha, ti_lN (by omega), ti_lN (by omega), Int.bmod_eq_of_le (by omega) (by omega)]
  omega
theorem div_lN {a b : Nat} (ha : a < 9223372036854775808) (hb : b < 9223372036854775808) : Int64.ofNat a / Int64.ofNat b = Int64.ofNat (a / b) := by
  apply Int64.toInt_inj.mp
  have h1 : a / b ≤ a := Nat.div_le_self a b
  rw [Int64.toInt_div, ti_lN ha, ti_lN hb, ← Int.ofNat_tdiv]
  generalize a / b = c at h1 ⊢
  rw [ti_lN (by omega), Int.bmod_eq_of_le (by omega) (by omega)]
theorem div_iN {a b : Nat} (ha : a < 2147483648) (hb : b < 2147483648) : Int32.ofNat a / Int32.ofNat b = Int32.ofNat (a / b) := by
  apply Int32.toInt_inj.mp
  have h1 : a / b ≤ a := Nat.div_le_self a b
  rw [Int32.toInt_div, ti_iN ha, ti_iN hb, ← Int.ofNat_tdiv]
  generalize a / b = c at h1 ⊢
  rw [ti_iN (by omega), Int.bmod_eq_of_le (by omega) (by omega)]
theorem mod_iN {a b : Nat} (ha : a < 2147483648) (hb : b < 2147483648) : Int32.ofNat a - Int32.ofNat a / Int32.ofNat b * Int32.ofNat b = Int32.ofNat (a % b) := by
  have h1 : a / b * b ≤ a := Nat.div_mul_le_self a b
  rw [div_iN ha hb, mul_iN, sub_iN h1 ha]
  congr 1
  have := Nat.mod_eq_sub_div_mul (x := a) (k := b)
  omega
theorem mod_lN {a b : Nat} (ha : a < 9223372036854775808) (hb : b < 9223372036854775808) : Int64.ofNat a - Int64.ofNat a / Int64.ofNat b * Int64.ofNat b = Int64.ofNat (a % b) := by
  have h1 : a / b * b ≤ a := Nat.div_mul_le_self a b
  rw [div_lN ha hb, mul_lN, sub_lN h1 ha]
  congr 1
  have := Nat.mod_eq_sub_div_mul (x := a) (k := b)
  omega
theorem toI_lN (n : Nat) : (Int64.ofNat n).toInt32 = Int32.ofNat n := Int64.toInt32_ofNat'
theorem toL_iN {n : Nat} (h : n < 2147483648) : (Int32.ofNat n).toInt64 = Int64.ofNat n := by
  apply Int64.toInt_inj.mp
  rw [Int32.toInt_toInt64, ti_iN h, ti_lN (by omega)]
theorem xor_lN {a b : Nat} (ha : a < 9223372036854775808) (hb : b < 9223372036854775808) : (0 : Int64) ≤ Int64.ofNat a ^^^ Int64.ofNat b := by
  have h : ∀ c : Nat, c < 9223372036854775808 → (Int64.ofNat c).toBitVec.msb = false := fun c hc => by
    have h1 : (Int64.ofNat c).toBitVec.toNat = c := by
      show (BitVec.ofNat 64 c).toNat = c
      rw [BitVec.toNat_ofNat]
      omega
    rw [BitVec.msb_eq_decide, h1]
    exact decide_eq_false (by omega)
  have h2 : (Int64.ofNat a ^^^ Int64.ofNat b).toBitVec.msb = false := by
    rw [Int64.toBitVec_xor, BitVec.msb_xor, h a ha, h b hb]
    rfl
  rw [Int64.le_iff_toInt_le]
  show (0 : Int) ≤ (Int64.ofNat a ^^^ Int64.ofNat b).toBitVec.toInt
  rw [BitVec.toInt_eq_toNat_of_msb h2]
  omega
/-- letters 1 to 26, digits 27 to 36, else 0 -/
def cdN (c : Nat) : Nat := if 97 ≤ c ∧ c ≤ 122 then c - 96 else if 48 ≤ c ∧ c ≤ 57 then c - 21 else 0
theorem cdN_le (c : Nat) : cdN c ≤ 36 := by unfold cdN; split; omega; split <;> omega
def nmS (B : Nat → Nat) (n fr : Nat) : Nat → Nat → Nat → Nat × Nat
  | 0, a, p => (a, p)
  | f + 1, a, p => if a < n ∧ cdN (B a) ≠ 0 then nmS B n fr f (a + 1) (if a - fr < 10 then p * 37 + cdN (B a) else p) else (a, p)
def dgS (B : Nat → Nat) (n : Nat) : Nat → Nat → Nat → Nat × Nat
  | 0, a, v => (a, v)
  | f + 1, a, v => if a < n ∧ 48 ≤ B a ∧ B a ≤ 57 then dgS B n f (a + 1) (v * 10 + (B a - 48)) else (a, v)
def pkL (l : List Nat) : Nat := l.foldl (fun p c => p * 37 + c) 0
/-- the words, packed -/
def wpk (k : Nat) : Nat := [4011517, 7367, 21400, 24100099350, 6200339320, 2810619, 57947148581973, 41299405, 22543520, 1361124262, 375861, 339, 1024211, 270401, 8787, 163, 989988, 40094248, 43523697, 1038484, 11312755, 1891, 573, 474278, 10261010, 19741, 5831, 18356, 30911189].getD k 0
/-- the word's number from 0 on, if it is one of the first m -/
def wdS (p : Nat) : Nat → Option Nat
  | 0 => none
  | m + 1 => match wdS p m with
    | some k => some k
    | none => if wpk m = p then some m else none
def sgS (c : Nat) : Nat := if c = 43 then 33 else if c = 45 then 34 else if c = 42 then 35 else if c = 94 then 36 else if c = 60 then 37 else if c = 61 then 38 else if c = 62 then 39 else if c = 44 then 40 else if c = 59 then 41 else if c = 58 then 42 else if c = 40 then 43 else if c = 41 then 44 else if c = 91 then 45 else if c = 93 then 46 else 1
def lgS (k d : Nat) : Nat := if d = 61 then (if k = 37 then 47 else if k = 39 then 48 else if k = 42 then 50 else k) else if k = 37 then (if d = 62 then 49 else k) else k
/-- the TOKEN that begins at a: its kind, value, and where the next byte is -/
def tkS (B : Nat → Nat) (n a : Nat) : Nat × Nat × Nat :=
  if 48 ≤ B a ∧ B a ≤ 57 then (if (dgS B n (n - a) a 0).2 < 34359738368 then 3 else 1, (dgS B n (n - a) a 0).2, (dgS B n (n - a) a 0).1)
  else if cdN (B a) ≠ 0 then
    (if 10 < (nmS B n a (n - a) a 0).1 - a then 1 else match wdS (nmS B n a (n - a) a 0).2 29 with | some k => 4 + k | none => 2, (nmS B n a (n - a) a 0).2, (nmS B n a (n - a) a 0).1)
  else if a + 1 < n ∧ lgS (sgS (B a)) (B (a + 1)) ≠ sgS (B a) then (lgS (sgS (B a)) (B (a + 1)), 0, a + 2) else (sgS (B a), 0, a + 1)
/-- all TOKENS from a on: kind, where, value -/
def tks (B : Nat → Nat) (n : Nat) : Nat → Nat → List (Nat × Nat × Nat)
  | 0, _ => []
  | f + 1, a => if a < n then (if B a = 32 ∨ B a = 10 then tks B n f (a + 1) else ((tkS B n a).1, a, (tkS B n a).2.1) :: tks B n f (tkS B n a).2.2) else []
theorem nmS_ge (B : Nat → Nat) (n fr : Nat) : ∀ (f a p : Nat), a ≤ (nmS B n fr f a p).1 := by
  intro f
  induction f with
  | zero => intro a p; exact Nat.le_refl _
  | succ f ih =>
    intro a p
    unfold nmS
    split
    · exact Nat.le_trans (by omega) (ih (a + 1) _)
    · exact Nat.le_refl _
theorem nmS_le (B : Nat → Nat) (n fr : Nat) : ∀ (f a p : Nat), a ≤ n → (nmS B n fr f a p).1 ≤ n := by
  intro f
  induction f with
  | zero => intro a p h; exact h
  | succ f ih =>
    intro a p h
    unfold nmS
    split
    · rename_i hc
      exact ih (a + 1) _ (by omega)
    · exact h
theorem dgS_ge (B : Nat → Nat) (n : Nat) : ∀ (f a v : Nat), a ≤ (dgS B n f a v).1 := by
  intro f
  induction f with
  | zero => intro a p; exact Nat.le_refl _
  | succ f ih =>
    intro a p
    unfold dgS
    split
    · exact Nat.le_trans (by omega) (ih (a + 1) _)
    · exact Nat.le_refl _
theorem dgS_le (B : Nat → Nat) (n : Nat) : ∀ (f a v : Nat), a ≤ n → (dgS B n f a v).1 ≤ n := by
  intro f
  induction f with
  | zero => intro a p h; exact h
  | succ f ih =>
    intro a p h
    unfold dgS
    split
    · rename_i hc
      exact ih (a + 1) _ (by omega)
    · exact h
theorem tkS_gt {B : Nat → Nat} {n a : Nat} (h : a < n) : a < (tkS B n a).2.2 := by
  unfold tkS
  obtain ⟨f, hf⟩ : ∃ f, n - a = f + 1 := ⟨n - a - 1, by omega⟩
  split
  · rename_i hc
    rw [hf]
    show a < (dgS B n (f + 1) a 0).1
    unfold dgS
    rw [if_pos ⟨h, hc⟩]
    exact dgS_ge B n f (a + 1) _
  · split
    · rename_i hc
      rw [hf]
      show a < (nmS B n a (f + 1) a 0).1
      unfold nmS
      rw [if_pos ⟨h, hc⟩]
      exact nmS_ge B n a f (a + 1) _
    · split
      · show a < a + 2; omega
      · show a < a + 1; omega
theorem tkS_le {B : Nat → Nat} {n a : Nat} (h : a < n) : (tkS B n a).2.2 ≤ n := by
  unfold tkS
  split
  · exact dgS_le B n _ a 0 (by omega)
  · split
    · exact nmS_le B n a _ a 0 (by omega)
    · split
      · show a + 2 ≤ n; omega
      · show a + 1 ≤ n; omega
/-- the packed name is below 37^10 -/
theorem nmS_pk (B : Nat → Nat) (n fr : Nat) : ∀ (f a p : Nat), fr ≤ a → p < 37 ^ (min (a - fr) 10) → (nmS B n fr f a p).2 < 37 ^ (min ((nmS B n fr f a p).1 - fr) 10) := by
  intro f
  induction f with
  | zero => intro a p _ h; exact h
  | succ f ih =>
    intro a p hfr h
    unfold nmS
    split
    · rename_i hc
      apply ih (a + 1) _ (by omega)
      by_cases h10 : a - fr < 10
      · rw [if_pos h10]
        rw [Nat.min_eq_left (by omega)] at h
        rw [Nat.min_eq_left (by omega), show a + 1 - fr = (a - fr) + 1 by omega, Nat.pow_succ]
        have := cdN_le (B a)
        omega
      · rw [if_neg h10]
        rw [Nat.min_eq_right (by omega)] at h ⊢
        exact h
    · exact h
theorem nmS_sm (B : Nat → Nat) (n f a : Nat) : (nmS B n a f a 0).2 < 4808584372417849 := by
  have h := nmS_pk B n a f a 0 (Nat.le_refl _) (by rw [Nat.sub_self]; exact Nat.zero_lt_one)
  exact Nat.lt_of_lt_of_le h (Nat.pow_le_pow_right (by omega) (Nat.min_le_right _ _))
/-- a name's packed value isn't 0 -/
theorem nmS_pos (B : Nat → Nat) (n fr : Nat) : ∀ (f a p : Nat), 0 < p → 0 < (nmS B n fr f a p).2 := by
  intro f
  induction f with
  | zero => intro a p h; exact h
  | succ f ih =>
    intro a p h
    unfold nmS
    split
    · apply ih
      split
      · omega
      · exact h
    · exact h
