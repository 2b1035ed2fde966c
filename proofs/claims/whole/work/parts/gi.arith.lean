/-! BOTH MACHINES: reckoning -/
section AR
variable {gA gM : Wd} {h sp : Nat} {w u v y : Wd}
/-- to 36 bits -/
def wr36 (v : Int64) : Int64 := (v <<< (Int32.toInt64 28 &&& 63)) >>> (Int32.toInt64 28 &&& 63)
def R36 (v : Int64) : Prop := -34359738368 ≤ v.toInt ∧ v.toInt < 34359738368
theorem wr36_r (v : Int64) : R36 (wr36 v) := by
  have e28 : (BitVec.smod (Int32.toInt64 28 &&& 63).toBitVec 64) = 28#64 := by decide
  have h : (wr36 v).toInt = (v.toBitVec <<< 28#64).toInt / 2 ^ 28 := by
    show (wr36 v).toBitVec.toInt = _
    unfold wr36
    rw [Int64.toBitVec_shiftRight, Int64.toBitVec_shiftLeft, e28]
    show ((v.toBitVec <<< 28#64).sshiftRight (28#64).toNat).toInt = _
    rw [BitVec.toInt_sshiftRight, Int.shiftRight_eq_div_pow]
    rfl
  have h1 := BitVec.toInt_lt (x := v.toBitVec <<< 28#64)
  have h2 := BitVec.le_toInt (v.toBitVec <<< 28#64)
  unfold R36
  rw [h]
  omega
theorem R36.nat {n : Nat} (h : n < 34359738368) : R36 (Int64.ofNat n) := by
  unfold R36
  rw [ti64 (by omega)]
  omega
theorem shr64 {n i : Nat} (hn : n < 4611686018427387904) (hi : i < 63) : Int64.ofNat n >>> (Int32.toInt64 (Int32.ofNat i) &&& 63) = Int64.ofNat (n / 2 ^ i) := by
  apply Int64.toBitVec_inj.mp
  rw [i64_iN (by omega), Int64.toBitVec_shiftRight]
  have e : (BitVec.smod (Int64.ofNat i &&& 63).toBitVec 64) = BitVec.ofNat 64 i := by
    have : ∀ j : Fin 63, (BitVec.smod (Int64.ofNat j.val &&& 63).toBitVec 64) = BitVec.ofNat 64 j.val := by decide +kernel
    exact this ⟨i, hi⟩
  rw [e]
  show (BitVec.ofNat 64 n).sshiftRight (BitVec.ofNat 64 i).toNat = BitVec.ofNat 64 (n / 2 ^ i)
  have hm : (BitVec.ofNat 64 n).msb = false := by
    rw [BitVec.msb_eq_decide, BitVec.toNat_ofNat, Nat.mod_eq_of_lt (by omega)]
    simp
    omega
  rw [BitVec.sshiftRight_eq_of_msb_false hm]
  apply BitVec.eq_of_toNat_eq
  have h2 : n / 2 ^ i ≤ n := Nat.div_le_self _ _
  rw [BitVec.toNat_ushiftRight, BitVec.toNat_ofNat, BitVec.toNat_ofNat, BitVec.toNat_ofNat, Nat.shiftRight_eq_div_pow, Nat.mod_eq_of_lt (show n < 2 ^ 64 by omega), Nat.mod_eq_of_lt (show i < 2 ^ 64 by omega), Nat.mod_eq_of_lt (show n / 2 ^ i < 2 ^ 64 by omega)]
theorem and164 {n : Nat} (hn : n < 4611686018427387904) : Int64.ofNat n &&& 1 = Int64.ofNat (n % 2) := by
  apply Int64.toBitVec_inj.mp
  show BitVec.ofNat 64 n &&& 1#64 = BitVec.ofNat 64 (n % 2)
  apply BitVec.eq_of_toNat_eq
  rw [BitVec.toNat_and, BitVec.toNat_ofNat, BitVec.toNat_ofNat, BitVec.toNat_ofNat, show (1 % 2 ^ 64) = 2 ^ 1 - 1 by decide, Nat.and_two_pow_sub_one_eq_mod]
  omega
/-- raising by squares: bits of n -/
def pw36 : Nat → Nat → Int64 → Int64 → Int64
  | 0, _, p, _ => p
  | k + 1, n, p, f => pw36 k (n / 2) (if n % 2 = 1 then wr36 (p * f) else p) (wr36 (f * f))
theorem pw36_0 : ∀ (k : Nat) (p f : Int64), pw36 k 0 p f = p := by
  intro k
  induction k with
  | zero => exact fun _ _ => rfl
  | succ k ih => exact fun p f => ih p _
theorem pw36_r : ∀ (k n : Nat) (p f : Int64), R36 p → R36 (pw36 k n p f) := by
  intro k
  induction k with
  | zero => exact fun _ _ _ h => h
  | succ k ih =>
    intro n p f h
    refine ih _ _ _ ?_
    split
    · exact wr36_r _
    · exact h
theorem raiA (h14 : gi y 48 14 = Int32.ofNat h) (hh : h < 30622) {n : Nat} (hn : n < 68719476736) : ∀ (r i fo : Nat) (p f : Int64), i + r = 36 → oX3_raise_21 (fo + r + 1) (Int64.ofNat n) p f (Int32.ofNat i) y = some (pshQ y h (pw36 r (n / 2 ^ i) p f)) := by
  intro r
  induction r with
  | zero =>
    intro i fo p f hi
    show fX3_raise_21 _ _ _ _ _ _ = _
    unfold fX3_raise_21
    rw [if_pos (show (36 : Int32) ≤ Int32.ofNat i from (le_iN (a := 36) (by omega) (by omega)).mpr (by omega)), push_ok h14 hh, ltq]
    rfl
  | succ r ih =>
    intro i fo p f hi
    have h2 : n / 2 ^ i ≤ n := Nat.div_le_self _ _
    have e2 : n / 2 ^ i / 2 = n / 2 ^ (i + 1) := by rw [Nat.div_div_eq_div_mul, Nat.pow_succ]
    show fX3_raise_21 (oX3_raise_21 (fo + r + 1)) _ _ _ _ _ = _
    unfold fX3_raise_21
    rw [if_neg (show ¬ ((36 : Int32) ≤ Int32.ofNat i) from nle_iN (a := 36) (by omega) (by omega)), shr64 (by omega) (by omega), and164 (by omega)]
    show _ = some (pshQ y h (pw36 r (n / 2 ^ i / 2) (if n / 2 ^ i % 2 = 1 then wr36 (p * f) else p) (wr36 (f * f))))
    rw [e2]
    by_cases q : n / 2 ^ i % 2 = 1
    · rw [q, if_neg (show ¬ (Int64.ofNat 1 = 0) by decide), ltq, ltq, ad1_iN, ltq, if_pos rfl]
      exact ih (i + 1) fo _ _ (by omega)
    · rw [show n / 2 ^ i % 2 = 0 by omega, if_pos (show Int64.ofNat 0 = 0 from rfl), ltq, ad1_iN, ltq, if_neg (show ¬ (0 = 1) by decide)]
      exact ih (i + 1) fo _ _ (by omega)
theorem raiM (h130 : gi w 0 130 = Int32.ofNat sp) (hs : sp < 200000) : ∀ (r n fo : Nat) (p f : Int64), n < 2 ^ r → r ≤ 40 → oX12_power_21 (fo + r + 1) p f (Int64.ofNat n) w = some (pshM w sp (pw36 r n p f)) := by
  intro r
  induction r with
  | zero =>
    intro n fo p f hn hr
    have hn : n = 0 := by omega
    subst hn
    show fX12_power_21 _ _ _ _ _ = _
    unfold fX12_power_21
    rw [if_pos (show Int64.ofNat 0 ≤ 0 by decide), pushM h130 hs, bn_so]
    rfl
  | succ r ih =>
    intro n fo p f hn hr
    have hp : 2 ^ (r + 1) ≤ 2 ^ 40 := Nat.pow_le_pow_right (by omega) hr
    have hp40 : (2 : Nat) ^ 40 = 1099511627776 := by decide
    show fX12_power_21 (oX12_power_21 (fo + r + 1)) _ _ _ _ = _
    unfold fX12_power_21
    by_cases q0 : n = 0
    · subst q0
      rw [if_pos (show Int64.ofNat 0 ≤ 0 by decide), pushM h130 hs, bn_so, pw36_0]
    · rw [if_neg (show ¬ (Int64.ofNat n ≤ 0) from fun hh => absurd ((le64 (b := 0) (by omega) (by omega)).mp hh) (by omega)), and164 (by omega)]
      have h47 : ∀ p', fX12_power_47 (oX12_power_21 (fo + r + 1)) p' f (Int64.ofNat n) w = some (pshM w sp (pw36 r (n / 2) p' (wr36 (f * f)))) := fun p' => by
        unfold fX12_power_47
        rw [ltq, show (1 : Int32) = Int32.ofNat 1 from rfl, shr64 (by omega) (by omega), ltq, Nat.pow_one]
        have h2 : n / 2 < 2 ^ r := by
          rw [Nat.pow_succ] at hn
          omega
        exact ih (n / 2) fo p' _ h2 (by omega)
      show _ = some (pshM w sp (pw36 r (n / 2) (if n % 2 = 1 then wr36 (p * f) else p) (wr36 (f * f))))
      by_cases q : n % 2 = 1
      · rw [q, if_neg (show ¬ (Int64.ofNat 1 = 0) by decide), ltq, if_pos rfl]
        exact h47 _
      · rw [show n % 2 = 0 by omega, if_pos (show Int64.ofNat 0 = 0 from rfl), if_neg (show ¬ (0 = 1) by decide)]
        exact h47 _
/-- two operands to one; none: a fault of the RUN -/
def twP (sg : Nat) (p q : Int64) : Prop := if sg = 25 then p ≠ 0 ∧ q ≠ 0 else if sg = 26 then p ≠ 0 ∨ q ≠ 0 else if sg = 27 then p = 0 ∨ q ≠ 0 else if sg = 37 then p < q else if sg = 39 then q < p else if sg = 47 then p ≤ q else if sg = 48 then q ≤ p else if sg = 49 then p ≠ q else p = q
noncomputable def twR (sg : Nat) (p q : Int64) : Option Int64 :=
  if sg = 33 then some (wr36 (p + q)) else if sg = 34 then some (wr36 (p - q)) else if sg = 35 then some (wr36 (p * q)) else if sg = 30 then (if q = 0 then none else some (wr36 (p / q))) else if sg = 31 then (if q = 0 then none else some (wr36 (p - p / q * q)))
  else if sg = 36 then (if 0 ≤ q then some (pw36 36 q.toInt.toNat 1 p) else none)
  else some (@ite _ (twP sg p q) (Classical.propDecidable _) 1 0)
/-- signs for two -/
def SG2 (sg : Nat) : Prop := sg = 25 ∨ sg = 26 ∨ sg = 27 ∨ sg = 28 ∨ sg = 30 ∨ sg = 31 ∨ sg = 33 ∨ sg = 34 ∨ sg = 35 ∨ sg = 36 ∨ sg = 37 ∨ sg = 38 ∨ sg = 39 ∨ sg = 47 ∨ sg = 48 ∨ sg = 49
theorem sg2_stb {sg : Nat} (h : stb sg ≠ 0) (h9 : sg ≤ 50) : SG2 sg := by
  have : ∀ k : Fin 51, stb k.val ≠ 0 → SG2 k.val := by
    unfold SG2
    decide +kernel
  exact this ⟨sg, by omega⟩ h
theorem nl64 {x y : Int64} : ¬ x < y ↔ y ≤ x := by rw [Int64.le_iff_toInt_le, Int64.lt_iff_toInt_lt]; omega
theorem nl64e {x y : Int64} : ¬ x ≤ y ↔ y < x := by rw [Int64.le_iff_toInt_le, Int64.lt_iff_toInt_lt]; omega
theorem nat64 {q : Int64} (h : 0 ≤ q) : q = Int64.ofNat q.toInt.toNat := by
  apply Int64.toInt_inj.mp
  rw [Int64.le_iff_toInt_le] at h
  have h0 : (0 : Int64).toInt = 0 := by decide
  rw [h0] at h
  have h1 := Int64.toInt_lt q
  rw [Int64.toInt_ofNat_of_lt (by omega)]
  omega
theorem twA {sg : Nat} (hs : SG2 sg) {p q : Int64} (h14 : gi y 48 14 = Int32.ofNat h) (hh : h < 30622) (hq : R36 q) : fX3_calculate (fX2_operation (Int32.ofNat sg) gA) p q y = some (match twR sg p q with | some v => pshQ y h v | none => si y 48 10 2) := by
  have hp : ∀ v, (lt (fX3_push v y) fun w3 => some w3) = some (pshQ y h v) := fun v => by rw [push_ok h14 hh, ltq]; rfl
  have hp1 : ∀ v, fX3_push v y = pshQ y h v := fun v => push_ok h14 hh
  have hb : ∀ (P : Prop) (b : Bool), (b = true ↔ P) → (lt2 (b, y) fun x14 w15 => if x14 = true then (lt (fX3_push 1 w15) fun w17 => some w17) else (lt (fX3_push 0 w15) fun w18 => some w18)) = some (pshQ y h (@ite _ P (Classical.propDecidable _) 1 0)) := fun P b hb => by
    rw [lt2q]
    by_cases g : P
    · rw [if_pos (hb.mpr g), if_pos g]; exact hp 1
    · rw [if_neg (fun e => g (hb.mp e)), if_neg g]; exact hp 0
  have hbb : ∀ (P Q : Prop) (hQ : Decidable Q), (P ↔ Q) → ((if Q then (true, y) else (false, y) : Bool × Wd) = ((@decide P (Classical.propDecidable _)), y)) := fun P Q hQ e => by
    by_cases g : Q
    · rw [if_pos g]; simp [e.mpr g]
    · rw [if_neg g]; simp; exact fun x => g (e.mp x)
  have hbn : ∀ (P Q : Prop) (hQ : Decidable Q), (P ↔ ¬ Q) → ((if Q then (false, y) else (true, y) : Bool × Wd) = ((@decide P (Classical.propDecidable _)), y)) := fun P Q hQ e => by
    by_cases g : Q
    · rw [if_pos g]; simp; exact fun x => (e.mp x) g
    · rw [if_neg g]; simp [e.mpr g]
  have hd : ∀ P : Prop, ((@decide P (Classical.propDecidable _)) = true ↔ P) := fun P => by simp
  have hc : ∀ (n : Nat) (P : Prop), 7 ≤ n → n ≤ 15 → fX3_holds (Int32.ofNat n) p q y = ((@decide P (Classical.propDecidable _)), y) → fX3_calculate (Int32.ofNat n) p q y = some (pshQ y h (@ite _ P (Classical.propDecidable _) 1 0)) := fun n P h7 h15 e => by
    unfold fX3_calculate
    rw [if_neg (show ¬ (Int32.ofNat n = 1) from of_ne (k := 1) (by omega) (by omega) (by omega)), if_neg (show ¬ (Int32.ofNat n = 2) from of_ne (k := 2) (by omega) (by omega) (by omega)), if_neg (show ¬ (Int32.ofNat n = 3) from of_ne (k := 3) (by omega) (by omega) (by omega)), if_neg (show ¬ (Int32.ofNat n = 4 ∨ Int32.ofNat n = 5) from fun g => g.elim (of_ne (k := 4) (by omega) (by omega) (by omega)) (of_ne (k := 5) (by omega) (by omega) (by omega))), if_neg (show ¬ (Int32.ofNat n = 6) from of_ne (k := 6) (by omega) (by omega) (by omega)), e]
    exact hb P _ (hd P)
  rcases hs with e | e | e | e | e | e | e | e | e | e | e | e | e | e | e | e <;> subst e
  · refine (hc 13 (p ≠ 0 ∧ q ≠ 0) (by omega) (by omega) ?_)
    show (if p = 0 then (false, y) else (if q = 0 then (false, y) else (true, y))) = _
    by_cases g : p = 0
    · rw [if_pos g]; simp [g]
    · rw [if_neg g]; exact hbn _ _ _ (by simp [g])
  · refine (hc 14 (p ≠ 0 ∨ q ≠ 0) (by omega) (by omega) ?_)
    show (if p = 0 then (if q = 0 then (false, y) else (true, y)) else (true, y)) = _
    by_cases g : p = 0
    · rw [if_pos g]; exact hbn _ _ _ (by simp [g])
    · rw [if_neg g]; simp [g]
  · refine (hc 15 (p = 0 ∨ q ≠ 0) (by omega) (by omega) ?_)
    show (if p = 0 then (true, y) else (if q = 0 then (false, y) else (true, y))) = _
    by_cases g : p = 0
    · rw [if_pos g]; simp [g]
    · rw [if_neg g]; exact hbn _ _ _ (by simp [g])
  · exact hc 9 (p = q) (by omega) (by omega) (hbb _ _ _ Iff.rfl)
  · show (lt (fX3_divide 4 p q y) fun w11 => some w11) = _
    unfold fX3_divide twR
    by_cases g : q = 0
    · rw [if_pos g, ltq, ltq]; simp only [if_pos g]; rfl
    · rw [if_neg g, if_pos (show (4 : Int32) = 4 from rfl), ltq, ltq, ltq, hp1]; simp only [if_neg g]; rfl
  · show (lt (fX3_divide 5 p q y) fun w11 => some w11) = _
    unfold fX3_divide twR
    by_cases g : q = 0
    · rw [if_pos g, ltq, ltq]; simp only [if_pos g]; rfl
    · rw [if_neg g, if_neg (show ¬ ((5 : Int32) = 4) by decide), ltq, ltq, ltq, hp1]; simp only [if_neg g]; rfl
  · show (lt (fX3_wrap (p + q) y) fun x2 => lt (fX3_push x2 y) fun w3 => some w3) = _
    rw [ltq, hp]; rfl
  · show (lt (fX3_wrap (p - q) y) fun x2 => lt (fX3_push x2 y) fun w3 => some w3) = _
    rw [ltq, hp]; rfl
  · show (lt (fX3_wrap (p * q) y) fun x2 => lt (fX3_push x2 y) fun w3 => some w3) = _
    rw [ltq, hp]; rfl
  · show (bn (fX3_raise p q y) fun w13 => some w13) = _
    unfold fX3_raise twR
    by_cases g : 0 ≤ q
    · rw [if_pos g]
      simp only [if_pos g]
      have hn : q.toInt.toNat < 68719476736 := by have := hq.2; omega
      obtain ⟨fo, hf⟩ := FU_ge (k := 37) (by omega)
      have := raiA (h := h) h14 hh hn 36 0 fo 1 p (by omega)
      rw [Nat.pow_zero, Nat.div_one, ← nat64 g] at this
      rw [hf, show (0 : Int32) = Int32.ofNat 0 from rfl]
      refine (congrArg (fun x => bn x fun w13 => some w13) this).trans ?_
      rfl
    · rw [if_neg g, ltq, bn_so]
      simp only [if_neg g]
      rfl
  · exact hc 7 (p < q) (by omega) (by omega) (hbn _ _ _ (by rw [nl64e]))
  · exact hc 9 (p = q) (by omega) (by omega) (hbb _ _ _ Iff.rfl)
  · exact hc 11 (q < p) (by omega) (by omega) (hbn _ _ _ (by rw [nl64e]))
  · exact hc 8 (p ≤ q) (by omega) (by omega) (hbn _ _ _ (by rw [nl64]))
  · exact hc 10 (q ≤ p) (by omega) (by omega) (hbn _ _ _ (by rw [nl64]))
  · exact hc 12 (p ≠ q) (by omega) (by omega) (hbn _ _ _ Iff.rfl)
theorem twM {sg : Nat} (hs : SG2 sg) {p q : Int64} (h130 : gi w 0 130 = Int32.ofNat (sp + 2)) (hh : sp + 2 < 200000) (v1 : gl w 85 sp = p) (v2 : gl w 85 (sp + 1) = q) (hq : R36 q) (h140 : gi w 0 140 = 0) : fX12_reckon (Int32.ofNat (kM sg)) w = some (match twR sg p q with | some v => pshM (si (si w 0 130 (Int32.ofNat (sp + 1))) 0 130 (Int32.ofNat sp)) sp v | none => si (si (si w 0 130 (Int32.ofNat (sp + 1))) 0 130 (Int32.ofNat sp)) 0 140 2) := by
  unfold fX12_reckon
  rw [popM (sp := sp + 1) h130 (by omega), bn2_so, popM (sp := sp) (gi_si0 _ _ _ _) (by omega), bn2_so, gl_si, v1, v2]
  have e130 : gi (si (si w 0 130 (Int32.ofNat (sp + 1))) 0 130 (Int32.ofNat sp)) 0 130 = Int32.ofNat sp := gi_si0 _ _ _ _
  have e140 : gi (si (si w 0 130 (Int32.ofNat (sp + 1))) 0 130 (Int32.ofNat sp)) 0 140 = 0 := by rw [gi_si1 (by omega), gi_si1 (by omega)]; exact h140
  generalize si (si w 0 130 (Int32.ofNat (sp + 1))) 0 130 (Int32.ofNat sp) = y at e130 e140 ⊢
  have hp : ∀ v, (bn (fX12_push v y) fun w => some w) = some (pshM y sp v) := fun v => by rw [pushM e130 (by omega), bn_so]
  have h1 : fX12_reckon_396 true y = some (pshM y sp 1) := by
    unfold fX12_reckon_396
    rw [if_pos rfl]; exact hp 1
  have h0 : fX12_reckon_396 false y = some (pshM y sp 0) := by
    unfold fX12_reckon_396
    rw [if_neg (by decide)]; exact hp 0
  have hbb : ∀ (P Q : Prop) (hQ : Decidable Q), (P ↔ Q) → (if Q then fX12_reckon_396 true y else fX12_reckon_396 false y) = some (pshM y sp (@ite _ P (Classical.propDecidable _) 1 0)) := fun P Q hQ e => by
    by_cases g : Q
    · rw [if_pos g, if_pos (e.mpr g), h1]
    · rw [if_neg g, if_neg (fun x => g (e.mp x)), h0]
  have hbn : ∀ (P Q : Prop) (hQ : Decidable Q), (P ↔ ¬ Q) → (if Q then fX12_reckon_396 false y else fX12_reckon_396 true y) = some (pshM y sp (@ite _ P (Classical.propDecidable _) 1 0)) := fun P Q hQ e => by
    by_cases g : Q
    · rw [if_pos g, if_neg (fun x => (e.mp x) g), h0]
    · rw [if_neg g, if_pos (e.mpr g), h1]
  have hf : (lt (fX12_fail 2 y) fun w30 => some w30) = some (si y 0 140 2) := by
    unfold fX12_fail
    rw [e140, if_pos rfl, ltq, ltq]
  rcases hs with e | e | e | e | e | e | e | e | e | e | e | e | e | e | e | e <;> subst e
  · rw [show Int32.ofNat (kM 25) = 277 by decide]
    show (if p = 0 then (fX12_reckon_396 false y) else (if q = 0 then (fX12_reckon_396 false y) else (fX12_reckon_396 true y))) = some (pshM y sp (@ite _ (p ≠ 0 ∧ q ≠ 0) (Classical.propDecidable _) 1 0))
    by_cases g : p = 0
    · rw [if_pos g, if_neg (fun x => x.1 g), h0]
    · rw [if_neg g]; exact hbn _ _ _ (by simp [g])
  · rw [show Int32.ofNat (kM 26) = 278 by decide]
    show (if p = 0 then (if q = 0 then (fX12_reckon_396 false y) else (fX12_reckon_396 true y)) else (fX12_reckon_396 true y)) = some (pshM y sp (@ite _ (p ≠ 0 ∨ q ≠ 0) (Classical.propDecidable _) 1 0))
    by_cases g : p = 0
    · rw [if_pos g]; exact hbn _ _ _ (by simp [g])
    · rw [if_neg g, if_pos (Or.inl g), h1]
  · rw [show Int32.ofNat (kM 27) = 279 by decide]
    show (if p = 0 then (fX12_reckon_396 true y) else (if q = 0 then (fX12_reckon_396 false y) else (fX12_reckon_396 true y))) = some (pshM y sp (@ite _ (p = 0 ∨ q ≠ 0) (Classical.propDecidable _) 1 0))
    by_cases g : p = 0
    · rw [if_pos g, if_pos (Or.inl g), h1]
    · rw [if_neg g]; exact hbn _ _ _ (by simp [g])
  · rw [show Int32.ofNat (kM 28) = 280 by decide]
    show (if p = q then fX12_reckon_396 true y else fX12_reckon_396 false y) = some (pshM y sp (@ite _ (p = q) (Classical.propDecidable _) 1 0))
    exact hbb (p = q) _ _ Iff.rfl
  · rw [show Int32.ofNat (kM 30) = 282 by decide]
    show (if q = 0 then (lt (fX12_fail 2 y) fun w30 => some w30) else (lt (fX12_wrap (p / q) y) fun x32 => bn (fX12_push x32 y) fun w33 => some w33)) = _
    unfold twR
    by_cases g : q = 0
    · rw [if_pos g, hf]; simp only [if_pos g]; rfl
    · rw [if_neg g, ltq, hp]; simp only [if_neg g]; rfl
  · rw [show Int32.ofNat (kM 31) = 283 by decide]
    show (if q = 0 then (lt (fX12_fail 2 y) fun w30 => some w30) else (lt (fX12_wrap (p - p / q * q) y) fun x32 => bn (fX12_push x32 y) fun w33 => some w33)) = _
    unfold twR
    by_cases g : q = 0
    · rw [if_pos g, hf]; simp only [if_pos g]; rfl
    · rw [if_neg g, ltq, hp]; simp only [if_neg g]; rfl
  · rw [show Int32.ofNat (kM 33) = 43 by decide]
    show (lt (fX12_wrap (p + q) y) fun x => bn (fX12_push x y) fun w => some w) = _
    rw [ltq, hp]; rfl
  · rw [show Int32.ofNat (kM 34) = 45 by decide]
    show (lt (fX12_wrap (p - q) y) fun x => bn (fX12_push x y) fun w => some w) = _
    rw [ltq, hp]; rfl
  · rw [show Int32.ofNat (kM 35) = 42 by decide]
    show (lt (fX12_wrap (p * q) y) fun x => bn (fX12_push x y) fun w => some w) = _
    rw [ltq, hp]; rfl
  · rw [show Int32.ofNat (kM 36) = 94 by decide]
    show (bn (fX12_power p q y) fun w21 => some w21) = _
    unfold fX12_power twR
    by_cases g : 0 ≤ q
    · rw [if_pos g]
      simp only [if_pos g]
      have hn : q.toInt.toNat < 2 ^ 36 := by
        have h36 : (2 : Nat) ^ 36 = 68719476736 := by decide
        have := hq.2
        omega
      obtain ⟨fo, hf'⟩ := FU_ge (k := 37) (by omega)
      have := raiM (sp := sp) e130 (by omega) 36 q.toInt.toNat fo 1 p hn (by omega)
      rw [← nat64 g] at this
      rw [hf']
      refine (congrArg (fun x => bn x fun w13 => some w13) this).trans ?_
      rfl
    · rw [if_neg g, hf, bn_so]
      simp only [if_neg g]
      rfl
  · rw [show Int32.ofNat (kM 37) = 60 by decide]
    show (if q ≤ p then fX12_reckon_396 false y else fX12_reckon_396 true y) = some (pshM y sp (@ite _ (p < q) (Classical.propDecidable _) 1 0))
    exact hbn (p < q) _ _ (by rw [nl64e])
  · rw [show Int32.ofNat (kM 38) = 61 by decide]
    show (if p = q then fX12_reckon_396 true y else fX12_reckon_396 false y) = some (pshM y sp (@ite _ (p = q) (Classical.propDecidable _) 1 0))
    exact hbb (p = q) _ _ Iff.rfl
  · rw [show Int32.ofNat (kM 39) = 62 by decide]
    show (if p ≤ q then fX12_reckon_396 false y else fX12_reckon_396 true y) = some (pshM y sp (@ite _ (q < p) (Classical.propDecidable _) 1 0))
    exact hbn (q < p) _ _ (by rw [nl64e])
  · rw [show Int32.ofNat (kM 47) = 287 by decide]
    show (if q < p then fX12_reckon_396 false y else fX12_reckon_396 true y) = some (pshM y sp (@ite _ (p ≤ q) (Classical.propDecidable _) 1 0))
    exact hbn (p ≤ q) _ _ (by rw [nl64])
  · rw [show Int32.ofNat (kM 48) = 288 by decide]
    show (if p < q then fX12_reckon_396 false y else fX12_reckon_396 true y) = some (pshM y sp (@ite _ (q ≤ p) (Classical.propDecidable _) 1 0))
    exact hbn (q ≤ p) _ _ (by rw [nl64])
  · rw [show Int32.ofNat (kM 49) = 289 by decide]
    show (if p = q then fX12_reckon_396 false y else fX12_reckon_396 true y) = some (pshM y sp (@ite _ (p ≠ q) (Classical.propDecidable _) 1 0))
    exact hbn (p ≠ q) _ _ Iff.rfl
end AR
