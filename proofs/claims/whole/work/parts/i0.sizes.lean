/-! THE SIZE OF AN ARRAY, on both sides -/
section SZ
theorem mn64 {a b : Int64} : (fJ9_min_f86c9 a b).toInt = min a.toInt b.toInt := by
  unfold fJ9_min_f86c9
  by_cases h : b < a
  · rw [if_pos h]
    rw [Int64.lt_iff_toInt_lt] at h
    omega
  · rw [if_neg h]
    rw [Int64.lt_iff_toInt_lt] at h
    omega
theorem mx64 {a b : Int64} : (fJ9_max_f86c9 a b).toInt = max a.toInt b.toInt := by
  unfold fJ9_max_f86c9
  by_cases h : a < b
  · rw [if_pos h]
    rw [Int64.lt_iff_toInt_lt] at h
    omega
  · rw [if_neg h]
    rw [Int64.lt_iff_toInt_lt] at h
    omega
/-- the class's size so far -/
noncomputable def szA (lo hi : Nat → Int64) : Nat → Int64
  | 0 => 1
  | k + 1 => fJ9_min_f86c9 (szA lo hi k) 2001 * fJ9_max_f86c9 (fJ9_min_f86c9 ((hi k - lo k) + 1) 2001) 0
/-- the reference's -/
noncomputable def szM (lo hi : Nat → Int64) : Nat → Int64
  | 0 => 1
  | k + 1 => if lo k ≤ hi k then fJ9_min_f86c9 (szM lo hi k * fJ9_min_f86c9 ((hi k - lo k) + 1) 5000) 5000 else 0
variable {lo hi : Nat → Int64}
/-- a size and what's kept of it -/
def SZI (P c B : Int) : Prop := 0 ≤ c ∧ c ≤ B ∧ (P = 0 → c = 0) ∧ (1 ≤ P → P ≤ 2000 → c = P) ∧ (2000 < P → 2001 ≤ c)
theorem sub36 {a b : Int64} (h1 : R36 a) (h2 : R36 b) : ((a - b) + 1).toInt = a.toInt - b.toInt + 1 := by
  unfold R36 at h1 h2
  rw [Int64.toInt_add, Int64.toInt_sub, show (1 : Int64).toInt = 1 by decide]
  rw [show (a.toInt - b.toInt).bmod (2 ^ 64) = a.toInt - b.toInt by rw [Int.bmod_eq_of_le] <;> omega]
  rw [Int.bmod_eq_of_le] <;> omega
theorem mul_ge {a b : Int} (ha : 0 ≤ a) (hb : 1 ≤ b) : a ≤ a * b := by
  have := Int.mul_le_mul_of_nonneg_left hb ha
  rw [Int.mul_one] at this
  exact this
theorem szA_ok : ∀ {n : Nat}, (∀ k, k < n → R36 (lo k) ∧ R36 (hi k)) → SZI (PRZ lo hi n) (szA lo hi n).toInt 4004001 := by
  intro n
  induction n with
  | zero =>
    intro _
    have e : (szA lo hi 0).toInt = 1 := by show (1 : Int64).toInt = 1; decide
    rw [e]
    show SZI 1 1 4004001
    unfold SZI
    omega
  | succ n ih =>
    intro h
    obtain ⟨i1, i2, i3, i4, i5⟩ := ih (fun k hk => h k (by omega))
    obtain ⟨l1, l2⟩ := h n (by omega)
    have hnn := PRZ_nn (lo := lo) (hi := hi) (n := n)
    generalize he : (hi n).toInt - (lo n).toInt + 1 = e
    have e1 : (szA lo hi (n + 1)).toInt = min (szA lo hi n).toInt 2001 * max (min e 2001) 0 := by
      show (fJ9_min_f86c9 (szA lo hi n) 2001 * fJ9_max_f86c9 (fJ9_min_f86c9 ((hi n - lo n) + 1) 2001) 0).toInt = _
      rw [Int64.toInt_mul, mn64, mx64, mn64, sub36 l2 l1, he, show (2001 : Int64).toInt = 2001 by decide, show (0 : Int64).toInt = 0 by decide]
      have b1 : min (szA lo hi n).toInt 2001 * max (min e 2001) 0 ≤ 2001 * 2001 := Int.mul_le_mul (by omega) (by omega) (by omega) (by omega)
      have b0 : 0 ≤ min (szA lo hi n).toInt 2001 * max (min e 2001) 0 := Int.mul_nonneg (by omega) (by omega)
      rw [Int.bmod_eq_of_le] <;> omega
    have e2 : PRZ lo hi (n + 1) = PRZ lo hi n * max e 0 := by
      show PRZ lo hi n * max ((hi n).toInt - (lo n).toInt + 1) 0 = _
      rw [he]
    rw [e1, e2]
    have b1 : min (szA lo hi n).toInt 2001 * max (min e 2001) 0 ≤ 2001 * 2001 := Int.mul_le_mul (by omega) (by omega) (by omega) (by omega)
    have b0 : 0 ≤ min (szA lo hi n).toInt 2001 * max (min e 2001) 0 := Int.mul_nonneg (by omega) (by omega)
    refine ⟨b0, by omega, ?_⟩
    generalize PRZ lo hi n = P at *
    generalize (szA lo hi n).toInt = c at *
    by_cases d0 : e ≤ 0
    · rw [Int.max_eq_right d0, Int.max_eq_right (show min e 2001 ≤ 0 by omega), Int.mul_zero, Int.mul_zero]
      omega
    rw [Int.max_eq_left (show 0 ≤ e by omega), Int.max_eq_left (show 0 ≤ min e 2001 by omega)]
    by_cases p0 : P = 0
    · rw [i3 p0, p0, Int.zero_mul, Int.min_eq_left (show (0 : Int) ≤ 2001 by omega), Int.zero_mul]
      omega
    by_cases p1 : P ≤ 2000
    · rw [i4 (by omega) p1, Int.min_eq_left (show P ≤ 2001 by omega)]
      by_cases d1 : e ≤ 2001
      · rw [Int.min_eq_left d1]
        have := mul_ge (a := P) (b := e) (by omega) (by omega)
        omega
      · rw [Int.min_eq_right (show 2001 ≤ e by omega)]
        have := mul_ge (a := P) (b := e) (by omega) (by omega)
        have h2 : e ≤ P * e := by
          have := mul_ge (a := e) (b := P) (by omega) (by omega)
          rw [Int.mul_comm] at this
          exact this
        omega
    · have hc := i5 (by omega)
      rw [Int.min_eq_right (show 2001 ≤ c by omega)]
      have := mul_ge (a := P) (b := e) (by omega) (by omega)
      have h2 := mul_ge (a := 2001) (b := min e 2001) (by omega) (by omega)
      omega
theorem szM_ok : ∀ {n : Nat}, (∀ k, k < n → R36 (lo k) ∧ R36 (hi k)) → SZI (PRZ lo hi n) (szM lo hi n).toInt 5000 := by
  intro n
  induction n with
  | zero =>
    intro _
    have e : (szM lo hi 0).toInt = 1 := by show (1 : Int64).toInt = 1; decide
    rw [e]
    show SZI 1 1 5000
    unfold SZI
    omega
  | succ n ih =>
    intro h
    obtain ⟨i1, i2, i3, i4, i5⟩ := ih (fun k hk => h k (by omega))
    obtain ⟨l1, l2⟩ := h n (by omega)
    have hnn := PRZ_nn (lo := lo) (hi := hi) (n := n)
    generalize he : (hi n).toInt - (lo n).toInt + 1 = e
    have e2 : PRZ lo hi (n + 1) = PRZ lo hi n * max e 0 := by
      show PRZ lo hi n * max ((hi n).toInt - (lo n).toInt + 1) 0 = _
      rw [he]
    rw [e2]
    by_cases d0 : lo n ≤ hi n
    · have d1 : 1 ≤ e := by
        rw [Int64.le_iff_toInt_le] at d0
        omega
      have e1 : (szM lo hi (n + 1)).toInt = min ((szM lo hi n).toInt * min e 5000) 5000 := by
        show (if lo n ≤ hi n then fJ9_min_f86c9 (szM lo hi n * fJ9_min_f86c9 ((hi n - lo n) + 1) 5000) 5000 else 0).toInt = _
        rw [if_pos d0, mn64, Int64.toInt_mul, mn64, sub36 l2 l1, he, show (5000 : Int64).toInt = 5000 by decide]
        have b1 : (szM lo hi n).toInt * min e 5000 ≤ 5000 * 5000 := Int.mul_le_mul (by omega) (by omega) (by omega) (by omega)
        have b0 : 0 ≤ (szM lo hi n).toInt * min e 5000 := Int.mul_nonneg (by omega) (by omega)
        rw [show ((szM lo hi n).toInt * min e 5000).bmod (2 ^ 64) = (szM lo hi n).toInt * min e 5000 by rw [Int.bmod_eq_of_le] <;> omega]
      rw [e1, Int.max_eq_left (show 0 ≤ e by omega)]
      have b0 : 0 ≤ (szM lo hi n).toInt * min e 5000 := Int.mul_nonneg (by omega) (by omega)
      refine ⟨by omega, by omega, ?_⟩
      generalize PRZ lo hi n = P at *
      generalize (szM lo hi n).toInt = c at *
      by_cases p0 : P = 0
      · rw [i3 p0, p0, Int.zero_mul, Int.zero_mul]
        omega
      by_cases p1 : P ≤ 2000
      · rw [i4 (by omega) p1]
        have g1 := mul_ge (a := P) (b := e) (by omega) (by omega)
        have g2 : e ≤ P * e := by
          have := mul_ge (a := e) (b := P) (by omega) (by omega)
          rw [Int.mul_comm] at this
          exact this
        by_cases d2 : e ≤ 5000
        · rw [Int.min_eq_left d2]
          omega
        · rw [Int.min_eq_right (show 5000 ≤ e by omega)]
          have g3 : 5000 ≤ P * 5000 := by
            have := mul_ge (a := 5000) (b := P) (by omega) (by omega)
            rw [Int.mul_comm] at this
            exact this
          omega
      · have hc := i5 (by omega)
        have g1 := mul_ge (a := P) (b := e) (by omega) (by omega)
        have g2 := mul_ge (a := c) (b := min e 5000) (by omega) (by omega)
        omega
    · have d1 : e ≤ 0 := by
        rw [Int64.le_iff_toInt_le] at d0
        omega
      have e1 : (szM lo hi (n + 1)).toInt = 0 := by
        show (if lo n ≤ hi n then fJ9_min_f86c9 (szM lo hi n * fJ9_min_f86c9 ((hi n - lo n) + 1) 5000) 5000 else 0).toInt = _
        rw [if_neg d0]; decide
      rw [e1, Int.max_eq_right d1, Int.mul_zero]
      unfold SZI
      omega
end SZ
