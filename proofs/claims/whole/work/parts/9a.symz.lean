/-! THE CLASS, first pass: symbol 0, which fits all -/
def SY0 (w : Wd) : Prop := gi w 14 0 = 0
theorem rgi_0 {w : Wd} {k n : Nat} (hn : 0 < n) (hn2 : n < 2147483648) : rgi w k n 0 = gi w k 0 := rgi_iN (n := 0) hn hn2
theorem sort_0 {w : Wd} (h : SY0 w) : fX8_sort 0 w = 0 := by
  unfold fX8_sort
  rw [ltq, rgi_0 (by omega) (by omega)]
  exact h
theorem isSort_0 {w : Wd} (h : SY0 w) (k : Int32) : fX1_isSort 0 k w = true := by
  unfold fX1_isSort
  rw [ltq, sort_0 h, ltq]
  by_cases q : 0 = k
  · rw [if_pos q]
  · rw [if_neg q, if_pos rfl]
theorem typeIf_0 {w : Wd} (h : SY0 w) {k : Int32} (hk : k ≠ 0) : fX2_typeIf 0 k w = 0 := by
  unfold fX2_typeIf
  rw [ltq, sort_0 h]
  exact if_neg (fun e => hk e.symm)
theorem formal_0 {w : Wd} (h : SY0 w) (a : Int32) : fX8_formal 0 a w = 0 := by
  unfold fX8_formal
  rw [ltq, sort_0 h, if_neg (show ¬ ((0 : Int32) = 3) by decide)]
  unfold fX8_formal_23
  exact if_neg (by decide)
theorem e_putSymbol {a : Int32} {w : Wd} : OFF PRE (fX1_putSymbol a w) w := by
  have h34 : ∀ x, OFF PRE (fX1_putSymbol_34 x a w) w := fun x => by
    unfold fX1_putSymbol_34
    rw [ltq, ltq, lt2q]
    exact e_put
  unfold fX1_putSymbol
  rw [ltq]
  by_cases q : fX8_sort a w = 2
  · rw [if_pos q, ltq]
    cases fX8_isFormal a w
    · rw [if_neg (by decide)]; exact h34 _
    · rw [if_pos rfl]; exact h34 _
  · rw [if_neg q, ltq]
    cases fX8_isFormal a w
    · rw [if_neg (by decide), ltq, lt2q]; exact e_put
    · rw [if_pos rfl, ltq, ltq, lt2q]; exact e_put
theorem e_use {a b : Int32} {w : Wd} : OFF PRE (fX2_use a b w) w := by
  unfold fX2_use
  rw [ltq, ltq, lt2q, lt2q]
  exact OFF.tr e_put_ e_put
theorem e_variable {a b : Int32} {w : Wd} (h : gi w 3 5 = 0) : OFF PRE (fX2_variable a b w) w := by
  have h21 : OFF PRE (fX2_variable_21 a w) w := by
    unfold fX2_variable_21
    rw [ltq]
    cases fX8_isFormal a w
    · rw [if_neg (by decide), ltq, ltq, lt2q]; exact e_put
    · rw [if_pos rfl, ltq]; exact e_use
  unfold fX2_variable
  rw [ltq]
  cases fX1_isSort a 1 w
  · rw [if_neg (by decide), ltq, wrong_0 h]; exact h21
  · rw [if_pos rfl]; exact h21
