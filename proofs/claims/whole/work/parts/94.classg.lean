/-! THE CLASS GOES OVER EXPRS: the first pass -/
/-- what going over EXPRS from t0 on changes in the first pass -/
def PE1 (t0 k j : Nat) : Prop := (k = 4 ∧ (j = 9 ∨ j = 10)) ∨ (8 ≤ k ∧ k ≤ 10 ∧ t0 ≤ j) ∨ (k = 40 ∧ j = 1) ∨ k = 41 ∨ (k = 43 ∧ (j = 4 ∨ j = 5)) ∨ (44 ≤ k ∧ k ≤ 47)
theorem PE1.le {t t' k j : Nat} (h : PE1 t' k j) (ht : t ≤ t') : PE1 t k j := by unfold PE1 at *; omega
/-- no fault is noted in it -/
def J1 (w0 : Wd) (t0 : Nat) (_ : List EV) (w : Wd) : Prop := gi w 3 5 = 0 ∧ OFF (PE1 t0) w w0
def PRE (k j : Nat) : Prop := (k = 40 ∧ j = 1) ∨ k = 41 ∨ (k = 43 ∧ j = 5) ∨ k = 46 ∨ k = 47
theorem PRE.p {t k j : Nat} (h : PRE k j) : PE1 t k j := by unfold PRE PE1 at *; omega
theorem e_word {v : Int64} {w : Wd} : OFF PRE (fX0_word v w).2 w :=
  OFF.tr (OFF.si (Or.inl ⟨rfl, rfl⟩)) (OFF.rsl (fun _ => Or.inr (Or.inl rfl)))
theorem e_put {a b c : Int32} {w : Wd} : OFF PRE (fX0_put a b c w).2 w := e_word
theorem e_put_ {a b : Int32} {w : Wd} : OFF PRE (fX0_put_ a b w).2 w := e_put
theorem e_put__ {a : Int32} {w : Wd} : OFF PRE (fX0_put__ a w).2 w := e_put
theorem e_set {a : Int32} {v : Int64} {w : Wd} : OFF PRE (fX0_set a v w) w := OFF.rsl (fun _ => Or.inr (Or.inl rfl))
theorem e_patch {a : Int32} {w : Wd} : OFF PRE (fX0_patch a w).2 w := e_set
theorem e_pop {w : Wd} : OFF PRE (fX10_pop w).2 w := OFF.si (Or.inr (Or.inr (Or.inl ⟨rfl, rfl⟩)))
theorem e_push {a b : Int32} {w : Wd} : OFF PRE (fX10_push a b w) w :=
  OFF.tr (OFF.si (Or.inr (Or.inr (Or.inl ⟨rfl, rfl⟩)))) (OFF.tr (OFF.rsi (fun _ => Or.inr (Or.inr (Or.inr (Or.inr rfl))))) (OFF.rsi (fun _ => Or.inr (Or.inr (Or.inr (Or.inl rfl))))))
theorem wrong_0 {a b : Int32} {w : Wd} (h : gi w 3 5 = 0) : fX1_wrong a b w = w := by
  unfold fX1_wrong
  exact if_pos h
theorem check_0 {a b c : Int32} {w : Wd} (h : gi w 3 5 = 0) : fX1_check a b c w = w := by
  unfold fX1_check
  rw [ltq, wrong_0 h, ite_self, ite_self, ite_self]
theorem find_0 {a : Int32} {w : Wd} (h : gi w 3 5 = 0) : fX1_find a w = (0, w) := by
  unfold fX1_find
  exact if_pos h
theorem e_one71 (x y : Int32) (u : Wd) : OFF PRE (fX2_reduceOne_71 x y u) u := by
  unfold fX2_reduceOne_71
  rw [lt2q, ltq]
  exact OFF.tr e_push e_pop
theorem e_one11 (x y z : Int32) (w : Wd) (h0 : gi w 3 5 = 0) : OFF PRE (fX2_reduceOne_11 x y z w) w := by
  unfold fX2_reduceOne_11
  rw [ltq, ltq, ltq, check_0 h0]
  by_cases h : y = 29
  · rw [if_pos h, lt2q]
    exact OFF.tr (e_one71 _ _ _) e_put__
  · rw [if_neg h]
    by_cases h2 : y = -34
    · rw [if_pos h2, lt2q]
      exact OFF.tr (e_one71 _ _ _) e_put__
    · rw [if_neg h2]
      exact e_one71 _ _ _
theorem e_one {a b : Int32} {w : Wd} (h0 : gi w 3 5 = 0) : OFF PRE (fX2_reduceOne a b w) w := by
  unfold fX2_reduceOne
  by_cases h : a = 29
  · rw [if_pos h]; exact e_one11 _ _ _ _ h0
  · rw [if_neg h]; exact e_one11 _ _ _ _ h0
theorem e_two110 (x y : Int32) (u : Wd) : OFF PRE (fX2_reduceTwo_110 x y u) u := by
  unfold fX2_reduceTwo_110
  rw [ltq]
  generalize fX2_operation x u = q
  rw [lt2q, ltq, lt2q, lt2q]
  by_cases h : y ≤ 6
  · rw [if_pos h, ltq]
    exact OFF.tr e_push (OFF.tr e_pop (OFF.tr e_pop e_put__))
  · rw [if_neg h, ltq]
    exact OFF.tr e_push (OFF.tr e_pop (OFF.tr e_pop e_put__))
theorem e_two {a : Int32} {w : Wd} (h0 : gi w 3 5 = 0) : OFF PRE (fX2_reduceTwo a w) w := by
  have h17 : ∀ x : Int32, OFF PRE (fX2_reduceTwo_17 a x w) w := fun x => by
    unfold fX2_reduceTwo_17
    rw [ltq, ltq, ltq, ltq, check_0 h0]
    exact e_two110 _ _ _
  have h61 : ∀ y x : Int32, OFF PRE (fX2_reduceTwo_61 y a x w) w := fun y x => by
    unfold fX2_reduceTwo_61
    rw [ltq, ltq, ltq, check_0 h0, ltq, ltq, ltq, check_0 h0]
    exact e_two110 _ _ _
  unfold fX2_reduceTwo
  rw [ltq]
  generalize fX10_strength a w = q
  by_cases h : a = 38
  · rw [if_pos h]; exact h17 _
  · rw [if_neg h]
    by_cases h2 : a = 49
    · rw [if_pos h2]; exact h17 _
    · rw [if_neg h2]
      by_cases h3 : 5 ≤ q
      · rw [if_pos h3]; exact h61 _ _
      · rw [if_neg h3]; exact h61 _ _
theorem J1.pre {w0 : Wd} {t0 : Nat} {ev ev' : List EV} {u w : Wd} (h : J1 w0 t0 ev w) (hO : OFF PRE u w) : J1 w0 t0 ev' u :=
  ⟨(hO 3 5 (by unfold PRE; omega)).1.trans h.1, OFF.tr (hO.mono (fun _ _ hp => hp.p)) h.2⟩
theorem jx1 {w0 : Wd} {t0 base : Nat} : JX base (J1 w0 t0) := by
  refine ⟨fun ev w s h _ _ => h.pre (e_one h.1), fun ev w s h _ _ => h.pre (e_two h.1), fun ev u w h hO => ⟨(hO 3 5 (by unfold PSG; omega)).1.trans h.1, OFF.tr (hO.mono (fun k j hp => by unfold PSG PE1 at *; omega)) h.2⟩⟩
