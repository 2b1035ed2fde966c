/-! THE CLASS GOES OVER EXPRS: TOKENS, signs that wait -/
theorem OFF.rsi {P : Nat → Nat → Prop} {w : Wd} {k m : Nat} {i v : Int32} (h : ∀ j, P k j) : OFF P (rsi w k m i v) w := by
  unfold Jvm.Pilot.CAlgolMillLaw_law_r8408_c9b5e4.rsi
  split
  · exact OFF.si (h _)
  · exact OFF.rf
theorem OFF.rsl {P : Nat → Nat → Prop} {w : Wd} {k m : Nat} {i : Int32} {v : Int64} (h : ∀ j, P k j) : OFF P (rsl w k m i v) w := by
  unfold Jvm.Pilot.CAlgolMillLaw_law_r8408_c9b5e4.rsl
  split
  · exact OFF.sl (h _)
  · exact OFF.rf
/-- what working out signs changes: the fault, the code, the operands -/
def PRD (k j : Nat) : Prop := (k = 3 ∧ (j = 6 ∨ j = 7)) ∨ (k = 40 ∧ j = 1) ∨ k = 41 ∨ (k = 43 ∧ j = 5) ∨ k = 46 ∨ k = 47
theorem off_note {a b : Int32} {w : Wd} : OFF PRD (fX1_note a b w) w := by
  have h : ∀ x y : Int32, OFF PRD (si (si w 3 6 x) 3 7 y) w := fun x y => OFF.tr (OFF.si (Or.inl ⟨rfl, Or.inr rfl⟩)) (OFF.si (Or.inl ⟨rfl, Or.inl rfl⟩))
  unfold fX1_note
  dsimp only [lt]
  split
  · exact h _ _
  · split
    · exact h _ _
    · split
      · split
        · exact OFF.rf
        · exact h _ _
      · exact OFF.rf
theorem off_wrong {a b : Int32} {w : Wd} : OFF PRD (fX1_wrong a b w) w := by
  unfold fX1_wrong
  split
  · exact OFF.rf
  · exact off_note
theorem off_check {a b c : Int32} {w : Wd} : OFF PRD (fX1_check a b c w) w := by
  unfold fX1_check
  repeat' split
  · exact OFF.rf
  · exact OFF.rf
  · exact OFF.rf
  · exact off_wrong
theorem off_word {v : Int64} {w : Wd} : OFF PRD (fX0_word v w).2 w :=
  OFF.tr (OFF.si (Or.inr (Or.inl ⟨rfl, rfl⟩))) (OFF.rsl (fun _ => Or.inr (Or.inr (Or.inl rfl))))
theorem off_put {a b c : Int32} {w : Wd} : OFF PRD (fX0_put a b c w).2 w := off_word
theorem off_put_ {a b : Int32} {w : Wd} : OFF PRD (fX0_put_ a b w).2 w := off_put
theorem off_put__ {a : Int32} {w : Wd} : OFF PRD (fX0_put__ a w).2 w := off_put
theorem off_set {a : Int32} {v : Int64} {w : Wd} : OFF PRD (fX0_set a v w) w := OFF.rsl (fun _ => Or.inr (Or.inr (Or.inl rfl)))
theorem off_patch {a : Int32} {w : Wd} : OFF PRD (fX0_patch a w).2 w := off_set
theorem off_pop {w : Wd} : OFF PRD (fX10_pop w).2 w := OFF.si (Or.inr (Or.inr (Or.inr (Or.inl ⟨rfl, rfl⟩))))
theorem off_push {a b : Int32} {w : Wd} : OFF PRD (fX10_push a b w) w :=
  OFF.tr (OFF.si (Or.inr (Or.inr (Or.inr (Or.inl ⟨rfl, rfl⟩))))) (OFF.tr (OFF.rsi (fun _ => Or.inr (Or.inr (Or.inr (Or.inr (Or.inr rfl)))))) (OFF.rsi (fun _ => Or.inr (Or.inr (Or.inr (Or.inr (Or.inl rfl)))))))
theorem ltq {α β : Type} (a : α) (f : α → β) : lt a f = f a := rfl
theorem lt2q {α β γ : Type} (p : α × β) (f : α → β → γ) : lt2 p f = f p.1 p.2 := rfl
theorem off_one71 (x y : Int32) (u : Wd) : OFF PRD (fX2_reduceOne_71 x y u) u := by
  unfold fX2_reduceOne_71
  dsimp only [lt, lt2]
  exact OFF.tr off_push off_pop
theorem off_one11 (x y z : Int32) (w : Wd) : OFF PRD (fX2_reduceOne_11 x y z w) w := by
  unfold fX2_reduceOne_11
  rw [ltq, ltq, ltq]
  by_cases h : y = 29
  · rw [if_pos h, lt2q]
    exact OFF.tr (off_one71 _ _ _) (OFF.tr off_put__ off_check)
  · rw [if_neg h]
    by_cases h2 : y = -34
    · rw [if_pos h2, lt2q]
      exact OFF.tr (off_one71 _ _ _) (OFF.tr off_put__ off_check)
    · rw [if_neg h2]
      exact OFF.tr (off_one71 _ _ _) off_check
theorem off_one {a b : Int32} {w : Wd} : OFF PRD (fX2_reduceOne a b w) w := by
  unfold fX2_reduceOne
  by_cases h : a = 29
  · rw [if_pos h]; exact off_one11 _ _ _ _
  · rw [if_neg h]; exact off_one11 _ _ _ _
theorem off_two110 (x y : Int32) (u : Wd) : OFF PRD (fX2_reduceTwo_110 x y u) u := by
  unfold fX2_reduceTwo_110
  simp only [lt, lt2]
  generalize fX2_operation x u = q
  by_cases h : y ≤ 6
  · rw [if_pos h]
    exact OFF.tr off_push (OFF.tr off_pop (OFF.tr off_pop off_put__))
  · rw [if_neg h]
    exact OFF.tr off_push (OFF.tr off_pop (OFF.tr off_pop off_put__))
theorem off_two17 (x y : Int32) (w : Wd) : OFF PRD (fX2_reduceTwo_17 x y w) w := by
  unfold fX2_reduceTwo_17
  rw [ltq, ltq, ltq, ltq]
  exact OFF.tr (off_two110 _ _ _) off_check
theorem off_two61 (x y z : Int32) (w : Wd) : OFF PRD (fX2_reduceTwo_61 x y z w) w := by
  unfold fX2_reduceTwo_61
  rw [ltq, ltq, ltq, ltq, ltq, ltq]
  exact OFF.tr (off_two110 _ _ _) (OFF.tr off_check off_check)
theorem off_two {a : Int32} {w : Wd} : OFF PRD (fX2_reduceTwo a w) w := by
  unfold fX2_reduceTwo
  simp only [lt]
  generalize fX10_strength a w = q
  by_cases h : a = 38
  · rw [if_pos h]; exact off_two17 _ _ _
  · rw [if_neg h]
    by_cases h2 : a = 49
    · rw [if_pos h2]; exact off_two17 _ _ _
    · rw [if_neg h2]
      by_cases h3 : 5 ≤ q
      · rw [if_pos h3]; exact off_two61 _ _ _ _
      · rw [if_neg h3]; exact off_two61 _ _ _ _
/-- forms from token t on, not yet known -/
def FZ (z : Nat) (w : Wd) (fa : Int32) (t : Nat) : Prop := ∀ j, t ≤ j → j < z → (gi w 8 j = 0 ∨ j = z - 1 ∧ gi w 8 j = 6 ∧ 0 ≤ fa) ∧ gi w 9 j = 0 ∧ gi w 10 j = Int32.ofNat j
theorem FZ.le {z t t' : Nat} {w : Wd} {fa : Int32} (h : FZ z w fa t) (ht : t ≤ t') : FZ z w fa t' := fun j hj hz => h j (by omega) hz
theorem FZ.fa {z t : Nat} {w : Wd} {fa fa' : Int32} (h : FZ z w fa t) (hf : 0 ≤ fa → 0 ≤ fa') : FZ z w fa' t := fun j hj hz => by
  obtain ⟨a, b, c⟩ := h j hj hz
  exact ⟨a.elim Or.inl (fun q => Or.inr ⟨q.1, q.2.1, hf q.2.2⟩), b, c⟩
theorem FZ.agr {z t : Nat} {u w : Wd} {fa : Int32} (h : FZ z w fa t) (hA : ∀ k j, (k = 8 ∨ k = 9 ∨ k = 10) → gi u k j = gi w k j) : FZ z u fa t := fun j hj hz => by
  rw [hA 8 j (by omega), hA 9 j (by omega), hA 10 j (by omega)]
  exact h j hj hz
/-- the class's TOKENS, at t; fa: where it failed, or -1; gb: no forms are known from t on -/
def CT (kd wr : Nat → Nat) (gb : Bool) (z : Nat) (w : Wd) (t : Nat) (fa : Int32) : Prop := 1 ≤ z ∧ z ≤ 8193 ∧ (∀ i, kd i ≤ 50) ∧ (∀ i, z ≤ i + 1 → kd i = 0) ∧ gi w 4 8 = Int32.ofNat z ∧ (∀ i, i < z → gi w 5 i = Int32.ofNat (kd i) ∧ gi w 6 i = Int32.ofNat (wr i) ∧ wr i ≤ 8192) ∧ t < z ∧ gi w 4 9 = Int32.ofNat t ∧ gi w 4 10 = fa ∧ (gb = true → FZ z w fa t)
/-- what failing at p leaves -/
def FA (wr : Nat → Nat) (fa : Int32) (p : Nat) : Int32 := if 0 ≤ fa then fa else Int32.ofNat (wr p)
section CA
variable {kd wr : Nat → Nat} {gb : Bool} {z : Nat}
/-- a change that leaves the TOKENS -/
theorem CT.off {P : Nat → Nat → Prop} {u w : Wd} {t : Nat} {fa : Int32} (h : CT kd wr gb z w t fa) (hO : OFF P u w) (hP : ∀ k j, P k j → k ≠ 4 ∧ k ≠ 5 ∧ k ≠ 6 ∧ k ≠ 8 ∧ k ≠ 9 ∧ k ≠ 10) : CT kd wr gb z u t fa := by
  obtain ⟨h1, h2, h3, h4, h5, h6, h7, h8, h9, h10⟩ := h
  have g : ∀ k j, (k = 4 ∨ k = 5 ∨ k = 6 ∨ k = 8 ∨ k = 9 ∨ k = 10) → gi u k j = gi w k j := fun k j hk => (hO k j (fun hp => by have := hP k j hp; omega)).1
  exact ⟨h1, h2, h3, h4, by rw [g 4 8 (by omega)]; exact h5, fun i hi => by rw [g 5 i (by omega), g 6 i (by omega)]; exact h6 i hi, h7, by rw [g 4 9 (by omega)]; exact h8, by rw [g 4 10 (by omega)]; exact h9, fun hb => (h10 hb).agr (fun k j hk => g k j (by omega))⟩
theorem PRD.tk : ∀ k j, PRD k j → k ≠ 4 ∧ k ≠ 5 ∧ k ≠ 6 ∧ k ≠ 8 ∧ k ≠ 9 ∧ k ≠ 10 := fun k j h => by unfold PRD at h; omega
theorem CT.go {w : Wd} {t t' : Nat} {fa : Int32} (h : CT kd wr gb z w t fa) (ht : t' < z) (htt : t ≤ t') : CT kd wr gb z (si w 4 9 (Int32.ofNat t')) t' fa := by
  obtain ⟨h1, h2, h3, h4, h5, h6, h7, h8, h9, h10⟩ := h
  exact ⟨h1, h2, h3, h4, by rw [gi_si1 (by omega)]; exact h5, fun i hi => by rw [gi_si1 (by omega), gi_si1 (by omega)]; exact h6 i hi, ht, gi_si0 _ _ _ _, by rw [gi_si1 (by omega)]; exact h9, fun hb => ((h10 hb).le htt).agr (fun k j hk => gi_si1 (by omega))⟩
theorem a_kind {w : Wd} {t : Nat} {fa : Int32} (h : CT kd wr gb z w t fa) : fX9_kind w = Int32.ofNat (kd t) := by
  obtain ⟨h1, h2, h3, h4, h5, h6, h7, h8, h9⟩ := h
  unfold fX9_kind
  dsimp only [lt]
  unfold fX9_kindOf
  rw [h8, h5, if_neg (nle_iN h7 (by omega))]
  dsimp only [lt]
  rw [rgi_iN (n := t) (m := 8193) (by omega) (by omega)]
  exact (h6 t h7).1
theorem a_at {w : Wd} {t : Nat} {fa : Int32} (h : CT kd wr gb z w t fa) : fX9_at w = Int32.ofNat t := h.2.2.2.2.2.2.2.1
theorem kdlt {w : Wd} {t : Nat} {fa : Int32} (h : CT kd wr gb z w t fa) (hk : kd t ≠ 0) : t + 1 < z := by
  by_cases q : z ≤ t + 1
  · exact absurd (h.2.2.2.1 t q) hk
  · omega
theorem a_take {w : Wd} {t : Nat} {fa : Int32} (h : CT kd wr gb z w t fa) (hk : kd t ≠ 0) {k : Int32} (hx : k = Int32.ofNat (kd t)) : fX9_take k w = (true, si w 4 9 (Int32.ofNat (t + 1))) ∧ CT kd wr gb z (si w 4 9 (Int32.ofNat (t + 1))) (t + 1) fa := by
  refine ⟨?_, h.go (kdlt h hk) (by omega)⟩
  unfold fX9_take
  dsimp only [lt]
  rw [a_kind h, if_pos hx.symm, h.2.2.2.2.2.2.2.1, ad1_iN]
theorem a_take_no {w : Wd} {t : Nat} {fa : Int32} (h : CT kd wr gb z w t fa) {k : Nat} (hk : k ≤ 50) (hx : kd t ≠ k) : fX9_take (Int32.ofNat k) w = (false, w) := by
  unfold fX9_take
  dsimp only [lt]
  have h3 := h.2.2.1 t
  rw [a_kind h, if_neg (fun e => hx ((eq_iN (by omega) (by omega)).mp e))]
theorem a_fail {w : Wd} {t : Nat} {fa : Int32} (h : CT kd wr gb z w t fa) : CT kd wr gb z (fX9_fail w) (z - 1) (FA wr fa t) ∧ OFF (fun k j => k = 4 ∧ (j = 9 ∨ j = 10)) (fX9_fail w) w := by
  have h' := h
  obtain ⟨h1, h2, h3, h4, h5, h6, h7, h8, h9, h10⟩ := h
  unfold fX9_fail FA
  rw [h9]
  by_cases q : 0 ≤ fa
  · rw [if_pos q, if_pos q]
    dsimp only [lt]
    rw [h5, sb1_iN (by omega) (by omega)]
    exact ⟨h'.go (by omega) (by omega), OFF.si ⟨rfl, Or.inl rfl⟩⟩
  · rw [if_neg q, if_neg q]
    dsimp only [lt]
    unfold fX9_where
    dsimp only [lt]
    rw [h8, rgi_iN (n := t) (m := 8193) (by omega) (by omega), (h6 t h7).2.1, show gi (si w 4 10 (Int32.ofNat (wr t))) 4 8 = Int32.ofNat z by rw [gi_si1 (by omega)]; exact h5, sb1_iN (by omega) (by omega)]
    refine ⟨⟨h1, h2, h3, h4, by rw [gi_si1 (by omega), gi_si1 (by omega)]; exact h5, fun i hi => by rw [gi_si1 (by omega), gi_si1 (by omega), gi_si1 (by omega), gi_si1 (by omega)]; exact h6 i hi, by omega, gi_si0 _ _ _ _, by rw [gi_si1 (by omega), gi_si0], fun hb => (((h10 hb).le (by omega)).fa (fun h => absurd h q)).agr (fun k j hk => by rw [gi_si1 (by omega), gi_si1 (by omega)])⟩, OFF.tr (OFF.si ⟨rfl, Or.inl rfl⟩) (OFF.si ⟨rfl, Or.inr rfl⟩)⟩
/-- need: goes on behind it, or fails -/
theorem a_need {w : Wd} {t : Nat} {fa : Int32} (h : CT kd wr gb z w t fa) {k : Nat} (hk : k ≤ 50) (h0 : k ≠ 0) : (kd t = k → CT kd wr gb z (fX9_need (Int32.ofNat k) w) (t + 1) fa) ∧ (kd t ≠ k → CT kd wr gb z (fX9_need (Int32.ofNat k) w) (z - 1) (FA wr fa t)) ∧ OFF (fun k j => k = 4 ∧ (j = 9 ∨ j = 10)) (fX9_need (Int32.ofNat k) w) w := by
  unfold fX9_need
  by_cases q : kd t = k
  · obtain ⟨e1, e2⟩ := a_take (k := Int32.ofNat k) h (by omega) (by rw [q])
    rw [e1]
    dsimp only [lt2, lt]
    rw [if_pos rfl]
    exact ⟨fun _ => e2, fun hn => absurd q hn, OFF.si ⟨rfl, Or.inl rfl⟩⟩
  · rw [a_take_no h hk q]
    dsimp only [lt2, lt]
    rw [if_neg (by decide)]
    exact ⟨fun hn => absurd hn q, fun _ => (a_fail h).1, (a_fail h).2⟩
/-- open, of what is no BLOCK -/
theorem a_open {w : Wd} {t d : Nat} {fa : Int32} (h : CT kd wr gb z w t fa) (hk : kd t ≠ 0) (h4 : kd t ≠ 4) (hd : d ≤ 40) : (fX9_open (Int32.ofNat d) w).1 = Int32.ofNat (d + 1) ∧ (d < 40 → CT kd wr gb z (fX9_open (Int32.ofNat d) w).2 (t + 1) fa) ∧ (40 ≤ d → CT kd wr gb z (fX9_open (Int32.ofNat d) w).2 (z - 1) (FA wr fa (t + 1))) ∧ OFF (fun k j => k = 4 ∧ (j = 9 ∨ j = 10)) (fX9_open (Int32.ofNat d) w).2 w := by
  have h3 := h.2.2.1 t
  unfold fX9_open
  dsimp only [lt]
  have hc4 : ¬ (Int32.ofNat (kd t) = 4) := fun e => h4 ((eq_iN (a := kd t) (b := 4) (by omega) (by omega)).mp e)
  rw [a_kind h, if_neg hc4]
  unfold fX9_open_13
  dsimp only [lt]
  rw [h.2.2.2.2.2.2.2.1, ad1_iN, ad1_iN]
  have hg := h.go (kdlt h hk) (by omega)
  by_cases q : d < 40
  · rw [if_pos (show Int32.ofNat d < 40 from ylt_iN (b := 40) q (by omega))]
    exact ⟨rfl, fun _ => hg, fun hn => by omega, OFF.si ⟨rfl, Or.inl rfl⟩⟩
  · have hc : ¬ (Int32.ofNat d < 40) := nlt_iN (b := 40) (by omega) (by omega)
    rw [if_neg hc, if_neg (by decide)]
    exact ⟨rfl, fun hn => absurd hn q, fun _ => (a_fail hg).1, OFF.tr (a_fail hg).2 (OFF.si ⟨rfl, Or.inl rfl⟩)⟩
end CA
