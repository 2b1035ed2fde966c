/-! PASS 2, THE CLASS: words of the code, operands that wait, checks -/
/-- a word of the code -/
def wdC (x y z : Int32) : Int64 := (((Int32.toInt64 x) <<< (Int32.toInt64 28 &&& 63)) ||| ((Int32.toInt64 y) <<< (Int32.toInt64 22 &&& 63))) ||| (Int32.toInt64 z)
/-- places that making codes changes -/
def PCX (k j : Nat) : Prop := (k = 40 ∧ j = 1) ∨ k = 41
/-- operands that wait, from ob on: the last first; TYPE and first TOKEN -/
def OPS (ob : Nat) : List (Int32 × Nat) → Wd → Prop
  | [], _ => True
  | x :: r, w => gi w 46 (ob + r.length) = x.1 ∧ gi w 47 (ob + r.length) = Int32.ofNat x.2 ∧ OPS ob r w
/-- the class's code and operands: a words, S operands -/
def CCS (ob a : Nat) (S : List (Int32 × Nat)) (w : Wd) : Prop := gi w 3 5 ≠ 0 ∧ gi w 40 1 = Int32.ofNat a ∧ gi w 43 5 = Int32.ofNat (ob + S.length) ∧ OPS ob S w
section CP
variable {wr : Nat → Nat} {z ob a : Nat} {S : List (Int32 × Nat)} {w u : Wd}
theorem OPS.agr : ∀ {S : List (Int32 × Nat)}, OPS ob S w → (∀ k j, (k = 46 ∨ k = 47) → ob ≤ j → j < ob + S.length → gi u k j = gi w k j) → OPS ob S u := by
  intro S
  induction S with
  | nil => exact fun _ _ => trivial
  | cons x r ih =>
    intro h hA
    have hl : (x :: r).length = r.length + 1 := rfl
    exact ⟨(hA 46 _ (Or.inl rfl) (by omega) (by omega)).trans h.1, (hA 47 _ (Or.inr rfl) (by omega) (by omega)).trans h.2.1, ih h.2.2 (fun k j hk h1 h2 => hA k j hk h1 (by omega))⟩
/-- where TOKENS lie -/
def TW (wr : Nat → Nat) (z : Nat) (w : Wd) : Prop := z ≤ 8193 ∧ ∀ i, i < z → gi w 6 i = Int32.ofNat (wr i) ∧ wr i ≤ 8192
theorem CT.tw {kd : Nat → Nat} {gb : Bool} {t : Nat} {fa : Int32} (h : CT kd wr gb z w t fa) : TW wr z w := ⟨h.2.1, fun i hi => (h.2.2.2.2.2.1 i hi).2⟩
theorem TW.off {P : Nat → Nat → Prop} {v : Wd} (h : TW wr z w) (hO : OFF P v w) (hP : ∀ k j, P k j → k ≠ 6) : TW wr z v := ⟨h.1, fun i hi => by rw [(hO 6 i (fun q => hP _ _ q rfl)).1]; exact h.2 i hi⟩
theorem note_tw {s : Nat} {num : Int32} (h : TW wr z w) (hs : s < z) : FLA (fX1_note (Int32.ofNat s) num w) = FN (FLA w) num (Int32.ofNat (wr s)) ∧ OFF (fun k j => k = 3 ∧ (j = 6 ∨ j = 7)) (fX1_note (Int32.ofNat s) num w) w := by
  have hz := h.1
  have hwh : fX9_where (Int32.ofNat s) w = Int32.ofNat (wr s) := by
    unfold fX9_where
    rw [ltq, rgi_iN (by omega) (by omega)]
    exact (h.2 s hs).1
  refine ⟨?_, e_note⟩
  rw [note_fl, FLA_fl, hwh]
/-- one word -/
theorem ca_word {v : Int64} (h : CCS ob a S w) (ha : a < 36872) : ∃ u, fX0_word v w = (Int32.ofNat a, u) ∧ CCS ob (a + 1) S u ∧ gl u 41 a = v ∧ OFF (fun k j => (k = 40 ∧ j = 1) ∨ (k = 41 ∧ j = a)) u w := by
  obtain ⟨h1, h2, h3, h4⟩ := h
  have hO : OFF (fun k j => (k = 40 ∧ j = 1) ∨ (k = 41 ∧ j = a)) (si (sl w 41 a v) 40 1 (Int32.ofNat (a + 1))) w := OFF.tr (OFF.si (Or.inl ⟨rfl, rfl⟩)) (OFF.sl (Or.inr ⟨rfl, rfl⟩))
  refine ⟨si (sl w 41 a v) 40 1 (Int32.ofNat (a + 1)), ?_, ⟨?_, gi_si0 _ _ _ _, ?_, h4.agr (fun k j hk _ _ => (hO k j (by omega)).1)⟩, ?_, hO⟩
  · unfold fX0_word
    have e1 : gi (sl w 41 a v) 40 1 = Int32.ofNat a := h2
    rw [h2, rsl_iN ha (by omega), ltq, e1, ad1_iN, ltq, gi_si0, sb1_iN (by omega) (by omega)]
    rfl
  · rw [(hO 3 5 (by omega)).1]; exact h1
  · rw [(hO 43 5 (by omega)).1]; exact h3
  · rw [gl_si, gl_sl0]
theorem ca_put {x y z : Int32} (h : CCS ob a S w) (ha : a < 36872) : ∃ u, fX0_put x y z w = (Int32.ofNat a, u) ∧ CCS ob (a + 1) S u ∧ gl u 41 a = wdC x y z ∧ OFF (fun k j => (k = 40 ∧ j = 1) ∨ (k = 41 ∧ j = a)) u w := by
  obtain ⟨u, u1, u2⟩ := ca_word (v := wdC x y z) h ha
  refine ⟨u, ?_, u2⟩
  unfold fX0_put
  show lt2 (fX0_word (wdC x y z) w) _ = _
  rw [u1, lt2q]
theorem ca_put1 {x : Int32} (h : CCS ob a S w) (ha : a < 36872) : ∃ u, fX0_put__ x w = (Int32.ofNat a, u) ∧ CCS ob (a + 1) S u ∧ gl u 41 a = wdC x 0 0 ∧ OFF (fun k j => (k = 40 ∧ j = 1) ∨ (k = 41 ∧ j = a)) u w := by
  obtain ⟨u, u1, u2⟩ := ca_put (x := x) (y := 0) (z := 0) h ha
  refine ⟨u, ?_, u2⟩
  unfold fX0_put__
  rw [u1, lt2q]
theorem ca_put2 {x z : Int32} (h : CCS ob a S w) (ha : a < 36872) : ∃ u, fX0_put_ x z w = (Int32.ofNat a, u) ∧ CCS ob (a + 1) S u ∧ gl u 41 a = wdC x 0 z ∧ OFF (fun k j => (k = 40 ∧ j = 1) ∨ (k = 41 ∧ j = a)) u w := by
  obtain ⟨u, u1, u2⟩ := ca_put (x := x) (y := 0) (z := z) h ha
  refine ⟨u, ?_, u2⟩
  unfold fX0_put_
  rw [u1, lt2q]
/-- an operand -/
theorem ca_push {ty : Int32} {s : Nat} (h : CCS ob a S w) (hS : ob + S.length < 512) : CCS ob a ((ty, s) :: S) (fX10_push ty (Int32.ofNat s) w) ∧ OFF (fun k j => (k = 43 ∧ j = 5) ∨ ((k = 46 ∨ k = 47) ∧ j = ob + S.length)) (fX10_push ty (Int32.ofNat s) w) w := by
  obtain ⟨h1, h2, h3, h4⟩ := h
  have hu : fX10_push ty (Int32.ofNat s) w = si (si (si w 46 (ob + S.length) ty) 47 (ob + S.length) (Int32.ofNat s)) 43 5 (Int32.ofNat (ob + S.length + 1)) := by
    unfold fX10_push
    rw [h3, rsi_iN hS (by omega), ltq, gi_si1 (by omega), h3, rsi_iN hS (by omega), ltq, gi_si1 (by omega), gi_si1 (by omega), h3, ad1_iN, ltq]
  have hO : OFF (fun k j => (k = 43 ∧ j = 5) ∨ ((k = 46 ∨ k = 47) ∧ j = ob + S.length)) (si (si (si w 46 (ob + S.length) ty) 47 (ob + S.length) (Int32.ofNat s)) 43 5 (Int32.ofNat (ob + S.length + 1))) w := OFF.tr (OFF.si (by omega)) (OFF.tr (OFF.si (by omega)) (OFF.si (by omega)))
  rw [hu]
  refine ⟨⟨by rw [(hO 3 5 (by omega)).1]; exact h1, by rw [(hO 40 1 (by omega)).1]; exact h2, by rw [gi_si0]; rfl, by rw [gi_si1 (by omega), gi_si1 (by omega), gi_si0], by rw [gi_si1 (by omega), gi_si0], h4.agr (fun k j hk j1 j2 => (hO k j (by omega)).1)⟩, hO⟩
theorem ca_pop {x : Int32 × Nat} (h : CCS ob a (x :: S) w) (hS : ob + S.length < 512) : ∃ u, fX10_pop w = (x.1, u) ∧ CCS ob a S u ∧ OFF (fun k j => k = 43 ∧ j = 5) u w := by
  obtain ⟨h1, h2, h3, h4⟩ := h
  have hl : (x :: S).length = S.length + 1 := rfl
  have hO : OFF (fun k j => k = 43 ∧ j = 5) (si w 43 5 (Int32.ofNat (ob + S.length))) w := OFF.si ⟨rfl, rfl⟩
  refine ⟨si w 43 5 (Int32.ofNat (ob + S.length)), ?_, ⟨by rw [(hO 3 5 (by omega)).1]; exact h1, by rw [(hO 40 1 (by omega)).1]; exact h2, gi_si0 _ _ _ _, h4.2.2.agr (fun k j hk _ _ => (hO k j (by omega)).1)⟩, hO⟩
  have hmx : fJ9_max_7cf53 (Int32.ofNat (ob + S.length)) 0 = Int32.ofNat (ob + S.length) := by
    unfold fJ9_max_7cf53
    have h0 : (0 : Int32) ≤ Int32.ofNat (ob + S.length) := zl_iN (by omega)
    by_cases q : Int32.ofNat (ob + S.length) < 0
    · exact absurd q (nlt0 (by omega))
    · first | rw [if_neg q] | rw [if_pos h0] | (split <;> first | rfl | (rename_i hh; exact absurd h0 hh) | (rename_i hh; exact absurd hh q))
  unfold fX10_pop
  rw [h3, hl, show ob + (S.length + 1) = ob + S.length + 1 by omega, sb1_iN (by omega) (by omega), show ob + S.length + 1 - 1 = ob + S.length by omega, hmx, ltq, ltq, gi_si0, rgi_iN hS (by omega), ltq, gi_si1 (by omega), h4.1]
theorem ca_type0 {x : Int32 × Nat} (h : CCS ob a (x :: S) w) (hS : ob + S.length < 512) : fX10_type 0 w = x.1 ∧ fX10_start 0 w = Int32.ofNat x.2 := by
  obtain ⟨h1, h2, h3, h4⟩ := h
  have hl : (x :: S).length = S.length + 1 := rfl
  have e : gi w 43 5 - 1 - 0 = Int32.ofNat (ob + S.length) := by
    rw [h3, hl, show ob + (S.length + 1) = ob + S.length + 1 by omega, sb1_iN (by omega) (by omega), show (0 : Int32) = Int32.ofNat 0 from rfl, sub_iN (by omega) (by omega)]
    rfl
  unfold fX10_type fX10_start
  rw [e, rgi_iN hS (by omega), rgi_iN hS (by omega), h4.1, h4.2.1]
  exact ⟨rfl, rfl⟩
theorem ca_type1 {x y : Int32 × Nat} (h : CCS ob a (x :: y :: S) w) (hS : ob + S.length < 512) : fX10_type 1 w = y.1 ∧ fX10_start 1 w = Int32.ofNat y.2 := by
  obtain ⟨h1, h2, h3, h4⟩ := h
  have hl : (x :: y :: S).length = S.length + 2 := rfl
  have e : gi w 43 5 - 1 - 1 = Int32.ofNat (ob + S.length) := by
    rw [h3, hl, show ob + (S.length + 2) = ob + S.length + 2 by omega, sb1_iN (by omega) (by omega), sb1_iN (by omega) (by omega)]
    rfl
  unfold fX10_type fX10_start
  rw [e, rgi_iN hS (by omega), rgi_iN hS (by omega), h4.2.2.1, h4.2.2.2.1]
  exact ⟨rfl, rfl⟩
/-- a check -/
theorem ca_check {s : Nat} {x y : Int32} (hT : TW wr z w) (h : CCS ob a S w) (hs : s < z) : CCS ob a S (fX1_check x y (Int32.ofNat s) w) ∧ TW wr z (fX1_check x y (Int32.ofNat s) w) ∧ FLA (fX1_check x y (Int32.ofNat s) w) = FNL wr (difT x y s) (FLA w) ∧ OFF (fun k j => k = 3 ∧ (j = 6 ∨ j = 7)) (fX1_check x y (Int32.ofNat s) w) w := by
  obtain ⟨n1, n2⟩ := note_tw (num := 4) hT hs
  have hw : fX1_wrong (Int32.ofNat s) 4 w = fX1_note (Int32.ofNat s) 4 w := by
    unfold fX1_wrong
    rw [if_neg h.1]
    rfl
  have hc : fX1_check x y (Int32.ofNat s) w = if x ≠ 0 ∧ y ≠ 0 ∧ x ≠ y then fX1_note (Int32.ofNat s) 4 w else w := by
    unfold fX1_check
    rw [ltq, hw]
    by_cases q1 : x = 0
    · rw [if_pos q1, if_neg (fun g => g.1 q1)]
    · by_cases q2 : y = 0
      · rw [if_neg q1, if_pos q2, if_neg (fun g => g.2.1 q2)]
      · by_cases q3 : x = y
        · rw [if_neg q1, if_neg q2, if_pos q3, if_neg (fun g => g.2.2 q3)]
        · rw [if_neg q1, if_neg q2, if_neg q3, if_pos ⟨q1, q2, q3⟩]
  rw [hc]
  unfold difT
  by_cases q : x ≠ 0 ∧ y ≠ 0 ∧ x ≠ y
  · rw [if_pos q, if_pos q]
    refine ⟨⟨by rw [(n2 3 5 (by omega)).1]; exact h.1, by rw [(n2 40 1 (by omega)).1]; exact h.2.1, by rw [(n2 43 5 (by omega)).1]; exact h.2.2.1, h.2.2.2.agr (fun k j hk _ _ => (n2 k j (by omega)).1)⟩, TW.off hT n2 (fun k j hk => by omega), n1, n2⟩
  · rw [if_neg q, if_neg q]
    exact ⟨h, hT, rfl, OFF.rf⟩
end CP
