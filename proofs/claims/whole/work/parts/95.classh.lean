/-! THE CLASS GOES OVER EXPRS: simple ones where all is over; their end -/
section CS
variable {kd wr : Nat → Nat} {gb : Bool} {z base d0 : Nat} {pr : Nat → Nat → Sum Nat Nat} {J : List EV → Wd → Prop} {rc : TX2_typed} {fmP : Nat → Nat → Int32}
theorem c_simple_dead {st : Nat} (hJ : JX base J) (hz0 : ∀ d t, kd t = 0 → pr d t = .inl t) (hP : PRM kd wr gb z base d0 st pr J rc fmP) {t : Nat} {ev : List EV} {w : Wd} {fa : Int32} {f : Nat} {a4 : Int32} (hT : CT kd wr gb z w t fa) (hk : kd t = 0) (hz1 : ∀ i, i + 1 < z → kd i ≠ 0) (hW : CW J base d0 [] ev w) (hq : PQ pr 0 t ev) (hst : st ≤ t) :
    ∃ w' ev', oX2_simple_26 rc (f + 2) (Int32.ofNat d0) (Int32.ofNat t) (Int32.ofNat base) a4 true 0 w = fX2_simple_129 rc (Int32.ofNat t) 6 w' ∧ CT kd wr gb z w' (z - 1) (FA wr fa t) ∧ CW J base d0 [] ev' w' ∧ LOW base w' w := by
  have hb := hW.b
  have htz := hT.2.2.2.2.2.2.1
  have ht : t = z - 1 := by
    by_cases q : t + 1 < z
    · exact absurd hk (hz1 t q)
    · omega
  have h0 : oX2_simple_26 rc (f + 2) (Int32.ofNat d0) (Int32.ofNat t) (Int32.ofNat base) a4 true 0 w = fX2_simple_26 rc (oX2_simple_26 rc (f + 1)) (Int32.ofNat d0) (Int32.ofNat t) (Int32.ofNat base) a4 true 0 w := rfl
  rw [h0]
  unfold fX2_simple_26
  rw [if_pos rfl, if_neg (show ¬ ((8193 : Int32) ≤ 0) by decide), c_nots hW.1 hW.2.1 hW.2.2.1 (by omega), bn2_so, add_iN]
  unfold fX2_before
  obtain ⟨f9, hf9⟩ := FU_ge (k := 1) (by omega)
  rw [hf9]
  have hbf : oX2_before_5 (f9 + 1) (Int32.ofNat base) (Int32.ofNat (d0 + notS [])) 0 w = some (Int32.ofNat (d0 + notS []), w) := by
    show fX2_before_5 _ _ _ _ _ = _
    unfold fX2_before_5
    rw [if_neg (show ¬ ((40 : Int32) < 0) by decide), ltq, a_kind hT, hk, if_neg (show ¬ (Int32.ofNat 0 = 29) by decide)]
    unfold fX2_before_69
    rw [ltq, a_kind hT, hk, if_neg (show ¬ (Int32.ofNat 0 = 33) by decide), ltq, if_neg (show ¬ (Int32.ofNat 0 = 34) by decide)]
    unfold fX2_before_98
    exact if_neg (by decide)
  rw [hbf, bn2_so, ltq, a_at hT, if_pos rfl]
  obtain ⟨fm, u2, g1, g2, g9, g3, g4⟩ := c_operand (b := true) (k := oX2_simple_26 rc (f + 1)) (a1 := Int32.ofNat d0) (a2 := Int32.ofNat t) (a6 := 0) hP hT hW (Or.inr hk) hq hst
  obtain ⟨g5, ev2, g6⟩ := g3 _ (hz0 _ _ hk)
  rw [g1]
  rcases c_between (pr := pr) (n := 9001) hJ g5 g6 (by omega) with ⟨_, v, e1, e2, e3, e4⟩ | ⟨hk', _⟩
  · rw [e1, bn2_so, if_pos rfl, g9 hk]
    refine ⟨v, _, ?_, e2, e3, e4.tr g2⟩
    show fX2_simple_26 rc _ _ _ _ 6 false _ v = _
    unfold fX2_simple_26
    exact if_neg (by decide)
  · exact absurd (hT.2.2.2.1 (z - 1) (by omega)) hk'
/-- the forms of an EXPR are set, its operand goes -/
theorem c_form {w : Wd} {t s : Nat} {fa fm : Int32} {b : Bool} (hT : CT kd wr gb z w t fa) (hs : s ≤ t) (hs9 : s = t → s = z - 1 ∧ b = false ∧ fm = 6 ∧ 0 ≤ fa) : CT kd wr gb z (fX9_form (Int32.ofNat s) fm b w) t fa ∧ (∀ k j, ¬ (8 ≤ k ∧ k ≤ 10 ∧ j = s) → gi (fX9_form (Int32.ofNat s) fm b w) k j = gi w k j) ∧ gi (fX9_form (Int32.ofNat s) fm b w) 8 s = fm ∧ gi (fX9_form (Int32.ofNat s) fm b w) 9 s = b2i b ∧ gi (fX9_form (Int32.ofNat s) fm b w) 10 s = Int32.ofNat t := by
  have hz := hT.2.1
  have htz := hT.2.2.2.2.2.2.1
  have hf : fX9_form (Int32.ofNat s) fm b w = si (si (si w 8 s fm) 9 s (b2i b)) 10 s (Int32.ofNat t) := by
    have h23 : ∀ b' : Bool, fX9_form_23 (Int32.ofNat s) b' (Int32.ofNat s) (si w 8 s fm) = si (si (si w 8 s fm) 9 s (b2i b')) 10 s (Int32.ofNat t) := by
      intro b'
      unfold fX9_form_23
      rw [ltq, rsi_iN (n := s) (m := 8193) (by omega) (by omega), ltq, rsi_iN (n := s) (m := 8193) (by omega) (by omega), gi_si1 (by omega), gi_si1 (by omega), hT.2.2.2.2.2.2.2.1]
    unfold fX9_form
    rw [ltq, rsi_iN (n := s) (m := 8193) (by omega) (by omega)]
    cases b
    · rw [if_neg (by decide)]; exact h23 false
    · rw [if_pos rfl]; exact h23 true
  rw [hf]
  have hne : ∀ k j, ¬ (8 ≤ k ∧ k ≤ 10 ∧ j = s) → gi (si (si (si w 8 s fm) 9 s (b2i b)) 10 s (Int32.ofNat t)) k j = gi w k j := fun k j h => by
    rw [gi_si1 (by omega), gi_si1 (by omega), gi_si1 (by omega)]
  refine ⟨?_, hne, by rw [gi_si1 (by omega), gi_si1 (by omega), gi_si0], by rw [gi_si1 (by omega), gi_si0], gi_si0 _ _ _ _⟩
  obtain ⟨h1, h2, h3, h4, h5, h6, h7, h8, h9, h10⟩ := hT
  refine ⟨h1, h2, h3, h4, by rw [hne 4 8 (by omega)]; exact h5, fun i hi => by rw [hne 5 i (by omega), hne 6 i (by omega)]; exact h6 i hi, h7, by rw [hne 4 9 (by omega)]; exact h8, by rw [hne 4 10 (by omega)]; exact h9, fun hb j hj hjz => ?_⟩
  have h11 := h10 hb j hj hjz
  by_cases q : j = s
  · obtain ⟨q1, q2, q3, q4⟩ := hs9 (by omega)
    rw [q]
    refine ⟨Or.inr ⟨q1, by rw [gi_si1 (by omega), gi_si1 (by omega), gi_si0, q3], q4⟩, by rw [gi_si1 (by omega), gi_si0, q2]; rfl, ?_⟩
    rw [gi_si0, show t = s by omega]
  · rw [hne 8 j (by omega), hne 9 j (by omega), hne 10 j (by omega)]
    exact h11
end CS
