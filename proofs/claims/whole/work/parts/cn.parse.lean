/-! BOTH SIDES: the first pass, whole -/
section TOP
variable {kd wr nm : Nat → Nat} {vv : Nat → Int64} {m z : Nat} {gA gM : Wd}
theorem fill_ok {k n e : Nat} {w : Wd} (he : e ≤ n) (hn : n ≤ 100000) : ∃ u, fJ7_fill_fda19 k n 0 (Int32.ofNat e) 0 w = some u ∧ (∀ j, j < e → gi u k j = 0) ∧ OFF (fun k' j' => k' = k ∧ j' < e) u w := by
  obtain ⟨f, hf⟩ := FU_gt (k := e) (by omega)
  have h0 : fJ7_rangeCheck_23922 (Int32.ofNat n) 0 (Int32.ofNat e) w = some w := by
    unfold fJ7_rangeCheck_23922
    rw [if_pos (show (0 : Int32) ≤ Int32.ofNat e from ofle (x := 0) (by omega) (by omega)), if_pos (by decide), if_pos (ofle he (by omega))]
  unfold fJ7_fill_fda19
  rw [h0, bn_so, hf]
  have : ∀ r i u, i + r = e → (∀ j, j < i → gi u k j = 0) → OFF (fun k' j' => k' = k ∧ j' < e) u w → ∃ v, oJ7_fill_fda19_10 k n (f + r + 1) (Int32.ofNat e) 0 (Int32.ofNat i) u = some v ∧ (∀ j, j < e → gi v k j = 0) ∧ OFF (fun k' j' => k' = k ∧ j' < e) v w := by
    intro r
    induction r with
    | zero =>
      intro i u hi h1 h2
      have hie : i = e := by omega
      subst hie
      refine ⟨u, ?_, h1, h2⟩
      show fJ7_fill_fda19_10 (oJ7_fill_fda19_10 k n (f + 0)) k n (Int32.ofNat i) 0 (Int32.ofNat i) u = some u
      unfold fJ7_fill_fda19_10
      rw [if_pos (ofle (Nat.le_refl _) (by omega))]
    | succ r ih =>
      intro i u hi h1 h2
      show ∃ v, fJ7_fill_fda19_10 (oJ7_fill_fda19_10 k n (f + (r + 1))) k n (Int32.ofNat e) 0 (Int32.ofNat i) u = some v ∧ _
      unfold fJ7_fill_fda19_10
      rw [if_neg (nle_iN (by omega) (by omega)), if_pos (inb_iN (by omega) (by omega)), ltq, tc_iN (by omega), ltq, ad1_iN]
      refine ih (i + 1) (si u k i 0) (by omega) (fun j hj => ?_) (OFF.tr (OFF.si ⟨rfl, by omega⟩) h2)
      by_cases q : j = i
      · rw [q, gi_si0]
      · rw [gi_si1 (by omega)]
        exact h1 j (by omega)
  exact this e 0 w (by omega) (fun j hj => absurd hj (by omega)) OFF.rf
/-- the class between builds -/
def BIC (w : Wd) : Prop := (∀ x, x < 8192 → gi w 27 x = 0) ∧ ∃ k, gi w 26 8 = Int32.ofNat k ∧ k ≤ 4000 ∧ ∀ j, k < j → j < 4096 → gi w 31 j = 0
/-- the class as a pass begins -/
def CLR (z : Nat) (w : Wd) : Prop := gi w 3 6 = 0 ∧ gi w 13 12 = 1 ∧ gi w 13 13 = 0 ∧ gi w 13 14 = 0 ∧ gi w 14 0 = 0 ∧ (∀ j, j < z → gi w 25 j = 0) ∧ (∀ j, j < 4096 → gi w 31 j = 0) ∧ (∀ x, x < 8192 → gi w 27 x = 0)
theorem add0_ok {w : Wd} (h : gi w 13 12 = 0) (h14 : gi w 13 14 = 0) : ∃ u, fX8_add 0 0 0 0 0 w = (0, u) ∧ gi u 13 12 = 1 ∧ gi u 13 13 = gi w 13 13 ∧ gi u 13 14 = 0 ∧ gi u 14 0 = 0 ∧ gi u 25 0 = 0 ∧ OFF (fun k j => (k = 13 ∧ (j = 12 ∨ j = 14)) ∨ (14 ≤ k ∧ k ≤ 25 ∧ j = 0)) u w := by
  have r : ∀ (u : Wd) (k n : Nat) (v : Int32), 0 < n → n < 100000 → rsi u k n 0 v = si u k 0 v := fun u k n v h1 h2 => rsi_iN (n := 0) h1 (by omega)
  unfold fX8_add
  rw [h, ltq]
  have e1 : gi (si w 13 12 (0 + 1)) 13 12 = 1 := by rw [gi_si0]; decide
  have e14 : gi (si w 13 12 (0 + 1)) 13 14 = 0 := by rw [gi_si1 (by omega)]; exact h14
  have e13 : gi (si w 13 12 (0 + 1)) 13 13 = gi w 13 13 := gi_si1 (by omega)
  have o1 : OFF (fun k j => (k = 13 ∧ (j = 12 ∨ j = 14)) ∨ (14 ≤ k ∧ k ≤ 25 ∧ j = 0)) (si w 13 12 (0 + 1)) w := OFF.si (by omega)
  rw [ltq]
  generalize si w 13 12 (0 + 1) = w1 at e1 e14 e13 o1 ⊢
  rw [ltq, ltq, ltq, ltq, ltq, ltq, ltq, ltq, ltq, ltq, ltq, ltq, r _ 21 _ _ (by omega) (by omega), r _ 22 _ _ (by omega) (by omega), r _ 14 _ _ (by omega) (by omega), r _ 15 _ _ (by omega) (by omega), r _ 17 _ _ (by omega) (by omega), r _ 16 _ _ (by omega) (by omega), r _ 18 _ _ (by omega) (by omega), r _ 19 _ _ (by omega) (by omega), r _ 20 _ _ (by omega) (by omega), r _ 23 _ _ (by omega) (by omega), r _ 24 _ _ (by omega) (by omega), r _ 25 _ _ (by omega) (by omega), if_neg (by decide), ltq]
  have o2 : OFF (fun k j => 14 ≤ k ∧ k ≤ 25 ∧ j = 0) (si (si (si (si (si (si (si (si (si (si (si (si w1 21 0 0) 22 0 0) 14 0 0) 15 0 0) 17 0 0) 16 0 0) 18 0 0) 19 0 0) 20 0 0) 23 0 0) 24 0 0) 25 0 0) w1 := by
    refine OFF.tr (OFF.si (by omega)) ?_
    refine OFF.tr (OFF.si (by omega)) ?_
    refine OFF.tr (OFF.si (by omega)) ?_
    refine OFF.tr (OFF.si (by omega)) ?_
    refine OFF.tr (OFF.si (by omega)) ?_
    refine OFF.tr (OFF.si (by omega)) ?_
    refine OFF.tr (OFF.si (by omega)) ?_
    refine OFF.tr (OFF.si (by omega)) ?_
    refine OFF.tr (OFF.si (by omega)) ?_
    refine OFF.tr (OFF.si (by omega)) ?_
    refine OFF.tr (OFF.si (by omega)) ?_
    exact OFF.si (by omega)
  have z14 : gi (si (si (si (si (si (si (si (si (si (si (si (si w1 21 0 0) 22 0 0) 14 0 0) 15 0 0) 17 0 0) 16 0 0) 18 0 0) 19 0 0) 20 0 0) 23 0 0) 24 0 0) 25 0 0) 14 0 = 0 := by
    rw [gi_si1 (by omega), gi_si1 (by omega), gi_si1 (by omega), gi_si1 (by omega), gi_si1 (by omega), gi_si1 (by omega), gi_si1 (by omega), gi_si1 (by omega), gi_si1 (by omega), gi_si0]
  have z25 : gi (si (si (si (si (si (si (si (si (si (si (si (si w1 21 0 0) 22 0 0) 14 0 0) 15 0 0) 17 0 0) 16 0 0) 18 0 0) 19 0 0) 20 0 0) 23 0 0) 24 0 0) 25 0 0) 25 0 = 0 := gi_si0 _ _ _ _
  generalize si (si (si (si (si (si (si (si (si (si (si (si w1 21 0 0) 22 0 0) 14 0 0) 15 0 0) 17 0 0) 16 0 0) 18 0 0) 19 0 0) 20 0 0) 23 0 0) 24 0 0) 25 0 0 = w2 at o2 z14 z25 ⊢
  refine ⟨_, rfl, ?_, ?_, ?_, ?_, ?_, OFF.tr (OFF.si (by omega)) (OFF.tr (o2.mono fun k j hk => by omega) o1)⟩
  · rw [gi_si1 (by omega), (o2 13 12 (by omega)).1]; exact e1
  · rw [gi_si1 (by omega), (o2 13 13 (by omega)).1]; exact e13
  · rw [gi_si0, (o2 13 14 (by omega)).1, e14]; decide
  · rw [gi_si1 (by omega)]; exact z14
  · rw [gi_si1 (by omega)]; exact z25
theorem clear_ok {w : Wd} (h : BIC w) (hz : gi w 4 8 = Int32.ofNat z) (hz3 : z ≤ 8193) : ∃ u, fX1_clear w = some u ∧ CLR z u ∧ OFF (fun k j => (k = 3 ∧ (j = 6 ∨ j = 7)) ∨ (13 ≤ k ∧ k ≤ 26) ∨ k = 31) u w := by
  obtain ⟨h27, k, h26, hk, h31⟩ := h
  unfold fX1_clear fX9_size
  rw [ltq, ltq, ltq, gi_si1 (by omega), gi_si1 (by omega), hz]
  have o1 : OFF (fun k j => k = 3 ∧ (j = 6 ∨ j = 7)) (si (si w 3 6 0) 3 7 (-1)) w := OFF.tr (OFF.si (by omega)) (OFF.si (by omega))
  have e36 : gi (si (si w 3 6 0) 3 7 (-1)) 3 6 = 0 := by rw [gi_si1 (by omega), gi_si0]
  generalize si (si w 3 6 0) 3 7 (-1) = w1 at o1 e36 ⊢
  unfold fX8_clear
  rw [ltq, ltq, ltq]
  have o2 : OFF (fun k j => k = 13) (si (si (si w1 13 12 0) 13 13 0) 13 14 0) w1 := OFF.tr (OFF.si rfl) (OFF.tr (OFF.si rfl) (OFF.si rfl))
  have a12 : gi (si (si (si w1 13 12 0) 13 13 0) 13 14 0) 13 12 = 0 := by rw [gi_si1 (by omega), gi_si1 (by omega), gi_si0]
  have a13 : gi (si (si (si w1 13 12 0) 13 13 0) 13 14 0) 13 13 = 0 := by rw [gi_si1 (by omega), gi_si0]
  have a14 : gi (si (si (si w1 13 12 0) 13 13 0) 13 14 0) 13 14 = 0 := gi_si0 _ _ _ _
  generalize si (si (si w1 13 12 0) 13 13 0) 13 14 0 = w2 at o2 a12 a13 a14 ⊢
  have hmin : fJ9_min_7cf53 (Int32.ofNat z) 8193 = Int32.ofNat z := by
    unfold fJ9_min_7cf53
    rw [if_neg (show ¬ ((8193 : Int32) < Int32.ofNat z) from nlt_iN (a := 8193) (by omega) (by omega))]
  rw [ltq, hmin]
  obtain ⟨w3, f1, f2, f3⟩ := fill_ok (k := 25) (n := 8193) (e := z) (w := w2) hz3 (by omega)
  rw [f1, bn_so]
  obtain ⟨w4, g1, g2, g3, g4, g5, g6, g7⟩ := add0_ok (w := w3) ((f3 13 12 (by omega)).1.trans a12) ((f3 13 14 (by omega)).1.trans a14)
  rw [g1, lt2q, bn_so]
  unfold fX7_clear fX7_restart
  have h26' : gi w4 26 8 = Int32.ofNat k := by rw [(g7 26 8 (by omega)).1, (f3 26 8 (by omega)).1, (o2 26 8 (by omega)).1, (o1 26 8 (by omega)).1]; exact h26
  have hmin2 : fJ9_min_7cf53 (Int32.ofNat k + 1) 4096 = Int32.ofNat (k + 1) := by
    rw [ad1_iN]
    unfold fJ9_min_7cf53
    rw [if_neg (show ¬ ((4096 : Int32) < Int32.ofNat (k + 1)) from nlt_iN (a := 4096) (by omega) (by omega))]
  rw [h26', ltq, hmin2]
  obtain ⟨w5, p1, p2, p3⟩ := fill_ok (k := 31) (n := 4096) (e := k + 1) (w := w4) (by omega) (by omega)
  rw [p1, bn_so, ltq, ltq, ltq, ltq, bn_so]
  have o6 : OFF (fun k j => k = 26) (si (si (si w5 26 8 0) 26 9 0) 26 10 0) w5 := OFF.tr (OFF.si rfl) (OFF.tr (OFF.si rfl) (OFF.si rfl))
  generalize si (si (si w5 26 8 0) 26 9 0) 26 10 0 = w6 at o6 ⊢
  have oall : OFF (fun k' j => k' = 26 ∨ (k' = 31 ∧ j < k + 1) ∨ (13 ≤ k' ∧ k' ≤ 25)) w6 w1 := OFF.tr (o6.mono fun k j h => Or.inl h) (OFF.tr (p3.mono fun k j h => Or.inr (Or.inl h)) (OFF.tr (g7.mono fun k j h => by omega) (OFF.tr (f3.mono fun k j h => by omega) (o2.mono fun k j h => by omega))))
  refine ⟨w6, rfl, ⟨?_, ?_, ?_, ?_, ?_, fun j hj => ?_, fun j hj => ?_, fun x hx => ?_⟩, OFF.tr (oall.mono fun k j h => by omega) (o1.mono fun k j h => by omega)⟩
  · rw [(oall 3 6 (by omega)).1]; exact e36
  · rw [(o6 13 12 (by omega)).1, (p3 13 12 (by omega)).1]; exact g2
  · rw [(o6 13 13 (by omega)).1, (p3 13 13 (by omega)).1, g3, (f3 13 13 (by omega)).1]; exact a13
  · rw [(o6 13 14 (by omega)).1, (p3 13 14 (by omega)).1]; exact g4
  · rw [(o6 14 0 (by omega)).1, (p3 14 0 (by omega)).1]; exact g5
  · rw [(o6 25 j (by omega)).1, (p3 25 j (by omega)).1]
    by_cases q : j = 0
    · rw [q]; exact g6
    · rw [(g7 25 j (by omega)).1]
      exact f2 j hj
  · rw [(o6 31 j (by omega)).1]
    by_cases q : j < k + 1
    · exact p2 j q
    · rw [(p3 31 j (by omega)).1, (g7 31 j (by omega)).1, (f3 31 j (by omega)).1, (o2 31 j (by omega)).1, (o1 31 j (by omega)).1]
      exact h31 j (by omega) hj
  · rw [(oall 27 x (by omega)).1, (o1 27 x (by omega)).1]
    exact h27 x hx
end TOP
