/-! PASS 2, THE CLASS: a sign for two operands -/
section CP
variable {wr : Nat → Nat} {z ob a : Nat} {S : List (Int32 × Nat)} {w u : Wd}
theorem c2_110 {b : Int32} {st : Nat} {x y : Int32 × Nat} (hst : st ≤ 50) (h : CCS ob a (x :: y :: S) w) (hS : ob + S.length + 1 < 512) (ha : a < 36872) :
    ∃ u, fX2_reduceTwo_110 b (Int32.ofNat st) w = u ∧ CCS ob (a + 1) ((if st ≤ 6 then 2 else 1, y.2) :: S) u ∧ gl u 41 a = wdC (fX2_operation b w) 0 0 ∧ OFF (fun k j => (k = 40 ∧ j = 1) ∨ (k = 41 ∧ j = a) ∨ PO2 ob k j) u w := by
  have hl : (y :: S).length = S.length + 1 := rfl
  obtain ⟨u1, o1, h1, g1, f1⟩ := ca_put1 (x := fX2_operation b w) h ha
  obtain ⟨t1, t2⟩ := ca_type1 h1 (by omega)
  obtain ⟨u2, o2, h2, f2⟩ := ca_pop h1 (by rw [hl]; omega)
  obtain ⟨u3, o3, h3, f3⟩ := ca_pop h2 (by omega)
  obtain ⟨h4, f4⟩ := ca_push (ty := if st ≤ 6 then 2 else 1) (s := y.2) h3 (by omega)
  have hu : fX2_reduceTwo_110 b (Int32.ofNat st) w = fX10_push (if st ≤ 6 then 2 else 1) (Int32.ofNat y.2) u3 := by
    unfold fX2_reduceTwo_110
    rw [ltq, o1, lt2q, t2, ltq, o2, lt2q, o3, lt2q]
    by_cases q : st ≤ 6
    · rw [if_pos (show Int32.ofNat st ≤ 6 from (le_iN (a := st) (b := 6) (by omega) (by omega)).mpr q), if_pos q, ltq]
    · rw [if_neg (show ¬ (Int32.ofNat st ≤ 6) from fun h => q ((le_iN (a := st) (b := 6) (by omega) (by omega)).mp h)), if_neg q, ltq]
  refine ⟨_, hu, h4, ?_, OFF.tr (f4.mono fun k j hk => by unfold PO2; omega) (OFF.tr (f3.mono fun k j hk => by unfold PO2; omega) (OFF.tr (f2.mono fun k j hk => by unfold PO2; omega) (f1.mono fun k j hk => by unfold PO2; omega)))⟩
  rw [(f4 41 a (by omega)).2, (f3 41 a (by omega)).2, (f2 41 a (by omega)).2, g1]
theorem oper_w {b : Int32} {u w : Wd} : fX2_operation b u = fX2_operation b w := rfl
theorem c2_two {s : EV} {x y : Int32 × Nat} (hs : okE s) (h1 : s.1 = 2) (hT : TW wr z w) (h : CCS ob a (x :: y :: S) w) (hS : ob + S.length + 1 < 512) (hx : x.2 < z) (hy : y.2 < z) (ha : a < 36872) :
    ∃ u, fX2_reduceTwo (Int32.ofNat s.2.1) w = u ∧ CCS ob (a + 1) ((tw2T s.2.1, y.2) :: S) u ∧ TW wr z u ∧ FLA u = FNL wr (tw2L s.2.1 x y) (FLA w) ∧ OFF (PW2 a ob) u w ∧ gl u 41 a = wdC (fX2_operation (Int32.ofNat s.2.1) w) 0 0 := by
  have hl : (y :: S).length = S.length + 1 := rfl
  obtain ⟨k50, kst, _, hk⟩ := hs
  have hk29 : s.2.1 ≠ 29 := by omega
  have hstr := strength_n k50 w
  have hst : stg s.2.1 ≤ 50 := by
    unfold stg
    repeat' split
    all_goals omega
  -- behind the checks
  have hend : ∀ w3 L, CCS ob a (x :: y :: S) w3 → TW wr z w3 → FLA w3 = FNL wr L (FLA w) → OFF (fun k j => k = 3 ∧ (j = 6 ∨ j = 7)) w3 w → ∃ u, fX2_reduceTwo_110 (Int32.ofNat s.2.1) (Int32.ofNat (stg s.2.1)) w3 = u ∧ CCS ob (a + 1) ((tw2T s.2.1, y.2) :: S) u ∧ TW wr z u ∧ FLA u = FNL wr L (FLA w) ∧ OFF (PW2 a ob) u w ∧ gl u 41 a = wdC (fX2_operation (Int32.ofNat s.2.1) w) 0 0 := fun w3 L g1 g2 g3 g4 => by
    obtain ⟨u, e1, e2, e3, e4⟩ := c2_110 (b := Int32.ofNat s.2.1) hst g1 hS ha
    have hO : OFF (PW2 a ob) u w := OFF.tr (e4.mono fun k j hk => by unfold PO2 at hk; unfold PW2; omega) (g4.mono fun k j hk => by unfold PW2; omega)
    refine ⟨u, e1, e2, hT.pw hO, ?_, hO, e3⟩
    rw [← g3]
    unfold FLA
    rw [(e4 3 6 (by unfold PO2; omega)).1, (e4 3 7 (by unfold PO2; omega)).1]
  obtain ⟨t11, t12⟩ := ca_type1 h (by omega)
  obtain ⟨t01, t02⟩ := ca_type0 h (by rw [hl]; omega)
  have h17 : ∀ q38 : s.2.1 = 38 ∨ s.2.1 = 49, ∃ u, fX2_reduceTwo_17 (Int32.ofNat s.2.1) (Int32.ofNat (stg s.2.1)) w = u ∧ CCS ob (a + 1) ((tw2T s.2.1, y.2) :: S) u ∧ TW wr z u ∧ FLA u = FNL wr (tw2L s.2.1 x y) (FLA w) ∧ OFF (PW2 a ob) u w ∧ gl u 41 a = wdC (fX2_operation (Int32.ofNat s.2.1) w) 0 0 := fun q38 => by
    obtain ⟨c1, c2, c3, c4⟩ := ca_check (x := y.1) (y := x.1) hT h hx
    unfold fX2_reduceTwo_17 tw2L
    rw [t11, t01, t02, ltq, ltq, ltq, ltq, if_pos q38]
    exact hend _ _ c1 c2 c3 c4
  have h61 : ∀ (b : Int32), ¬ (s.2.1 = 38 ∨ s.2.1 = 49) → b = (if 5 ≤ stg s.2.1 then 1 else 2) → ∃ u, fX2_reduceTwo_61 b (Int32.ofNat s.2.1) (Int32.ofNat (stg s.2.1)) w = u ∧ CCS ob (a + 1) ((tw2T s.2.1, y.2) :: S) u ∧ TW wr z u ∧ FLA u = FNL wr (tw2L s.2.1 x y) (FLA w) ∧ OFF (PW2 a ob) u w ∧ gl u 41 a = wdC (fX2_operation (Int32.ofNat s.2.1) w) 0 0 := fun b q38 hb => by
    obtain ⟨c1, c2, c3, c4⟩ := ca_check (x := b) (y := y.1) hT h hy
    obtain ⟨t01', t02'⟩ := ca_type0 c1 (by rw [hl]; omega)
    obtain ⟨d1, d2, d3, d4⟩ := ca_check (x := b) (y := x.1) c2 c1 hx
    unfold fX2_reduceTwo_61 tw2L
    rw [t11, t12, ltq, ltq, ltq, t01', t02', ltq, ltq, ltq, if_neg q38, ← hb]
    exact hend _ _ d1 d2 (by rw [d3, c3, FNL_app]) (OFF.tr d4 c4)
  unfold fX2_reduceTwo
  rw [hstr, ltq]
  by_cases q1 : s.2.1 = 38
  · rw [if_pos (show Int32.ofNat s.2.1 = 38 by rw [q1]; rfl)]
    exact h17 (Or.inl q1)
  · by_cases q2 : s.2.1 = 49
    · rw [if_neg (show ¬ (Int32.ofNat s.2.1 = 38) from of_ne (k := 38) (by omega) (by omega) q1), if_pos (show Int32.ofNat s.2.1 = 49 by rw [q2]; rfl)]
      exact h17 (Or.inr q2)
    · have q38 : ¬ (s.2.1 = 38 ∨ s.2.1 = 49) := by omega
      rw [if_neg (show ¬ (Int32.ofNat s.2.1 = 38) from of_ne (k := 38) (by omega) (by omega) q1), if_neg (show ¬ (Int32.ofNat s.2.1 = 49) from of_ne (k := 49) (by omega) (by omega) q2)]
      by_cases q3 : 5 ≤ stg s.2.1
      · rw [if_pos (show (5 : Int32) ≤ Int32.ofNat (stg s.2.1) from ofle (x := 5) q3 (by omega))]
        exact h61 1 q38 (by rw [if_pos q3])
      · rw [if_neg (show ¬ ((5 : Int32) ≤ Int32.ofNat (stg s.2.1)) from nle_iN (a := 5) (by omega) (by omega))]
        exact h61 2 q38 (by rw [if_neg q3])
end CP
