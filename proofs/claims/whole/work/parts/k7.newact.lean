/-! BOTH MACHINES: the new activation of a call -/
section KH7
variable {E : SENV} {K : CXT} {Lim p nx a a1 b b1 b2 h sp sc i el S k nf ff ac y th a0 q c c9 s tp mt lk dp cp Z : Nat} {x x1 : Int} {wA wM uA uM zA zM : Wd} {A B N L : ACT} {F : Nat → Int64} {G : GHO} {as : List ACT} {stk : List Nat} {ty : Int32} {ax : Int}
theorem FRC.k2 {fL h Z : Nat} {x : Nat} {va : Int64} (hh : (x = tp ∧ va = Int64.ofNat fL) ∨ (x = tp + 1 ∧ va = Int64.ofNat dp) ∨ (x = tp + 2 ∧ va = Int64.ofNat el) ∨ (x = tp + 3 ∧ va = Int64.ofNat h) ∨ (x = tp + 4 ∧ va = Int64.ofNat (tp + Z))) : onG G (FRC E p nf ff tp mt fL dp el h Z uA uM) 2 x 0 0 va 0 := Or.inr (Or.inl ⟨rfl, rfl, rfl, rfl, hh⟩)
/-- formals' cells tell what FVL tells of their words -/
theorem SYC.fml {fL : Nat} (hS : SYS E) (hq : q < nf) (h19 : gi (vM E) 19 (ff + q) = 6) (hy : ff + q < eNo E 5 2) (hsA : sA E (ff + q) = 6 + wsum E ff q) (hsM : sM E (ff + q) = 1 + 2 * q) (hB : aF B = tp ∧ aB B = mt)
    (hF : FVL E as G (ff + q) (gl uA 50 (tp + 6 + wsum E ff q)) (gl uA 50 (tp + 6 + wsum E ff q + 1)) (gl uM 83 (mt + (1 + 2 * q))) (gl uM 83 (mt + (1 + 2 * q) + 1))) : SYC E (as ++ [B]) (onG G (FRC E p nf ff tp mt fL dp el h Z uA uM)) B (ff + q) := by
  obtain ⟨v1, v2, v3, v4, v5, v6⟩ := hF
  obtain ⟨kd, m, C, hY⟩ := hS.sy hy
  have n1 : gi (vM E) 19 (ff + q) ≠ 1 := by rw [h19]; decide
  have n2 : gi (vM E) 19 (ff + q) ≠ 2 := by rw [h19]; decide
  have e1 : aF B + sA E (ff + q) = tp + 6 + wsum E ff q := by rw [hB.1, hsA]; omega
  have e2 : aB B + sM E (ff + q) = mt + (1 + 2 * q) := by rw [hB.2, hsM]
  -- a cell of this formal, not a VALUE
  have c1 : ¬ (gi (vM E) 24 (ff + q) = 1 ∧ gi (vM E) 28 (ff + q) ≠ 0) → onG G (FRC E p nf ff tp mt fL dp el h Z uA uM) 1 (tp + 6 + wsum E ff q) (mt + (1 + 2 * q)) 0 (gl uA 50 (tp + 6 + wsum E ff q)) (gl uM 83 (mt + (1 + 2 * q))) := fun z => Or.inr (Or.inr (Or.inr ⟨q, hq, Or.inr ⟨z, rfl, rfl, rfl, rfl, Or.inl ⟨rfl, rfl⟩⟩⟩))
  have c2 : ¬ (gi (vM E) 24 (ff + q) = 1 ∧ gi (vM E) 28 (ff + q) ≠ 0) → gi (vM E) 24 (ff + q) ≠ 2 → onG G (FRC E p nf ff tp mt fL dp el h Z uA uM) 1 (tp + 6 + wsum E ff q + 1) (mt + (1 + 2 * q) + 1) 0 (gl uA 50 (tp + 6 + wsum E ff q + 1)) (gl uM 83 (mt + (1 + 2 * q) + 1)) := fun z z2 => Or.inr (Or.inr (Or.inr ⟨q, hq, Or.inr ⟨z, rfl, rfl, rfl, rfl, Or.inr ⟨z2, rfl, rfl⟩⟩⟩))
  rw [SYC, e1, e2]
  refine ⟨fun g => absurd g n1, fun g => absurd g n1, fun g => absurd g n2, fun _ g1 g2 => Or.inr (Or.inr (Or.inr ⟨q, hq, Or.inl ⟨g1, g2, rfl, rfl, rfl, rfl, rfl, rfl⟩⟩)), fun _ g1 g2 => ?_, fun _ g1 => ?_, fun _ g1 => ?_, fun _ g1 => ?_, fun _ g1 => ?_⟩
  · obtain ⟨a, t, j, B', r1, r2, r3, r4, r5, r6, r7⟩ := v2 g1 g2
    have z : ¬ (gi (vM E) 24 (ff + q) = 1 ∧ gi (vM E) 28 (ff + q) ≠ 0) := fun c => c.2 g2
    have d1 := c1 z
    have d2 := c2 z (by rw [g1]; decide)
    rw [r3, r4] at d1
    rw [r5, r6] at d2
    exact ⟨a, t, j, B', at_app r1, r2, d1, d2, r7⟩
  · obtain ⟨xx, qq, nb, r1, r2, r3⟩ := v3 g1
    have d1 := c1 (fun c => by rw [g1] at c; exact absurd c.1 (by decide))
    rw [r1, r2] at d1
    exact ⟨xx, qq, nb, d1, r3.mono (fun _ _ _ _ _ _ g => Or.inl g)⟩
  · obtain ⟨pp, j, B', r1, r2, r3, r4, r5, r6, r7⟩ := v4 g1
    have z : ¬ (gi (vM E) 24 (ff + q) = 1 ∧ gi (vM E) 28 (ff + q) ≠ 0) := fun c => by rw [g1] at c; exact absurd c.1 (by decide)
    have d1 := c1 z
    have d2 := c2 z (by rw [g1]; decide)
    rw [r3, r4] at d1
    rw [r5, r6] at d2
    exact ⟨pp, j, B', at_app r1, r2, d1, d2, r7⟩
  · obtain ⟨a, t, j, B', r1, r2, r3, r4, r5, r6, r7⟩ := v5 g1
    have z : ¬ (gi (vM E) 24 (ff + q) = 1 ∧ gi (vM E) 28 (ff + q) ≠ 0) := fun c => by rw [g1] at c; exact absurd c.1 (by decide)
    have d1 := c1 z
    have d2 := c2 z (by rw [g1]; decide)
    rw [r3, r4] at d1
    rw [r5, r6] at d2
    exact ⟨a, t, j, B', at_app r1, r2, d1, d2, r7⟩
  · obtain ⟨k, j, B', xx, r1, r2, r0, r3, r4, r5, r6, r7⟩ := v6 g1
    have z : ¬ (gi (vM E) 24 (ff + q) = 1 ∧ gi (vM E) 28 (ff + q) ≠ 0) := fun c => by rw [g1] at c; exact absurd c.1 (by decide)
    have d1 := c1 z
    have d2 := c2 z (by rw [g1]; decide)
    rw [r3, r4] at d1
    rw [r5, r6] at d2
    exact ⟨k, j, B', xx, at_app r1, r2, r0, d1, d2, r7⟩
/-- the activation that's called, on -/
abbrev onA (E : SENV) (K : CXT) (p lk h sp : Nat) (uA uM : Wd) (ax : Int) : ACT := mkA p (K.2.2 1) (K.2.2 2) lk (K.2.2 3 + 1) h sp (K.2.2 4 + 1) (K.2.2 5) 1 (eNo E 6 p :: eDS E p) uA uM ax
theorem SEA.new (hS : SYS E) (hpp : PRF E p) (hnf : gi (vM E) 31 p = Int32.ofNat nf) (hff : gi (vM E) 32 p = Int32.ofNat ff) (hn : nf < 100000 ∧ ff < 100000) (hL : as[lk]? = some L) (hLo : aOn L) (hlt : lk < as.length) (hCab : CAB E L p) (hpL : aP L < 1200) (hown : ∀ y, y < eNo E 5 2 → gi (vM E) 19 y = 1 → gi (vM E) 27 y ≠ 0 → G 0 (sA E y) (sM E y) (gi (vM E) 20 y) 0 0)
    (hB : B.1 0 = p ∧ B.1 1 = tp ∧ B.1 2 = mt ∧ B.1 3 = lk ∧ B.1 4 = dp ∧ B.1 5 = h ∧ B.1 8 = el ∧ aK B = eNo E 6 p :: eDS E p)
    (hF : ∀ q, q < nf → FVL E as G (ff + q) (gl uA 50 (tp + 6 + wsum E ff q)) (gl uA 50 (tp + 6 + wsum E ff q + 1)) (gl uM 83 (mt + (1 + 2 * q))) (gl uM 83 (mt + (1 + 2 * q) + 1))) : SEA E (as ++ [B]) (onG G (FRC E p nf ff tp mt (aF L) dp el h (eNo E 1 p) uA uM)) as.length B := by
  obtain ⟨nf', ff', c, ⟨p1, p2, p3, p4, p5, p6, p7⟩, ⟨q1, q2, q3, q4, q5⟩, _, hfm, ⟨s1, s2, s3, s4, s5, s6, s7, s8⟩, _⟩ := hpp
  have en : nf' = nf := (eq_iN (by omega) (by omega)).mp (p3.symm.trans hnf)
  have ef : ff' = ff := by
    have : ff' < 2147483648 := by
      obtain ⟨kd, m, C, c1, c2, c3, c4, _⟩ := hS
      omega
    exact (eq_iN this (by omega)).mp (p4.symm.trans hff)
  subst en
  subst ef
  obtain ⟨b0, b1, b2, b3, b4, b5, b8, bK⟩ := hB
  have hp1 : 1 ≤ p := hCab.1
  obtain ⟨_, _, hsub, s, r, hds, hos⟩ := id hCab
  have eP : aP B = p := b0
  have eF : aF B = tp := b1
  have eB : aB B = mt := b2
  refine ⟨⟨L, by rw [b3]; exact at_app hL, hLo, ?_, Or.inr ⟨by rw [eP]; omega, by rw [b3]; exact hlt, by rw [eP]; exact hCab, by rw [eP]; exact s8 s r (aP L) hds hos hpL⟩⟩, ?_, ?_, ?_, ?_, ?_, ?_, ?_, ?_, ?_, ?_, fun y g1 g2 g3 => Or.inl (hown y g1 g2 g3)⟩
  · rw [eF]; exact FRC.k2 (Or.inl ⟨rfl, rfl⟩)
  · rw [eF, b4]; exact FRC.k2 (Or.inr (Or.inl ⟨rfl, rfl⟩))
  · rw [eF, b8]; exact FRC.k2 (Or.inr (Or.inr (Or.inl ⟨rfl, rfl⟩)))
  · rw [eF, b5]; exact FRC.k2 (Or.inr (Or.inr (Or.inr (Or.inl ⟨rfl, rfl⟩))))
  · rw [eF, eP]; exact FRC.k2 (Or.inr (Or.inr (Or.inr (Or.inr ⟨rfl, rfl⟩))))
  · rw [eF, eB, eP]
    exact fun _ g => Or.inr (Or.inr (Or.inl ⟨rfl, rfl, rfl, rfl, rfl, rfl, g⟩))
  · rw [bK, eP]
    exact ⟨[eNo E 6 p], rfl, fun s hs => by
      rw [List.mem_singleton] at hs
      subst hs
      exact s2, s6⟩
  · rw [bK]; exact s5
  · rw [bK, List.length_cons]; omega
  · rw [bK, eP]
    intro s hs ho y hy
    have es : s = eNo E 6 p := by
      rcases List.mem_cons.mp hs with z | z
      · exact z
      · exact absurd ho (s6 s z)
    subst es
    obtain ⟨q, hq, rfl⟩ := s4 y hy
    obtain ⟨f1, f2, f3, f4⟩ := hfm q hq
    exact SYC.fml hS hq f1 (by omega) f4 f3 ⟨eF, eB⟩ (hF q hq)
  · rw [bK, eP]
    intro s r hs ho bk g1 g2
    have es : s = eNo E 6 p := by
      rcases List.mem_cons.mp (hs.subset List.mem_cons_self) with z | z
      · exact z
      · exact absurd ho (s6 s z)
    subst es
    rw [s3] at g1
    exact absurd (show Int32.ofNat bk < 0 by rw [← g1]; decide) (nn_iN (by omega))
end KH7
