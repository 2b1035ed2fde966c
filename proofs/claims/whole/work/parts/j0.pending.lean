/-! BOTH MACHINES: an activation that's called, whose frame isn't there yet -/
section PD0
variable {E : SENV} {K : CXT} {Lim n p nx m a a1 a2 b b1 b2 h sp sc i el j k ev h0 sp0 h1 : Nat} {x x1 : Int} {wA wM uA uM : Wd} {stk : List Nat} {ty : Int32} {A B : ACT}
/-- JS, but that the reference stands at code b of activation ev -/
def JPS (E : SENV) (K : CXT) (el a b ev h sp sc : Nat) (x : Int) (i : Nat) (wA wM : Wd) : Prop := gi wM 0 128 = Int32.ofNat b ∧ gi wM 0 129 = Int32.ofNat ev ∧ ev < 64 ∧ JS E K el a b h sp sc x i wA (si wM 0 129 (Int32.ofNat (K.2.2 0)))
/-- the reference's machine there -/
theorem JPS.mk (H : JPS E K el a b ev h sp sc x i wA wM) : MK (dM E) b ev sp (K.2.2 4) K.1.length (K.2.2 2) (K.2.2 5) (K.2.2 3) wM := by
  obtain ⟨h1, h2, h3, H⟩ := H
  obtain ⟨A', e1, e2, C, M⟩ := H.ck
  have O : OFF (fun k j => (k = 0 ∧ 127 ≤ j ∧ j ≤ 139) ∨ 83 ≤ k) wM (si wM 0 129 (Int32.ofNat (K.2.2 0))) := fun k j hk => ⟨(gi_si1 (by omega)).symm, (gl_si _ _ _ _ _ _).symm⟩
  have e : ∀ j, j ≠ 129 → gi (si wM 0 129 (Int32.ofNat (K.2.2 0))) 0 j = gi wM 0 j := fun j hj => gi_si1 (by omega)
  exact M.nw O h1 h2 ((e 130 (by omega)).symm.trans M.2.2.2.2.1) ((e 127 (by omega)).symm.trans M.2.2.2.2.2.1) ((e 131 (by omega)).symm.trans M.2.2.2.2.2.2.1) ((e 132 (by omega)).symm.trans M.2.2.2.2.2.2.2.1) ((e 133 (by omega)).symm.trans M.2.2.2.2.2.2.2.2.1) ((e 134 (by omega)).symm.trans M.2.2.2.2.2.2.2.2.2.1) ⟨M.2.2.2.2.2.2.2.2.2.2.1, h3, M.2.2.2.2.2.2.2.2.2.2.2.2⟩
/-- words of the class alone -/
theorem JPS.stp (hE : EOKS E) (H : JPS E K el a b ev h sp sc x i wA wM) (hA : TKS k wA uA) (L : LOWK K h0 sp) (OA : OFF (PSK h0) uA wA) (q1 : gi uA 48 11 = Int32.ofNat a1) (q2 : gi uA 48 14 = Int32.ofNat h1) (hb : h1 ≤ 30622 ∧ h0 ≤ h1 ∧ sp ≤ h1) (hx : x + k ≤ x1 ∧ x1 ≤ KK) (g : JPS E K el a1 b ev h1 sp sc x1 (i + k) uA wM → GD E (i + k) uA wM) : GD E i wA wM := by
  obtain ⟨w1, w2, w3, J⟩ := id H
  obtain ⟨A', e1, e2, C, M⟩ := J.ck
  have J1 : JS E K el a1 b h1 sp sc x1 (i + k) uA (si wM 0 129 (Int32.ofNat (K.2.2 0))) := J.mv L OA (OFF.rf : OFF (PSO sp) _ _) q1 q2 M.2.2.1 M.2.2.2.2.1 ⟨M.2.2.2.2.2.2.2.2.2.2.1, hb.1, hb.2.1, Nat.le_refl _, hb.2.2⟩ hx
  have hg := g ⟨w1, w2, w3, J1⟩
  obtain ⟨A2, pr, de, fu, j1, j2, j3, ⟨t1, t2, t3, t4, t5, t6, t7, t8⟩, j5, j6, j7, j8, j9, j10, ⟨j11, j12, j13, j14, j15⟩, o1, o2⟩ := J1
  obtain ⟨g1, g2, g3⟩ := hE
  refine GOOD.adw (q := k) (by rw [g3]; unfold KK; omega) hA (show SPS 0 wM wM from rfl) (Nat.zero_le _) (Nat.le_refl _) ?_ hg
  rw [g3]
  have : KK * sc ≤ KK * eNo E 5 5 := Nat.mul_le_mul_left _ t7
  unfold KK at *
  omega
/-- it's JS when the reference stands in the activation at hand -/
theorem JPS.js (H : JPS E K el a b ev h sp sc x i wA wM) (hev : ev = K.2.2 0) : JS E K el a b h sp sc x i wA wM := by
  obtain ⟨h1, h2, h3, J⟩ := H
  have e : ∀ k j, gi (si wM 0 129 (Int32.ofNat (K.2.2 0))) k j = gi wM k j := fun k j => by
    by_cases q : k = 0 ∧ j = 129
    · obtain ⟨q1, q2⟩ := q
      subst q1
      subst q2
      rw [gi_si0, h2, hev]
    · exact gi_si1 (by omega)
  have O : ∀ (Q : Nat → Nat → Prop), OFF Q wM (si wM 0 129 (Int32.ofNat (K.2.2 0))) := fun Q k j hk => ⟨(e k j).symm, (gl_si _ _ _ _ _ _).symm⟩
  have hs : 0 ≤ 0 := Nat.le_refl _
  obtain ⟨A2, pr, de, fu, j1, j2, j3, j4, M, j6, j7, j8, j9, j10, j11, o1, o2⟩ := J
  refine ⟨A2, pr, de, fu, j1, j2, j3, j4, M.nw (O _) ((e 0 128).symm.trans M.2.2.1) ((e 0 129).symm.trans M.2.2.2.1) ((e 0 130).symm.trans M.2.2.2.2.1) ((e 0 127).symm.trans M.2.2.2.2.2.1) ((e 0 131).symm.trans M.2.2.2.2.2.2.1) ((e 0 132).symm.trans M.2.2.2.2.2.2.2.1) ((e 0 133).symm.trans M.2.2.2.2.2.2.2.2.1) ((e 0 134).symm.trans M.2.2.2.2.2.2.2.2.2.1) M.2.2.2.2.2.2.2.2.2.2, j6.off (O (fun _ _ => False)) (fun _ _ p => p.elim), fun q q1 q2 => ?_, j8.agr (fun _ _ _ _ _ _ _ _ => rfl) (fun _ _ q _ _ _ _ _ => ?_), j9, fun q B hB => ?_, j11, o1, OFF.tr (O _) o2⟩
  · rw [← gl_si wM 0 129 86 q (Int32.ofNat (K.2.2 0))]; exact j7 q q1 q2
  · rfl
  · obtain ⟨⟨m1, m2, m3, m4, m5, m6, m7, m8⟩, n1⟩ := j10 q B hB
    refine ⟨⟨(e _ _).symm.trans m1, (e _ _).symm.trans m2, (e _ _).symm.trans m3, (e _ _).symm.trans m4, (e _ _).symm.trans m5, (e _ _).symm.trans m6, m7.imp id (fun z => ⟨z.1, z.2.1, z.2.2.1, (e _ _).symm.trans z.2.2.2⟩), m8.1, m8.2.1, fun j hj => (gl_si _ _ _ _ _ _).symm.trans (m8.2.2.1 j hj), fun k j p q r => (e k j).symm.trans (m8.2.2.2.1 k j p q r), m8.2.2.2.2⟩, n1⟩
end PD0
