/-! BOTH MACHINES: what a procedure gives, set -/
section RS
/-- static: procedures -/
def SPR (E : SENV) : Prop := (∀ p, 1 ≤ p → p < eNo E 5 3 → ∀ s r, eDS E p = s :: r → gi (vM E) 37 p = gi (vM E) 15 s) ∧ ∀ y, y < eNo E 5 2 → gi (vM E) 19 y = 3 → eLV E (nd (vM E) 24 y) = eLV E (nd (vM E) 23 y) + 1
variable {E : SENV} {K : CXT} {Lim k n p nx a a1 b b1 y tk h sp sc i el : Nat} {x : Int} {wA wM : Wd} {stk : List Nat} {ty : Int32}
theorem JS.pro (hS : SYS E) (H : JS E K el a b h sp sc x i wA wM) {j : Nat} {B : ACT} (hB : K.1[j]? = some B) (hon : aOn B) : aP B < eNo E 5 3 ∧ aP B < 1200 ∧ eLV E (aP B) ≤ 41 ∧ gi (vM E) 30 (aP B) = Int32.ofNat (eLV E (aP B)) := by
  obtain ⟨kd, m, C, c1, c2, c3, c4, c5, c6, c7, c8, c9, c10, c10', c11⟩ := hS
  obtain ⟨⟨L, hL, hLo, gF, hc⟩, _⟩ := (H.act hB).2.2.2.2.2.2.2 hon
  have : aP B < C 4 := by
    rcases hc with ⟨p0, _⟩ | ⟨p0, p1, p2, p3⟩
    · omega
    · rw [c3]; exact p2.2.1
  exact ⟨by omega, by omega, (c11 _ this).2, (c11 _ this).1⟩
/-- the activation of a procedure that's round what's at hand -/
theorem JS.rnd (hS : SYS E) (hP : SPR E) (H : JS E K el a b h sp sc x i wA wM) {q : Nat} (hq : q < 1200) (hq0 : 1 ≤ q) : ∀ (f j : Nat) (A : ACT), K.1[j]? = some A → aOn A → inPr (vM E) (Int32.ofNat q) f (Int32.ofNat (aP A)) = true → ∃ j' B n, K.1[j']? = some B ∧ aOn B ∧ aP B = q ∧ FCH wA (K.2.2 1) n (aF A) (aF B) ∧ ACH wM n j j' ∧ eLV E (aP A) = eLV E (aP B) + n := by
  obtain ⟨hM, hD⟩ := H.mem
  intro f
  induction f with
  | zero => exact fun j A _ _ h => absurd h (by unfold inPr; decide)
  | succ f ih =>
    intro j A hA hon hin
    obtain ⟨m1, n2, n3, n4, n5, n6, n7, n8⟩ := H.act hA
    obtain ⟨⟨L, hL, hLo, gF, hc⟩, _⟩ := n8 hon
    have hpA := (H.pro hS hA hon).2.1
    unfold inPr at hin
    by_cases z : Int32.ofNat (aP A) ≤ 0
    · rw [if_pos z] at hin; exact absurd hin (by decide)
    rw [if_neg z] at hin
    have hz : aP A ≠ 0 := fun e => z (by rw [e]; decide)
    by_cases e : Int32.ofNat (aP A) = Int32.ofNat q
    · exact ⟨j, A, 0, hA, hon, (eq_iN (by omega) (by omega)).mp e, rfl, rfl, rfl⟩
    rw [if_neg e, tc_iN (by omega)] at hin
    rcases hc with ⟨p0, _⟩ | ⟨p0, p1, p2, p3⟩
    · exact absurd p0 hz
    · obtain ⟨c1, c2, c3, s, r, c4, c5⟩ := p2
      have e37 := hP.1 _ c1 c2 s r c4
      rw [e37, show gi (vM E) 15 s = Int32.ofNat (aP L) from c5] at hin
      obtain ⟨j', B, n, r1, r2, r3, r4, r5, r6⟩ := ih _ L hL hLo hin
      exact ⟨j', B, n + 1, r1, r2, r3, ⟨((hD.2.2 _ _ _ _ _ _ gF).2.1 (by omega)).1, aF L, ((hM _ _ _ _ _ _ gF).2.1 (Or.inr rfl)), r4⟩, ⟨n7, A.1 3, m1.2.2.1, r5⟩, by omega⟩
theorem rsp_ok (hE : EOKS E) (hS : SYS E) (hP : SPR E) : RSP E Lim := by
  intro stk p y a b hk hy h3 h20 hin hw ho ha hb K A h sp sc x i wA wM hA hon hstk hp H hH hL hh hxa hxk hc
  subst hp
  have hd := H.dep
  obtain ⟨q, nf, ff, q1, q2, q3, q4, q5, q6, q7, q8, q9, q10, q11, q12, q13, q14, q15⟩ := hS.pf hy h3
  rw [q3] at hin
  obtain ⟨j', B, n, r1, r2, r3, r4, r5, r6⟩ := H.rnd hS hP q13 q1 9000 _ A hA hon hin
  have pA := H.pro hS hA hon
  have pB := H.pro hS r1 r2
  obtain ⟨m1, n2, n3, n4, n5, n6, n7, n8⟩ := H.act r1
  obtain ⟨⟨L, hL', hLo, gF, hcc⟩, g1, g2, g3, g4, g5, g6⟩ := n8 r2
  have e29 : nd (vM E) 29 (aP B) = y := by
    unfold nd
    rw [r3, q5]; exact tc_iN (by omega)
  have gR := g5 (by omega) (by rw [e29]; exact h20)
  rw [e29] at gR
  have e17 : gi (vA E) 17 (y + 1) + 1 = Int32.ofNat (eLV E (aP B)) := by
    obtain ⟨kd, m, C, c1, c2, c3, c4, c5, c6, c7, c8, c9, c10, c10', c11⟩ := id hS
    obtain ⟨_, _, _, _, _, _, _, ⟨p', l, y1, y2, y3, y4⟩, _⟩ := c6 y (by omega)
    have yC := (c11 p' y2).1
    have := hP.2 y hy h3
    rw [q4] at this
    have e23 : nd (vM E) 23 y = p' := by unfold nd; rw [y1]; exact tc_iN (by omega)
    rw [e23] at this
    have hl : Int32.ofNat (eLV E p') = Int32.ofNat l := by rw [← yC, y4]
    rw [y3, ← hl, show (1 : Int32) = Int32.ofNat 1 from rfl, add_iN, r3, this]
  have w1 : gl (cA E) 41 a = wdC 20 (Int32.ofNat n) (Int32.ofNat 5) := by
    rw [hw, e17, sub_iN (by omega) (by omega), show eLV E (aP A) - eLV E (aP B) = n by omega]
    rfl
  have o1 : opW (dM E) b 3 (Int32.ofNat n) (Int32.ofNat 0) 0 := by
    have : Int32.ofNat (eLV E (aP A)) - gi (vM E) 30 (nd (vM E) 24 y) = Int32.ofNat n := by
      rw [q4, ← r3, pB.2.2.2, sub_iN (by omega) (by omega)]
      congr 1; omega
    rw [this] at ho
    exact ho
  have hq : aB B + 0 < 200000 := by omega
  exact CTG.cellp hE H hc hA w1 o1 (Or.inl ⟨by omega, r4⟩) (Or.inl ⟨n, j', aB B, rfl, by omega, r5, n7, m1.1, rfl⟩) gR hq ha hb (by omega) hxk
end RS
