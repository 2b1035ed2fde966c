/-! BOTH MACHINES: goto -/
section GT6
variable {E : SENV} {K : CXT} {Lim k n p nx n1 n2 a a1 a2 b b1 b2 y tk h sp sc i el j : Nat} {x x1 : Int} {wA wM uA uM : Wd} {stk : List Nat} {ty : Int32} {A B : ACT} {v : Int64}
/-- the BLOCK that's round a row of SCOPES, in its procedure -/
def blkO (E : SENV) (p : Nat) : List Nat → Int32
  | [] => -1
  | s :: r => if gi (vM E) 15 s = Int32.ofNat p then (if gi (vM E) 17 s = -1 then blkO E p r else gi (vM E) 17 s) else -1
/-- static: LABELS, and what procedures take -/
def SLB (E : SENV) : Prop := (∀ (s : Nat) (r : List Nat) (l p : Nat), UPM (eNo E 5 6) (vM E) (s :: r) → own E s p → p < 1200 → l ∈ eSL E s → gi (vM E) 19 l = 4 → l < eNo E 5 2 ∧ gi (dM E) 76 l = blkO E p (s :: r) ∧ ∃ c, gi (dM E) 55 l = Int32.ofNat c ∧ c ≤ 60000) ∧
  (∀ p, p < eNo E 5 3 → gi (dM E) 35 p = Int32.ofNat (eNo E 3 p)) ∧ (∀ s, s < eNo E 5 6 → gi (vM E) 17 s = -1 ∨ ∃ bk, gi (vM E) 17 s = Int32.ofNat bk ∧ bk < 9000 ∧ gi (dM E) 41 bk = Int32.ofNat (nd (vM E) 41 bk) ∧ nd (vM E) 41 bk ≤ 60000) ∧ eNo E 5 1 + 61 * eNo E 5 7 ≤ 199000
theorem cnO_le : ∀ as : List ACT, cnO as ≤ as.length := by
  intro as
  induction as with
  | nil => exact Nat.le_refl _
  | cons A r ih =>
    show (if A.1 10 = 1 then 1 else 0) + cnO r ≤ r.length + 1
    by_cases q : A.1 10 = 1
    · rw [if_pos q]; omega
    · rw [if_neg q]; omega
/-- the ELEMENTS that a LABEL leaves, where the reference keeps their number -/
theorem kv_ok (hB : SLB E) {as : List ACT} {G : GHO} {i : Nat} (S : SEA E as G i A) : ∀ (st : List Nat), st <:+ aK A → (blkO E (aP A) st = -1 ∧ kvO E A st = A.1 8) ∨ ∃ s bk, s ∈ aK A ∧ own E s (aP A) ∧ blkO E (aP A) st = Int32.ofNat bk ∧ bk < 9000 ∧ gi (dM E) 41 bk = Int32.ofNat (nd (vM E) 41 bk) ∧ nd (vM E) 41 bk ≤ 60000 ∧ kvO E A st = A.1 (100 + s) ∧ G 1 (aF A + eNo E 4 s) (aB A + nd (vM E) 41 bk + 1) 0 (Int64.ofNat (A.1 (100 + s))) (Int64.ofNat (A.1 (100 + s))) := by
  obtain ⟨s1, s2, s3, s4, s5, s6, s7, s8, s9, s10, s11, _⟩ := S
  intro st
  induction st with
  | nil => exact fun _ => Or.inl ⟨rfl, rfl⟩
  | cons s r ih =>
    intro hs
    have hsm : s ∈ aK A := hs.subset List.mem_cons_self
    have hsl : s < eNo E 5 6 := s8.lt s hsm
    by_cases q : gi (vM E) 15 s = Int32.ofNat (aP A)
    · by_cases q1 : gi (vM E) 17 s = -1
      · have e1 : blkO E (aP A) (s :: r) = blkO E (aP A) r := by
          show (if gi (vM E) 15 s = Int32.ofNat (aP A) then (if gi (vM E) 17 s = -1 then blkO E (aP A) r else gi (vM E) 17 s) else -1) = _
          rw [if_pos q, if_pos q1]
        have e2 : kvO E A (s :: r) = kvO E A r := by
          show (if own E s (aP A) then (if gi (vM E) 17 s = -1 then kvO E A r else A.1 (100 + s)) else A.1 8) = _
          rw [if_pos q, if_pos q1]
        rw [e1, e2]
        exact ih ((List.suffix_cons _ _).trans hs)
      · have e1 : blkO E (aP A) (s :: r) = gi (vM E) 17 s := by
          show (if gi (vM E) 15 s = Int32.ofNat (aP A) then (if gi (vM E) 17 s = -1 then blkO E (aP A) r else gi (vM E) 17 s) else -1) = _
          rw [if_pos q, if_neg q1]
        have e2 : kvO E A (s :: r) = A.1 (100 + s) := by
          show (if own E s (aP A) then (if gi (vM E) 17 s = -1 then kvO E A r else A.1 (100 + s)) else A.1 8) = _
          rw [if_pos q, if_neg q1]
        rcases hB.2.2.1 s hsl with z | ⟨bk, z1, z2, z3, z4⟩
        · exact absurd z q1
        · exact Or.inr ⟨s, bk, hsm, q, e1.trans z1, z2, z3, z4, e2, (s11 s r hs q bk z1 z2).1⟩
    · refine Or.inl ⟨?_, ?_⟩
      · show (if gi (vM E) 15 s = Int32.ofNat (aP A) then (if gi (vM E) 17 s = -1 then blkO E (aP A) r else gi (vM E) 17 s) else -1) = _
        rw [if_neg q]
      · show (if own E s (aP A) then (if gi (vM E) 17 s = -1 then kvO E A r else A.1 (100 + s)) else A.1 8) = _
        rw [if_neg q]
/-- both go to a LABEL -/
theorem JS.goto (hE : EOKS E) (hS : SYS E) (hW : SAD E) (hB : SLB E) (H : JS E K (K.2.2 5) a b (h + 2) (sp + 2) sc x i wA wM) (hA : K.1[K.2.2 0]? = some A) (hp : PL E K h sp wA wM) (hH : HND E K Lim) (hL : eNo E 5 5 < Lim + sc) (hw : gl (cA E) 41 a = wdC 50 0 0) {X Y Z : Int32} (ho : opW (dM E) b 19 X Y Z) (ha : a < eNo E 5 0) (hb : b < 60000) (hxa : ∀ (j : Nat) (B : ACT), K.1[j]? = some B → x + 1 + KK ≤ aX B) : GD E i wA wM := by
  have hd := H.dep
  obtain ⟨C, M⟩ := H.cka hA
  obtain ⟨l, j, B, s, r, p1, p2, p3, p4, p5, p6, p7, p8, p9, p10⟩ := hp
  obtain ⟨m1, n2, n3, n4, n5, n6, n7, n8⟩ := H.act p1
  have S := n8 p2
  obtain ⟨K', ⟨k1, k2, k3, k4, k5, k6, k7⟩, k8, k9, k10, ⟨k11, k12, k13, k14, k15, k16, k18, k19⟩, k17⟩ := hH j B s r l p1 p2 p3 p4 p5 p6
  have hpB := H.pro hS p1 p2
  have hU : UPM (eNo E 5 6) (vM E) (s :: r) := UPM.suf S.2.2.2.2.2.2.2.1 p3
  obtain ⟨l1, l2, c, l3, l4⟩ := hB.1 s r l (aP B) hU p4 hpB.2.1 p5 p6
  obtain ⟨y1, xx, y2, y3⟩ := hW l l1 (Or.inr (Or.inl p6))
  obtain ⟨hM, hD⟩ := H.mem
  have S' := S
  obtain ⟨s1, s2, s3, s4, s5, s6, s7⟩ := S'
  have r2 := (hM _ _ _ _ _ _ s2).2.1 (Or.inr rfl)
  have r4 := (hM _ _ _ _ _ _ s4).2.1 (Or.inr rfl)
  have r5 := (hM _ _ _ _ _ _ s5).2.1 (Or.inr rfl)
  have b5 := ((hD.2.2 _ _ _ _ _ _ s5).2.1 (by omega)).1
  have hcn := cnO_le K'.1
  have ht : aF B + eNo E 1 (aP B) ≤ 109186 := by
    rw [k3] at k16
    omega
  have hl5 : l < 5000 := by
    obtain ⟨kd, m, C0, c1, c2, c3, c4, _⟩ := hS
    omega
  have hm : aB B + eNo E 3 (aP B) ≤ 199000 := by
    rw [k4] at k15
    have h61 : K'.1.length * eNo E 5 7 ≤ 61 * eNo E 5 7 := Nat.mul_le_mul_right _ (by omega)
    have := hB.2.2.2
    omega
  obtain ⟨uA, u1, u2, u3⟩ := k_goto C ha hw (p7.trans y2) p8 (by omega) r2 r4 r5 ⟨by omega, by omega, ht⟩
  have M1 := M.nx (b1 := b + 1) (by omega)
  have hnum := H.num hA
  obtain ⟨w1, w2, w3, w4, w5⟩ := id hnum
  have hbl : gi (dM E) 76 l = -1 ∧ gi (si wM 0 128 (Int32.ofNat (b + 1))) 91 j = Int32.ofNat (kvO E B (s :: r)) ∨ ∃ k q, k < 9000 ∧ gi (dM E) 76 l = Int32.ofNat k ∧ gi (dM E) 41 k = Int32.ofNat q ∧ aB B + q + 1 < 200000 ∧ gl (si wM 0 128 (Int32.ofNat (b + 1))) 83 (aB B + q + 1) = Int64.ofNat (kvO E B (s :: r)) := by
    rcases kv_ok hB S (s :: r) p3 with ⟨z1, z2⟩ | ⟨s', bk, z1, z2, z3, z4, z5, z6, z7, z8⟩
    · refine Or.inl ⟨l2.trans z1, ?_⟩
      rw [gi_si1 (by omega), z2]; exact m1.2.2.2.2.2.1
    · have hq : aB B + nd (vM E) 41 bk + 1 < 199000 := by
        have := M.2.2.2.2.2.2.2.2.2.2.2.2.2.2.2.1
        rcases (hD.2.2 _ _ _ _ _ _ z8).2.2.1 (by omega) with q | q <;> omega
      have g := (hM _ _ _ _ _ _ z8).2.2 (Or.inl rfl)
      unfold RMq at g
      rw [if_pos (by omega)] at g
      refine Or.inr ⟨bk, _, z4, l2.trans z3, z5, by omega, ?_⟩
      rw [gl_si, z7]; exact g
  have h35 := hB.2.1 (aP B) hpB.1
  obtain ⟨uM, v1, v2, v3⟩ := jmp_ok (bl := 0) (l := l) (g := j) (base := aB B) (S := eNo E 3 (aP B)) (c := c) (cg := B.1 7) (sp1 := B.1 6) (us1 := B.1 4) (el1 := kvO E B (s :: r)) M1 ((gl_si _ _ _ _ _ _).trans p10) ((gl_si _ _ _ _ _ _).trans p9) n7 hl5 (by rw [gi_si1 (by omega)]; exact m1.2.2.2.1) (by omega) (by rw [gi_si1 (by omega)]; exact m1.1) ⟨aP B, hpB.2.1, by rw [gi_si1 (by omega)]; exact m1.2.1, h35⟩ (by rw [gi_si1 (by omega)]; exact m1.2.2.2.2.1) l3 l4 (m1.2.2.2.2.2.2.1.imp id (fun q => ⟨q.1, q.2.1, q.2.2.1, by rw [gi_si1 (by omega)]; exact q.2.2.2⟩)) (by omega) hm (by omega) hbl (by rw [← k7]; exact k18)
  have st : fX12_step wM = some uM := (rm_goto M hb ho).trans v1
  have OA : OFF (fun k j => k = 48 ∧ 10 ≤ j) uA wA := u3.mono fun k j p => by omega
  have OM : OFF (fun k j => k = 0 ∧ 127 ≤ j ∧ j ≤ 134) uM wM := OFF.tr v3 (OFF.si (by omega))
  obtain ⟨_, pr, de, fu, j1, j2, j3, j4, j5, j6, j7, j8, j9, j10, ⟨j11, j12, j13, j14, j15, j16, j17⟩, o1, o2⟩ := id H
  have hjl : j < K.1.length := by
    rcases List.getElem?_eq_some_iff.mp p1 with ⟨q, _⟩
    exact q
  have hlen : K'.1.length = j + 1 := by
    rw [k1, List.length_append, List.length_take]
    show min j K.1.length + 1 = j + 1
    omega
  have hat : K'.1[j]? = some (B.1, s :: r, B.2.2) := by
    rw [k1, List.getElem?_append_right (by rw [List.length_take]; omega), List.length_take, show min j K.1.length = j by omega, Nat.sub_self]
    rfl
  have hold : ∀ (q : Nat) (B' : ACT), K'.1[q]? = some B' → ∃ B'' : ACT, K.1[q]? = some B'' ∧ B''.1 = B'.1 ∧ B''.2.2 = B'.2.2 := fun q B' hq => by
    by_cases e : q = j
    · subst e
      have := Option.some.inj (hat.symm.trans hq)
      subst this
      exact ⟨B, p1, rfl, rfl⟩
    · have hqj : q < j := by
        rcases List.getElem?_eq_some_iff.mp hq with ⟨z, _⟩
        omega
      rw [k1, List.getElem?_append_left (by rw [List.length_take]; omega), List.getElem?_take_of_lt hqj] at hq
      exact ⟨B', hq, rfl, rfl⟩
  have hxB := hxa j B p1
  have J : JS E K' (K.2.2 5) xx c (B.1 5) (B.1 6) sc (aX B - KK) (i + 1) uA uM := by
    refine ⟨(B.1, s :: r, B.2.2), pr, de, fu, by rw [k2]; exact hat, p2, by rw [k3, k5]; exact u2, j4.off u3 (fun k j p => by omega), ?_, j6.off OM (fun k j p => by omega), fun q q1 q2 => ?_, (j8.sub k8).agr (fun _ _ _ _ _ _ _ _ => (OA 50 _ (by omega)).2) (fun _ _ q _ _ _ _ _ => ?_), k9, fun q B' hq => ?_, ⟨k11, by rw [k6, k5]; exact k12, by omega, by unfold KK at *; omega, by rw [k5]; exact k14, k15, k16⟩, OFF.tr (OA.mono fun k j p => by unfold PZA; omega) o1, OFF.tr (OM.mono fun k j p => by unfold PZR; omega) o2⟩
    · rw [k2, k6, hlen, k4, k7, k5]; exact v2
    · rw [(OA 55 q (by omega)).2, (OM 86 q (by omega)).2]; exact j7 q q1 q2
    · unfold RMq
      rw [(OM 83 q (by omega)).2, (OM 84 _ (by omega)).2]
    · obtain ⟨B'', hq2, b1, b2⟩ := hold q B' hq
      obtain ⟨⟨e1, e2, e3, e4, e5, e6, e7, e8⟩, f1, f2, f3, f4, f5, f6⟩ := j10 q B'' hq2
      obtain ⟨g1, g2, g3, g4⟩ := k19 q B' hq
      have e : ∀ k j, 87 ≤ k → gi uM k j = gi wM k j := fun k j p => (OM k j (by omega)).1
      have a1 : aB B'' = aB B' := by unfold aB; rw [b1]
      have a2 : aP B'' = aP B' := by unfold aP; rw [b1]
      have hACM : ACM q B'' uA uM := ⟨(e 87 _ (by omega)).trans e1, (e 98 _ (by omega)).trans e2, (e 88 _ (by omega)).trans e3, (e 89 _ (by omega)).trans e4, (e 90 _ (by omega)).trans e5, (e 91 _ (by omega)).trans e6, e7.imp id (fun z => ⟨z.1, z.2.1, z.2.2.1, by rw [e 96 _ (by omega)]; exact z.2.2.2⟩), e8.tr (KEE.o48 (OA.mono fun k j p => p.1) (OM.mono fun k j p => p.1))⟩
      refine ⟨?_, by rw [k5]; exact g3, g1, g2, by rw [k6]; exact g4, by rw [← a1]; exact f5, fun hon => k10 q B' hq hon⟩
      unfold ACM at hACM ⊢
      rw [b1, b2, a1, a2] at hACM
      exact hACM
  exact J.go hE (TKS.one hd.2.2.2.2 u1) (SPS.one (M.runs ho hb (by decide)) st) (by omega) (k17 xx c _ uA uM sc (i + 1) y2 l3 J hL)
end GT6
