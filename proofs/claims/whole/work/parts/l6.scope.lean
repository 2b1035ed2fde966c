/-! BOTH MACHINES: a SCOPE is entered; LABELS of it -/
section LG6
variable {E : SENV} {K K' : CXT} {Lim p nx a a1 a9 b b1 b9 h sp sc i el el1 j sg m1 s0 m2 sg' m1' kp n1 : Nat} {x x1 : Int} {wA wM uA uM : Wd} {A A' B B0 N : ACT} {G G' : GHO} {s s' : Nat} {r stk : List Nat} {as as' : List ACT}
theorem kvO.al (h0 : A'.1 0 = A.1 0) (h8 : A'.1 8 = A.1 8) : ∀ (r : List Nat), (∀ s ∈ r, A'.1 (100 + s) = A.1 (100 + s)) → kvO E A' r = kvO E A r := by
  intro r
  induction r with
  | nil => exact fun _ => h8
  | cons s r ih =>
    intro h
    show (if own E s (A'.1 0) then (if gi (vM E) 17 s = -1 then kvO E A' r else A'.1 (100 + s)) else A'.1 8) = (if own E s (A.1 0) then (if gi (vM E) 17 s = -1 then kvO E A r else A.1 (100 + s)) else A.1 8)
    rw [h0, h8, h s List.mem_cons_self, ih (fun s hs => h s (List.mem_cons_of_mem _ hs))]
theorem SYC.al {y : Nat} (ha : ALK A A') (h : SYC E as G A y) : SYC E as G A' y := by
  unfold SYC at h ⊢
  rw [ha.eF, ha.eB]; exact h
/-- the row of SCOPES grows by one -/
theorem SEA.in (S : SEA E as G i A) (hx : EXA as as') (hg : ∀ k x q ty va vm, G k x q ty va vm → G' k x q ty va vm) (ha : ALK A A') (hr : aK A' = s' :: aK A) (hk : ∀ s ∈ aK A, A'.1 (100 + s) = A.1 (100 + s)) (ho : own E s' (aP A)) (hu : UPM (eNo E 5 6) (vM E) (s' :: aK A)) (hl : (s' :: aK A).length < 9000) (hy : ∀ y ∈ eSL E s', SYC E as' G' A' y) (hb : ∀ bk, gi (vM E) 17 s' = Int32.ofNat bk → bk < 9000 → G' 1 (aF A + eNo E 4 s') (aB A + nd (vM E) 41 bk + 1) 0 (Int64.ofNat (A'.1 (100 + s'))) (Int64.ofNat (A'.1 (100 + s'))) ∧ G' 3 0 (aB A + nd (vM E) 41 bk) 0 0 (Int64.ofNat (kvO E A (aK A))) ∧ kvO E A (aK A) ≤ A'.1 (100 + s')) : SEA E as' G' i A' := by
  obtain ⟨⟨L, h1, h2, h3, h4⟩, s1, s2, s3, s4, s5, ⟨o, s6, s7, s8⟩, s9, s10, s11, s12, s13⟩ := S
  obtain ⟨L', q1, q2, q3⟩ := hx _ L h1 h2
  have e3 := ha.1 3 (by omega)
  refine ⟨⟨L', by rw [e3]; exact q1, q2, ?_, ?_⟩, ?_, ?_, ?_, ?_, ?_, ⟨s' :: o, ?_, ?_, ?_⟩, ?_, ?_, ?_, ?_, fun y g1 g2 g3 => hg _ _ _ _ _ _ (s13 y g1 g2 g3)⟩
  · rw [q3.eF, ha.eF]; exact hg _ _ _ _ _ _ h3
  · rw [ha.eP, e3, q3.eP]
    exact h4.imp id (fun z => ⟨z.1, z.2.1, z.2.2.1.alk q3, z.2.2.2⟩)
  · rw [ha.eF, ha.1 4 (by omega)]; exact hg _ _ _ _ _ _ s1
  · rw [ha.eF, ha.1 8 (by omega)]; exact hg _ _ _ _ _ _ s2
  · rw [ha.eF, ha.1 5 (by omega)]; exact hg _ _ _ _ _ _ s3
  · rw [ha.eF, ha.eP]; exact hg _ _ _ _ _ _ s4
  · rw [ha.eF, ha.eB, ha.eP]; exact fun g1 g2 => hg _ _ _ _ _ _ (s5 g1 g2)
  · rw [hr, ha.eP, s6]; rfl
  · rw [ha.eP]
    intro s hs
    rcases List.mem_cons.mp hs with z | z
    · rw [z]; exact ho
    · exact s7 s z
  · rw [ha.eP]; exact s8
  · rw [hr]; exact hu
  · rw [hr]; exact hl
  · rw [hr, ha.eP]
    intro s hs ho' y hy'
    rcases List.mem_cons.mp hs with z | z
    · subst z; exact hy y hy'
    · exact ((s11 s z ho' y hy').mono hx hg).al ha
  · rw [hr, ha.eP, ha.eF, ha.eB]
    intro s r hs ho' bk g1 g2
    have kr : ∀ r, r <:+ aK A → kvO E A' r = kvO E A r := fun r hr => kvO.al (ha.1 0 (by omega)) (ha.1 8 (by omega)) r (fun t ht => hk t (hr.subset ht))
    rcases List.suffix_cons_iff.mp hs with z | z
    · injection z with z1 z2
      subst z1
      subst z2
      rw [kr _ (List.suffix_refl _)]
      exact hb bk g1 g2
    · obtain ⟨t1, t2, t3⟩ := s12 s r z ho' bk g1 g2
      rw [kr r ((List.suffix_cons s r).trans z), hk s (z.subset List.mem_cons_self)]
      exact ⟨hg _ _ _ _ _ _ t1, hg _ _ _ _ _ _ t2, t3⟩
/-- LABELS of SCOPE s: where they are, and that the rest of it from there is a STATEMENT -/
def LBE (E : SENV) (Lim s : Nat) (stk : List Nat) (p sg m1 s0 m2 a a9 b9 : Nat) : Prop := ∀ l ∈ eSL E s, gi (vM E) 19 l = 4 → ∃ al cl, gl (cA E) 41 (l + 1) = Int64.ofNat al ∧ gi (dM E) 55 l = Int32.ofNat cl ∧ cl ≤ 60000 ∧ gl (cA E) 41 al = wdC 32 0 (Int32.ofNat (kpO E p (s :: stk))) ∧ al < eNo E 5 0 ∧ a ≤ al ∧ al + 1 ≤ a9 ∧ ∀ L, L ≤ Lim → SIT E L (s :: stk) p sg m1 s0 m2 (al + 1) a9 cl b9
/-- the class at another number of the same word -/
theorem JS.wrd {a' : Nat} (H : JS E K el a b h sp sc x i wA wM) (e : Int32.ofNat a = Int32.ofNat a') : JS E K el a' b h sp sc x i wA wM := by
  obtain ⟨A', pr, de, fu, j1, j2, ⟨c1, c2, c3, c4⟩, j4⟩ := H
  exact ⟨A', pr, de, fu, j1, j2, ⟨c1, c2, c3.trans e, c4⟩, j4⟩
/-- .. stays as it is -/
theorem SEA.eqv (S : SEA E as G i A) (hx : EXA as as') (ha : ALK A A') (hr : aK A' = aK A) (hk : ∀ s ∈ aK A, A'.1 (100 + s) = A.1 (100 + s)) : SEA E as' G i A' := by
  obtain ⟨⟨L, h1, h2, h3, h4⟩, s1, s2, s3, s4, s5, s6, s9, s10, s11, s12, s13⟩ := S
  obtain ⟨L', q1, q2, q3⟩ := hx _ L h1 h2
  have e3 := ha.1 3 (by omega)
  refine ⟨⟨L', by rw [e3]; exact q1, q2, ?_, ?_⟩, ?_, ?_, ?_, ?_, ?_, ?_, ?_, ?_, ?_, ?_, s13⟩
  · rw [q3.eF, ha.eF]; exact h3
  · rw [ha.eP, e3, q3.eP]
    exact h4.imp id (fun z => ⟨z.1, z.2.1, z.2.2.1.alk q3, z.2.2.2⟩)
  · rw [ha.eF, ha.1 4 (by omega)]; exact s1
  · rw [ha.eF, ha.1 8 (by omega)]; exact s2
  · rw [ha.eF, ha.1 5 (by omega)]; exact s3
  · rw [ha.eF, ha.eP]; exact s4
  · rw [ha.eF, ha.eB, ha.eP]; exact s5
  · rw [hr, ha.eP]; exact s6
  · rw [hr]; exact s9
  · rw [hr]; exact s10
  · rw [hr, ha.eP]
    intro s hs ho' y hy'
    exact ((s11 s hs ho' y hy').mono hx (fun _ _ _ _ _ _ g => g)).al ha
  · rw [hr, ha.eP, ha.eF, ha.eB]
    intro s r hs ho' bk g1 g2
    obtain ⟨t1, t2, t3⟩ := s12 s r hs ho' bk g1 g2
    rw [kvO.al (ha.1 0 (by omega)) (ha.1 8 (by omega)) r (fun t ht => hk t (((List.suffix_cons s r).trans hs).subset ht)), hk s (hs.subset List.mem_cons_self)]
    exact ⟨t1, t2, t3⟩
theorem SMA.alk (h : SMA B0 B) (hr : ∀ s ∈ aK B0, s ∈ aK B) : ALK B0 B := ⟨h.1, hr⟩
/-- LABELS once another SCOPE is entered; hw: those of that SCOPE -/
theorem HND.mk1 (h : HND E K Lim) (hA : K.1[K.2.2 0]? = some A) (honA : aOn A) (hl : K.1.length = K.2.2 0 + 1) (hg : ∀ k x q ty va vm, K.2.1 k x q ty va vm → G' k x q ty va vm) (hs : SMA A A') (hr : aK A' = s' :: aK A) (hk : ∀ t ∈ aK A, A'.1 (100 + t) = A.1 (100 + t)) (hJ : JS E (newK K A' G' el1) el a b (A'.1 5) (A'.1 6) sc x i wA wM) (hT : LSN E (newK K A' G' el1) A') (hax : aX A' ≤ KK)
    (hw : ∀ l ∈ eSL E s', gi (vM E) 19 l = 4 → ∀ a c el uA uM sc i, gl (cA E) 41 (l + 1) = Int64.ofNat a → gi (dM E) 55 l = Int32.ofNat c → JS E (newK K A' G' el1) el a c (A'.1 5) (A'.1 6) sc (aX A' - KK) i uA uM → eNo E 5 5 < Lim + sc → GD E i uA uM) : HND E (newK K A' G' el1) Lim := by
  have ha : ALK A A' := hs.alk (fun s h => by rw [hr]; exact List.mem_cons_of_mem _ h)
  refine HND.nk h hA hl hg (fun s r l h2 h3 h4 h5 h6 => ?_)
  rw [hr] at h3
  rcases List.suffix_cons_iff.mp h3 with z | z
  · injection z with z1 z2
    subst z1
    subst z2
    have eA : (A'.1, s :: aK A, A'.2.2) = A' := by rw [← hr]
    obtain ⟨t1, t2, t3, t4, t5⟩ := hT
    obtain ⟨k1, k2, k3, k4, k5, k6⟩ := hJ.kst
    have hd := hJ.dep
    obtain ⟨C0, M0⟩ := hJ.cka (newK_at hl)
    refine ⟨newK K A' G' el1, ⟨by rw [eA]; rfl, rfl, t1, t2, t3, t4, by rw [← hr]; exact t5⟩, fun _ _ _ _ _ _ g => g, k1, fun i B hB ho => (k2 i B hB).2.2.2 ho, ⟨hd.2.2.1, ?_, hax, ?_, k5, k6, M0.2.2.2.2.2.2.2.2.2.2.2.2.2.2.2.2.1, fun q B' hB' => ?_⟩, fun a c el uA uM sc i g1 g2 g3 g4 => hw l h5 h6 a c el uA uM sc i g1 g2 g3 g4⟩
    · rw [t3, t4] at k3; exact k3
    · rw [t3] at k4; exact k4
    · obtain ⟨m1, n1, n2, n3, n4, _⟩ := hJ.act hB'
      exact ⟨n2, n3, by rw [← t3]; exact n1, by rw [← t4]; exact n4⟩
  · have hp : aP A' = aP A := ha.eP
    rw [hp] at h4
    obtain ⟨K2, ⟨y1, y2, y3, y4, y5, y6, y7⟩, k2, k3, k4, ⟨k11, k12, k13, k14, k15, k16, k18, k19⟩, k17⟩ := h (K.2.2 0) A s r l hA honA z h4 h5 h6
    have et : (K.1.take (K.2.2 0)).length = K.2.2 0 := by rw [List.length_take]; omega
    have hkr : ∀ t ∈ s :: r, A'.1 (100 + t) = A.1 (100 + t) := fun t ht => hk t (z.subset ht)
    have e5 : A'.1 5 = A.1 5 := hs.1 5 (by omega)
    have e6 : A'.1 6 = A.1 6 := hs.1 6 (by omega)
    have e4 : A'.1 4 = A.1 4 := hs.1 4 (by omega)
    have e7 : A'.1 7 = A.1 7 := hs.1 7 (by omega)
    have eX : aX A' = aX A := by unfold aX; rw [hs.2]
    -- the same context, with the new activation's numbers
    have hx : EXA K2.1 (K.1.take (K.2.2 0) ++ [(A'.1, s :: r, A'.2.2)]) := fun j B hB ho => by
      rw [y1] at hB
      rcases app_at hB with ⟨q, _⟩ | ⟨q1, q2⟩
      · exact ⟨B, at_app q, ho, ALK.rf⟩
      · subst q1
        subst q2
        refine ⟨_, at_last, ?_, ⟨hs.1, fun t ht => ht⟩⟩
        show A'.1 10 = 1
        rw [hs.1 10 (by omega)]; exact ho
    have hc : ∀ (j : Nat) (B : ACT), K2.1[j]? = some B → ∃ B0, (K.1.take (K.2.2 0) ++ [(A'.1, s :: r, A'.2.2)])[j]? = some B0 ∧ SMA B0 B := fun j B hB => by
      rw [y1] at hB
      rcases app_at hB with ⟨q, _⟩ | ⟨q1, q2⟩
      · exact ⟨B, at_app q, SMA.rf⟩
      · subst q1
        subst q2
        exact ⟨_, at_last, fun k hk => (hs.1 k hk).symm, hs.2.symm⟩
    have hlen : (K.1.take (K.2.2 0) ++ [(A'.1, s :: r, A'.2.2)]).length = K2.1.length := by
      rw [y1, List.length_append, List.length_append]; rfl
    refine ⟨(K.1.take (K.2.2 0) ++ [(A'.1, s :: r, A'.2.2)], K2.2.1, K2.2.2), ⟨rfl, y2, ?_, ?_, ?_, ?_, ?_⟩, fun k x q ty va vm g => hg _ _ _ _ _ _ (k2 _ _ _ _ _ _ g), k3, fun i B hB ho => ?_, ⟨?_, ?_, hax, ?_, ?_, ?_, k18, fun q B' hB' => ?_⟩, fun a c el uA uM sc i g1 g2 g3 g4 => ?_⟩
    · rw [ha.eF, ha.eP]; exact y3
    · rw [ha.eB, ha.eP]; exact y4
    · rw [e4]; exact y5
    · rw [e7]; exact y6
    · rw [kvO.al (hs.1 0 (by omega)) (hs.1 8 (by omega)) (s :: r) hkr]; exact y7
    · rcases app_at (show (K.1.take (K.2.2 0) ++ [(A'.1, s :: r, A'.2.2)])[i]? = some B from hB) with ⟨q, hi⟩ | ⟨q1, q2⟩
      · have hB2 : K2.1[i]? = some B := by rw [y1]; exact at_app q
        exact (k4 i B hB2 ho).mono hx (fun _ _ _ _ _ _ g => g)
      · subst q1
        subst q2
        have hB2 : K2.1[(K.1.take (K.2.2 0)).length]? = some (A.1, s :: r, A.2.2) := by rw [y1]; exact at_last
        exact (k4 _ _ hB2 honA).eqv hx ⟨hs.1, fun t ht => ht⟩ rfl hkr
    · rw [e5, e6]; exact k11
    · rw [e7, e4]; exact k12
    · rw [e4, hlen]; exact k14
    · rw [hlen]; exact k15
    · have : cnO (K.1.take (K.2.2 0) ++ [(A'.1, s :: r, A'.2.2)]) = cnO K2.1 := by
        rw [y1]
        exact cnO_sma _ _ _ (hs.1 10 (by omega))
      show K2.2.2 1 ≤ 6096 + 1690 * cnO (K.1.take (K.2.2 0) ++ [(A'.1, s :: r, A'.2.2)])
      rw [this]; exact k16
    · rw [e5, e6, e4, e7]
      rcases app_at (show (K.1.take (K.2.2 0) ++ [(A'.1, s :: r, A'.2.2)])[q]? = some B' from hB') with ⟨w, _⟩ | ⟨_, w⟩
      · exact k19 q B' (by rw [y1]; exact at_app w)
      · subst w
        show A'.1 5 ≤ A.1 5 ∧ A'.1 6 ≤ A.1 6 ∧ A'.1 4 ≤ A.1 4 ∧ A'.1 7 ≤ A.1 7
        omega
    · rw [e5, e6, eX] at g3
      have hKS : KST E K2 := by
        obtain ⟨z1, z2, z3, z4, z5, z6⟩ := g3.kst
        refine ⟨k3, fun j B hB => ?_, z3, ?_, k15, k16⟩
        · obtain ⟨B0, hB0, hss⟩ := hc j B hB
          obtain ⟨w1, w2, w3, w4⟩ := z2 j B0 hB0
          refine ⟨by rw [hss.1 4 (by omega)]; exact w1, by rw [hss.1 7 (by omega)]; exact w2, ?_, fun ho => k4 j B hB ho⟩
          have : aB B = aB B0 := hss.1 2 (by omega)
          rw [this]; exact w3
        · rw [← hlen]; exact z4
      have hat : K2.1[K2.2.2 0]? = some (A.1, s :: r, A.2.2) := by
        rw [y1, y2]
        have := at_last (as := K.1.take (K.2.2 0)) (N := (A.1, s :: r, A.2.2))
        rw [et] at this
        exact this
      have hat' : (K.1.take (K.2.2 0) ++ [(A'.1, s :: r, A'.2.2)])[K2.2.2 0]? = some (A'.1, s :: r, A'.2.2) := by
        rw [y2]
        have := at_last (as := K.1.take (K.2.2 0)) (N := (A'.1, s :: r, A'.2.2))
        rw [et] at this
        exact this
      obtain ⟨C1, M1⟩ := g3.cka hat'
      rw [hlen] at M1
      have hd := g3.dep
      obtain ⟨_, pr, de, fu, j1, j2, j3, j4, j5, j6, j7, j8, j9, j10, ⟨j11, j12, j13, j14, j15, j16, j17⟩, o1, o2⟩ := id g3
      have ef : aF (A.1, s :: r, A.2.2) = aF (A'.1, s :: r, A'.2.2) := (hs.1 1 (by omega)).symm
      have J2 : JS E K2 el a c (A.1 5) (A.1 6) sc (aX A - KK) i uA uM := JS.ch (h0 := A.1 5) (sp0 := A.1 6) g3 hKS hc hat honA (by rw [ef]; exact C1) j4 M1 j6 (fun pr0 de0 fu0 T => T.uq j4) j8 OFF.rf OFF.rf g3.low ⟨Nat.le_refl _, Nat.le_refl _, hd.2.2.1⟩ ⟨j13, j14⟩
      exact k17 a c el uA uM sc i g1 g2 J2 g4
/-- LABELS of the innermost SCOPE end alike, out of what's done from there on; g: how it goes on behind -/
theorem HND.own (hE : EOKS E) (hB : ∀ s, s < eNo E 5 6 → gi (vM E) 17 s = -1 ∨ ∃ bk, gi (vM E) 17 s = Int32.ofNat bk ∧ bk < 9000) (h : HND E K Lim) (hA : K.1[K.2.2 0]? = some A) (honA : aOn A) (hl : K.1.length = K.2.2 0 + 1) (hg : ∀ k x q ty va vm, K.2.1 k x q ty va vm → G' k x q ty va vm) (hs : SMA A A') (hr : aK A' = s' :: aK A) (hk : ∀ t ∈ aK A, A'.1 (100 + t) = A.1 (100 + t)) (hJ : JS E (newK K A' G' el1) el a b (A'.1 5) (A'.1 6) sc x i wA wM) (hT : LSN E (newK K A' G' el1) A') (hF : FRE (newK K A' G' el1) A' sg m1 s0 m2) (hroom : A'.1 5 + 502 ≤ 502 * (A'.1 4 + 1) ∧ A'.1 7 + 1 ≤ 4 * A'.1 4 + 4) (hax : aX A' ≤ KK) {x9 : Int} (hx9 : aX A' ≤ x9 + KK) (hxa : ∀ (j : Nat) (B : ACT), (newK K A' G' el1).1[j]? = some B → x9 + 4 * (a9 - a1) ≤ aX B) (hxk : x9 + 4 * (a9 - a1) ≤ KK) (hp : aP A' = p)
    (hLB : LBE E Lim s' (aK A) p sg m1 s0 m2 a1 a9 b9) (g : ∀ uA uM sc' i', JS E (newK K A' G' el1) el1 a9 b9 (A'.1 5) (A'.1 6) sc' (x9 + 4 * (a9 - a1)) i' uA uM → eNo E 5 5 ≤ Lim + sc' → GD E i' uA uM) : ∀ L, L ≤ Lim → HND E (newK K A' G' el1) L := by
  have hon : aOn A' := hs.on.mpr honA
  intro L
  induction L with
  | zero =>
    intro hL
    refine HND.mk1 (h.le hL) hA honA hl hg hs hr hk hJ hT hax (fun l _ _ a c el uA uM sc i _ _ J hlt => ?_)
    obtain ⟨_, _, _, _, _, _, _, T, _⟩ := J
    have := T.2.2.2.2.2.2.1
    omega
  | succ L ih =>
    intro hL
    have ih := ih (by omega)
    refine HND.mk1 (h.le hL) hA honA hl hg hs hr hk hJ hT hax (fun l l1 l2 a c el uA uM sc i q1 q2 J hlt => ?_)
    obtain ⟨al, cl, r1, r2, r3, r4, r5, r6, r7, r8⟩ := hLB l l1 l2
    have e1 : Int32.ofNat a = Int32.ofNat al := by
      have := congrArg Int64.toInt32 (q1.symm.trans r1)
      rw [tl_iN, tl_iN] at this
      exact this
    have hd := J.dep
    have e2 : c = cl := (eq_iN (by omega) (by omega)).mp (q2.symm.trans r2)
    subst e2
    have J1 := J.wrd e1
    have hat := newK_at (A' := A') (G' := G') (el' := el1) hl
    obtain ⟨kk, q, vm, k1, k2⟩ := SEA.kpt hB ((J1.act hat).2.2.2.2.2.2.2 hon) (aK A') (List.suffix_refl _)
    rw [← hT.2.2.2.2, hp, hr] at k2
    refine JS.lev (x1 := aX A' - KK + 1) hE J1 hat hon r4 r5 k1 k2 ⟨Int.le_refl _, by unfold KK at *; omega⟩ (fun vA J2 OA => ?_)
    refine r8 L (by omega) (newK K A' G' el1) A' sc (aX A' - KK + 1) _ vA uM hat hon ?_ hr hp hT hF J2 ih (by omega) hroom (fun j B hB => by have := hxa j B hB; omega) (by omega) (by unfold KK at *; omega) hax (fun yA yM sc2 i2 J3 s2 => ?_)
    · rw [newK_len hl, hl]; rfl
    · exact g yA yM sc2 i2 (J3.up (by omega) hxk) (by omega)
/-- a STATEMENT that's a SCOPE for its own LABELS -/
theorem SIT.scope (hE : EOKS E) (hB : ∀ s, s < eNo E 5 6 → gi (vM E) 17 s = -1 ∨ ∃ bk, gi (vM E) 17 s = Int32.ofNat bk ∧ bk < 9000) (ho : own E s' p) (h17 : gi (vM E) 17 s' = -1) (hy : ∀ y ∈ eSL E s', gi (vM E) 19 y = 4) (hu : UPM (eNo E 5 6) (vM E) (s' :: stk)) (hlen : (s' :: stk).length < 9000) (hin : SIT E Lim (s' :: stk) p sg m1 s0 m2 a a9 b b9) (hLB : LBE E Lim s' stk p sg m1 s0 m2 a a9 b9) (haa : a ≤ a9) : SIT E Lim stk p sg m1 s0 m2 a a9 b b9 := by
  intro K A sc x i wA wM hA hon hl hr hp hT hF H hH hL hroom hxa hxk hx1 hx2 g
  have hs : SMA A (A.1, s' :: aK A, A.2.2) := ⟨fun _ _ => rfl, rfl⟩
  have ha : ALK A (A.1, s' :: aK A, A.2.2) := hs.alk (fun s h => List.mem_cons_of_mem _ h)
  have hg0 : ∀ k x q ty va vm, K.2.1 k x q ty va vm → K.2.1 k x q ty va vm := fun _ _ _ _ _ _ g => g
  have S := (H.act hA).2.2.2.2.2.2.2 hon
  have hkst := H.kst
  have hexa : EXA K.1 (newK K (A.1, s' :: aK A, A.2.2) K.2.1 (K.2.2 5)).1 := newK_exa hA hl ha
  have hkv : kvO E (A.1, s' :: aK A, A.2.2) (s' :: aK A) = kvO E A (aK A) := by
    show (if own E s' (A.1 0) then (if gi (vM E) 17 s' = -1 then kvO E (A.1, s' :: aK A, A.2.2) (aK A) else _) else _) = _
    have : own E s' (A.1 0) := by rw [show A.1 0 = p from hp]; exact ho
    rw [if_pos this, if_pos h17]
    exact kvO.al (A := A) (A' := (A.1, s' :: aK A, A.2.2)) rfl rfl _ (fun _ _ => rfl)
  have hSA : SEA E (newK K (A.1, s' :: aK A, A.2.2) K.2.1 (K.2.2 5)).1 K.2.1 (K.2.2 0) (A.1, s' :: aK A, A.2.2) := by
    refine S.in hexa hg0 ha rfl (fun _ _ => rfl) (by rw [hp]; exact ho) (by rw [hr]; exact hu) (by rw [hr]; exact hlen) (fun y hy' => ?_) (fun bk e _ => ?_)
    · have h4 := hy y hy'
      have n1 : gi (vM E) 19 y ≠ 1 := by rw [h4]; decide
      have n2 : gi (vM E) 19 y ≠ 2 := by rw [h4]; decide
      have n6 : gi (vM E) 19 y ≠ 6 := by rw [h4]; decide
      exact ⟨fun c => absurd c n1, fun c => absurd c n1, fun c => absurd c n2, fun c => absurd c n6, fun c => absurd c n6, fun c => absurd c n6, fun c => absurd c n6, fun c => absurd c n6, fun c => absurd c n6⟩
    · rw [h17] at e
      exact absurd (show Int32.ofNat bk < 0 by rw [← e]; decide) (nn_iN (by omega))
  have hK' : KST E (newK K (A.1, s' :: aK A, A.2.2) K.2.1 (K.2.2 5)) := hkst.nk hA hon hl ha hg0 hkst.1 hSA
  have hat := newK_at (A' := (A.1, s' :: aK A, A.2.2)) (G' := K.2.1) (el' := K.2.2 5) hl
  have hlen' := newK_len (A' := (A.1, s' :: aK A, A.2.2)) (G' := K.2.1) (el' := K.2.2 5) hl
  have hcf : ∀ (j : Nat) (B : ACT), (newK K (A.1, s' :: aK A, A.2.2) K.2.1 (K.2.2 5)).1[j]? = some B → ∃ B0, K.1[j]? = some B0 ∧ SMA B0 B := fun j B hB => by
    rcases newK_old hl hB with ⟨_, q⟩ | ⟨q1, q2⟩
    · exact ⟨B, q, SMA.rf⟩
    · subst q1
      subst q2
      exact ⟨A, hA, hs⟩
  have hcb : ∀ (j : Nat) (B : ACT), K.1[j]? = some B → ∃ B0, (newK K (A.1, s' :: aK A, A.2.2) K.2.1 (K.2.2 5)).1[j]? = some B0 ∧ SMA B0 B := fun j B hB => by
    by_cases e : j = K.2.2 0
    · subst e
      have := Option.some.inj (hA.symm.trans hB)
      subst this
      exact ⟨_, hat, ⟨fun _ _ => rfl, rfl⟩⟩
    · have hj : j < K.2.2 0 := by
        rcases List.getElem?_eq_some_iff.mp hB with ⟨z, _⟩
        omega
      exact ⟨B, newK_of hl hB hj, SMA.rf⟩
  have e5 : ∀ k, (newK K (A.1, s' :: aK A, A.2.2) K.2.1 (K.2.2 5)).2.2 k = K.2.2 k := fun k => by
    show (if k = 5 then K.2.2 5 else K.2.2 k) = K.2.2 k
    by_cases z : k = 5
    · rw [if_pos z, z]
    · rw [if_neg z]
  -- in and out
  have go : ∀ {el a b sc x i wA wM}, JS E K el a b (A.1 5) (A.1 6) sc x i wA wM → JS E (newK K (A.1, s' :: aK A, A.2.2) K.2.1 (K.2.2 5)) el a b (A.1 5) (A.1 6) sc x i wA wM := fun {el a b sc x i wA wM} J => by
    obtain ⟨C, M⟩ := J.cka hA
    have hd := J.dep
    obtain ⟨_, pr, de, fu, j1, j2, j3, j4, j5, j6, j7, j8, j9, j10, ⟨j11, j12, j13, j14, j15, j16, j17⟩, o1, o2⟩ := id J
    refine JS.ch (h0 := A.1 5) (sp0 := A.1 6) J hK' hcf hat hon ?_ j4 ?_ j6 (fun pr0 de0 fu0 T => T.uq j4) j8 OFF.rf OFF.rf J.low ⟨Nat.le_refl _, Nat.le_refl _, hd.2.2.1⟩ ⟨j13, j14⟩
    · rw [e5, e5]; exact C
    · rw [e5, e5, e5, e5, e5, hlen']; exact M
  have back : ∀ {el a b sc x i wA wM}, JS E (newK K (A.1, s' :: aK A, A.2.2) K.2.1 (K.2.2 5)) el a b (A.1 5) (A.1 6) sc x i wA wM → JS E K el a b (A.1 5) (A.1 6) sc x i wA wM := fun {el a b sc x i wA wM} J => by
    obtain ⟨C, M⟩ := J.cka hat
    have hd := J.dep
    obtain ⟨_, pr, de, fu, j1, j2, j3, j4, j5, j6, j7, j8, j9, j10, ⟨j11, j12, j13, j14, j15, j16, j17⟩, o1, o2⟩ := id J
    rw [e5, e5] at C
    rw [e5, e5, e5, e5, e5, hlen'] at M
    exact JS.ch (h0 := A.1 5) (sp0 := A.1 6) J hkst hcb hA hon C j4 M j6 (fun pr0 de0 fu0 T => T.uq j4) j8 OFF.rf OFF.rf J.low ⟨Nat.le_refl _, Nat.le_refl _, hd.2.2.1⟩ ⟨j13, j14⟩
  have hT' : LSN E (newK K (A.1, s' :: aK A, A.2.2) K.2.1 (K.2.2 5)) (A.1, s' :: aK A, A.2.2) := by
    obtain ⟨t1, t2, t3, t4, t5⟩ := hT
    exact ⟨by rw [e5]; exact t1, by rw [e5]; exact t2, by rw [e5]; exact t3, by rw [e5]; exact t4, by rw [e5, t5]; exact hkv.symm⟩
  have hxa' : ∀ (j : Nat) (B : ACT), (newK K (A.1, s' :: aK A, A.2.2) K.2.1 (K.2.2 5)).1[j]? = some B → x + 4 * (a9 - a) ≤ aX B := fun j B hB => by
    obtain ⟨B0, q1, q2⟩ := hcf j B hB
    have := hxa j B0 q1
    have : aX B = aX B0 := by unfold aX; rw [q2.2]
    omega
  have hLB' : LBE E Lim s' (aK A) p sg m1 s0 m2 a a9 b9 := by rw [hr]; exact hLB
  have J' := go H
  have hHo := HND.own (a1 := a) (a9 := a9) (b9 := b9) (x9 := x) hE hB hH hA hon hl hg0 hs rfl (fun _ _ => rfl) J' hT' (fun k x q ty va vm gg => hF k x q ty va vm gg) hroom hx2 hx1 hxa' hxk hp hLB' (fun uA uM sc' i' J s => g uA uM sc' i' (back J) s) Lim (Nat.le_refl _)
  refine hin (newK K (A.1, s' :: aK A, A.2.2) K.2.1 (K.2.2 5)) (A.1, s' :: aK A, A.2.2) sc x i wA wM hat hon (by rw [hlen', hl]; rfl) (by show s' :: aK A = _; rw [hr]) hp hT' (fun k x q ty va vm gg => hF k x q ty va vm gg) (by rw [e5]; exact J') hHo hL hroom hxa' hxk hx1 hx2 (fun uA uM sc' i' J s => ?_)
  rw [e5] at J
  exact g uA uM sc' i' (back J) s
end LG6
