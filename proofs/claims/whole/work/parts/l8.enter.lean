/-! BOTH MACHINES: a BLOCK begins -/
section LI8
variable {E : SENV} {K : CXT} {Lim p a a0 a1 b b1 h sp sc i i0 el s bk sg W m1 m1' s0 m2 y q0 tp mt : Nat} {x x1 : Int} {wA wM uA uM : Wd} {A B : ACT} {G G' N : GHO}
/-- words of a symbol -/
def lnY (E : SENV) (y : Nat) : Nat := if gi (vM E) 19 y = 1 then (if gi (vM E) 27 y = 0 then 1 else 0) else if gi (vM E) 19 y = 2 then 2 + 2 * nd (vM E) 24 y else 0
theorem lnY_1 (h : gi (vM E) 19 y = 1) (h2 : gi (vM E) 27 y = 0) : lnY E y = 1 := by unfold lnY; rw [if_pos h, if_pos h2]
theorem lnY_2 (h : gi (vM E) 19 y = 2) : lnY E y = 2 + 2 * nd (vM E) 24 y := by unfold lnY; rw [if_neg (by rw [h]; decide), if_pos h]
/-- static: a BLOCK, SCOPE s of procedure p, BLOCK bk: its words sg .. sg + W - 1, its slots within m1 .. m1' - 1 -/
def BLS (E : SENV) (s p bk sg W m1 m1' : Nat) : Prop :=
  (own E s p ∧ gi (vM E) 17 s = Int32.ofNat bk ∧ bk < 9000 ∧ eNo E 4 s = sg ∧ gi (dM E) 41 bk = Int32.ofNat (nd (vM E) 41 bk)) ∧ (1 ≤ W ∧ sg + W ≤ eNo E 1 p ∧ sg + W ≤ 1690 ∧ 6 ≤ sg ∧ m1' ≤ eNo E 3 p ∧ nd (vM E) 41 bk ≤ 60000) ∧ (m1 ≤ nd (vM E) 41 bk ∧ nd (vM E) 41 bk + 2 ≤ m1') ∧
  (∀ y ∈ eSL E s, gi (vM E) 19 y ≠ 6 ∧ y < eNo E 5 2 ∧ (gi (vM E) 19 y = 1 ∨ gi (vM E) 19 y = 2 → gi (vM E) 20 y = 1 ∨ gi (vM E) 20 y = 2) ∧ (gi (vM E) 19 y = 2 → 1 ≤ nd (vM E) 24 y ∧ nd (vM E) 24 y ≤ 3) ∧ (0 < lnY E y → sg + 1 ≤ sA E y ∧ sA E y + lnY E y ≤ sg + W ∧ m1 ≤ sM E y ∧ sM E y + lnY E y ≤ m1' ∧ (sM E y + lnY E y ≤ nd (vM E) 41 bk ∨ nd (vM E) 41 bk + 2 ≤ sM E y))) ∧
  (∀ y ∈ eSL E s, ∀ y' ∈ eSL E s, y ≠ y' → 0 < lnY E y → 0 < lnY E y' → (sA E y + lnY E y ≤ sA E y' ∨ sA E y' + lnY E y' ≤ sA E y) ∧ (sM E y + lnY E y ≤ sM E y' ∨ sM E y' + lnY E y' ≤ sM E y)) ∧
  ∃ ks, VLS (dM E) ks (gi (dM E) 81 bk) ∧ ks.length ≤ 90000 ∧ (∀ k ∈ ks, k ∈ eSL E s ∧ gi (vM E) 19 k = 1 ∧ gi (vM E) 27 k = 0 ∧ gi (dM E) 26 k = Int32.ofNat (sM E k)) ∧ ∀ y ∈ eSL E s, gi (vM E) 19 y = 1 → gi (vM E) 27 y = 0 → y ∈ ks
/-- DECLS of a BLOCK are under way: i: the next symbol -/
def DCI (E : SENV) (K : CXT) (A : ACT) (s bk i sg W m1' s0 m2 : Nat) : Prop :=
  (∀ y ∈ eSL E s, gi (vM E) 19 y = 2 → (y < i → DESC K.2.1 (aF A + sA E y) (aB A + sM E y) (gi (vM E) 20 y) (nd (vM E) 24 y)) ∧ (i ≤ y → FRW K.2.1 (aF A + sA E y) (aB A + sM E y) (lnY E y))) ∧
  (∀ y ∈ eSL E s, gi (vM E) 19 y = 1 → gi (vM E) 27 y = 0 → K.2.1 0 (aF A + sA E y) (aB A + sM E y) (gi (vM E) 20 y) 0 0) ∧
  FRE K A (sg + W) m1' s0 m2 ∧ FRW K.2.1 (aF A + sg) (aB A + nd (vM E) 41 bk + 1) 1 ∧ K.2.1 3 0 (aB A + nd (vM E) 41 bk) 0 0 (Int64.ofNat (kvO E A (aK A)))
/-- VARIABLES of a BLOCK, and the slot where the reference keeps ELEMENTS -/
def enN (E : SENV) (A : ACT) (s q0 el : Nat) : GHO := fun k x q t va vm => (k = 0 ∧ va = 0 ∧ vm = 0 ∧ ∃ y, y ∈ eSL E s ∧ gi (vM E) 19 y = 1 ∧ gi (vM E) 27 y = 0 ∧ x = aF A + sA E y ∧ q = aB A + sM E y ∧ t = gi (vM E) 20 y) ∨ (k = 3 ∧ x = 0 ∧ q = aB A + q0 ∧ t = 0 ∧ va = 0 ∧ vm = Int64.ofNat el)
theorem enN_dis (hB : BLS E s p bk sg W m1 m1') (ht : aF A + eNo E 1 p ≤ tp ∧ 6096 ≤ aF A) (hm : aB A + eNo E 3 p ≤ mt ∧ mt ≤ 1048576) : DIS (enN E A s (nd (vM E) 41 bk) el) tp mt el := by
  obtain ⟨_, ⟨w1, w2, w3, w4, w5, w6⟩, ⟨r1, r2⟩, hy, hyy, _⟩ := hB
  refine ⟨fun k x q ty va vm k' x' q' ty' va' vm' g g' e1 e2 e => ?_, fun k x q ty va vm k' x' q' ty' va' vm' g g' e1 e2 e => ?_, fun k x q ty va vm g => ?_⟩
  · rcases g with ⟨g1, g2, g3, y, y1, y2, y3, y4, y5, y6⟩ | g
    · rcases g' with ⟨f1, f2, f3, z, z1, z2, z3, z4, z5, z6⟩ | g'
      · by_cases c : y = z
        · subst c
          exact ⟨by omega, by omega, y6.trans z6.symm, g2.trans f2.symm, g3.trans f3.symm⟩
        · have l1 := lnY_1 (E := E) y2 y3
          have l2 := lnY_1 (E := E) z2 z3
          have := hyy y y1 z z1 c (by omega) (by omega)
          omega
      · omega
    · omega
  · rcases g with ⟨g1, g2, g3, y, y1, y2, y3, y4, y5, y6⟩ | ⟨g1, g2, g3, g4, g5, g6⟩
    · have l1 := lnY_1 (E := E) y2 y3
      rcases g' with ⟨f1, f2, f3, z, z1, z2, z3, z4, z5, z6⟩ | ⟨f1, f2, f3, f4, f5, f6⟩
      · by_cases c : y = z
        · subst c
          exact ⟨by omega, by omega, y6.trans z6.symm, g2.trans f2.symm, g3.trans f3.symm⟩
        · have l2 := lnY_1 (E := E) z2 z3
          have := hyy y y1 z z1 c (by omega) (by omega)
          omega
      · have := (hy y y1).2.2.2.2 (by omega)
        omega
    · rcases g' with ⟨f1, f2, f3, z, z1, z2, z3, z4, z5, z6⟩ | ⟨f1, f2, f3, f4, f5, f6⟩
      · have l2 := lnY_1 (E := E) z2 z3
        have := (hy z z1).2.2.2.2 (by omega)
        omega
      · exact ⟨by omega, by omega, g4.trans f4.symm, g5.trans f5.symm, g6.trans f6.symm⟩
  · rcases g with ⟨g1, g2, g3, y, y1, y2, y3, y4, y5, y6⟩ | ⟨g1, g2, g3, g4, g5, g6⟩
    · have l1 := lnY_1 (E := E) y2 y3
      have h1 := (hy y y1).2.2.2.2 (by omega)
      have h2 := (hy y y1).2.2.1 (Or.inl y2)
      exact ⟨by omega, fun _ => ⟨by omega, fun _ => by omega⟩, fun _ => by omega, fun _ => by rw [y6]; exact h2⟩
    · exact ⟨by omega, fun _ => by omega, fun _ => by omega, fun _ => by omega⟩
/-- a frame's words lie above the ELEMENTS -/
theorem SEA.f60 {as : List ACT} (S : SEA E as G i A) (hD : DIS G tp mt el) : 6096 ≤ aF A := by
  obtain ⟨⟨L', hL', hLo', gF, _⟩, _⟩ := S
  have h1 := (hD.2.2 _ _ _ _ _ _ gF).2.1 (by omega)
  have h2 : ¬ aF A < 6096 := fun c => absurd (h1.2 c).1 (by decide)
  omega
theorem JS.ent (hE : EOKS E) (H : JS E K (K.2.2 5) a b (A.1 5) (A.1 6) sc x i wA wM) (hA : K.1[K.2.2 0]? = some A) (hon : aOn A) (hp : aP A = p) (hT : LSN E K A) (hF : FRE K A sg m1 s0 m2) (hB : BLS E s p bk sg W m1 m1') (hs0 : m1' ≤ s0 ∧ s0 ≤ m2) (hw : W ≤ 1 ∧ a0 = a ∨ 1 < W ∧ gl (cA E) 41 a = wdC 29 0 ((Int32.ofNat sg <<< (11 &&& 31)) ||| Int32.ofNat W) ∧ a0 = a + 1) {Y Z : Int32} (ho : opW (dM E) b 23 (Int32.ofNat bk) Y Z) (ha : a < eNo E 5 0) (hb : b < 60000) (hi : ∀ y ∈ eSL E s, gi (vM E) 19 y = 2 → i0 ≤ y) (hx : x + 1 ≤ x1 ∧ x1 ≤ KK)
    (g : ∀ uA uM G', (∀ k x q ty va vm, K.2.1 k x q ty va vm → G' k x q ty va vm) → JS E (grK K G' (K.2.2 5)) (K.2.2 5) a0 (b + 1) (A.1 5) (A.1 6) sc x1 (i + 1) uA uM → DCI E (grK K G' (K.2.2 5)) A s bk i0 sg W m1' s0 m2 → GD E (i + 1) uA uM) : GD E i wA wM := by
  obtain ⟨C, M⟩ := H.cka hA
  have hd := H.dep
  have act := H.act hA
  have S := act.2.2.2.2.2.2.2 hon
  obtain ⟨hM, hD⟩ := H.mem
  have hmt : K.2.2 2 ≤ 199000 := M.2.2.2.2.2.2.2.2.2.2.2.2.2.2.2.1
  have hel : K.2.2 5 ≤ 2000 := M.2.2.2.2.2.2.2.2.2.2.2.2.2.2.2.2.1
  have h60 := S.f60 hD
  obtain ⟨t1, t2, t3, t4, t5⟩ := hT
  rw [hp] at t1 t2
  obtain ⟨⟨s1, s2, s3, s4, s5⟩, ⟨w1, w2, w3, w4, w5, w6⟩, ⟨r1, r2⟩, hy, hyy, ks, k1, k2, k3, k4⟩ := id hB
  obtain ⟨_, pr, de, fu, j1, j2, j3, j4, j5, j6, j7, j8, j9, j10, ⟨j11, j12, j13, j14, j15, j16, j17⟩, o1, o2⟩ := id H
  -- the class
  have hcl : ∃ uA k0, TKS k0 wA uA ∧ k0 ≤ 1 ∧ OFF (fun k j => (k = 48 ∧ j = 11) ∨ (k = 50 ∧ aF A + sg ≤ j ∧ j < aF A + sg + W)) uA wA ∧ gi uA 48 11 = Int32.ofNat a0 ∧ ∀ j, aF A + sg + 1 ≤ j → j < aF A + sg + W → gl uA 50 j = 0 := by
    rcases hw with ⟨c1, c2⟩ | ⟨c1, c2, c3⟩
    · subst c2
      exact ⟨wA, 0, rfl, by omega, OFF.rf, C.2.2.1, fun j _ _ => by omega⟩
    · have tk := k_clear C ha c2 (by omega) (by omega) (by omega)
      have O : OFF (fun k j => k = 50 ∧ aF A + sg ≤ j ∧ j < aF A + sg + W) (clrW (aF A + sg) W (si wA 48 11 (Int32.ofNat (a + 1)))) (si wA 48 11 (Int32.ofNat (a + 1))) := clrW_off W _ _ (fun j h1 h2 => ⟨rfl, h1, h2⟩)
      refine ⟨_, 1, TKS.one hd.2.2.2.2 tk, by omega, OFF.tr (O.mono fun k j p => Or.inr p) (OFF.si (Or.inl ⟨rfl, rfl⟩)), ?_, fun j h1 h2 => clrW_v W _ _ j (by omega) h2⟩
      rw [c3, (O 48 11 (by omega)).1]; exact gi_si0 _ _ _ _
  obtain ⟨uA, k0, tk, hk0, OA, q11, z50⟩ := hcl
  -- the reference
  have st := rm_enter (q := nd (vM E) 41 bk) M hb ho s3 act.1.1 (by omega) s5 k1 (fun k hk => ⟨_, (k3 k hk).2.2.2, by
    have l1 := lnY_1 (E := E) (k3 k hk).2.1 (k3 k hk).2.2.1
    have := (hy k (k3 k hk).1).2.2.2.2 (by omega)
    omega⟩) k2
  have hks : ∀ k ∈ ks, (gi (dM E) 26 k).toNatClampNeg = sM E k := fun k hk => by
    have l1 := lnY_1 (E := E) (k3 k hk).2.1 (k3 k hk).2.2.1
    have := (hy k (k3 k hk).1).2.2.2.2 (by omega)
    rw [(k3 k hk).2.2.2]; exact tc_iN (by omega)
  have OM : OFF (fun k j => (k = 0 ∧ j = 128) ∨ (k = 83 ∧ (j = aB A + nd (vM E) 41 bk ∨ ∃ y ∈ ks, j = aB A + sM E y))) (sl (vzW (dM E) (aB A) ks (si wM 0 128 (Int32.ofNat (b + 1)))) 83 (aB A + nd (vM E) 41 bk) (Int64.ofNat (K.2.2 5))) wM := OFF.tr (OFF.sl (Or.inr ⟨rfl, Or.inl rfl⟩)) (OFF.tr (vzW_off ks _ (fun k hk => Or.inr ⟨rfl, Or.inr ⟨k, hk, by rw [hks k hk]⟩⟩)) (OFF.si (Or.inl ⟨rfl, rfl⟩)))
  have q128 : gi (sl (vzW (dM E) (aB A) ks (si wM 0 128 (Int32.ofNat (b + 1)))) 83 (aB A + nd (vM E) 41 bk) (Int64.ofNat (K.2.2 5))) 0 128 = Int32.ofNat (b + 1) := by
    rw [gi_sl, ((vzW_off (Q := fun k j => k = 83) ks _ (fun k hk => rfl)) 0 128 (by omega)).1]; exact gi_si0 _ _ _ _
  have v83 : gl (sl (vzW (dM E) (aB A) ks (si wM 0 128 (Int32.ofNat (b + 1)))) 83 (aB A + nd (vM E) 41 bk) (Int64.ofNat (K.2.2 5))) 83 (aB A + nd (vM E) 41 bk) = Int64.ofNat (K.2.2 5) := gl_sl0 _ _ _ _
  have z83 : ∀ y ∈ ks, gl (sl (vzW (dM E) (aB A) ks (si wM 0 128 (Int32.ofNat (b + 1)))) 83 (aB A + nd (vM E) 41 bk) (Int64.ofNat (K.2.2 5))) 83 (aB A + sM E y) = 0 := fun y hyk => by
    have l1 := lnY_1 (E := E) (k3 y hyk).2.1 (k3 y hyk).2.2.1
    have := (hy y (k3 y hyk).1).2.2.2.2 (by omega)
    rw [gl_sl1 (by omega), ← hks y hyk]
    exact vzW_v ks _ y hyk
  generalize sl (vzW (dM E) (aB A) ks (si wM 0 128 (Int32.ofNat (b + 1)))) 83 (aB A + nd (vM E) 41 bk) (Int64.ofNat (K.2.2 5)) = uM at st OM q128 v83 z83
  have kb : ∀ y ∈ ks, sg + 1 ≤ sA E y ∧ sA E y + 1 ≤ sg + W ∧ m1 ≤ sM E y ∧ sM E y + 1 ≤ m1' := fun y hyk => by
    have l1 := lnY_1 (E := E) (k3 y hyk).2.1 (k3 y hyk).2.2.1
    have := (hy y (k3 y hyk).1).2.2.2.2 (by omega)
    omega
  have hN := enN_dis (A := A) (el := K.2.2 5) (tp := K.2.2 1) (mt := K.2.2 2) hB ⟨by omega, h60⟩ ⟨by omega, by omega⟩
  have hDn : DIS (orG K.2.1 (enN E A s (nd (vM E) 41 bk) (K.2.2 5))) (K.2.2 1) (K.2.2 2) (K.2.2 5) := by
    refine hD.or (Nat.le_refl _) hN (fun k x q ty va vm k' x' q' ty' va' vm' g g' e1 e2 => ?_) (fun k x q ty va vm k' x' q' ty' va' vm' g g' e1 e2 => ?_)
    · have f := (hF _ _ _ _ _ _ g).1 e1
      rcases g' with ⟨f1, f2, f3, z, z1, z2, z3, z4, z5, z6⟩ | ⟨f1, f2, f3, f4, f5, f6⟩
      · have l2 := lnY_1 (E := E) z2 z3
        have := (hy z z1).2.2.2.2 (by omega)
        omega
      · omega
    · have f := (hF _ _ _ _ _ _ g).2 e1
      rcases g' with ⟨f1, f2, f3, z, z1, z2, z3, z4, z5, z6⟩ | ⟨f1, f2, f3, f4, f5, f6⟩
      · have l2 := lnY_1 (E := E) z2 z3
        have := (hy z z1).2.2.2.2 (by omega)
        omega
      · omega
  have hm0 : MEM K.2.1 uA uM := by
    refine hM.agr (fun k x q' t va vm gg hk => ?_) (fun k x q' t va vm gg hk => ?_)
    · have f := (hF _ _ _ _ _ _ gg).1 hk
      exact (OA 50 x (by omega)).2
    · have f := (hF _ _ _ _ _ _ gg).2 hk
      unfold RMq
      by_cases h9 : q' < 1048576
      · rw [if_pos h9, if_pos h9]
        refine (OM 83 q' (fun c => ?_)).2
        rcases c with c | ⟨_, c | ⟨y, y1, y2⟩⟩
        · omega
        · omega
        · have := kb y y1; omega
      · rw [if_neg h9, if_neg h9]; exact (OM 84 _ (by omega)).2
  have hmn : MEM (enN E A s (nd (vM E) 41 bk) (K.2.2 5)) uA uM := by
    intro k x q' t va vm gg
    rcases gg with ⟨g1, g2, g3, y, y1, y2, y3, y4, y5, y6⟩ | ⟨g1, g2, g3, g4, g5, g6⟩
    · have hyk := k4 y y1 y2 y3
      have kb := kb y hyk
      have r1 : gl uA 50 x = 0 := by rw [y4]; exact z50 _ (by omega) (by omega)
      have r2 : RMq uM q' = 0 := by
        unfold RMq
        rw [if_pos (by omega), y5]; exact z83 y hyk
      refine ⟨fun _ => ⟨r1.trans r2.symm, ?_⟩, fun c => by omega, fun c => by omega⟩
      rw [r1, y6]; exact VT.z ((hy y y1).2.2.1 (Or.inl y2))
    · have r2 : RMq uM q' = vm := by
        unfold RMq
        rw [if_pos (by omega), g3, g6]; exact v83
      exact ⟨fun c => by omega, fun c => by omega, fun _ => r2⟩
  have e4 : ∀ j, j ≠ 11 → gi uA 48 j = gi wA 48 j := fun j q => (OA 48 j (by omega)).1
  have e0 : ∀ j, j ≠ 128 → gi uM 0 j = gi wM 0 j := fun j q => (OM 0 j (by omega)).1
  have C1 : CK (cA E) (eNo E 5 0) a0 (aF A) (K.2.2 1) (A.1 5) (K.2.2 3) (K.2.2 5) uA := C.nw (OA.mono fun k j p => by omega) q11 ((e4 12 (by omega)).trans C.2.2.2.1) ((e4 13 (by omega)).trans C.2.2.2.2.1) ((e4 14 (by omega)).trans C.2.2.2.2.2.1) ((e4 15 (by omega)).trans C.2.2.2.2.2.2.1) ((e4 16 (by omega)).trans C.2.2.2.2.2.2.2.1) ⟨C.2.2.2.2.2.2.2.2.1, C.2.2.2.2.2.2.2.2.2.1, C.2.2.2.2.2.2.2.2.2.2.1, hd.1, hel⟩
  have M1 : MK (dM E) (b + 1) (K.2.2 0) (A.1 6) (K.2.2 4) K.1.length (K.2.2 2) (K.2.2 5) (K.2.2 3) uM := by
    obtain ⟨n1, n2, n3, n4, n5, n6, n7, n8, n9, n10, n11, n12, n13, n14, n15, n16, n17, n18⟩ := id M
    exact M.nw (OM.mono fun k j p => by
      rcases p with p | ⟨p, _⟩
      · omega
      · omega) q128 ((e0 129 (by omega)).trans n4) ((e0 130 (by omega)).trans n5) ((e0 127 (by omega)).trans n6) ((e0 131 (by omega)).trans n7) ((e0 132 (by omega)).trans n8) ((e0 133 (by omega)).trans n9) ((e0 134 (by omega)).trans n10) ⟨by omega, n12, n13, n14, n15, n16, n17, n18⟩
  have J : JS E (grK K (orG K.2.1 (enN E A s (nd (vM E) 41 bk) (K.2.2 5))) (K.2.2 5)) (K.2.2 5) a0 (b + 1) (A.1 5) (A.1 6) sc x1 (i + 1) uA uM := JS.ch (h0 := A.1 5) (sp0 := A.1 6) H (H.kst.gr (fun _ _ _ _ _ _ g => Or.inl g) hDn) (fun j B hB => ⟨B, hB, SMA.rf⟩) hA hon C1 (j4.off OA (fun k j p => by omega)) M1 (j6.off OM (fun k j p => by
      rcases p with p | ⟨p, _⟩
      · omega
      · omega)) (fun pr0 de0 fu0 T => T.uq j4) (hm0.or hmn) (OA.mono fun k j p => by omega) (OM.mono fun k j p => by
      rcases p with p | ⟨p, _⟩
      · omega
      · omega) H.low ⟨Nat.le_refl _, Nat.le_refl _, hd.2.2.1⟩ ⟨by omega, hx.2⟩
  refine JS.gov hE tk hk0 (SPS.one (M.runs ho hb (by decide)) st) (by omega) J (g uA uM _ (fun _ _ _ _ _ _ g => Or.inl g) J ⟨fun y y1 y2 => ⟨fun c => ?_, fun _ => ?_⟩, fun y y1 y2 y3 => Or.inr (Or.inl ⟨rfl, rfl, rfl, y, y1, y2, y3, rfl, rfl, rfl⟩), ?_, ?_, Or.inr (Or.inr ⟨rfl, rfl, rfl, rfl, rfl, by rw [← t5]⟩)⟩)
  · have := hi y y1 y2; omega
  · have l1 := lnY_2 (E := E) y2
    have hb1 := (hy y y1).2.2.2.2 (by omega)
    intro k x q t va vm gg
    rcases gg with gg | ⟨g1, g2, g3, z, z1, z2, z3, z4, z5, z6⟩ | ⟨g1, g2, g3, g4, g5, g6⟩
    · obtain ⟨f1, f2⟩ := hF _ _ _ _ _ _ gg
      exact ⟨fun hk => Or.inl (by have := f1 hk; omega), fun hk => by have := f2 hk; omega⟩
    · have l2 := lnY_1 (E := E) z2 z3
      have c : y ≠ z := fun e => by rw [e, z2] at y2; exact absurd y2 (by decide)
      have := hyy y y1 z z1 c (by omega) (by omega)
      exact ⟨fun _ => by omega, fun _ => by omega⟩
    · exact ⟨fun _ => by omega, fun _ => by omega⟩
  · intro k x q t va vm gg
    rcases gg with gg | ⟨g1, g2, g3, z, z1, z2, z3, z4, z5, z6⟩ | ⟨g1, g2, g3, g4, g5, g6⟩
    · obtain ⟨f1, f2⟩ := hF _ _ _ _ _ _ gg
      exact ⟨fun hk => by have := f1 hk; omega, fun hk h9 => by have := f2 hk h9; omega⟩
    · have l2 := lnY_1 (E := E) z2 z3
      have := (hy z z1).2.2.2.2 (by omega)
      exact ⟨fun _ => by omega, fun _ _ => by omega⟩
    · exact ⟨fun _ => by omega, fun _ _ => by omega⟩
  · intro k x q t va vm gg
    rcases gg with gg | ⟨g1, g2, g3, z, z1, z2, z3, z4, z5, z6⟩ | ⟨g1, g2, g3, g4, g5, g6⟩
    · obtain ⟨f1, f2⟩ := hF _ _ _ _ _ _ gg
      exact ⟨fun hk => by have := f1 hk; omega, fun hk => by have := f2 hk; omega⟩
    · have l2 := lnY_1 (E := E) z2 z3
      have := (hy z z1).2.2.2.2 (by omega)
      exact ⟨fun _ => by omega, fun _ => by omega⟩
    · exact ⟨fun _ => by omega, fun _ => by omega⟩
end LI8
