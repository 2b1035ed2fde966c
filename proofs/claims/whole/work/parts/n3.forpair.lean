/-! BOTH SIDES' CODES: ELEMENTS of a for -/
section NC3
variable {E : SENV} {Lim k p K x y tk a a' a1 b b' b1 q q' sg m1 s0 m2 Z n pl H x4 nx v m lev cur aE bE : Nat} {kd wr : Nat → Nat} {stk : List Nat} {w ty : Int32} {PT PR : Nat → Nat → Wd → Prop} {LT LR : List (Nat × Int32)} {lu : Nat → Nat}
/-- room in an EXPR -/
def ENX (E : SENV) (K nx x : Nat) : Prop := OKN (vM E) K 0 x ∧ NDX (vM E) K 0 x ≤ nx
theorem mb_le (h : SOK E Lim) (hk : SCE E stk) (hc : valC (vM E) (vA E) (eLU E stk) p (eLV E p) K x a a1 (cA E)) (hm : mbP (vM E) (eLU E stk) p (eLV E p) K x b b1 (dM E)) (hF : mbL (vM E) (eLU E stk) p K x ty = []) (hO : ENX E K nx x) : a ≤ a1 ∧ b ≤ b1 := by
  obtain ⟨f1, f2⟩ := app_nil (show FLX (vM E) (eLU E stk) p K 0 x 0 ++ misT (TYX (vM E) (eLU E stk) K x) ty (nd (vM E) 12 x) = [] from hF)
  have le := WLE (cur := p) h.2.1 hk K 0 x 0 (Or.inl (by omega)) hO.1 f1
  exact ⟨le.1 _ _ _ _ (hc f1), le.2 _ _ _ _ _ (hm f1)⟩
theorem mb_val (h : SOK E Lim) (hk : SCE E stk) (hc : valC (vM E) (vA E) (eLU E stk) p (eLV E p) K x a a1 (cA E)) (hm : mbP (vM E) (eLU E stk) p (eLV E p) K x b b1 (dM E)) (hF : mbL (vM E) (eLU E stk) p K x ty = []) (hO : ENX E K nx x) (ha : a1 < eNo E 5 0) (hb : b1 < 60000) : ∀ L, L ≤ Lim → SIV E L stk p ty nx a a1 b b1 := fun L hl => by
  obtain ⟨f1, f2⟩ := app_nil (show FLX (vM E) (eLU E stk) p K 0 x 0 ++ misT (TYX (vM E) (eLU E stk) K x) ty (nd (vM E) 12 x) = [] from hF)
  have hv := (sp_val (p := p) (h.le hl) hk (hc f1) (hm f1) f1 hO.1 ha hb).2
  rw [TYX_is h.2.1 hk (hm f1) hO.1 f1 f2] at hv
  exact SIV_g.mpr ((SIV_g.mp hv).wid hO.2)
theorem nd_of {w : Wd} {k j n : Nat} (h : gi w k j = Int32.ofNat n) (hn : n < 2147483648) : nd w k j = n := by
  unfold nd; rw [h]; exact tc_iN (by omega)
/-- rooms of an ELEMENT -/
def ENF (E : SENV) (K nx : Nat) (xx : FEL) : Prop := ENX E K nx xx.2.2.1.1 ∧ (xx.2.1 ≠ 0 → ENX E K nx xx.2.2.2.1.1) ∧ (2 ≤ xx.2.1 → ENX E K nx xx.2.2.2.2.1)
theorem el_pair (h : SOK E Lim) (hk : SCE E stk) {xx : FEL} (hc : elPc (vM E) (vA E) (eLU E stk) p (eLV E p) K (Int32.ofNat pl) (Int32.ofNat sg) xx.1 H a a' (cA E)) (hm : feP (vM E) (eLU E stk) p (eLV E p) K PT PR m2 x4 xx b b' (dM E)) (hS : feS kd wr m (vM E) lu lev cur K xx) (hF : feL (vM E) (eLU E stk) p K v ty LT LR xx = []) (hO : ENF E K nx xx) (ha : a' < eNo E 5 0) (hb : b' < 60000) (hPT : ∀ b b', PT b b' (dM E) → b ≤ b') (hPR : ∀ b b', PR b b' (dM E) → b ≤ b') : a + 5 ≤ a' ∧ b ≤ b' ∧ FEI E Lim stk p nx pl sg H m2 x4 PT PR a a' b b' := by
  have hN := h.1.1
  obtain ⟨w1, w2, v1, hv1, w3, hk'⟩ := hc
  obtain ⟨s1, s2, s3⟩ := hS
  have n8 : nd (vM E) 8 xx.1 = xx.2.2.1.1 := nd_of s1 (by have := s2.1; omega)
  rw [n8] at hv1
  have jw : ∀ {z : Nat}, z < 36872 → wdC 33 0 (Int32.ofNat z) = jwC 33 z := fun hz => (jwC_wdC (x := 33) (by omega) (by omega)).symm
  rcases s3 with ⟨t0, t1⟩ | ⟨t0, t1, t2, t3⟩ | ⟨t0, t1, t2, t3, t4, t5⟩
  · rcases hm with ⟨_, c1, ⟨c2, c3, o1, hP, hv, o2, e1⟩, o3, o4, e2⟩ | ⟨c, _⟩ | ⟨c, _⟩
    · rcases hk' with ⟨_, w4, w5, e3⟩ | ⟨c, _⟩ | ⟨c, _⟩
      · unfold feL at hF
        rw [if_pos t0] at hF
        obtain ⟨f1, f2⟩ := app_nil (show LT ++ (if ty = 2 then [(nd (vM E) 12 v, 4)] else []) ++ mbL (vM E) (eLU E stk) p K xx.2.2.1.1 1 = [] from hF)
        subst e1
        subst e2
        subst e3
        obtain ⟨l1, l2⟩ := mb_le h hk hv1 hv f2 hO.1
        have l3 := hPT _ _ hP
        exact ⟨by omega, by omega, w1, w2, o1, v1, c2, c3, mb_val h hk hv1 hv f2 hO.1 (by omega) (by omega), w3, hP, o2, l1, l3, l2, Or.inl ⟨w4, w5, o3, o4, rfl, rfl⟩⟩
      · exact absurd (t1.symm.trans c) (by decide)
      · exact absurd (t1.symm.trans c) (by decide)
    · omega
    · omega
  · rcases hm with ⟨c, _⟩ | ⟨_, c1, d1, ⟨c2, c3, o1, hP, hv, o2, e1⟩, hv2, o3, o4, o5, e2⟩ | ⟨c, _⟩
    · omega
    · rcases hk' with ⟨c, _⟩ | ⟨_, u1, hu, w4, w5, w6, w7, e3⟩ | ⟨c, _⟩
      · exact absurd (t1.symm.trans c) (by decide)
      · unfold feL at hF
        rw [if_neg (by omega), if_pos t0] at hF
        obtain ⟨f1, f2⟩ := app_nil hF
        obtain ⟨_, f4⟩ := app_nil (show LT ++ (if ty = 2 then [(nd (vM E) 12 v, 4)] else []) ++ mbL (vM E) (eLU E stk) p K xx.2.2.1.1 1 = [] from f1)
        rw [nd_of t2 (by have := t3.1; omega)] at hu
        subst e1
        subst e2
        subst e3
        have hO2 := hO.2.1 (by omega)
        obtain ⟨l1, l2⟩ := mb_le h hk hv1 hv f4 hO.1
        obtain ⟨l5, l6⟩ := mb_le h hk hu hv2 f2 hO2
        have l3 := hPT _ _ hP
        exact ⟨by omega, by omega, w1, w2, o1, v1, c2, c3, mb_val h hk hv1 hv f4 hO.1 (by omega) (by omega), w3, hP, o2, l1, l3, l2, Or.inr (Or.inl ⟨u1, d1, mb_val h hk hu hv2 f2 hO2 (by omega) (by omega), w4, w5, w6, w7.trans (jw (by omega)), o3, o4, o5, l5, l6, rfl, rfl⟩)⟩
      · exact absurd (t1.symm.trans c) (by decide)
    · omega
  · rcases hm with ⟨c, _⟩ | ⟨c, _⟩ | ⟨_, c1, d2, d3, b4, d5, d6, ⟨c2, c3, o1, hP, hv, o2, e1⟩, o3, hv2, o4, o5, hP2, hR1, o6, o7, o8, o9, hR2, hv3, o10, o11, o12, e2⟩
    · omega
    · omega
    · rcases hk' with ⟨c, _⟩ | ⟨c, _⟩ | ⟨_, s2', u3, w4, hu, w5, w6, w7, w8, hu3, w9, w10, w11, w12, w13, w14, w15, w16, w17, w18, w19, w20, e3⟩
      · exact absurd (t1.symm.trans c) (by decide)
      · exact absurd (t1.symm.trans c) (by decide)
      · unfold feL at hF
        rw [if_neg (by omega), if_neg (by omega)] at hF
        obtain ⟨f1, f9⟩ := app_nil hF
        obtain ⟨f1, _⟩ := app_nil f1
        obtain ⟨f1, _⟩ := app_nil f1
        obtain ⟨f1, _⟩ := app_nil f1
        obtain ⟨f1, f5⟩ := app_nil f1
        obtain ⟨_, f4⟩ := app_nil (show LT ++ (if ty = 2 then [(nd (vM E) 12 v, 4)] else []) ++ mbL (vM E) (eLU E stk) p K xx.2.2.1.1 1 = [] from f1)
        rw [nd_of t2 (by have := t3.1; omega)] at hu
        rw [nd_of t4 (by have := t5.1; omega)] at hu3
        subst e1
        subst e2
        subst e3
        have hO2 := hO.2.1 (by omega)
        have hO3 := hO.2.2 (by omega)
        obtain ⟨l1, l2⟩ := mb_le h hk hv1 hv f4 hO.1
        obtain ⟨l5, l6⟩ := mb_le h hk hu hv2 f5 hO2
        obtain ⟨l7, l8⟩ := mb_le h hk hu3 hv3 f9 hO3
        have l3 := hPT _ _ hP
        have l9 := hPT _ _ hP2
        have l10 := hPR _ _ hR1
        have l11 := hPR _ _ hR2
        have g1 := mb_val h hk hu hv2 f5 hO2 (by omega) (by omega)
        have g2 := mb_val h hk hu3 hv3 f9 hO3 (by omega) (by omega)
        exact ⟨by omega, by omega, w1, w2, o1, v1, c2, c3, mb_val h hk hv1 hv f4 hO.1 (by omega) (by omega), w3, hP, o2, l1, l3, l2, Or.inr (Or.inr ⟨s2', u3, d2, d3, b4, d5, d6, fun L hl => ⟨g1 L hl, g2 L hl⟩, ⟨⟨w5, w6, w7, w8, w9, w10, w11, w12⟩, ⟨w13, w14, w15, w16, w17, w18, w19, w20.trans (jw (by omega))⟩, ⟨o4, o5, hP2, hR1, o6, o7, o8⟩, ⟨o9, hR2, o10, o11, o12⟩, ⟨l5, l7, ha⟩, l6, l9, l10, l11, l8, hb⟩, w4, o3, rfl, rfl⟩)⟩
/-- the row of them -/
theorem fls_of (h : SOK E Lim) (hk : SCE E stk) (hPT : ∀ b b', PT b b' (dM E) → b ≤ b') (hPR : ∀ b b', PR b b' (dM E) → b ≤ b') : ∀ (l : List FEL) (a b : Nat), (∀ xx ∈ l, feS kd wr m (vM E) lu lev cur K xx ∧ ENF E K nx xx) → elsPc (vM E) (vA E) (eLU E stk) p (eLV E p) K (Int32.ofNat pl) (Int32.ofNat sg) (l.map Prod.fst) H a aE (cA E) → fesP (vM E) (eLU E stk) p (eLV E p) K PT PR m2 x4 l b bE (dM E) → fesL (vM E) (eLU E stk) p K v ty LT LR l = [] → aE < eNo E 5 0 → bE < 60000 →
    a + 5 * l.length ≤ aE ∧ b ≤ bE ∧ FLS E Lim stk p nx pl sg H m2 x4 PT PR aE bE l.length a b := by
  intro l
  have LE : ∀ (l : List FEL) (a b : Nat), elsPc (vM E) (vA E) (eLU E stk) p (eLV E p) K (Int32.ofNat pl) (Int32.ofNat sg) (l.map Prod.fst) H a aE (cA E) → True := fun _ _ _ _ => trivial
  induction l with
  | nil =>
    intro a b _ hc hm hF ha hb
    have hc : aE = a := hc
    have hm : bE = b := hm
    exact ⟨by rw [hc]; exact Nat.le_refl _, by omega, hc, hm⟩
  | cons xx r ih =>
    intro a b hS ⟨a1, hc1, hc2⟩ ⟨b1, hm1, hm2⟩ hF ha hb
    obtain ⟨f1, f2⟩ := app_nil (show feL (vM E) (eLU E stk) p K v ty LT LR xx ++ fesL (vM E) (eLU E stk) p K v ty LT LR r = [] from hF)
    obtain ⟨q1, q2, q3⟩ := ih a1 b1 (fun z hz => hS z (List.mem_cons_of_mem _ hz)) hc2 hm2 f2 ha hb
    obtain ⟨t1, t2⟩ := hS xx List.mem_cons_self
    obtain ⟨g1, g2, g3⟩ := el_pair h hk hc1 hm1 t1 f1 t2 (by omega) (by omega) hPT hPR
    rw [List.length_cons]
    exact ⟨by omega, by omega, a1, b1, by omega, by omega, q2, g3, q3⟩
end NC3
