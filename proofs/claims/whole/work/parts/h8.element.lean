/-! BOTH MACHINES: ELEMENTS as places and values -/
section EL8
variable {E : SENV} {K : CXT} {Lim k n p nx a a1 b b1 y tk h sp sc i el j nb xx q h' sp' sc' i' a' b' el' : Nat} {x x' : Int} {wA wM uA uM : Wd} {stk : List Nat} {ty : Int32} {A B : ACT}
/-- activations outwards -/
def CHA (as : List ACT) : Nat → Nat → Nat → Prop
  | 0, q, j => j = q
  | n + 1, q, j => ∃ A, as[q]? = some A ∧ aOn A ∧ CHA as n (A.1 3) j
theorem JS.a2c (H : JS E K el a b h sp sc x i wA wM) : ∀ (n q : Nat) (A : ACT), K.1[q]? = some A → aOn A → ACH wM n q j → j < 64 → CHA K.1 n q j := by
  intro n
  induction n with
  | zero => exact fun q A _ _ h _ => h
  | succ n ih =>
    intro q A hA hon ⟨h1, f1, h2, h3⟩ hj
    obtain ⟨m1, n2, n3, n4, n5, n6, n7, n8⟩ := H.act hA
    obtain ⟨⟨L, hL, hLo, gF, hc⟩, _⟩ := n8 hon
    have hLn := (H.act hL).2.2.2.2.2.2.1
    have hf : f1 < 64 := by
      cases n with
      | zero =>
        have h3 : j = f1 := h3
        omega
      | succ n => exact h3.1
    have : f1 = A.1 3 := (eq_iN (by omega) (by omega)).mp (h2.symm.trans m1.2.2.1)
    subst this
    exact ⟨A, hA, hon, ih _ L hL hLo h3 hj⟩
theorem JS.chn (H : JS E K el a b h sp sc x i wA wM) : ∀ (n q : Nat) (A B : ACT), K.1[q]? = some A → K.1[j]? = some B → CHA K.1 n q j → FCH wA (K.2.2 1) n (aF A) (aF B) ∧ ACH wM n q j := by
  obtain ⟨hM, hD⟩ := H.mem
  intro n
  induction n with
  | zero =>
    intro q A B hA hB h
    have h : j = q := h
    subst h
    have : A = B := Option.some.inj (hA.symm.trans hB)
    subst this
    exact ⟨rfl, rfl⟩
  | succ n ih =>
    intro q A B hA hB ⟨A', hA', hon, h⟩
    have : A' = A := Option.some.inj (hA'.symm.trans hA)
    subst this
    obtain ⟨m1, n2, n3, n4, n5, n6, n7, n8⟩ := H.act hA
    obtain ⟨⟨L, hL, hLo, gF, hc⟩, _⟩ := n8 hon
    obtain ⟨r1, r2⟩ := ih _ L B hL hB h
    exact ⟨⟨((hD.2.2 _ _ _ _ _ _ gF).2.1 (by omega)).1, aF L, (hM _ _ _ _ _ _ gF).2.1 (Or.inr rfl), r1⟩, ⟨n7, A'.1 3, m1.2.2.1, r2⟩⟩
theorem FNDS.trn (F : FNDS E K wA wM A y j n B) (H : JS E K el a b h sp sc x i wA wM) (hA : K.1[K.2.2 0]? = some A) (hon : aOn A) (J : JS E K el' a' b' h' sp' sc' x' i' uA uM) : FNDS E K uA uM A y j n B := by
  obtain ⟨f1, f2, f3, f4, f5, f6, f7, f8, f9, f10, f11, f12, f13⟩ := F
  obtain ⟨r1, r2⟩ := J.chn n _ A B hA f2 (H.a2c n _ A hA hon f6 f10)
  exact ⟨f1, f2, f3, f4, r1, r2, f7, f8, f9, f10, (J.act f2).1.1, f12, f13⟩
theorem EL.sig (hE : EOKS E) (hS : SYS E) (ih : ALLk E Lim k) (h1 : SCE E stk) (hC : elCA (vM E) (vA E) (eLU E stk) (eLV E p) k n (nxL (vM E) k (gi (vM E) 8 n)) a a1 (cA E)) (hM : elCMx (vM E) (eLU E stk) (eLV E p) k n (nxL (vM E) k (gi (vM E) 8 n)) b b1 (dM E)) (hf : elL (vM E) (eLU E stk) p k n (nxL (vM E) k (gi (vM E) 8 n)) = []) (ho : gi (vM E) 9 n = Int32.ofNat (nxL (vM E) k (gi (vM E) 8 n)).length ∧ (nxL (vM E) k (gi (vM E) 8 n)).length ≤ 5000 ∧ ∀ x ∈ nxL (vM E) k (gi (vM E) 8 n), OKN (vM E) k 0 x) (ha : a1 < eNo E 5 0) (hb : b1 < 60000) (hnx : (nxL (vM E) k (gi (vM E) 8 n)).foldl (fun m x => max m (4 + NDX (vM E) k 0 x)) 3 ≤ nx) : SIG E Lim stk p (PP (tyE (vM E) (eLU E stk (nd (vM E) 12 n)))) 1 nx a a1 b b1 := by
  generalize hxs : nxL (vM E) k (gi (vM E) 8 n) = xs at hC hM hf ho hnx
  obtain ⟨q, hx, hq⟩ := elL_n (hS.no0 h1) hf
  obtain ⟨y, ey⟩ : ∃ y, eLU E stk (nd (vM E) 12 n) = y + 1 := ⟨eLU E stk (nd (vM E) 12 n) - 1, (Nat.sub_add_cancel (Nat.pos_of_ne_zero q)).symm⟩
  have hy := hS.nm h1 ey
  obtain ⟨a0, a2, ⟨c1, c2⟩, c3, c4, c5⟩ := hC
  subst c2
  subst c5
  obtain ⟨b2, d1, d2⟩ := hM
  unfold cdE at d2
  rw [ey] at c1 d2 hq ⊢
  rw [Nat.add_sub_cancel] at d2 hq
  unfold tyE
  rw [if_neg (by omega), Nat.add_sub_cancel, if_pos (hq.elim (fun c => Or.inl c.1) (fun c => Or.inr c.1))]
  have hrow : ∀ z ∈ xs, ∀ (iA iM a a' b b' : Nat), (fun (x _ b b' : Nat) => CDC (vM E) (vA E) (eLU E stk) (eLV E p) k 0 x 0 b b' (cA E)) z iA a a' → (fun (x _ b b' : Nat) => CDM (vM E) (eLU E stk) (eLV E p) k 0 x 0 0 b b' (dM E)) z iM b b' → a ≤ a' ∧ b ≤ b' ∧ (a' < eNo E 5 0 → b' < 60000 → SIV E Lim stk p 1 (nx - 4) a a' b b') := by
    intro z hz iA iM a a' b b' hc hm
    obtain ⟨z1, z2⟩ := hx z hz
    have w := WLE hS h1 k 0 z 0 (Or.inl (by omega)) (ho.2.2 z hz) z1
    refine ⟨w.1 _ _ _ _ hc, w.2 _ _ _ _ _ hm, fun ga gb => ?_⟩
    have t1 := TYX_is hS h1 hm (ho.2.2 z hz) z1 z2
    have v1 := (NOD.sim (md := 0) ih (by omega) ⟨h1, hc, hm, z1, ho.2.2 z hz, ga, gb⟩).v
    rw [t1] at v1
    have hle := (fold_mx (f := fun x => 4 + NDX (vM E) k 0 x) xs 3).2 z hz
    try dsimp only at hle
    exact SIV_g.mpr ((SIV_g.mp v1).wid (by omega))
  have la : a + 1 ≤ a2 := rwM_le xs 0 _ _ (fun qi z hz c c' hc => by
    have w := WLE hS h1 k 0 z 0 (Or.inl (by omega)) (ho.2.2 z (List.mem_of_getElem? hz)) (hx z (List.mem_of_getElem? hz)).1
    exact w.1 _ _ _ _ hc) c3
  have lb : b ≤ b2 := rwM_le xs 0 _ _ (fun qi z hz c c' hc => by
    have w := WLE hS h1 k 0 z 0 (Or.inl (by omega)) (ho.2.2 z (List.mem_of_getElem? hz)) (hx z (List.mem_of_getElem? hz)).1
    exact w.2 _ _ _ _ _ hc) d1
  have h3 : 3 ≤ nx := Nat.le_trans (fold_mx (f := fun x => 4 + NDX (vM E) k 0 x) xs 3).1 hnx
  have hlen3 : xs.length ≤ 3 ∧ 1 ≤ 1 := by
    refine ⟨?_, Nat.le_refl _⟩
    rcases hq with ⟨g1, g2⟩ | ⟨g1, g2⟩
    · obtain ⟨kd, m, C0, hY⟩ := hS.sy hy
      obtain ⟨_, _, _, _, _, _, _, _, hK⟩ := hY
      rcases hK with k | k | k | k | k | k
      · exact absurd (g1.symm.trans k.1) (by decide)
      · obtain ⟨_, _, _, _, bb, b1, b2, b3, b4⟩ := k
        have := (eq_iN (by omega) (by omega)).mp (b4.symm.trans (g2.trans ho.1))
        omega
      · exact absurd (g1.symm.trans k.1) (by decide)
      · exact absurd (g1.symm.trans k.1) (by decide)
      · exact absurd (g1.symm.trans k.1) (by decide)
      · exact absurd (g1.symm.trans k.1) (by decide)
    · rw [ho.1, show (3 : Int32) = Int32.ofNat 3 from rfl] at g2
      exact (le_iN (by omega) (by omega)).mp g2
  have hb2 : b2 ≤ b1 ∧ b2 < 60000 := by rcases d2 with ⟨_, _, d⟩ | ⟨_, _, d⟩ | ⟨_, d⟩ <;> omega
  intro K A hh sp sc x i wA wM hA hon hstk hp H hH hL hh' hxa hxk hc
  subst hp
  have hd := H.dep
  have hEN := hE.1
  obtain ⟨y', j, nn, B, e, F⟩ := H.sym hS hA hon hstk (tk := nd (vM E) 12 n) q
  have : y' = y := by
    have := e.symm.trans ey
    omega
  subst this
  obtain ⟨C, M⟩ := H.cka hA
  obtain ⟨hMm, hDi⟩ := H.mem
  -- the ARRAY's words
  have hdesc : ∃ xx qq nb, DESC K.2.1 xx qq (gi (vM E) 20 y') nb ∧ qq < 199000 ∧ (∃ zA, TKS 1 wA zA ∧ OFF (PSK hh) zA wA ∧ gi zA 48 11 = Int32.ofNat (a + 1) ∧ gi zA 48 14 = Int32.ofNat (hh + 1) ∧ gl zA 51 hh = Int64.ofNat xx) ∧ ∃ X Y, opW (dM E) b2 5 X Y (gi (vM E) 9 n) ∧ b1 = b2 + 1 ∧ ∀ (h' sp' sc' i' : Nat) (x' : Int) (uA uM : Wd), JS E K (K.2.2 5) a2 b2 h' sp' sc' x' i' uA uM → fX12_step uM = fX12_element_ (Int32.ofNat qq) (Int32.ofNat xs.length) (si uM 0 128 (Int32.ofNat (b2 + 1))) := by
    obtain ⟨f1, f2, f3, f4, f5, f6, f7, f8, f9, f10, f11, f12, f13s, f17⟩ := id F
    obtain ⟨f13, f14, f15, f16⟩ := f13s (hq.elim (fun c => Or.inr (Or.inl c.1)) (fun c => Or.inr (Or.inr c.1.1)))
    obtain ⟨kd, m, C0, hY⟩ := hS.sy hy
    have srt := hY.srt
    rcases hq with ⟨g1, g2⟩ | ⟨g1, g2⟩
    · have D := f4.2.2.1 g1
      obtain ⟨base, sz, lo, hi, k1, k2, k3⟩ := id D
      rw [if_neg (by rw [g1]; decide), g1] at srt
      have w16 : gi (vA E) 16 (y' + 1) = 0 := by
        obtain ⟨_, _, _, _, _, _, _, _, hK⟩ := hY
        rcases hK with k | k | k | k | k | k
        · exact absurd (g1.symm.trans k.1) (by decide)
        · exact k.2.2.1
        · exact absurd (g1.symm.trans k.1) (by decide)
        · exact absurd (g1.symm.trans k.1) (by decide)
        · exact absurd (g1.symm.trans k.1) (by decide)
        · exact absurd (g1.symm.trans k.1) (by decide)
      have hhop : hpC (vA E) (eLV E (aP A)) (y' + 1) = Int32.ofNat nn := by
        unfold hpC
        rw [if_neg (by rw [w16]; decide)]; exact f9
      rw [if_pos srt, if_neg (by rw [w16]; decide), hhop, f15] at c1
      have hq9 : aB B + sM E y' < 199000 := by
        have := M.2.2.2.2.2.2.2.2.2.2.2.2.2.2.2.1
        rcases (hDi.2.2 _ _ _ _ _ _ k1).2.2.1 (by omega) with c | c <;> omega
      refine ⟨aF B + sA E y', aB B + sM E y', _, D, hq9, ⟨_, TKS.one hd.2.2.2.2 (k_plc C (by omega) c1 (Or.inl ⟨by omega, f5⟩) ((hDi.2.2 _ _ _ _ _ _ k1).2.1 (by omega)).1 (by omega)), pshW_off, ?_, gi_si0 _ _ _ _, pshW_v⟩, ?_⟩
      · unfold pshW pshQ; rw [gi_si1 (by omega), gi_sl, gi_si0]
      · rcases d2 with ⟨_, d2, d3⟩ | ⟨d, _⟩ | ⟨d, _⟩
        · refine ⟨_, _, d2, d3, fun h' sp' sc' i' x' uA uM J => ?_⟩
          have F' := F.trn H hA hon J
          obtain ⟨_, M'⟩ := J.cka hA
          obtain ⟨_, _, _, _, _, r6, _, _, _, _, r11, _⟩ := F'
          rw [f13, ho.1, f8] at d2
          exact rm_elem1 M' hb2.2 d2 (Or.inl ⟨nn, j, aB B, rfl, by omega, r6, f10, r11, rfl⟩) (by omega)
        · exact absurd (g1.symm.trans d.1) (by decide)
        · exact absurd (g1.symm.trans d.1) (by decide)
    · obtain ⟨xx, qq, nb, G1, D⟩ := f4.2.2.2.2.2.1 g1.1 g1.2
      obtain ⟨base, sz, lo, hi, k1, k2, k3⟩ := id D
      rw [if_pos g1.1, g1.2] at srt
      have h28 : gi (vM E) 28 y' = 0 := by
        by_cases z : gi (vM E) 28 y' = 0
        · exact z
        · exact absurd ((hY.val g1.1 z).symm.trans g1.2) (by decide)
      have w16 : gi (vA E) 16 (y' + 1) = 3 := hY.fml.mpr ⟨g1.1, h28⟩
      obtain ⟨o1, o2, o3, o4, o5⟩ := F.fml hS g1.1
      rw [if_pos srt, if_pos w16, o1, o2] at c1
      have hq9 : ∀ {z r : Nat} {va vm : Int64}, K.2.1 1 z r 0 va vm → r < 300000 → r < 199000 := fun g hr => by
        have := M.2.2.2.2.2.2.2.2.2.2.2.2.2.2.2.1
        rcases (hDi.2.2 _ _ _ _ _ _ g).2.2.1 (by omega) with c | c <;> omega
      have hqq : qq < 199000 := by
        have := M.2.2.2.2.2.2.2.2.2.2.2.2.2.2.2.1
        rcases (hDi.2.2 _ _ _ _ _ _ k1).2.2.1 (by omega) with c | c <;> omega
      have e1 := (hMm _ _ _ _ _ _ G1).2.1 (Or.inl rfl)
      have tk := k_val C (by omega) c1 o4 ((hDi.2.2 _ _ _ _ _ _ G1).2.1 (by omega)).1 (by omega)
      rw [e1] at tk
      refine ⟨xx, qq, nb, D, hqq, ⟨_, TKS.one hd.2.2.2.2 tk, pshW_off, ?_, gi_si0 _ _ _ _, pshW_v⟩, ?_⟩
      · unfold pshW pshQ; rw [gi_si1 (by omega), gi_sl, gi_si0]
      · rcases d2 with ⟨d, _⟩ | ⟨_, d2, d3⟩ | ⟨d, _⟩
        · exact absurd (g1.1.symm.trans d) (by decide)
        · refine ⟨_, _, d2, d3, fun h' sp' sc' i' x' uA uM J => ?_⟩
          have F' := F.trn H hA hon J
          obtain ⟨_, M'⟩ := J.cka hA
          obtain ⟨_, _, _, _, p5⟩ := F'.fml hS g1.1
          have hb9 := hq9 G1 (by omega)
          have m1 := (J.mem.1 _ _ _ _ _ _ G1).2.2 (Or.inl rfl)
          unfold RMq at m1
          rw [if_pos (by omega)] at m1
          rw [o3, ho.1] at d2
          exact rm_elem2 M' hb2.2 d2 p5 (by omega) (by omega) m1
        · exact absurd (g1.2.symm.trans d.2) (by decide)
  obtain ⟨xx, qq, nb, D, hqq, ⟨zA, t1, t2, t3, t4, t5⟩, X, Y, o1, o2, o3⟩ := hdesc
  subst o2
  rw [ho.1] at c4 o1
  have hroom : hh + 1 + xs.length + (nx - 4) ≤ 502 * (K.2.2 3 + 1) := by
    cases xs with
    | nil =>
      show hh + 1 + 0 + (nx - 4) ≤ _
      omega
    | cons z r =>
      have := (fold_mx (f := fun x => 4 + NDX (vM E) k 0 x) (z :: r) 3).2 z List.mem_cons_self
      try dsimp only at this
      omega
  refine JS.stp (k := 1) (j := 0) (x1 := x + 1) hE H t1 (show SPS 0 wM wM from rfl) (by omega) H.low t2 (OFF.rf : OFF (PSO sp) wM wM) t3 t4 M.2.2.1 M.2.2.2.2.1 ⟨by omega, by omega, by omega, Nat.le_refl _, by omega⟩ ⟨Int.le_refl _, by omega⟩ (fun J1 => ?_)
  refine (SIR hE xs 0 0 (a + 1) a2 b b2 hrow c3 d1 (by omega) (by omega) K A (hh + 1) sp sc (x + 1) (i + 1) zA wM hA hon hstk rfl J1 hH hL hroom (fun j B hB => by have := hxa j B hB; omega) (by omega) ?_).2.2
  intro yA yM sc2 i2 J2 s2 hR k2
  have v1 : gl yA 51 hh = Int64.ofNat xx := (k2.1 hh (by omega)).trans t5
  have ex : x + 1 + (a2 - ((a + 1 : Nat) : Int)) + 1 = x + ((a2 + 1 : Nat) - (a : Int)) := by omega
  refine JS.elem hE J2 hA hon c4 o1 (o3 _ _ _ _ _ _ _ J2) D v1 hR hlen3.1 (by omega) (by omega) H.low (by omega) (by omega) hqq (fun uA uM J3 hp OA OM => ?_)
  rw [ex] at J3
  exact hc uA uM sc2 _ J3 s2 hp ((KEE.st t2 (OFF.rf : OFF (PSO sp) wM wM)).tr ((k2.le (by omega) (Nat.le_refl _) (Nat.le_refl _) (Nat.le_refl _)).tr (KEE.st OA OM)))
theorem NOD.p4 (hE : EOKS E) (hS : SYS E) (ih : ALLk E Lim k) (H : NOD E stk p (k + 1) 1 n a a1 b b1) (h : gi (vM E) 7 n = 4) : SIM E Lim stk p (k + 1) 1 n a a1 b b1 := by
  obtain ⟨h1, h2, h3, h4, h5, h6, h7⟩ := H
  rw [cdc1_4 h rfl] at h2
  rw [cdm1_4 h rfl] at h3
  rw [flx1_4 h rfl] at h4
  rw [okn1_4 h] at h5
  unfold SIM PMD cnP tyP
  rw [if_neg (by decide), if_pos rfl, if_pos h, if_neg (by decide), ndx1_4 h]
  exact EL.sig hE hS ih h1 h2 h3 h4 h5 h6 h7 (Nat.le_refl _)
theorem NOD.n4 (hE : EOKS E) (hS : SYS E) (ih : ALLk E Lim k) (H : NOD E stk p (k + 1) 0 n a a1 b b1) (h : gi (vM E) 7 n = 4) : SIM E Lim stk p (k + 1) 0 n a a1 b b1 := by
  obtain ⟨h1, h2, h3, h4, h5, h6, h7⟩ := H
  rw [cdc0_4 h rfl] at h2
  rw [cdm0_4 h rfl] at h3
  rw [flx0_4 h rfl] at h4
  rw [okn0_4 h] at h5
  obtain ⟨a2, c1, c2, c3⟩ := h2
  obtain ⟨b2, d1, d2, d3⟩ := h3
  subst c3
  subst d3
  apply SIM.of
  rw [tyx_4 h, ndx0_4 h]
  have S := EL.sig hE hS ih h1 c1 d1 h4 h5 (by omega) (by omega) (Nat.le_refl _)
  intro K A hh sp sc x i wA wM hA hon hstk hp H hH hL hh' hxa hxk hc
  refine S K A hh sp sc x i wA wM hA hon hstk hp H hH hL hh' (fun j B hB => by have := hxa j B hB; omega) (by omega) ?_
  intro uA uM sc1 i1 J1 s1 ⟨xx, q, v1, v2, hG⟩ k1
  have hd := J1.dep
  obtain ⟨C, M⟩ := J1.cka hA
  obtain ⟨hM, hD⟩ := J1.mem
  obtain ⟨w1, w2⟩ := (hM _ _ _ _ _ _ hG).1 rfl
  have b3 := hD.2.2 _ _ _ _ _ _ hG
  have hr : RDM uM (gl uM 85 sp) (RMq uM q) := by
    rw [v2]
    unfold RMq
    rcases b3.2.2.1 (by omega) with c | c
    · rw [if_pos c.2]
      exact Or.inl ⟨q, by have := M.2.2.2.2.2.2.2.2.2.2.2.2.2.2.2.1; omega, rfl, rfl⟩
    · rw [if_neg (by omega)]
      refine Or.inr ⟨q - 1048576, ?_, congrArg Int64.ofNat (show q = 1048576 + (q - 1048576) by omega), rfl⟩
      have := M.2.2.2.2.2.2.2.2.2.2.2.2.2.2.2.2.1
      omega
  have tk := k_load C (by omega) c2 v1 ((b3.2.1 (by omega)).1)
  have st := rm_load M (by omega) d2 hr
  have OA : OFF (PSK hh) (pshQ (popW uA (a2 + 1) hh) hh (gl uA 50 xx)) uA := OFF.tr pshQ_off (popW_off.mono fun k j p => Or.inl p)
  have OM : OFF (PSO sp) (pshM (si (si uM 0 128 (Int32.ofNat (b2 + 1))) 0 130 (Int32.ofNat sp)) sp (RMq uM q)) uM := OFF.tr pshM_off (OFF.tr (OFF.si (Or.inl ⟨rfl, Or.inr rfl⟩)) (OFF.si (Or.inl ⟨rfl, Or.inl rfl⟩)))
  refine JS.stp (k := 1) (j := 1) (x1 := x + ((a2 + 1 : Nat) - (a : Int))) hE J1 (TKS.one hd.2.2.2.2 tk) (SPS.one (M.runs d2 (by omega) (by decide)) st) (by omega) H.low OA OM ?_ (gi_si0 _ _ _ _) ?_ (gi_si0 _ _ _ _) ⟨by omega, by omega, by omega, by omega, by omega⟩ ⟨by omega, hxk⟩ (fun J2 => hc _ _ (gl uA 50 xx) sc1 _ J2 s1 pshQ_v (pshM_v.trans w1.symm) w2 (k1.tr (KEE.st OA OM)))
  · unfold pshQ popW; rw [gi_si1 (by omega), gi_sl, gi_si1 (by omega), gi_si0]
  · unfold pshM; rw [gi_si1 (by omega), gi_sl, gi_si1 (by omega), gi_si0]
end EL8
