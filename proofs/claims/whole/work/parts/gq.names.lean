/-! BOTH MACHINES: the values and places of NAMES whose words are at hand -/
section NV
variable {E : SENV} {K : CXT} {Lim p nx a a1 b b1 h sp sc i el lev n j : Nat} {x x1 : Int} {stk : List Nat} {ty : Int32} {wA wM uA uM : Wd} {v : Int64} {A B : ACT}
theorem JS.cka (H : JS E K el a b h sp sc x i wA wM) (hA : K.1[K.2.2 0]? = some A) : CK (cA E) (eNo E 5 0) a (aF A) (K.2.2 1) h (K.2.2 3) el wA ∧ MK (dM E) b (K.2.2 0) sp (K.2.2 4) K.1.length (K.2.2 2) (K.2.2 5) (K.2.2 3) wM := by
  obtain ⟨A', e1, e2, C, M⟩ := H.ck
  have : A' = A := Option.some.inj (e1.symm.trans hA)
  rw [this] at C
  exact ⟨C, M⟩
/-- a cell's value is pushed -/
theorem CTV.cell (hE : EOKS E) (H : JS E K (K.2.2 5) a b h sp sc x i wA wM) (hc : CTV E K ty (a + 1) (b + 1) h sp sc (x + ((a + 1 : Nat) - (a : Int))) wA wM) (hA : K.1[K.2.2 0]? = some A) {y g s t q : Nat} {X z : Int32} (hw : gl (cA E) 41 a = wdC 19 (Int32.ofNat y) (Int32.ofNat s)) (ho : opW (dM E) b 2 X (Int32.ofNat t) z) (hy : HOP wA (K.2.2 1) (aF A) y g) (hs : SLT wM (K.2.2 0) X t q) (hG : K.2.1 0 (g + s) q ty 0 0) (hq : q < 200000) (ha : a < eNo E 5 0) (hb : b < 60000) (hh : h < 30622) (hx : x + ((a + 1 : Nat) - (a : Int)) ≤ KK) : GD E i wA wM := by
  have hd := H.dep
  obtain ⟨C, M⟩ := H.cka hA
  obtain ⟨hM, hD⟩ := H.mem
  obtain ⟨v1, v2⟩ := (hM _ _ _ _ _ _ hG).1 rfl
  have hlt := (hD.2.2 _ _ _ _ _ _ hG).2.1 (by omega) |>.1
  unfold RMq at v1
  rw [if_pos (by omega)] at v1
  refine CTV.psh (k := 1) (j := 1) hE H hc (TKS.one hd.2.2.2.2 (k_val C ha hw hy hlt hh)) (SPS.one (M.runs ho hb (by decide)) (rm_loadv M hb ho hs hq)) (by omega) (by omega) pshW_off (OFF.tr pshM_off (OFF.si (Or.inl ⟨rfl, Or.inl rfl⟩))) ?_ (gi_si0 _ _ _ _) ?_ (gi_si0 _ _ _ _) (by omega) hx (v := gl wA 50 (g + s)) pshW_v (pshM_v.trans v1.symm) v2
  · unfold pshW pshQ; rw [gi_si1 (by omega), gi_sl, gi_si0]
  · unfold pshM; rw [gi_si1 (by omega), gi_sl, gi_si0]
/-- a place: of a cell -/
def PP (ty : Int32) (K : CXT) (h sp : Nat) (uA uM : Wd) : Prop := ∃ x q, gl uA 51 h = Int64.ofNat x ∧ gl uM 85 sp = Int64.ofNat q ∧ K.2.1 0 x q ty 0 0
theorem PP_pos : POS (PP ty) 1 := fun K h sp uA uM vA vM OA OM hp => by
  unfold PP at hp ⊢
  rw [(OA 51 h (by unfold PSK; omega)).2, (OM 85 sp (by unfold PSO; omega)).2]
  exact hp
/-- one word pushed on both sides -/
theorem CTG.psh {Po : CXT → Nat → Nat → Wd → Wd → Prop} (hE : EOKS E) (H : JS E K (K.2.2 5) a b h sp sc x i wA wM) (hc : CTG E K Po n a1 b1 h sp sc (x + (a1 - a)) wA wM) {k j : Nat} (hA : TKS k wA uA) (hM : SPS j wM uM) (hj : j ≤ 4 * k) (hk : a + k ≤ a1) (OA : OFF (PSK h) uA wA) (OM : OFF (PSO sp) uM wM) (q1 : gi uA 48 11 = Int32.ofNat a1) (q2 : gi uA 48 14 = Int32.ofNat (h + n)) (q3 : gi uM 0 128 = Int32.ofNat b1) (q4 : gi uM 0 130 = Int32.ofNat (sp + n)) (hb : b1 ≤ 60000 ∧ h + n ≤ 30622) (hx : x + (a1 - a) ≤ KK) (hv : Po K h sp uA uM) : GD E i wA wM := by
  have hd := H.dep
  have J : JS E K (K.2.2 5) a1 b1 (h + n) (sp + n) sc (x + (a1 - a)) (i + k) uA uM := H.mv H.low OA OM q1 q2 q3 q4 (by omega) ⟨by omega, hx⟩
  exact J.go hE hA hM hj (hc uA uM sc (i + k) J (Nat.le_refl _) hv (KEE.st OA OM))
theorem CTG.cellp (hE : EOKS E) (H : JS E K (K.2.2 5) a b h sp sc x i wA wM) (hc : CTG E K (PP ty) 1 (a + 1) (b + 1) h sp sc (x + ((a + 1 : Nat) - (a : Int))) wA wM) (hA : K.1[K.2.2 0]? = some A) {y g s t q : Nat} {X z : Int32} (hw : gl (cA E) 41 a = wdC 20 (Int32.ofNat y) (Int32.ofNat s)) (ho : opW (dM E) b 3 X (Int32.ofNat t) z) (hy : HOP wA (K.2.2 1) (aF A) y g) (hs : SLT wM (K.2.2 0) X t q) (hG : K.2.1 0 (g + s) q ty 0 0) (hq : q < 200000) (ha : a < eNo E 5 0) (hb : b < 60000) (hh : h < 30622) (hx : x + ((a + 1 : Nat) - (a : Int)) ≤ KK) : GD E i wA wM := by
  have hd := H.dep
  obtain ⟨C, M⟩ := H.cka hA
  obtain ⟨hM, hD⟩ := H.mem
  have hlt := (hD.2.2 _ _ _ _ _ _ hG).2.1 (by omega) |>.1
  refine CTG.psh (k := 1) (j := 1) hE H hc (TKS.one hd.2.2.2.2 (k_plc C ha hw hy hlt hh)) (SPS.one (M.runs ho hb (by decide)) (rm_addrv M hb ho hs hq)) (by omega) (by omega) pshW_off (OFF.tr pshM_off (OFF.si (Or.inl ⟨rfl, Or.inl rfl⟩))) ?_ (gi_si0 _ _ _ _) ?_ (gi_si0 _ _ _ _) (by omega) hx ⟨_, _, pshW_v, pshM_v, hG⟩
  · unfold pshW pshQ; rw [gi_si1 (by omega), gi_sl, gi_si0]
  · unfold pshM; rw [gi_si1 (by omega), gi_sl, gi_si0]
/-- a NAME whose word is at hand: VARIABLES, own ones, VALUES -/
def NHD (E : SENV) (y : Nat) : Prop := gi (vM E) 19 y = 1 ∨ FO (vM E) y 1 ∧ gi (vM E) 28 y ≠ 0
theorem NHD.slk {y : Nat} (h : NHD E y) : SLK E y := h.imp id fun h => Or.inr h.1.1
/-- .. and where -/
theorem FNDS.cell (hS : SYS E) {y : Nat} (F : FNDS E K wA wM A y j n B) (hN : NHD E y) : ∃ u g s t q, hpC (vA E) (eLV E (aP A)) (y + 1) = Int32.ofNat u ∧ gi (vA E) 18 (y + 1) = Int32.ofNat s ∧ (if gi (vM E) 19 y = 1 then (if gi (vM E) 27 y = 0 then upI (vM E) (eLV E (aP A)) y else -1) else upI (vM E) (eLV E (aP A)) y) = t ∧ HOP wA (K.2.2 1) (aF A) u g ∧ SLT wM (K.2.2 0) t (sM E y) q ∧ K.2.1 0 (g + s) q (gi (vM E) 20 y) 0 0 ∧ q < 300000 := by
  obtain ⟨f1, f2, f3, ⟨g1, g2, g3, g4, g5⟩, f5, f6, f7, f8, f9, f10, f11, f12, f13s, f17⟩ := F
  obtain ⟨f13, f14, f15, f16⟩ := f13s hN.slk
  obtain ⟨kd, m, C, c1, c2, c3, c4, c5, c6, c7, c8, c9, c10, c10', c11⟩ := hS
  have hSy := c6 y (by omega)
  have e8 := c8 y (by omega)
  obtain ⟨_, _, _, _, _, _, _, ⟨p, l, q1, q2, q3, q4⟩, hK⟩ := hSy
  have hop : gi (vA E) 16 (y + 1) ≠ 1 → hpC (vA E) (eLV E (aP A)) (y + 1) = Int32.ofNat n := fun q => by
    unfold hpC
    rw [if_neg q]; exact f9
  rcases hN with hN | ⟨⟨hN1, hN2⟩, hN3⟩
  · rcases hK with k | k | k | k | k | k
    · rcases k.2.2.2 with ⟨k1, k2⟩ | ⟨k1, k2, o, k3, k4, k5⟩
      · refine ⟨n, aF B, sA E y, _, aB B + sM E y, hop (by rw [k2]; decide), f15, rfl, Or.inl ⟨by omega, f5⟩, ?_, g1 hN k1, by omega⟩
        rw [if_pos hN, if_pos k1]
        exact Or.inl ⟨n, j, aB B, f8, by omega, f6, f10, f11, rfl⟩
      · refine ⟨63, 0, sA E y, _, sM E y, ?_, f15, rfl, Or.inr ⟨rfl, rfl⟩, ?_, ?_, by omega⟩
        · unfold hpC
          rw [if_pos k2]; rfl
        · rw [if_pos hN, if_neg (by rw [k1]; decide)]
          exact Or.inr ⟨rfl, rfl⟩
        · rw [Nat.zero_add]; exact g2 hN (by rw [k1]; decide)
    · exact absurd (hN.symm.trans k.1) (by decide)
    · exact absurd (hN.symm.trans k.1) (by decide)
    · exact absurd (hN.symm.trans k.1) (by decide)
    · exact absurd (hN.symm.trans k.1) (by decide)
    · exact absurd (hN.symm.trans k.1) (by decide)
  · have h16 : gi (vA E) 16 (y + 1) ≠ 1 := by
      rcases hK with k | k | k | k | k | k
      · exact absurd (hN1.symm.trans k.1) (by decide)
      · rw [k.2.2.1]; decide
      · rw [k.2.2.1]; decide
      · rw [k.2.2.1]; decide
      · rw [k.2.2.1]; decide
      · rcases k.2.2.2.2.1 with e | e
        · rw [e.2]; decide
        · rw [e.2.1]; decide
    refine ⟨n, aF B, sA E y, _, aB B + sM E y, hop h16, f15, rfl, Or.inl ⟨by omega, f5⟩, ?_, g4 hN1 hN2 hN3, by omega⟩
    rw [if_neg (by rw [hN1]; decide)]
    exact Or.inl ⟨n, j, aB B, f8, by omega, f6, f10, f11, rfl⟩
theorem JS.qlt (H : JS E K el a b h sp sc x i wA wM) {xx q : Nat} (hA : K.1[K.2.2 0]? = some A) (hG : K.2.1 0 xx q ty 0 0) (hq : q < 300000) : q < 199000 := by
  obtain ⟨C, M⟩ := H.cka hA
  obtain ⟨hM, hD⟩ := H.mem
  rcases (hD.2.2 _ _ _ _ _ _ hG).2.2.1 (by omega) with c | c
  · have := M.2.2.2.2.2.2.2.2.2.2.2.2.2.2.2.1
    omega
  · omega
/-- the value of a NAME whose word is at hand -/
theorem SIV.nam (hE : EOKS E) (hS : SYS E) {tk y : Nat} {X z : Int32} (hl : eLU E stk tk = y + 1) (hN : NHD E y) (hw : gl (cA E) 41 a = wdC 19 (hpC (vA E) (eLV E p) (y + 1)) (gi (vA E) 18 (y + 1))) (ho : opW (dM E) b 2 X (gi (vM E) 26 y) z) (hX : (if gi (vM E) 19 y = 1 then (if gi (vM E) 27 y = 0 then upI (vM E) (eLV E p) y else -1) else upI (vM E) (eLV E p) y) = X) (ha : a < eNo E 5 0) (hb : b < 60000) (hn : 1 ≤ nx) : SIV E Lim stk p (gi (vM E) 20 y) nx a (a + 1) b (b + 1) := by
  intro K A h sp sc x i wA wM hA hon hstk hp H hH hL hh hxa hxk hc
  subst hp
  have hd := H.dep
  obtain ⟨y', j, n, B, e, F⟩ := H.sym hS hA hon hstk (tk := tk) (fun q => absurd (hl.symm.trans q) (by omega))
  have : y' = y := by
    have := e.symm.trans hl
    omega
  subst this
  obtain ⟨u, g, s, t, q, f1, f2, f3, f4, f5, f6, f7⟩ := F.cell hS hN
  rw [f1, f2] at hw
  rw [(F.2.2.2.2.2.2.2.2.2.2.2.2.1 hN.slk).1] at ho
  exact CTV.cell hE H hc hA hw ho f4 (hX.symm.trans f3 ▸ f5) f6 (by have := H.qlt hA f6 f7; omega) ha hb (by omega) hxk
/-- its place -/
theorem SIG.nam (hE : EOKS E) (hS : SYS E) {tk y : Nat} {X z : Int32} (hl : eLU E stk tk = y + 1) (hN : NHD E y) (hw : gl (cA E) 41 a = wdC 20 (hpC (vA E) (eLV E p) (y + 1)) (gi (vA E) 18 (y + 1))) (ho : opW (dM E) b 3 X (gi (vM E) 26 y) z) (hX : (if gi (vM E) 19 y = 1 then (if gi (vM E) 27 y = 0 then upI (vM E) (eLV E p) y else -1) else upI (vM E) (eLV E p) y) = X) (ha : a < eNo E 5 0) (hb : b < 60000) (hn : 1 ≤ nx) : SIG E Lim stk p (PP (gi (vM E) 20 y)) 1 nx a (a + 1) b (b + 1) := by
  intro K A h sp sc x i wA wM hA hon hstk hp H hH hL hh hxa hxk hc
  subst hp
  have hd := H.dep
  obtain ⟨y', j, n, B, e, F⟩ := H.sym hS hA hon hstk (tk := tk) (fun q => absurd (hl.symm.trans q) (by omega))
  have : y' = y := by
    have := e.symm.trans hl
    omega
  subst this
  obtain ⟨u, g, s, t, q, f1, f2, f3, f4, f5, f6, f7⟩ := F.cell hS hN
  rw [f1, f2] at hw
  rw [(F.2.2.2.2.2.2.2.2.2.2.2.2.1 hN.slk).1] at ho
  exact CTG.cellp hE H hc hA hw ho f4 (hX.symm.trans f3 ▸ f5) f6 (by have := H.qlt hA f6 f7; omega) ha hb (by omega) hxk
end NV
