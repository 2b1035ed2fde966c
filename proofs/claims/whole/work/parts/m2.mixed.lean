/-! BOTH MACHINES: a formal by name, its place on the one side, its value on the other -/
section MC2
variable {E : SENV} {K : CXT} {Lim p nx a a0 a1 b b0 b1 h sp sc i el n j j' jj ta t q y tp mt : Nat} {x x1 : Int} {stk : List Nat} {ty : Int32} {wA wM uA uM : Wd} {v : Int64} {A B B' : ACT} {as : List ACT} {G : GHO} {m' : Int32}
/-- the class has a place, the reference what's there -/
def PMX (ty : Int32) (K : CXT) (h sp : Nat) (uA uM : Wd) : Prop := ∃ x q, gl uA 51 h = Int64.ofNat x ∧ K.2.1 0 x q ty 0 0 ∧ gl uM 85 sp = gl uA 50 x
theorem PMX.mv (hp : PMX ty K h sp wA wM) (OA : OFF (fun k j => k = 48) uA wA) (OM : OFF (fun k j => k = 0) uM wM) : PMX ty K h sp uA uM := by
  obtain ⟨x, q, h1, h2, h3⟩ := hp
  exact ⟨x, q, (OA 51 h (by omega)).2.trans h1, h2, ((OM 85 sp (by omega)).2.trans h3).trans (OA 50 x (by omega)).2.symm⟩
/-- a place's end, read by the reference alone -/
theorem JS.emx (hE : EOKS E) {xx q : Nat} (J : JS E (useK K j) (K.2.2 5) a b (h + 1) (sp + 1) sc x i wA wM) (hB : K.1[j]? = some B) (N : NUM K A) (hA : K.1[K.2.2 0]? = some A) (hon : aOn A) (L : LOWD K h sp (K.2.2 3) (K.2.2 4)) (hw : gl (cA E) 41 a = wdC 47 0 0) {y z : Int32} (ho : opW (dM E) b 17 1 y z) (ha : a < eNo E 5 0) (hb : b < 60000 ∧ b0 ≤ 60000) (e52 : gi wA 52 (K.2.2 3 + 1) ≠ 0) (e53 : gi wA 53 (K.2.2 3 + 1) = Int32.ofNat a0) (e54 : gi wA 54 (K.2.2 3 + 1) = Int32.ofNat (aF A)) (hC : CTM (K.2.2 4) b0 (K.2.2 0) 0 (-1) (K.2.2 3) wM) (v1 : gl wA 51 h = Int64.ofNat xx) (v2 : gl wM 85 sp = Int64.ofNat q) (hG : K.2.1 0 xx q ty 0 0) (hx : x + 1 ≤ x1 ∧ x1 ≤ KK) (g : ∀ uA uM, JS E K (K.2.2 5) a0 b0 (h + 1) (sp + 1) sc x1 (i + 1) uA uM → PMX ty K h sp uA uM → KEE h (K.2.2 3) sp (K.2.2 4) wA wM uA uM → GD E (i + 1) uA uM) : GD E i wA wM := by
  have hd := J.dep
  obtain ⟨n1, n2, n3, n4, n5⟩ := id N
  obtain ⟨C, M⟩ := J.cka (A := B) hB
  obtain ⟨hM, hD⟩ := J.mem
  obtain ⟨w1, w2⟩ := (hM _ _ _ _ _ _ hG).1 rfl
  have b3 := hD.2.2 _ _ _ _ _ _ hG
  obtain ⟨yA, y1, tku⟩ := k_eplace C ha hw (x := 0) (fun q => absurd q e52)
  have y2 : yA = si wA 48 11 (Int32.ofNat (a + 1)) := y1.elim (fun q => absurd q.1 e52) (fun q => q.2)
  subst y2
  have M1 := M.nx (b1 := b + 1) (by omega)
  have hC1 : CTM (K.2.2 4) b0 (K.2.2 0) 0 (-1) (K.2.2 3) (si wM 0 128 (Int32.ofNat (b + 1))) := hC.off (OFF.si (P := fun k j => k = 0 ∧ j = 128) ⟨rfl, rfl⟩) (fun k p q r => by omega)
  have hr : RDM (si wM 0 128 (Int32.ofNat (b + 1))) (gl (si wM 0 128 (Int32.ofNat (b + 1))) 85 sp) (RMq wM q) := by
    rw [gl_si, v2]
    unfold RMq
    rcases b3.2.2.1 (by omega) with c | c
    · rw [if_pos c.2]
      exact Or.inl ⟨q, by have := M.2.2.2.2.2.2.2.2.2.2.2.2.2.2.2.1; have : q < (useK K j).2.2 2 := c.1; omega, rfl, rfl⟩
    · rw [if_neg (by omega)]
      refine Or.inr ⟨q - 1048576, ?_, congrArg Int64.ofNat (show q = 1048576 + (q - 1048576) by omega), rfl⟩
      have := M.2.2.2.2.2.2.2.2.2.2.2.2.2.2.2.2.1
      have : q < 1048576 + (useK K j).2.2 5 := c.2.1
      omega
  obtain ⟨u, u1, u2, u3, u4⟩ := fin_plc M1 hC1 hr ⟨by omega, n3, n4⟩
  have st := rm_fin M hb.1 ho
  rw [if_pos rfl] at st
  have OA : OFF (fun k j => k = 48 ∧ (j = 11 ∨ j = 12 ∨ j = 14 ∨ j = 15)) (si (si (si (si wA 48 11 (Int32.ofNat (a + 1))) 48 11 (gi wA 53 (K.2.2 3 + 1))) 48 12 (gi wA 54 (K.2.2 3 + 1))) 48 15 (Int32.ofNat (K.2.2 3))) wA := OFF.tr (OFF.si (by omega)) (OFF.tr (OFF.si (by omega)) (OFF.tr (OFF.si (by omega)) (OFF.si (by omega))))
  have OM : OFF (fun k j => (k = 0 ∧ (j = 127 ∨ j = 128 ∨ j = 129 ∨ j = 130 ∨ j = 134)) ∨ (k = 85 ∧ sp ≤ j)) u wM := OFF.tr (u4.mono fun k j p => by unfold PFM2 at p; omega) (OFF.si (by omega))
  refine JS.bck (k := 1) (q := 1) hE J N hA hon L (OA.mono fun k j p => Or.inl p) OM ?_ ?_ ?_ (gi_si0 _ _ _ _) u2 ⟨by omega, by omega, hd.2.2.1, hd.2.2.2.1⟩ (TKS.one hd.2.2.2.2 tku) (SPS.one (M.runs ho hb.1 (by decide)) (st.trans u1)) (by omega) hx (fun JJ => g _ _ JJ ⟨xx, q, ?_, hG, ?_⟩ (KEE.pt (dp0 := K.2.2 3) (cp0 := K.2.2 4) (OA.mono fun k j p => by unfold PTA; omega) (OM.mono fun k j p => by unfold PTM; omega) (PSD.eq (OA 56 3 (by omega)).1 (OA 56 4 (by omega)).1)))
  · rw [gi_si1 (by omega), gi_si1 (by omega), gi_si0]; exact e53
  · rw [gi_si1 (by omega), gi_si0]; exact e54
  · rw [gi_si1 (by omega), gi_si1 (by omega), gi_si1 (by omega), gi_si1 (by omega)]; exact C.2.2.2.2.2.1
  · exact (OA 51 h (by omega)).2.trans v1
  · rw [u3, ← w1]; exact (OA 50 xx (by omega)).2.symm
theorem LNK.uq : ∀ {n q j j' : Nat}, LNK as G n q j → LNK as G n q j' → j = j' := by
  intro n
  induction n with
  | zero => exact fun h h' => (show _ = _ from h).trans (show _ = _ from h').symm
  | succ n ih =>
    intro q j j' ⟨A, L, h1, h2, h3, h4, h5, h6⟩ ⟨A', L', g1, g2, g3, g4, g5, g6⟩
    have e := Option.some.inj (h1.symm.trans g1)
    subst e
    exact ih h6 g6
/-- a formal by name that a NAME is, and what stands in its words -/
def FMC (E : SENV) (K : CXT) (A : ACT) (y j n : Nat) (B : ACT) (ta t j' : Nat) (B' : ACT) : Prop := FNW E K A y j n B ∧ K.1[j']? = some B' ∧ aOn B' ∧ K.2.1 1 (aF B + sA E y) (aB B + sM E y) 0 (Int64.ofNat ta) (Int64.ofNat t) ∧ K.2.1 1 (aF B + sA E y + 1) (aB B + sM E y + 1) 0 (Int64.ofNat (aF B')) (Int64.ofNat j') ∧ THV E ta t (gi (vM E) 20 y) B'
theorem FNW.fmc (F : FNW E K A y j n B) (h6 : FO (vM E) y 1) (h28 : gi (vM E) 28 y = 0) : ∃ ta t j' B', FMC E K A y j n B ta t j' B' := by
  obtain ⟨ta, t, j', B', s1, s2, s3, s4, s5⟩ := F.2.2.2.1.2.2.2.2.1 h6.1 h6.2 h28
  exact ⟨ta, t, j', B', F, s1, s2, s3, s4, s5⟩
theorem I64.nat {a b : Nat} (h : Int64.ofNat a = Int64.ofNat b) (ha : a < 2147483648) (hb : b < 2147483648) : a = b := by
  have := congrArg Int64.toInt32 h
  rw [tl_iN, tl_iN] at this
  exact (eq_iN ha hb).mp this
theorem FMC.uq {K' : CXT} {n1 j1 ta1 t1 j2 : Nat} {B1 B2 : ACT} (hE : EOKS E) (h1 : FMC E K A y j n B ta t j' B') (h2 : FMC E K' A y j1 n1 B1 ta1 t1 j2 B2) (e1 : K'.1 = K.1) (e2 : K'.2.1 = K.2.1) (e3 : K'.2.2 0 = K.2.2 0) (hD : DIS K.2.1 tp mt el) (hj : j' < 64 ∧ j2 < 64) : j1 = j ∧ ta1 = ta ∧ t1 = t ∧ j2 = j' ∧ B1 = B ∧ B2 = B' := by
  obtain ⟨⟨f1, f2, f3, f4, f5, f6, f7, f8, f9, f10, f11, f12⟩, h3, h4, h5, h6, stk, kk, nn, c, a1, b1, t0, t2, t3, t4, t5, t6, t7⟩ := h1
  obtain ⟨⟨g1, g2, g3, g4, g5, g6, g7, g8, g9, g10, g11, g12⟩, r3, r4, r5, r6, stk', kk', nn', c', a1', b1', s0, s2, s3, s4, s5, s6, s7⟩ := h2
  have hN := hE.1
  rw [e1] at g2 g5 r3
  rw [e2] at g5 r5 r6
  rw [e3] at g5
  have en : n1 = n := (eq_iN (by omega) (by omega)).mp (g7.symm.trans f7)
  subst en
  have ej : j1 = j := g5.uq f5
  subst ej
  have eB : B1 = B := Option.some.inj (g2.symm.trans f2)
  subst eB
  have z1 := hD.1 _ _ _ _ _ _ _ _ _ _ _ _ h5 r5 (by omega) (by omega) rfl
  have z2 := hD.1 _ _ _ _ _ _ _ _ _ _ _ _ h6 r6 (by omega) (by omega) rfl
  have u1 : ta1 = ta := (I64.nat z1.2.2.2.1 (by omega) (by omega)).symm
  have u2 : t1 = t := (I64.nat z1.2.2.2.2 (by omega) (by omega)).symm
  have u3 : j2 = j' := (I64.nat z2.2.2.2.2 (by omega) (by omega)).symm
  subst u3
  exact ⟨rfl, u1, u2, rfl, rfl, Option.some.inj (r3.symm.trans h3)⟩
/-- the class uses a formal's place; m': the reference's mode -/
theorem JS.fmu (hE : EOKS E) (hS : SYS E) {X : Int32} (F : FMC E K A y j n B ta t j' B') (h6 : FO (vM E) y 1) (hw : gl (cA E) 41 a = wdC 21 (hpC (vA E) (eLV E (aP A)) (y + 1)) (gi (vA E) 18 (y + 1))) (ho : opW (dM E) b 4 (upI (vM E) (eLV E (aP A)) y) (gi (vM E) 26 y) X)
    (hmA : ∀ uA, JS E K (K.2.2 5) (a + 1) b (h + 2) sp sc (x + 1) (i + 1) uA wM → OFF (PSK h) uA wA → fX3_tick uA = some (fX3_use 1 (si uA 48 11 (Int32.ofNat (a + 2))))) (hmM : X = 2 ∧ gi wM 95 (K.2.2 4 - 1) = m' ∧ 1 ≤ K.2.2 4 ∨ X ≠ 2 ∧ X = m')
    (H : JS E K (K.2.2 5) a b h sp sc x i wA wM) (hA : K.1[K.2.2 0]? = some A) (hon : aOn A) (ha : a + 1 < eNo E 5 0) (hb : b < 60000) (hH : HND E K Lim) (hL : eNo E 5 5 ≤ Lim + sc) (hh : h + 2 ≤ 502 * (K.2.2 3 + 1)) (hxa : ∀ (j : Nat) (B : ACT), K.1[j]? = some B → x + 2 ≤ aX B) (hxk : x + 2 ≤ KK)
    (g : ∀ uA, USX E Lim K A B' (a + 1) b h sp sc (x + 1) (i + 1) uA wM ta t (aB B + sM E y) j' 1 → fX12_step wM = fX12_use (Int32.ofNat (aB B + sM E y)) m' (si wM 0 128 (Int32.ofNat (b + 1))) → KEE h (K.2.2 3) sp (K.2.2 4) wA wM uA wM → GD E (i + 1) uA wM) : GD E i wA wM := by
  have hd := H.dep
  obtain ⟨F, s1, s2, s3, s4, s5⟩ := F
  obtain ⟨e1, e2, e3, e4, e5⟩ := (F.nds H hA).fml hS h6.1
  rw [e1, e2] at hw
  refine JS.pair hE H hA hw e4 s3 s4 (by omega) (by omega) (x1 := x + 1) ⟨Int.le_refl _, by omega⟩ (fun uA OA J v1 v2 => ?_)
  obtain ⟨C, M⟩ := J.cka hA
  obtain ⟨hM, hD⟩ := J.mem
  have m1 := (hM _ _ _ _ _ _ s3).2.2 (Or.inl rfl)
  have m2 := (hM _ _ _ _ _ _ s4).2.2 (Or.inl rfl)
  have hq : aB B + sM E y + 1 < 200000 := by
    rcases (hD.2.2 _ _ _ _ _ _ s4).2.2.1 (by omega) with c | c
    · have := M.2.2.2.2.2.2.2.2.2.2.2.2.2.2.2.1
      omega
    · omega
  unfold RMq at m1 m2
  rw [if_pos (by omega)] at m1 m2
  have st : fX12_step wM = fX12_use (Int32.ofNat (aB B + sM E y)) m' (si wM 0 128 (Int32.ofNat (b + 1))) := by
    rw [e3] at ho
    rcases hmM with ⟨c1, c2, c3⟩ | ⟨c1, c2⟩
    · subst c1
      have M' := M
      rw [show K.2.2 4 = K.2.2 4 - 1 + 1 by omega] at M'
      rw [rm_use2 M' hb ho e5, c2]
    · subst c2
      exact rm_use M hb ho e5 c1
  exact g uA ⟨J, hA, hon, M.runs ho hb (by decide), v1, v2, m1, m2, hq, s1, s2, ha, hb, H.lod, hd.2.2.1, hH, hL, hh, fun j B hB => by have := hxa j B hB; omega, by omega, hmA uA J OA⟩ st (KEE.st OA (OFF.rf : OFF (PSO sp) wM wM))
/-- a use: the class has the place, the reference the value -/
def MXD (E : SENV) (Lim : Nat) (as : List ACT) (G : GHO) (ta t j : Nat) (ty : Int32) (B : ACT) : Prop := ∀ (K : CXT) (A : ACT) a b h sp sc x i wA wM q, K.1 = as → K.2.1 = G → USX E Lim K A B a b h sp sc x i wA wM ta t q j 1 → fX12_step wM = fX12_use (Int32.ofNat q) 0 (si wM 0 128 (Int32.ofNat (b + 1))) → CTG E K (PMX ty) 1 (a + 1) (b + 1) h sp sc (x + 1) wA wM → GD E i wA wM
/-- both fail where they want a place -/
def NPD (E : SENV) (Lim : Nat) (as : List ACT) (G : GHO) (ta t j : Nat) (B : ACT) : Prop := ∀ (K : CXT) (A : ACT) a b h sp sc x i wA wM q, K.1 = as → K.2.1 = G → USX E Lim K A B a b h sp sc x i wA wM ta t q j 1 → fX12_step wM = fX12_use (Int32.ofNat q) 1 (si wM 0 128 (Int32.ofNat (b + 1))) → GD E i wA wM
end MC2
