/-! BOTH MACHINES: the VARIABLE of a for: its place, its value -/
section MF5
variable {E : SENV} {K : CXT} {Lim p a a0 a1 b b0 b1 h sp sc i el n n1 m m1 j q y nx pl L T r r1 tk tp mt : Nat} {x x1 : Int} {stk : List Nat} {ty : Int32} {wA wM uA uM : Wd} {A B : ACT} {PT PR : Nat → Nat → Wd → Prop}
/-- LOAD on both sides -/
theorem JS.ldb (hE : EOKS E) (J1 : JS E K (K.2.2 5) a b (h + 1) (sp + 1) sc x i wA wM) (hA : K.1[K.2.2 0]? = some A) (low : LOWK K h sp) (hsp : sp ≤ h) (hp : PP ty K h sp wA wM) (hw : gl (cA E) 41 a = wdC 24 0 0) {X Y Z : Int32} (ho : opW (dM E) b 6 X Y Z) (ha : a < eNo E 5 0) (hb : b < 60000) (hx : x + 1 ≤ x1 ∧ x1 ≤ KK) (g : ∀ uA uM, JS E K (K.2.2 5) (a + 1) (b + 1) (h + 1) (sp + 1) sc x1 (i + 1) uA uM → PV ty K h sp uA uM → OFF (PSK h) uA wA → OFF (PSO sp) uM wM → GD E (i + 1) uA uM) : GD E i wA wM := by
  obtain ⟨xx, q, v1, v2, hG⟩ := hp
  have hd := J1.dep
  obtain ⟨C, M⟩ := J1.cka hA
  obtain ⟨hM, hD⟩ := J1.mem
  obtain ⟨w1, w2⟩ := (hM _ _ _ _ _ _ hG).1 rfl
  have b3 := hD.2.2 _ _ _ _ _ _ hG
  have hr : RDM wM (gl wM 85 sp) (RMq wM q) := by
    rw [v2]
    unfold RMq
    rcases b3.2.2.1 (by omega) with c | c
    · rw [if_pos c.2]
      exact Or.inl ⟨q, by have := M.2.2.2.2.2.2.2.2.2.2.2.2.2.2.2.1; omega, rfl, rfl⟩
    · rw [if_neg (by omega)]
      refine Or.inr ⟨q - 1048576, ?_, congrArg Int64.ofNat (show q = 1048576 + (q - 1048576) by omega), rfl⟩
      have := M.2.2.2.2.2.2.2.2.2.2.2.2.2.2.2.2.1
      omega
  have tk := k_load C ha hw v1 ((b3.2.1 (by omega)).1)
  have st := rm_load M hb ho hr
  have OA : OFF (PSK h) (pshQ (popW wA (a + 1) h) h (gl wA 50 xx)) wA := OFF.tr pshQ_off (popW_off.mono fun k j p => Or.inl p)
  have OM : OFF (PSO sp) (pshM (si (si wM 0 128 (Int32.ofNat (b + 1))) 0 130 (Int32.ofNat sp)) sp (RMq wM q)) wM := OFF.tr pshM_off (OFF.tr (OFF.si (Or.inl ⟨rfl, Or.inr rfl⟩)) (OFF.si (Or.inl ⟨rfl, Or.inl rfl⟩)))
  refine JS.stp (k := 1) (j := 1) (h0 := h) (sp0 := sp) (a1 := a + 1) (b1 := b + 1) (h1 := h + 1) (sp1 := sp + 1) (x1 := x1) hE J1 (TKS.one hd.2.2.2.2 tk) (SPS.one (M.runs ho hb (by decide)) st) (by omega) low OA OM ?_ (gi_si0 _ _ _ _) ?_ (gi_si0 _ _ _ _) ⟨by omega, by omega, by omega, by omega, by omega⟩ hx (fun J2 => g _ _ J2 ⟨pshQ_v.trans (w1.trans pshM_v.symm), ?_⟩ OA OM)
  · unfold pshQ popW; rw [gi_si1 (by omega), gi_sl, gi_si1 (by omega), gi_si0]
  · unfold pshM; rw [gi_si1 (by omega), gi_sl, gi_si1 (by omega), gi_si0]
  · rw [pshQ_v]; exact w2
/-- .. by the class alone -/
theorem JS.ldx (hE : EOKS E) (J1 : JS E K (K.2.2 5) a b (h + 1) (sp + 1) sc x i wA wM) (hA : K.1[K.2.2 0]? = some A) (low : LOWK K h sp) (hsp : sp ≤ h) (hp : PMX ty K h sp wA wM) (hw : gl (cA E) 41 a = wdC 24 0 0) (ha : a < eNo E 5 0) (hx : x + 1 ≤ x1 ∧ x1 ≤ KK) (g : ∀ uA, JS E K (K.2.2 5) (a + 1) b (h + 1) (sp + 1) sc x1 (i + 1) uA wM → PV ty K h sp uA wM → OFF (PSK h) uA wA → GD E (i + 1) uA wM) : GD E i wA wM := by
  obtain ⟨xx, q, v1, hG, v2⟩ := hp
  have hd := J1.dep
  obtain ⟨C, M⟩ := J1.cka hA
  obtain ⟨hM, hD⟩ := J1.mem
  obtain ⟨w1, w2⟩ := (hM _ _ _ _ _ _ hG).1 rfl
  have b3 := hD.2.2 _ _ _ _ _ _ hG
  have tk := k_load C ha hw v1 ((b3.2.1 (by omega)).1)
  have OA : OFF (PSK h) (pshQ (popW wA (a + 1) h) h (gl wA 50 xx)) wA := OFF.tr pshQ_off (popW_off.mono fun k j p => Or.inl p)
  refine JS.stp (k := 1) (j := 0) (h0 := h) (sp0 := sp) (a1 := a + 1) (b1 := b) (h1 := h + 1) (sp1 := sp + 1) (x1 := x1) hE J1 (TKS.one hd.2.2.2.2 tk) (show SPS 0 wM wM from rfl) (by omega) low OA OFF.rf ?_ (gi_si0 _ _ _ _) M.2.2.1 M.2.2.2.2.1 ⟨by omega, by omega, by omega, by omega, by omega⟩ hx (fun J2 => g _ J2 ⟨pshQ_v.trans v2.symm, ?_⟩ OA)
  · unfold pshQ popW; rw [gi_si1 (by omega), gi_sl, gi_si1 (by omega), gi_si0]
  · rw [pshQ_v]; exact w2
/-- what's the same wherever the VARIABLE of a for is asked for -/
def VHY (E : SENV) (L : Nat) (K : CXT) (nx T a b h sp sc : Nat) (x : Int) (i : Nat) (wA wM : Wd) : Prop := JS E K (K.2.2 5) a b h sp sc x i wA wM ∧ eNo E 5 5 ≤ L + sc ∧ h + 1 + nx ≤ 502 * (K.2.2 3 + 1) ∧ K.2.2 4 + 1 ≤ 4 * K.2.2 3 + 4 ∧ (∀ (j : Nat) (B : ACT), K.1[j]? = some B → x + T ≤ aX B) ∧ x + T ≤ KK
/-- its place -/
def VPL (E : SENV) (L : Nat) (K : CXT) (ty : Int32) (nx T pl : Nat) (PT : Nat → Nat → Wd → Prop) : Prop := ∀ a b b' h sp sc x i wA wM, gl (cA E) 41 a = wdC 35 0 (Int32.ofNat pl) → PT b b' (dM E) → a < eNo E 5 0 → b' < 60000 → VHY E L K nx T a b h sp sc x i wA wM → CTG E K (PP ty) 1 (a + 1) b' h sp sc (x + T) wA wM → GD E i wA wM
/-- its value -/
def VRD (E : SENV) (L : Nat) (K : CXT) (ty : Int32) (nx T pl : Nat) (PR : Nat → Nat → Wd → Prop) : Prop := ∀ a b b' h sp sc x i wA wM, gl (cA E) 41 a = wdC 35 0 (Int32.ofNat pl) → gl (cA E) 41 (a + 1) = wdC 24 0 0 → PR b b' (dM E) → a + 1 < eNo E 5 0 → b' < 60000 → VHY E L K nx (T + 1) a b h sp sc x i wA wM → CTG E K (PV ty) 1 (a + 2) b' h sp sc (x + (T + 1 : Nat)) wA wM → GD E i wA wM
/-- it has no place -/
def VNP (E : SENV) (L : Nat) (K : CXT) (nx T pl : Nat) (PT : Nat → Nat → Wd → Prop) : Prop := ∀ a b b' h sp sc x i wA wM, gl (cA E) 41 a = wdC 35 0 (Int32.ofNat pl) → PT b b' (dM E) → a < eNo E 5 0 → b' < 60000 → VHY E L K nx T a b h sp sc x i wA wM → GD E i wA wM
def FVX (E : SENV) (L : Nat) (K : CXT) (ty : Int32) (nx T pl : Nat) (PT PR : Nat → Nat → Wd → Prop) : Prop := VNP E L K nx T pl PT ∨ (VPL E L K ty nx T pl PT ∧ VRD E L K ty nx T pl PR)
theorem KEE.sk (OA : OFF (PSK h) uA wA) : KEE h (K.2.2 3) sp (K.2.2 4) wA wM uA wM := KEE.st OA (OFF.rf : OFF (PSO sp) wM wM)
/-- a NAME whose word is at hand -/
theorem fvx_hand (hE : EOKS E) (hS : SYS E) (hA : K.1[K.2.2 0]? = some A) (hon : aOn A) (hst : ∀ s ∈ stk, s ∈ aK A) (hp : aP A = p) (hH : HND E K L) (hl : eLU E stk tk = y + 1) (hN : NHD E y) (hw : gl (cA E) 41 pl = wdC 20 (hpC (vA E) (eLV E p) (y + 1)) (gi (vA E) 18 (y + 1))) (hw2 : gl (cA E) 41 (pl + 1) = wdC 36 0 0) (hpl : pl + 1 < eNo E 5 0)
    (hPT : ∀ b b', PT b b' (dM E) → b' = b + 1 ∧ ∃ X z, opW (dM E) b 3 X (gi (vM E) 26 y) z ∧ (if gi (vM E) 19 y = 1 then (if gi (vM E) 27 y = 0 then upI (vM E) (eLV E p) y else -1) else upI (vM E) (eLV E p) y) = X) (hPR : ∀ b b', PR b b' (dM E) → b' = b + 1 ∧ ∃ X z, opW (dM E) b 2 X (gi (vM E) 26 y) z ∧ (if gi (vM E) 19 y = 1 then (if gi (vM E) 27 y = 0 then upI (vM E) (eLV E p) y else -1) else upI (vM E) (eLV E p) y) = X) (hnx : 1 ≤ nx) : FVX E L K (gi (vM E) 20 y) nx 3 pl PT PR := by
  have hEN := hE.1
  right
  refine ⟨fun a b b' h sp sc x i wA wM w1 hP ha hb ⟨H, hL, hh, hcc, hxa, hxk⟩ hc => ?_, fun a b b' h sp sc x i wA wM w1 w2 hP ha hb ⟨H, hL, hh, hcc, hxa, hxk⟩ hc => ?_⟩
  · obtain ⟨e, X, z, o1, hX⟩ := hPT b b' hP
    subst e
    have hs := SIG.nam (Lim := L) (nx := nx) hE hS hl hN hw o1 hX (by omega) (by omega) hnx
    have e : x + (((pl + 1 : Nat) : Int) - pl + 2) = x + (3 : Nat) := by omega
    refine SUB.one hE hs PP.pov w1 hw2 ⟨ha, by omega, hpl⟩ hA hon hst hp H hH hL hh (fun j B hB => by have := hxa j B hB; omega) (by omega) ?_
    rw [e]; exact hc
  · obtain ⟨e, X, z, o1, hX⟩ := hPR b b' hP
    subst e
    subst hp
    have hd := H.dep
    have hr : h + 2 ≤ 30622 := by omega
    refine JS.gsc (x1 := x + 1) hE H hA w1 ⟨by omega, by omega⟩ (by omega) ⟨Int.le_refl _, by omega⟩ (fun uA J v1 OA => ?_)
    obtain ⟨y', j, n, B, ey, F⟩ := J.sym hS hA hon hst (tk := tk) (fun q => absurd (hl.symm.trans q) (by omega))
    have : y' = y := by
      have := ey.symm.trans hl
      omega
    subst this
    obtain ⟨u, g, s, t, q, f1, f2, f3, f4, f5, f6, f7⟩ := F.cell hS hN
    have e26 := (F.2.2.2.2.2.2.2.2.2.2.2.2.1 (NHD.slk hN)).1
    rw [f1, f2] at hw
    rw [e26] at o1
    obtain ⟨C, M⟩ := J.cka hA
    have hd1 := J.dep
    obtain ⟨hM, hD⟩ := J.mem
    have hlt := (hD.2.2 _ _ _ _ _ _ f6).2.1 (by omega) |>.1
    have tk1 := k_plc C (by omega) hw f4 hlt (by omega)
    have OA1 : OFF (PSK (h + 1)) (pshW uA (pl + 1) (h + 1) (Int64.ofNat (g + s))) uA := pshW_off
    have q11 : gi (pshW uA (pl + 1) (h + 1) (Int64.ofNat (g + s))) 48 11 = Int32.ofNat (pl + 1) := by
      unfold pshW pshQ; rw [gi_si1 (by omega), gi_sl, gi_si0]
    have low1 : LOWK K (h + 1) sp := fun j B hB => by have := H.low j B hB; omega
    refine JS.stp (k := 1) (j := 0) (h0 := h + 1) (sp0 := sp) (h1 := h + 2) (sp1 := sp) (a1 := pl + 1) (b1 := b) (x1 := x + 2) hE J (TKS.one hd1.2.2.2.2 tk1) (show SPS 0 wM wM from rfl) (by omega) low1 OA1 OFF.rf q11 (gi_si0 _ _ _ _) M.2.2.1 M.2.2.2.2.1 (by omega) ⟨by omega, by omega⟩ (fun J2 => ?_)
    have w51 : gl (pshW uA (pl + 1) (h + 1) (Int64.ofNat (g + s))) 51 h = Int64.ofNat (a + 1) := (OA1 51 h (by unfold PSK; omega)).2.trans v1
    refine JS.esc (x1 := x + 3) hE J2 hA H.low hw2 hpl ⟨Nat.le_refl _, by omega⟩ w51 ⟨by omega, by omega⟩ (fun yA J3 e3 OA3 => ?_)
    have ev : gl yA 51 h = Int64.ofNat (g + s) := e3.trans pshW_v
    obtain ⟨C3, M3⟩ := J3.cka hA
    have hd3 := J3.dep
    obtain ⟨hM3, hD3⟩ := J3.mem
    obtain ⟨r1, r2⟩ := (hM3 _ _ _ _ _ _ f6).1 rfl
    have hq : q < 199000 := H.qlt hA f6 f7
    unfold RMq at r1
    rw [if_pos (by omega)] at r1
    have tk3 := k_load C3 (by omega) w2 ev hlt
    have st3 := rm_loadv M3 (by omega) o1 (hX.symm.trans f3 ▸ f5) (by omega)
    have OA4 : OFF (PSK h) (pshQ (popW yA (a + 1 + 1) h) h (gl yA 50 (g + s))) yA := OFF.tr pshQ_off (popW_off.mono fun k j p => Or.inl p)
    refine JS.stp (k := 1) (j := 1) (h0 := h) (sp0 := sp) (a1 := a + 2) (b1 := b + 1) (h1 := h + 1) (sp1 := sp + 1) (x1 := x + (3 + 1 : Nat)) hE J3 (TKS.one hd3.2.2.2.2 tk3) (SPS.one (M3.runs o1 (by omega) (by decide)) st3) (by omega) H.low OA4 (OFF.tr pshM_off (OFF.si (Or.inl ⟨rfl, Or.inl rfl⟩))) ?_ (gi_si0 _ _ _ _) ?_ (gi_si0 _ _ _ _) ⟨by omega, by omega, by omega, by omega, by omega⟩ ⟨by omega, hxk⟩ (fun J4 => hc _ _ sc _ J4 (Nat.le_refl _) ⟨pshQ_v.trans (r1.trans pshM_v.symm), ?_⟩ ?_)
    · unfold pshQ popW; rw [gi_si1 (by omega), gi_sl, gi_si1 (by omega), gi_si0]
    · unfold pshM; rw [gi_si1 (by omega), gi_sl, gi_si0]
    · rw [pshQ_v]; exact r2
    · exact (KEE.st OA (OFF.rf : OFF (PSO sp) wM wM)).tr (((KEE.st OA1 (OFF.rf : OFF (PSO sp) wM wM)).le (by omega) (Nat.le_refl _) (Nat.le_refl _) (Nat.le_refl _)).tr ((KEE.st OA3 (OFF.rf : OFF (PSO sp) wM wM)).tr (KEE.st OA4 (OFF.tr pshM_off (OFF.si (Or.inl ⟨rfl, Or.inl rfl⟩))))))
/-- a formal by name -/
theorem fvx_name (hE : EOKS E) (hS : SYS E) (hX : ∀ M, M < L → ALLX E M) (hU : USD E L) (hA : K.1[K.2.2 0]? = some A) (hon : aOn A) (hst : ∀ s ∈ stk, s ∈ aK A) (hp : aP A = p) (hH : HND E K L) (hl : eLU E stk tk = y + 1) (h6 : FO (vM E) y 1) (h28 : gi (vM E) 28 y = 0) (hw : gl (cA E) 41 pl = wdC 21 (hpC (vA E) (eLV E p) (y + 1)) (gi (vA E) 18 (y + 1))) (hw2 : gl (cA E) 41 (pl + 1) = wdC 44 0 (Int32.ofNat 1)) (hw3 : gl (cA E) 41 (pl + 2) = wdC 36 0 0) (hpl : pl + 2 < eNo E 5 0)
    (hPT : ∀ b b', PT b b' (dM E) → b' = b + 1 ∧ opW (dM E) b 4 (upI (vM E) (eLV E p) y) (gi (vM E) 26 y) (Int32.ofNat 1)) (hPR : ∀ b b', PR b b' (dM E) → b' = b + 1 ∧ opW (dM E) b 4 (upI (vM E) (eLV E p) y) (gi (vM E) 26 y) 0) (hnx : 2 ≤ nx) (hj : ∃ h sp sc x i wA wM a b, JS E K (K.2.2 5) a b h sp sc x i wA wM) : FVX E L K (gi (vM E) 20 y) nx 4 pl PT PR := by
  have hEN := hE.1
  obtain ⟨h0, sp0, sc0, x0, i0, zA, zM, a9, b9, J0⟩ := hj
  obtain ⟨y', j, n, B, ey, F⟩ := J0.fns hS hA hon hst (tk := tk) (fun q => absurd (hl.symm.trans q) (by omega))
  have : y' = y := by
    have := ey.symm.trans hl
    omega
  subst this
  obtain ⟨ta, t, j', B', FM⟩ := F.fmc h6 h28
  subst hp
  rcases MXN (as := K.1) (G := K.2.1) hE hS L ta t j' _ B' hX FM.2.2.2.2.2 with hM | hNp
  · right
    refine ⟨fun a b b' h sp sc x i wA wM w1 hP ha hb ⟨H, hL, hh, hcc, hxa, hxk⟩ hc => ?_, fun a b b' h sp sc x i wA wM w1 w2 hP ha hb ⟨H, hL, hh, hcc, hxa, hxk⟩ hc => ?_⟩
    · obtain ⟨e, o1⟩ := hPT b b' hP
      subst e
      have hs := SIG.fmn (Lim := L) (nx := nx) (m := 1) hE hS hU (by omega) hl h6 h28 hw hw2 o1 (by omega) (by omega) hnx
      rw [if_neg (by decide)] at hs
      have e : x + (((pl + 2 : Nat) : Int) - pl + 2) = x + (4 : Nat) := by omega
      refine SUB.one hE hs PP.pov w1 hw3 ⟨ha, by omega, hpl⟩ hA hon hst rfl H hH hL hh (fun j B hB => by have := hxa j B hB; omega) (by omega) ?_
      rw [e]; exact hc
    · obtain ⟨e, o1⟩ := hPR b b' hP
      subst e
      have hd := H.dep
      have hr : h + 3 ≤ 30622 := by omega
      refine JS.gsc (x1 := x + 1) hE H hA w1 ⟨by omega, by omega⟩ (by omega) ⟨Int.le_refl _, by omega⟩ (fun uA J v1 OA => ?_)
      refine JS.fmu (m' := 0) (X := 0) (Lim := L) hE hS FM h6 hw o1 (fun vA JZ OZ => ?_) (Or.inr ⟨by decide, rfl⟩) J hA hon (by omega) (by omega) hH hL (by omega) (fun j B hB => by have := hxa j B hB; omega) (by omega) (fun vA U st' kk => ?_)
      · obtain ⟨CZ, _⟩ := JZ.cka hA
        exact k_use (m := 1) CZ (by omega) hw2 (by decide)
      · refine hM K A _ _ _ _ _ _ _ _ _ _ rfl rfl U st' (fun yA yM sc' i' J' h1 hpx hk => ?_)
        have hk := kk.tr hk
        have w51 : gl yA 51 h = Int64.ofNat (a + 1) := (hk.1 h (by omega)).trans v1
        refine JS.esc (x1 := x + 4) hE J' hA H.low hw3 hpl ⟨by omega, by omega⟩ w51 ⟨by omega, by omega⟩ (fun qA J3 e3 OA3 => ?_)
        have hpx' : PMX (gi (vM E) 20 y') K h sp qA yM := PMX.pov K K (h + 1) h sp yA yM qA yM rfl e3 (fun j => (OA3 50 j (by unfold PSK; omega)).2) rfl hpx
        refine JS.ldx (x1 := x + (4 + 1 : Nat)) hE J3 hA H.low hd.2.2.1 hpx' w2 ha ⟨by omega, hxk⟩ (fun rA J4 hv OA4 => ?_)
        exact hc rA yM sc' _ J4 h1 hv ((KEE.st OA (OFF.rf : OFF (PSO sp) wM wM)).tr ((hk.le (by omega) (Nat.le_refl _) (Nat.le_refl _) (Nat.le_refl _)).tr ((KEE.st OA3 (OFF.rf : OFF (PSO sp) yM yM)).tr (KEE.st OA4 (OFF.rf : OFF (PSO sp) yM yM)))))
  · left
    intro a b b' h sp sc x i wA wM w1 hP ha hb ⟨H, hL, hh, hcc, hxa, hxk⟩
    obtain ⟨e, o1⟩ := hPT b b' hP
    subst e
    have hd := H.dep
    have hr : h + 3 ≤ 30622 := by omega
    refine JS.gsc (x1 := x + 1) hE H hA w1 ⟨by omega, by omega⟩ (by omega) ⟨Int.le_refl _, by omega⟩ (fun uA J v1 OA => ?_)
    refine JS.fmu (m' := 1) (X := 1) (Lim := L) hE hS FM h6 hw o1 (fun vA JZ OZ => ?_) (Or.inr ⟨by decide, rfl⟩) J hA hon (by omega) (by omega) hH hL (by omega) (fun j B hB => by have := hxa j B hB; omega) (by omega) (fun vA U st' kk => ?_)
    · obtain ⟨CZ, _⟩ := JZ.cka hA
      exact k_use (m := 1) CZ (by omega) hw2 (by decide)
    · exact hNp K A _ _ _ _ _ _ _ _ _ _ rfl rfl U st'
/-- an ELEMENT, whose codes are a part of their own -/
theorem fvx_elem (hE : EOKS E) (hA : K.1[K.2.2 0]? = some A) (hon : aOn A) (hst : ∀ s ∈ stk, s ∈ aK A) (hp : aP A = p) (hH : HND E K L) (hs : SIG E L stk p (PP ty) 1 nx pl n1 r r1) (hw : gl (cA E) 41 n1 = wdC 36 0 0) {X Y Z : Int32} (ho : opW (dM E) r1 32 X Y Z) (hpl : pl ≤ n1 ∧ n1 < eNo E 5 0) (hr : r ≤ 60000 ∧ r1 < 60000)
    (hPT : ∀ b b', PT b b' (dM E) → b' = b + 1 ∧ opW (dM E) b 31 (Int32.ofNat r) 0 0) (hPR : ∀ b b', PR b b' (dM E) → b' = b + 2 ∧ opW (dM E) b 31 (Int32.ofNat r) 0 0 ∧ opW (dM E) (b + 1) 6 0 0 0) : FVX E L K ty nx (n1 - pl + 2) pl PT PR := by
  have hEN := hE.1
  right
  refine ⟨fun a b b' h sp sc x i wA wM w1 hP ha hb ⟨H, hL, hh, hcc, hxa, hxk⟩ hc => ?_, fun a b b' h sp sc x i wA wM w1 w2 hP ha hb ⟨H, hL, hh, hcc, hxa, hxk⟩ hc => ?_⟩
  · obtain ⟨e, o1⟩ := hPT b b' hP
    subst e
    have e : x + ((n1 : Int) - pl + 2) = x + ((n1 - pl + 2 : Nat) : Int) := by omega
    refine SUB.both hE hs PP.pov w1 o1 hw ho ⟨ha, hpl.1, hpl.2⟩ ⟨by omega, hr.1, hr.2⟩ hA hon hst hp H hH hL hh hcc (fun j B hB => by have := hxa j B hB; omega) (by omega) ?_
    rw [e]; exact hc
  · obtain ⟨e, o1, o2⟩ := hPR b b' hP
    subst e
    have e : x + ((n1 : Int) - pl + 2) = x + ((n1 - pl + 2 : Nat) : Int) := by omega
    have hd := H.dep
    refine SUB.both hE hs PP.pov w1 o1 hw ho ⟨by omega, hpl.1, hpl.2⟩ ⟨by omega, hr.1, hr.2⟩ hA hon hst hp H hH hL hh hcc (fun j B hB => by have := hxa j B hB; omega) (by omega) (fun uA uM sc' i' J s1 hpp hk => ?_)
    refine JS.ldb (x1 := x + ((n1 - pl + 2 + 1 : Nat) : Int)) hE J hA H.low hd.2.2.1 hpp w2 o2 ha (by omega) ⟨by omega, hxk⟩ (fun rA rM J4 hv OA4 OM4 => ?_)
    exact hc rA rM sc' _ J4 s1 hv (hk.tr (KEE.st OA4 OM4))
end MF5
