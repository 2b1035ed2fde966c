/-! BOTH MACHINES: calls without ACTUALS -/
section LD3
variable {E : SENV} {K : CXT} {Lim p nx a a1 a2 b b1 b2 h sp sc i el S k n nf ff y th a0 b0 q c s tp mt lk dp cp Z fL j nn pp t f ac tk : Nat} {x x1 : Int} {wA wM uA uM zA zM : Wd} {A B N L : ACT} {stk : List Nat} {ty : Int32} {ax : Int}
/-- of a procedure -/
theorem CAS.dec (hE : EOKS E) (hS : SYS E) (hW : SAD E) (hCA : SCA E) (hSB : SLB E) (hAll : ∀ L, L < Lim → ALLX E L ∧ USD E L ∧ BOD E L) (hk : SCE E stk) (hl : eLU E stk tk = y + 1) (h3 : gi (vM E) 19 y = 3) (h31 : gi (vM E) 31 (nd (vM E) 24 y) ≤ 0) (c1 : gl (cA E) 41 a = wdC 41 0 0) (c2 : puC (vA E) (eLV E p) (y + 1) (a + 1) (a + 2) (cA E)) (c3 : gl (cA E) 41 (a + 2) = wdC 42 0 0) (m1 : s < 4300) (m2 : opW (dM E) b 14 (Int32.ofNat s) (Int32.ofNat t) 0) (ht : t ≤ 1) (m3 : gi (dM E) 49 s = gi (vM E) 24 y) (m4 : gi (dM E) 50 s = upI (vM E) (eLV E p) y) (ha : a + 3 < eNo E 5 0) (hb : b + 1 < 60000) : CAS E Lim stk p t (gi (vM E) 20 y) a (a + 3) b (b + 1) := by
  intro K A h sp sc x i wA wM hA hon hst hp H hH hL hh hxa hxk G
  obtain ⟨y', j, nn, B, ey', F⟩ := H.fns hS hA hon hst (tk := tk) (by rw [hl]; omega)
  have : y' = y := by omega
  subst this
  obtain ⟨pp, nf, ff, p1, p2, p3, p4, p5, p6, p7, p8, p9, p10, p11, p12, p13, p14, p15⟩ := hS.pf F.1 h3
  rw [p4, p6] at h31
  have hnf : nf = 0 := by
    have := (le_iN (a := nf) (b := 0) (by omega) (by omega)).mp h31
    omega
  subst hnf
  have e4 : (if Int32.ofNat t = 1 then 1 else 0) = t := by
    have : t = 0 ∨ t = 1 := by omega
    rcases this with z | z <;> subst z <;> rfl
  refine CLL.act (k := 0) (t := t) (nf := 0) (ff := ff) (a2 := a + 1) (b2 := b) (pp := pp) (a0 := 0) (xs := []) (g := fun _ => a + 1) (gm := fun _ => b) hE hS hW hCA hSB hAll H hA hon hst hp hH hL hh hxa hxk F h3 c1 (fun q z hz => absurd hz (by simp)) rfl rfl rfl rfl rfl (fun q hq => absurd hq (by omega)) (fun q hq => absurd hq (by omega)) p3 p13 p6 p8 ⟨by omega, by omega⟩ c2 c3 m2 ht m1 m3 m4 (fun z => absurd rfl z) (fun z => absurd rfl z) (by omega) (by omega) (fun uA uM sc' i' J s1 hv kk => ?_)
  rw [e4] at J
  exact G uA uM sc' i' J s1 (fun z h0 => hv (by rw [z]; rfl) h0) kk
/-- of a formal -/
theorem CAS.fml (hE : EOKS E) (hS : SYS E) (hW : SAD E) (hCA : SCA E) (hSB : SLB E) (hAll : ∀ L, L < Lim → ALLX E L ∧ USD E L ∧ BOD E L) (hk : SCE E stk) (hl : eLU E stk tk = y + 1) (h3 : FO (vM E) y 3) (c1 : gl (cA E) 41 a = wdC 41 0 0) (c2 : puC (vA E) (eLV E p) (y + 1) (a + 1) (a + 2) (cA E)) (c3 : gl (cA E) 41 (a + 2) = wdC 42 0 0) (m2 : opW (dM E) b 15 (upI (vM E) (eLV E p) y) (gi (vM E) 26 y) (Int32.ofNat t)) (ht : t ≤ 1) (ha : a + 3 < eNo E 5 0) (hb : b + 1 < 60000) : CAS E Lim stk p t (gi (vM E) 20 y) a (a + 3) b (b + 1) := by
  intro K A h sp sc x i wA wM hA hon hst hp H hH hLm hroom hxa hxk G
  have hEN := hE.1
  subst hp
  obtain ⟨y', j, nn, B, ey', F⟩ := H.fns hS hA hon hst (tk := tk) (by rw [hl]; omega)
  have : y' = y := by omega
  subst this
  have hd := H.dep
  have hN := H.num hA
  obtain ⟨C, M⟩ := H.cka hA
  obtain ⟨f1, f2, f3, f4, f5, f6, f7, f8, f9, f10, f11, f12⟩ := id F
  obtain ⟨e1, e2, e3, e4, e5⟩ := (F.nds H hA).fml hS h3.1
  obtain ⟨p', j', B', r1', r2', r3', r4', hCab, h31, h20⟩ := f4.2.2.2.2.2.2.1 h3.1 h3.2
  have c5 := hCab.2.1
  have hPRF := hCA.2.2.2 p' hCab.1 c5
  have hPRF' := hPRF
  obtain ⟨nf', ff', cc, ⟨p1, p2, p3, p4, p5, p6, p7⟩, ⟨q1, q2, q3, q4, q5⟩, ⟨r1, r2, r3, r4, r5, r6⟩, hfm, ⟨s1, s2, s3, s4, s5, s6, s7, s8⟩, _⟩ := hPRF'
  have hnf : nf' = 0 := (eq_iN (b := 0) (by omega) (by omega)).mp (p3.symm.trans h31)
  subst hnf
  have hC1 : eNo E 5 2 ≤ 4100 := by
    obtain ⟨kd, m, C, c1, c2, c3, c4, _⟩ := hS
    omega
  have hl1 : K.1.length ≤ K.2.2 3 + 1 := hN.2.1
  have hN1 := hN.1
  have hpB := H.pro hS r1' r2'
  have hp9 : p' < 1200 := by
    obtain ⟨kd, m, C, c1, c2, c3, c4, _⟩ := hS
    omega
  have f11s := f11 (Or.inr (Or.inr h3.1))
  obtain ⟨mA1, mA2, mA3⟩ := H.rmc r3' (by have := (H.act f2).2.2.2.2.2.1; omega)
  obtain ⟨mB1, mB2, _⟩ := H.rmc r4' (by have := (H.act f2).2.2.2.2.2.1; omega)
  rw [e3] at m2
  have st := rm_callf M (by omega) m2 e5
  have z5 := M.nx (b1 := b + 1) (by omega)
  have O1 : OFF (fun k j => k = 0 ∧ j = 128) (si wM 0 128 (Int32.ofNat (b + 1))) wM := OFF.si ⟨rfl, rfl⟩
  refine JS.mrk (q := 0) (yM := wM) hE H hA c1 (by omega) (by omega) rfl (M.runs m2 (by omega) (by decide)) (fun pr de fu T hs => ?_) (fun pr de fu T hs h6 => ?_) (fun hs hd60 uA pr de fu tk CA TA TM TB OA => ?_)
  · obtain ⟨u, u1, u2, u3, u4⟩ := caf0 (x := Int32.ofNat (aB B + sM E y')) (y := Int32.ofNat t) (T.off O1 (fun k j p => by omega)) hs
    exact ⟨u, st.trans u1, u2, u3, OFF.tr u4 (O1.mono fun k j p => by unfold PEM; omega)⟩
  · rw [h6] at z5
    obtain ⟨u, u1, u2, u3, u4⟩ := caf6 (x := Int32.ofNat (aB B + sM E y')) (y := Int32.ofNat t) z5 (T.off O1 (fun k j p => by omega)) hs hE.2.1
    exact ⟨u, st.trans u1, u2, u3, OFF.tr u4 (O1.mono fun k j p => by unfold PEM; omega)⟩
  have TM1 := TM.off O1 (fun k j p => by omega)
  have hmt : K.2.2 2 + eNo E 3 p' ≤ 199000 := by
    have := H.kst.2.2.2.2.1
    have h61 : (K.1.length + 1) * eNo E 5 7 ≤ 61 * eNo E 5 7 := Nat.mul_le_mul_right _ (by omega)
    rw [Nat.add_mul, Nat.one_mul] at h61
    have := hSB.2.2.2
    omega
  have r5' : eNo E 8 p' = cc := r5
  have TA9 := TA.2.2.2.2.2.2.2.2.2
  obtain ⟨u, k1, k8, k9, k10, k11, k4, k12⟩ := caf_ok (q := aB B + sM E y') (p := p') (lk := j') (S := eNo E 3 p') (c := cc) (t := Int32.ofNat t) z5 TM1 hs hE.2.1 hd60 (by omega) (by omega) (by omega) (by omega) ((O1 83 _ (by omega)).2.trans mA1) ((O1 83 _ (by omega)).2.trans mB1) hp9 r1 hmt r4 (by omega)
  have OMu : OFF (fun k j => (k = 0 ∧ j = 128) ∨ PNM (K.2.2 4) K.1.length (K.2.2 2) k j) u wM := OFF.tr (k12.mono fun k j p => Or.inr p) (O1.mono fun k j p => Or.inl p)
  have hxs : i ≤ x + KK * sc ∧ x ≤ KK := by
    obtain ⟨_, _, _, _, _, _, _, _, _, _, _, _, _, _, ⟨_, _, jx, jy, _⟩, _⟩ := H
    exact ⟨jx, jy⟩
  have eKK : (KK : Int) * ((sc + 1 : Nat) : Int) = KK * sc + KK := by
    have := Int.mul_add (KK : Int) sc 1
    rw [Int.mul_one] at this
    exact this
  obtain ⟨hPend, hKc⟩ := H.pnd (n := 1) (x1 := x + 1 - KK) (S := eNo E 3 p') (p := p') (lk := j') (b0 := b + 1) (t := Int32.ofNat t) hA hon TA CA TB OA k8 k9 k11 k10 OMu r3 ⟨by rw [eKK]; omega, by unfold KK at *; omega⟩
  have hPN : PNO E K (eNo E 3 p') (pndA K p' j' h sp uA u) := ⟨pndA_off, rfl, rfl, rfl, rfl, r3, H.kst, hmt⟩
  have hLim : 0 < Lim := by omega
  obtain ⟨hX, hU, hBo⟩ := hAll (Lim - 1) (by omega)
  have hHl := hH.le (Lim' := Lim - 1) (by omega)
  have k0 : KEE h (K.2.2 3) sp (K.2.2 4) wA wM uA u := ⟨fun r _ => (OA 51 r (by omega)).2, fun k r p1 p2 p3 => (OA k r (by omega)).1, fun r _ => (OMu 85 r (by unfold PNM; omega)).2, fun k r p1 p2 p3 => (OMu k r (by unfold PNM; omega)).1, TA.psd TB (by omega)⟩
  have e9 : (if Int32.ofNat t = 1 then 1 else 0) = t := by
    have : t = 0 ∨ t = 1 := by omega
    rcases this with z | z <;> subst z <;> rfl
  have fin : GD E (i + 1) uA u := by
    obtain ⟨kd, m, C0, hY⟩ := hS.sy f1
    have y28 : gi (vM E) 28 y' = 0 := by
      by_cases z : gi (vM E) 28 y' = 0
      · exact z
      · exact absurd ((hY.val h3.1 z).symm.trans h3.2) (by decide)
    have w16 : gi (vA E) 16 (y' + 1) = 3 := hY.fml.mpr ⟨h3.1, y28⟩
    have w14 : gi (vA E) 14 (y' + 1) = 3 := by
      have := hY.srt
      rw [if_pos h3.1, h3.2] at this
      exact this
    obtain ⟨w2, _⟩ := c2
    rw [if_neg (by rw [w14]; decide), if_pos w16, e1, e2] at w2
    have PD : PEND E K (eNo E 3 p') (pndA K p' j' h sp uA u) (a + 1) cc h sp (sc + 1) (x + 1 - KK) (i + 1) uA u := hPend
    have hy : HOP uA ((callK K (eNo E 3 p') (fun r => gl u 83 r) (pndA K p' j' h sp uA u)).2.2 1) (aF A) nn (aF B) := Or.inl ⟨by omega, (PD.2.2.2.lnk (f5.app callG.old) (at_app hA) (at_app f2)).1⟩
    refine JPS.pair (x1 := x + 2 - KK) hE PD (at_app hA) w2 hy (Or.inl r3') (Or.inl r4') (by omega) PD.low (by omega) (by omega) ⟨by omega, by unfold KK at *; omega⟩ (fun yA JP v1 v2 OY => ?_)
    have hP2 : PEND E K (eNo E 3 p') (pndA K p' j' h sp uA u) (a + 2) (eNo E 8 p') (h + wsum E ff' 0 + 2) sp (sc + 1) (x + 2 - KK) (i + 1 + 1) yA u := by rw [r5']; exact JP
    refine CLL.body (Lim := Lim - 1) (nf := 0) (ff := ff') (a := a + 2) (b0 := b + 1) (t := Int32.ofNat t) (p := p') (lk := j') hE hS hBo hPN hP2 hA hon c5 hPRF p3 p4 ⟨by omega, by omega⟩ r1' r2' hCab hpB.2.1 hd.2.2.1 c3 (by omega) v1 v2 (fun q hq => absurd hq (by omega)) (k4 _ (Nat.le_refl _) (by omega)) H.lod hN hHl (by omega) hroom k10 (by omega) (fun jj BB hB => ?_) ?_ (fun qA qM sc2 t2 J2 s2 hv2 kk => ?_)
    · have := hxa jj BB hB
      unfold KK at *
      omega
    · unfold KK at *
      omega
    · have J3 := J2.up (x1 := x + (((a + 3 : Nat) : Int) - a)) (by unfold KK at *; omega) hxk
      rw [e9] at J3
      rw [h20] at hv2
      exact G qA qM sc2 t2 J3 (by omega) (fun z h0 => hv2 (by rw [z]; rfl) h0) (k0.tr (KEE.tr ⟨fun r hr => (OY 51 r (by unfold PSK; omega)).2, fun k r p1 p2 p3 => (OY k r (by unfold PSK; omega)).1, fun _ _ => rfl, fun _ _ _ _ _ => rfl, PSD.eq (OY 56 3 (by unfold PSK; omega)).1 (OY 56 4 (by unfold PSK; omega)).1⟩ kk))
  obtain ⟨g1, g2, g3⟩ := id hE
  have hb4 : i + 1 ≤ eNo E 5 4 := by
    rw [g3]
    have : KK * sc ≤ KK * eNo E 5 5 := Nat.mul_le_mul_left _ (by omega)
    have h9 := hxs.1
    have h8 := hxs.2
    unfold KK at *
    omega
  exact GOOD.adw (q := 1) (by rw [g3]; unfold KK; omega) tk (SPS.one (M.runs m2 (by omega) (by decide)) (st.trans k1)) (by omega) (by omega) hb4 fin
/-- calls as nodes, once the rest is known for fewer STEPS -/
theorem cl0_ok (hE : EOKS E) (hS : SYS E) (hW : SAD E) (hCA : SCA E) (hSB : SLB E) (hAll : ∀ L, L < Lim → ALLX E L ∧ USD E L ∧ BOD E L) : CL0 E Lim := by
  intro stk p y tk a b hk hl hy h3 h20 h31 c1 c2 c3 m ha hb
  refine SIV_g.mpr (CAS.sig ?_ h20)
  rcases m with ⟨m1, m2⟩ | ⟨m1, s, m2, m3, m4, m5⟩
  · exact CAS.fml hE hS hW hCA hSB hAll hk hl (h3.elim (fun q => absurd (q.symm.trans m1) (by decide)) id) c1 c2 c3 m2 (Nat.le_refl _) ha hb
  · have h3' : gi (vM E) 19 y = 3 := h3.elim id (fun q => absurd q.1 m1)
    exact CAS.dec hE hS hW hCA hSB hAll hk hl h3' (h31 h3') c1 c2 c3 m2 m3 (Nat.le_refl _) m4 m5 ha hb
theorem cl5_ok (hE : EOKS E) (hS : SYS E) (hW : SAD E) (hCA : SCA E) (hSB : SLB E) (hAll : ∀ L, L < Lim → ALLX E L ∧ USD E L ∧ BOD E L) : CL5 E Lim := by
  intro k n stk p a a1 b b1 _ h7 ⟨hk, hc, hm, hf, ho, ha, hb⟩
  have := (CAS.act hE hS hW hCA hSB hAll hk h7 hc hm hf ho ha hb).2
  rw [if_pos rfl] at this
  obtain ⟨y, pp, nf, ff, ey, hy, h3, hf0, _⟩ := act_n hS hk h7 ho hf
  apply SIM.of
  rw [tyx_5 h7, ndx0_5 h7]
  have e : tyC (vM E) (eLU E stk (nd (vM E) 12 n)) = gi (vM E) 20 (eLU E stk (nd (vM E) 12 n) - 1) := by
    rw [ey, Nat.add_sub_cancel]
    unfold tyC
    rw [if_neg (by omega), Nat.add_sub_cancel, if_pos (Or.inl h3)]
  rw [e]
  refine SIV_g.mpr (this.sig ?_)
  rw [ey, Nat.add_sub_cancel]
  exact hf0 rfl
/-- the STATEMENT: a call, what it gives is dropped -/
theorem SIS.call (hE : EOKS E) (hc : CAS E Lim stk p 0 ty (a + 1) a1 (b + 1) b1) (w1 : gl (cA E) 41 a = wdC 40 0 0) (w2 : gl (cA E) 41 a1 = wdC 27 0 (Int32.ofNat 1)) {X Y Z : Int32} (o1 : opW (dM E) b 12 X Y Z) (ha : a + 1 ≤ a1 ∧ a1 < eNo E 5 0) (hb : b < 60000 ∧ b1 ≤ 60000) : SIS E Lim stk p 2 a (a1 + 1) b b1 := by
  intro K A h sp sc x i wA wM hA hon hst hp H hH hL hh hxa hxk G
  refine JS.pay (x1 := x + 1) hE H hA hon w1 o1 (by omega) hb.1 ⟨by unfold KK at *; omega, by omega⟩ (fun uA uM hs J k0 _ => ?_)
  refine hc K A h sp (sc + 1) (x + 1) _ uA uM hA hon hst hp J hH (by omega) hh (fun j B hB => by have := hxa j B hB; omega) (by omega) (fun yA yM sc' i' J' s1 _ kk => ?_)
  obtain ⟨C, M⟩ := J'.cka hA
  have hd := J'.dep
  have tk := k_drop (s := 1) C ha.2 w2 (by omega)
  have OA : OFF (PSK h) (popW yA (a1 + 1) h) yA := popW_off.mono fun k j p => Or.inl p
  refine JS.stp (k := 1) (j := 0) (x1 := x + ((a1 + 1 : Nat) - (a : Int))) (h1 := h) (sp1 := sp) hE J' (TKS.one hd.2.2.2.2 tk) (show SPS 0 yM yM from rfl) (by omega) H.low OA (OFF.rf : OFF (PSO sp) yM yM) (by unfold popW; rw [gi_si1 (by omega), gi_si0]) (gi_si0 _ _ _ _) M.2.2.1 M.2.2.2.2.1 ⟨hb.2, by omega, Nat.le_refl _, Nat.le_refl _, H.dep.2.2.1⟩ ⟨by omega, hxk⟩ (fun J2 => ?_)
  exact G _ _ sc' _ J2 (by omega) trivial (k0.tr (kk.tr (KEE.st OA (OFF.rf : OFF (PSO sp) yM yM))))
end LD3
