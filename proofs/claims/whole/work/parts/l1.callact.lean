/-! BOTH MACHINES: a call with ACTUALS -/
section LB1
variable {E : SENV} {K : CXT} {Lim p nx a a2 b b2 h sp sc i el S k nf ff y th a0 b0 q c s tp mt lk dp cp Z fL j nn pp t : Nat} {x x1 : Int} {wA wM uA uM zA zM : Wd} {A B N L : ACT} {stk : List Nat} {ty : Int32} {ax : Int}
/-- the reference's JUMPS, by numbers -/
theorem jms_g {gM : Wd} {ev sp cp na mt el us : Nat} {gm : Nat → Nat} : ∀ (n i : Nat) (w : Wd), (∀ q, i ≤ q → q < i + n → gm q ≤ gm (q + 1) ∧ (gm (q + 1) = gm q ∨ opW gM (gm q) 10 (Int32.ofNat (gm (q + 1))) 0 0)) → gm (i + n) < 60000 → MK gM (gm i) ev sp cp na mt el us w → ∃ q y, q ≤ n ∧ SPS q w y ∧ OFF (fun k j => k = 0 ∧ j = 128) y w ∧ MK gM (gm (i + n)) ev sp cp na mt el us y := by
  intro n
  induction n with
  | zero => exact fun i w _ _ M => ⟨0, w, Nat.le_refl _, rfl, OFF.rf, M⟩
  | succ n ih =>
    intro i w hW hb M
    have hle : ∀ d, d ≤ n → gm (i + 1) ≤ gm (i + 1 + d) := by
      intro d
      induction d with
      | zero => exact fun _ => Nat.le_refl _
      | succ d ih2 => exact fun hd => Nat.le_trans (ih2 (by omega)) (hW (i + 1 + d) (by omega) (by omega)).1
    have hl := hle n (Nat.le_refl _)
    rw [show i + (n + 1) = i + 1 + n by omega] at hb ⊢
    obtain ⟨l1, l2⟩ := hW i (Nat.le_refl _) (by omega)
    have hW' : ∀ q, i + 1 ≤ q → q < i + 1 + n → _ := fun q q1 q2 => hW q (by omega) (by omega)
    rcases l2 with e | o
    · rw [← e] at M
      obtain ⟨q, y, q1, q2, q3, q4⟩ := ih (i + 1) w hW' hb M
      exact ⟨q, y, by omega, q2, q3, q4⟩
    · have hb0 : gm i < 60000 := by omega
      have st := rm_jump M hb0 o
      have O : OFF (fun k j => k = 0 ∧ j = 128) (si (si w 0 128 (Int32.ofNat (gm i + 1))) 0 128 (Int32.ofNat (gm (i + 1)))) w := OFF.tr (OFF.si ⟨rfl, rfl⟩) (OFF.si ⟨rfl, rfl⟩)
      have M2 : MK gM (gm (i + 1)) ev sp cp na mt el us (si (si w 0 128 (Int32.ofNat (gm i + 1))) 0 128 (Int32.ofNat (gm (i + 1)))) := M.ps (s0 := 0) (O.mono fun k j p => by unfold PSO; omega) (gi_si0 _ _ _ _) (by rw [gi_si1 (by omega), gi_si1 (by omega)]; exact M.2.2.2.2.1) (by omega) M.2.2.2.2.2.2.2.2.2.2.2.2.1
      obtain ⟨q, y, q1, q2, q3, q4⟩ := ih (i + 1) _ hW' hb M2
      exact ⟨1 + q, y, by omega, SPS.tr (SPS.one (M.runs o hb0 (by decide)) st) q2, OFF.tr q3 O, q4⟩
theorem CLL.act (hE : EOKS E) (hS : SYS E) (hW : SAD E) (hCA : SCA E) (hSB : SLB E) (hAll : ∀ L, L < Lim → ALLX E L ∧ USD E L ∧ BOD E L) (H : JS E K (K.2.2 5) a b h sp sc x i wA wM) (hA : K.1[K.2.2 0]? = some A) (hon : aOn A) (hst : ∀ s ∈ stk, s ∈ aK A) (hp : aP A = p) (hH : HND E K Lim) (hLm : eNo E 5 5 ≤ Lim + sc) (hroom : h + 2 ≤ 502 * (K.2.2 3 + 1)) (hxa : ∀ (j : Nat) (B : ACT), K.1[j]? = some B → x + (((a2 + 2 : Nat) : Int) - a) ≤ aX B) (hxk : x + (((a2 + 2 : Nat) : Int) - a) ≤ KK)
    (F : FNW E K A y j nn B) (h3 : gi (vM E) 19 y = 3) (w1 : gl (cA E) 41 a = wdC 41 0 0) {g gm : Nat → Nat} {xs : List Nat} (hx : ∀ q z, xs[q]? = some z → ANO E stk p k z (ff + q) (a0 + q) (g q) (g (q + 1)) (gm q) (gm (q + 1))) (hl : xs.length = nf) (g0 : g 0 = a + 1) (gn : g nf = a2) (m0 : gm 0 = b) (mn : gm nf = b2) (hmm : ∀ q, q < nf → gm q ≤ gm (q + 1) ∧ (gm (q + 1) = gm q ∨ opW (dM E) (gm q) 10 (Int32.ofNat (gm (q + 1))) 0 0)) (hmono : ∀ q, q < nf → g q ≤ g (q + 1))
    (h24 : gi (vM E) 24 y = Int32.ofNat pp) (hpp2 : pp < 1200) (hnf : gi (vM E) 31 pp = Int32.ofNat nf) (hff : gi (vM E) 32 pp = Int32.ofNat ff) (hnn : nf < 100000 ∧ ff < 100000)
    (w2 : puC (vA E) (eLV E p) (y + 1) a2 (a2 + 1) (cA E)) (w3 : gl (cA E) 41 (a2 + 1) = wdC 42 0 0) {W : Int32} (ho : opW (dM E) b2 14 (Int32.ofNat s) (Int32.ofNat t) W) (ht : t ≤ 1) (hs4 : s < 4300) (h49 : gi (dM E) 49 s = gi (vM E) 24 y) (h50 : gi (dM E) 50 s = upI (vM E) (eLV E p) y) (h51 : nf ≠ 0 → gi (dM E) 51 s = Int32.ofNat a0) (ha0 : nf ≠ 0 → a0 + nf ≤ 6000) (ha2 : a2 + 1 < eNo E 5 0) (hb2 : b2 < 60000)
    (G : ∀ uA uM sc' i', JS E K (K.2.2 5) (a2 + 2) (b2 + 1) (h + 1) (sp + (if Int32.ofNat t = 1 then 1 else 0)) sc' (x + (((a2 + 2 : Nat) : Int) - a)) i' uA uM → sc ≤ sc' → (Int32.ofNat t = 1 → gi (vM E) 20 y ≠ 0 → gl uA 51 h = gl uM 85 sp ∧ VT (gi (vM E) 20 y) (gl uA 51 h)) → KEE h (K.2.2 3) sp (K.2.2 4) wA wM uA uM → GD E i' uA uM) : GD E i wA wM := by
  have hEN := hE.1
  have hd := H.dep
  have hN := H.num hA
  obtain ⟨C, M⟩ := H.cka hA
  obtain ⟨p', e24, c2, c3, c4, c5, c6, c6', hCab, c8⟩ := F.cab hS hCA H h3
  have ep : p' = pp := (eq_iN (by omega) (by omega)).mp (e24.symm.trans h24)
  subst ep
  have hPRF := hCA.2.2.2 p' c4 c5
  have hPRF' := hPRF
  obtain ⟨nf', ff', cc, ⟨p1, p2, p3, p4, p5, p6, p7⟩, ⟨q1, q2, q3, q4, q5⟩, ⟨r1, r2, r3, r4, r5, r6⟩, hfm, ⟨s1, s2, s3, s4, s5, s6, s7, s8⟩, _⟩ := hPRF'
  have en : nf' = nf := (eq_iN (by omega) (by omega)).mp (p3.symm.trans hnf)
  have hC1 : eNo E 5 2 ≤ 4100 := by
    obtain ⟨kd, m, C, c1, c2, c3, c4, _⟩ := hS
    omega
  have ef : ff' = ff := (eq_iN (by omega) (by omega)).mp (p4.symm.trans hff)
  subst en
  subst ef
  obtain ⟨f1, f2, f3, f4, f5, f6, f7, f8, f9, f10, f11, f12⟩ := id F
  have hjl : j < K.1.length := by
    rcases List.getElem?_eq_some_iff.mp f2 with ⟨z, _⟩
    exact z
  have hl1 : K.1.length ≤ K.2.2 3 + 1 := hN.2.1
  have hpB := H.pro hS f2 f3
  subst hp
  have hgm : ∀ (d q : Nat), q + d ≤ nf' → g q ≤ g (q + d) := by
    intro d
    induction d with
    | zero => intro q _; exact Nat.le_refl _
    | succ d ih => intro q hq; have := ih q (by omega); have := hmono (q + d) (by omega); rw [show q + (d + 1) = q + d + 1 by omega]; omega
  have hga : a + 1 ≤ a2 := by
    have := hgm nf' 0 (by omega)
    rw [Nat.zero_add, g0, gn] at this
    exact this
  have hN1 := hN.1
  -- the reference's JUMPS
  have M0 : MK (dM E) (gm 0) (K.2.2 0) sp (K.2.2 4) K.1.length (K.2.2 2) (K.2.2 5) (K.2.2 3) wM := by rw [m0]; exact M
  obtain ⟨q9, yM, z1, z2, z3, z4⟩ := jms_g nf' 0 wM (fun q _ hq => hmm q (by omega)) (by rw [Nat.zero_add, mn]; exact hb2) M0
  rw [Nat.zero_add, mn] at z4
  have st := rm_call z4 hb2 ho
  have z5 := z4.nx (b1 := b2 + 1) (by omega)
  have O1 : OFF (fun k j => k = 0 ∧ j = 128) (si yM 0 128 (Int32.ofNat (b2 + 1))) wM := OFF.tr (OFF.si ⟨rfl, rfl⟩) z3
  refine JS.mrk (q := q9) hE H hA w1 (by omega) (by omega) z2 (z4.runs ho hb2 (by decide)) (fun pr de fu T hs => ?_) (fun pr de fu T hs h6 => ?_) (fun hs hd60 uA pr de fu tk CA TA TM TB OA => ?_)
  · obtain ⟨u, u1, u2, u3, u4⟩ := cal0 (x := Int32.ofNat s) (y := Int32.ofNat t) (T.off O1 (fun k j p => by omega)) hs
    exact ⟨u, st.trans u1, u2, u3, OFF.tr u4 (O1.mono fun k j p => by unfold PEM; omega)⟩
  · rw [h6] at z5
    obtain ⟨u, u1, u2, u3, u4⟩ := cal6 (x := Int32.ofNat s) (y := Int32.ofNat t) z5 (T.off O1 (fun k j p => by omega)) hs hE.2.1
    exact ⟨u, st.trans u1, u2, u3, OFF.tr u4 (O1.mono fun k j p => by unfold PEM; omega)⟩
  have TM1 := TM.off O1 (fun k j p => by omega)
  have hmt : K.2.2 2 + eNo E 3 p' ≤ 199000 := by
    have := H.kst.2.2.2.2.1
    have h61 : (K.1.length + 1) * eNo E 5 7 ≤ 61 * eNo E 5 7 := Nat.mul_le_mul_right _ (by omega)
    rw [Nat.add_mul, Nat.one_mul] at h61
    have := hSB.2.2.2
    omega
  have hvf : ∀ (n i c : Nat), VFC E ff' i n c (eNo E 8 p') → c ≤ eNo E 8 p' := by
    intro n
    induction n with
    | zero => intro i c h; have h : eNo E 8 p' = c := h; omega
    | succ n ih =>
      intro i c h
      unfold VFC at h
      by_cases z : gi (vM E) 28 (ff' + i) ≠ 0
      · rw [if_pos z] at h
        have := ih _ _ h.2
        omega
      · rw [if_neg z] at h
        exact ih _ _ h
  have hQ := FMS.mk (P := fun q m1 m2 => PRZY E K (ff' + q) (a0 + q) (g q) (g (q + 1)) m1 m2) (K := K) (wM := wM) (nf := nf') (ff := ff') (a0 := a0) (fun q hq => (hfm q hq).2.1) (fun q hq => by
    obtain ⟨z, hz⟩ : ∃ z, xs[q]? = some z := ⟨xs[q]'(by omega), List.getElem?_eq_getElem (by omega)⟩
    exact (hx q z hz).pre hE hS hW hCA H hA hon hst rfl) (by omega)
  have hlk : ACH (si yM 0 128 (Int32.ofNat (b2 + 1))) nn (K.2.2 0) j := (H.lnk f5 hA f2).2.agr (fun r _ => (O1 88 r (by omega)).1)
  have TA9 := TA.2.2.2.2.2.2.2.2.2
  obtain ⟨y', v, u, k1, k2, k3, k4, k5, ⟨⟨kq1, kq2⟩, k6⟩, k7, k8, k9, k10, k11, k12⟩ := cal_ok (p := p') (nf := nf') (ff := ff') (a0 := a0) (n := nn) (lk := j) (S := eNo E 3 p') (c := cc) (t := Int32.ofNat t) (Q := fun y v => OFF (fun k r => k = 83 ∧ K.2.2 2 + 1 + 2 * 0 ≤ r ∧ r < K.2.2 2 + 1 + 2 * nf') v y ∧ ∀ q, 0 ≤ q → q < nf' → ∃ m1 m2, PRZY E K (ff' + q) (a0 + q) (g q) (g (q + 1)) m1 m2 ∧ gl v 83 (K.2.2 2 + (1 + 2 * q)) = m1 ∧ (gi (vM E) 24 (ff' + q) ≠ 2 → gl v 83 (K.2.2 2 + (1 + 2 * q) + 1) = m2)) z5 TM1 hs hE.2.1 hd60 (by omega) (by omega) (by omega) hs4 (h49.trans h24) (h50.trans f7) h51 hpp2 (by omega) hlk f9 r1 hmt r4 (by have := hvf _ _ _ r5; omega) p1 p2 ha0 (by omega) (fun yy Oy h87 => by
    obtain ⟨v, v1, v2, v3⟩ := hQ nf' 0 yy (by omega) (fun r hr => ⟨(Oy 88 r (by unfold PNM; omega)).1.trans (O1 88 r (by omega)).1, (Oy 87 r (by unfold PNM; omega)).1.trans (O1 87 r (by omega)).1⟩) (fun r hr => (Oy 83 r (by unfold PNM; omega)).2.trans (O1 83 r (by omega)).2)
    exact ⟨v, v1, v2.mono (fun k r p => by omega), v2, v3⟩)
  have OMu : OFF (fun k j => (k = 0 ∧ j = 128) ∨ PNM (K.2.2 4) K.1.length (K.2.2 2) k j) u wM := OFF.tr (k12.mono fun k j p => Or.inr p) (O1.mono fun k j p => Or.inl p)
  have hxs : i ≤ x + KK * sc ∧ x ≤ KK := by
    obtain ⟨_, _, _, _, _, _, _, _, _, _, _, _, _, _, ⟨_, _, jx, jy, _⟩, _⟩ := H
    exact ⟨jx, jy⟩
  have eKK : (KK : Int) * ((sc + 1 : Nat) : Int) = KK * sc + KK := by
    have := Int.mul_add (KK : Int) sc 1
    rw [Int.mul_one] at this
    exact this
  obtain ⟨hPend, hKc⟩ := H.pnd (n := 3) (x1 := x + 3 - KK) (S := eNo E 3 p') (p := p') (lk := j) (b0 := b2 + 1) (t := Int32.ofNat t) hA hon TA CA TB OA k8 k9 k11 k10 OMu r3 ⟨by rw [eKK]; omega, by unfold KK at *; omega⟩
  have hPN : PNO E K (eNo E 3 p') (pndA K p' j h sp uA u) := ⟨pndA_off, rfl, rfl, rfl, rfl, r3, H.kst, hmt⟩
  have hLim : 0 < Lim := by omega
  obtain ⟨hX, hU, hBo⟩ := hAll (Lim - 1) (by omega)
  have hHl := hH.le (Lim' := Lim - 1) (by omega)
  have k0 : KEE h (K.2.2 3) sp (K.2.2 4) wA wM uA u := ⟨fun r _ => (OA 51 r (by omega)).2, fun k r p1 p2 p3 => (OA k r (by omega)).1, fun r _ => (OMu 85 r (by unfold PNM; omega)).2, fun k r p1 p2 p3 => (OMu k r (by unfold PNM; omega)).1, TA.psd TB (by omega)⟩
  have egu : ∀ r, gl u 83 r = gl v 83 r := fun r => by rw [k7, gl_si, gl_si]
  have hgn := hgm nf' 0 (by omega)
  -- the ACTUALS
  have fin : GD E (i + 3) uA u := by
    refine ACT.loop (Lim := Lim - 1) (S := eNo E 3 p') (N := pndA K p' j h sp uA u) (g := g) (gm := gm) (xs := xs) (h := h) (c9 := eNo E 8 p') (nf := nf') (ff := ff') (a0 := a0) hE hS hX hU hPN hA hon hst rfl hHl hx hl p5 (fun q hq => (hfm q hq).2.2.1) (fun q hq h28 => ?_) r2 r6 hroom hmono hd.2.2.1 nf' 0 cc (sc + 1) (x + 3 - KK) (i + 3) uA u (by omega) r5 (by rw [g0]; exact hPend) (by omega) (fun jj B' hB => ?_) ?_ (fun q hq => absurd hq (by omega)) (fun q q1 q2 => ?_) (fun vA vM sc' t' PD l1 l2 l3 l4 => ?_)
    · obtain ⟨kd, m, C0, hY⟩ := hS.sy (y := ff' + q) (by omega)
      exact hY.val (hfm q hq).1 h28
    · have := hxa jj B' hB
      rw [g0, gn]
      unfold KK at *
      omega
    · rw [g0, gn]
      unfold KK at *
      omega
    · obtain ⟨m1, m2, e1, e2, e3⟩ := kq2 q q1 q2
      exact ⟨m1, m2, e1, (egu _).trans e2, fun z => (egu _).trans (e3 z)⟩
    have PD' := PD
    rw [gn] at PD
    obtain ⟨s16, s14, shop⟩ := (F.nds H hA).hop hS (Or.inl h3)
    obtain ⟨w2, _⟩ := w2
    rw [if_neg (by rw [s14, h3]; decide), if_neg (by rw [s16]; decide), shop] at w2
    have hy : HOP vA ((callK K (eNo E 3 p') (fun r => gl vM 83 r) (pndA K p' j h sp uA u)).2.2 1) (aF A) nn (aF B) := Or.inl ⟨by omega, (PD.2.2.2.lnk (f5.app callG.old) (at_app hA) (at_app f2)).1⟩
    have hwl := wsum_le (E := E) (ff := ff') nf'
    have hy0 := (hW y f1 (Or.inl h3)).1
    rw [g0] at PD
    refine JPS.at_ (x1 := x + 3 - KK + ((a2 : Int) - ((a + 1 : Nat) : Int)) + 3 * (nf' : Int) + 1) hE PD (at_app hA) w2 hy0 c8 (by omega) hy (Nat.le_of_lt (PD.2.2.2.frm (at_app f2) f3)) (by omega) PD.low (by omega) (by omega) ⟨by omega, by unfold KK at *; omega⟩ (fun yA JP v1 v2 OY => ?_)
    have hP2 : PEND E K (eNo E 3 p') (pndA K p' j h sp uA u) (a2 + 1) (eNo E 8 p') (h + wsum E ff' nf' + 2) sp sc' (x + 3 - KK + ((a2 : Int) - ((a + 1 : Nat) : Int)) + 3 * (nf' : Int) + 1) (t' + 1) yA vM := JP
    have hz0 : gl vM 83 (K.2.2 2) = 0 := by
      rw [l4 (K.2.2 2) (Nat.le_refl _) (by omega) (fun q _ _ => by omega), egu, (kq1 83 _ (by omega)).2]
      exact k4 _ (Nat.le_refl _) (by omega)
    have hCT : CTM (K.2.2 4) (b2 + 1) (K.2.2 0) 0 (Int32.ofNat t) (K.2.2 3) vM := by
      obtain ⟨c1, c2, c3, c4, c5⟩ := k10
      have e : ∀ k, 92 ≤ k → k ≤ 97 → gi vM k (K.2.2 4) = gi u k (K.2.2 4) := fun k p q => l3.2.2.2.1 k _ p q (by omega)
      exact ⟨(e 93 (by omega) (by omega)).trans c1, (e 94 (by omega) (by omega)).trans c2, (e 95 (by omega) (by omega)).trans c3, (e 97 (by omega) (by omega)).trans c4, (e 96 (by omega) (by omega)).trans c5⟩
    have hFW : ∀ q, q < nf' → FWD E K ff' h q yA vM := fun q hq => by
      obtain ⟨x1, x2, m1, m2, e1, e2, e3, e4, e5⟩ := l2 q hq
      have w4 := wsum_lt (E := E) (ff := ff') hq
      have w5 := wdF_1 (E := E) (q := ff' + q)
      exact ⟨x1, x2, m1, m2, e1, (OY 51 _ (by unfold PSK; omega)).2.trans e2, fun z => (OY 51 _ (by unfold PSK; omega)).2.trans (e3 z), e4, e5⟩
    refine CLL.body (Lim := Lim - 1) (a := a2 + 1) (b0 := b2 + 1) (t := Int32.ofNat t) (p := p') (lk := j) hE hS hBo hPN hP2 hA hon c5 hPRF hnf hff hnn f2 f3 hCab hpB.2.1 hd.2.2.1 w3 ha2 v1 v2 hFW hz0 H.lod hN hHl (by omega) hroom hCT (by omega) (fun jj B' hB => ?_) ?_ (fun qA qM sc2 t2 J2 s2 hv2 kk => ?_)
    · have := hxa jj B' hB
      unfold KK at *
      omega
    · unfold KK at *
      omega
    · have J3 := J2.up (x1 := x + (((a2 + 2 : Nat) : Int) - a)) (by unfold KK at *; omega) hxk
      rw [c6] at hv2
      refine G qA qM sc2 t2 J3 (by omega) hv2 (k0.tr ((l3.le (Nat.le_refl _) (Nat.le_succ _) (Nat.le_refl _) (Nat.le_succ _)).tr (KEE.tr ⟨fun r hr => (OY 51 r (by unfold PSK; omega)).2, fun k r p1 p2 p3 => (OY k r (by unfold PSK; omega)).1, fun _ _ => rfl, fun _ _ _ _ _ => rfl, PSD.eq (OY 56 3 (by unfold PSK; omega)).1 (OY 56 4 (by unfold PSK; omega)).1⟩ kk)))
  obtain ⟨g1, g2, g3⟩ := id hE
  have hb4 : i + 3 ≤ eNo E 5 4 := by
    rw [g3]
    have : KK * sc ≤ KK * eNo E 5 5 := Nat.mul_le_mul_left _ (by omega)
    have h9 := hxs.1
    have h8 := hxs.2
    unfold KK at *
    omega
  exact GOOD.adw (q := 3) (by rw [g3]; unfold KK; omega) tk (SPS.tr z2 (SPS.one (z4.runs ho hb2 (by decide)) (st.trans k1))) (by omega) (by omega) hb4 fin
end LB1
