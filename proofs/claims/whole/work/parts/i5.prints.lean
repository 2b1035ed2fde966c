/-! BOTH MACHINES: print -/
section PR5
variable {E : SENV} {K : CXT} {Lim k n p nx n1 n2 a a1 a2 b b1 b2 y tk h sp sc sc0 i i0 el el0 j a0 b0 h0 sp0 : Nat} {x x1 x0 : Int} {wA wM uA uM zA zM : Wd} {stk : List Nat} {ty : Int32} {A B : ACT} {v : Int64}
/-- a value is printed on both sides; z: the worlds at the STATEMENT's beginning -/
theorem JS.prn (hE : EOKS E) (Z : JS E K el0 a0 b0 h0 sp0 sc0 x0 i0 zA zM) (H : JS E K (K.2.2 5) a b (h + 1) (sp + 1) sc x i wA wM) (hA : K.1[K.2.2 0]? = some A) (hon : aOn A) (L : LOWD K h sp (K.2.2 3) (K.2.2 4)) (hsp : sp ≤ h) (hv : gl wA 51 h = gl wM 85 sp) (hw : gl (cA E) 41 a = wdC 28 0 0) {X Y Z' : Int32} (ho : opW (dM E) b 13 X Y Z') (ha : a < eNo E 5 0) (hb : b < 60000) (hx : x + 1 ≤ x1 ∧ x1 ≤ KK) (hP : ∀ pr de fu pr0 de0 fu0, TLY (eNo E 5 5) sc pr de fu wA → TLY (eNo E 5 5) sc0 pr0 de0 fu0 zA → pr + 1 + sc0 ≤ pr0 + sc) (hsc : sc0 ≤ sc)
    (g : ∀ uA uM, JS E K (K.2.2 5) (a + 1) (b + 1) h sp sc x1 (i + 1) uA uM → OFF (fun k j => k = 48 ∨ k = 55 ∨ (k = 56 ∧ j = 3)) uA wA → OFF (fun k j => k = 0 ∨ k = 86) uM wM → PSD zA uA → GD E (i + 1) uA uM) : GD E i wA wM := by
  have hd := H.dep
  obtain ⟨C, M⟩ := H.cka hA
  obtain ⟨_, pr0, de0, fu0, z1, z2, z3, z4, z5, z6, z7, z8, z9, z10, _⟩ := id Z
  obtain ⟨_, pr, de, fu, j1, j2, j3, j4, j5, j6, j7, j8, j9, j10, ⟨j11, j12, j13, j14, j15, j16, j17⟩, o1, o2⟩ := id H
  have hpr := hP _ _ _ _ _ _ j4 z4
  obtain ⟨t1, t2, t3, t4, t5, t6, t7, t8, t9, t10, t11⟩ := id j4
  obtain ⟨y1, y2, y3, y4, y5, y6, y7, y8, y9, y10, y11⟩ := id z4
  have tk := k_print C j4 ha hw
  have st := rm_print M j6 hb ho (by omega)
  have hN := hE.2.1
  -- the class's new world
  generalize hu : (si (if pr < 500 then sl (popW wA (a + 1) h) 55 pr (gl wA 51 h) else popW wA (a + 1) h) 56 3 (Int32.ofNat (pr + 1))) = uA at tk
  generalize hm : (si (if pr < 500 then sl (si (si wM 0 128 (Int32.ofNat (b + 1))) 0 130 (Int32.ofNat sp)) 86 pr (gl wM 85 sp) else si (si wM 0 128 (Int32.ofNat (b + 1))) 0 130 (Int32.ofNat sp)) 0 139 (Int32.ofNat (pr + 1))) = uM at st
  have OA : OFF (fun k j => (k = 48 ∧ (j = 11 ∨ j = 14)) ∨ (k = 55 ∧ j = pr) ∨ (k = 56 ∧ j = 3)) uA wA := by
    rw [← hu]
    refine OFF.tr (OFF.si (by omega)) ?_
    by_cases q : pr < 500
    · rw [if_pos q]
      exact OFF.tr (OFF.sl (by omega)) (popW_off.mono fun k j p => Or.inl p)
    · rw [if_neg q]
      exact popW_off.mono fun k j p => Or.inl p
  have OM : OFF (fun k j => (k = 0 ∧ (j = 128 ∨ j = 130 ∨ j = 139)) ∨ (k = 86 ∧ j = pr)) uM wM := by
    rw [← hm]
    refine OFF.tr (OFF.si (by omega)) ?_
    by_cases q : pr < 500
    · rw [if_pos q]
      exact OFF.tr (OFF.sl (by omega)) (OFF.tr (OFF.si (by omega)) (OFF.si (by omega)))
    · rw [if_neg q]
      exact OFF.tr (OFF.si (by omega)) (OFF.si (by omega))
  have u11 : gi uA 48 11 = Int32.ofNat (a + 1) := by
    rw [← hu, gi_si1 (by omega)]
    by_cases q : pr < 500
    · rw [if_pos q, gi_sl]; unfold popW; rw [gi_si1 (by omega), gi_si0]
    · rw [if_neg q]; unfold popW; rw [gi_si1 (by omega), gi_si0]
  have u14 : gi uA 48 14 = Int32.ofNat h := by
    rw [← hu, gi_si1 (by omega)]
    by_cases q : pr < 500
    · rw [if_pos q, gi_sl]; exact gi_si0 _ _ _ _
    · rw [if_neg q]; exact gi_si0 _ _ _ _
  have u3 : gi uA 56 3 = Int32.ofNat (pr + 1) := by rw [← hu]; exact gi_si0 _ _ _ _
  have m128 : gi uM 0 128 = Int32.ofNat (b + 1) := by
    rw [← hm, gi_si1 (by omega)]
    by_cases q : pr < 500
    · rw [if_pos q, gi_sl, gi_si1 (by omega), gi_si0]
    · rw [if_neg q, gi_si1 (by omega), gi_si0]
  have m130 : gi uM 0 130 = Int32.ofNat sp := by
    rw [← hm, gi_si1 (by omega)]
    by_cases q : pr < 500
    · rw [if_pos q, gi_sl]; exact gi_si0 _ _ _ _
    · rw [if_neg q]; exact gi_si0 _ _ _ _
  have m139 : gi uM 0 139 = Int32.ofNat (pr + 1) := by rw [← hm]; exact gi_si0 _ _ _ _
  have Cn : CK (cA E) (eNo E 5 0) (a + 1) (aF A) (K.2.2 1) h (K.2.2 3) (K.2.2 5) uA := C.nw (OA.mono fun k j p => by omega) u11 (by rw [(OA 48 12 (by omega)).1]; exact C.2.2.2.1) (by rw [(OA 48 13 (by omega)).1]; exact C.2.2.2.2.1) u14 (by rw [(OA 48 15 (by omega)).1]; exact C.2.2.2.2.2.2.1) (by rw [(OA 48 16 (by omega)).1]; exact C.2.2.2.2.2.2.2.1) ⟨C.2.2.2.2.2.2.2.2.1, C.2.2.2.2.2.2.2.2.2.1, by omega, C.2.2.2.2.2.2.2.2.2.2.2⟩
  have Tn : TLY (eNo E 5 5) sc (pr + 1) de fu uA := ⟨by rw [(OA 48 17 (by omega)).1]; exact t1, by rw [(OA 56 4 (by omega)).1]; exact t2, u3, by rw [(OA 56 5 (by omega)).1]; exact t4, by rw [(OA 56 6 (by omega)).1]; exact t5, by rw [(OA 56 7 (by omega)).1]; exact t6, t7, t8, by omega, t10, t11⟩
  obtain ⟨s1, s2, s3, s4, s5⟩ := id j6
  have TMn : TLM (eNo E 5 5) sc (pr + 1) de fu uM := ⟨by rw [(OM 0 138 (by omega)).1]; exact s1, by rw [(OM 0 137 (by omega)).1]; exact s2, m139, by rw [(OM 0 135 (by omega)).1]; exact s4, by rw [(OM 0 136 (by omega)).1]; exact s5⟩
  have Mn : MK (dM E) (b + 1) (K.2.2 0) sp (K.2.2 4) K.1.length (K.2.2 2) (K.2.2 5) (K.2.2 3) uM := M.nw (OM.mono fun k j p => by omega) m128 (by rw [(OM 0 129 (by omega)).1]; exact M.2.2.2.1) m130 (by rw [(OM 0 127 (by omega)).1]; exact M.2.2.2.2.2.1) (by rw [(OM 0 131 (by omega)).1]; exact M.2.2.2.2.2.2.1) (by rw [(OM 0 132 (by omega)).1]; exact M.2.2.2.2.2.2.2.1) (by rw [(OM 0 133 (by omega)).1]; exact M.2.2.2.2.2.2.2.2.1) (by rw [(OM 0 134 (by omega)).1]; exact M.2.2.2.2.2.2.2.2.2.1) ⟨by omega, M.2.2.2.2.2.2.2.2.2.2.2.1, by omega, M.2.2.2.2.2.2.2.2.2.2.2.2.2⟩
  have hps : PSD zA uA := z4.psd Tn (by omega) hsc
  have J : JS E K (K.2.2 5) (a + 1) (b + 1) h sp sc x1 (i + 1) uA uM := by
    refine ⟨A, pr + 1, de, fu, hA, hon, Cn, Tn, Mn, TMn, fun q q1 q2 => ?_, ?_, j9, fun q B hB => ?_, ⟨hsp, j12, by omega, hx.2, j15, j16, j17⟩, OFF.tr (OA.mono fun k j p => by unfold PZA; omega) o1, OFF.tr (OM.mono fun k j p => by unfold PZR; omega) o2⟩
    · by_cases e : q = pr
      · subst e
        rw [← hu, ← hm, gl_si, gl_si, if_pos q2, if_pos q2, gl_sl0, gl_sl0]; exact hv
      · rw [(OA 55 q (by omega)).2, (OM 86 q (by omega)).2]; exact j7 q (by omega) q2
    · refine j8.agr (fun _ _ _ _ _ _ _ _ => (OA 50 _ (by omega)).2) (fun _ _ q _ _ _ _ _ => ?_)
      unfold RMq
      rw [(OM 83 q (by omega)).2, (OM 84 _ (by omega)).2]
    · obtain ⟨⟨m1, m2, m3, m4, m5, m6, m7, m8⟩, n1, n2, n3, n4, n5, n6⟩ := j10 q B hB
      obtain ⟨⟨_, _, _, _, _, _, _, w8⟩, _⟩ := z10 q B hB
      obtain ⟨l1, l2, l3, l4⟩ := L q B hB
      have e : ∀ k j, 87 ≤ k → gi uM k j = gi wM k j := fun k j p => (OM k j (by omega)).1
      refine ⟨⟨(e 87 _ (by omega)).trans m1, (e 98 _ (by omega)).trans m2, (e 88 _ (by omega)).trans m3, (e 89 _ (by omega)).trans m4, (e 90 _ (by omega)).trans m5, (e 91 _ (by omega)).trans m6, ?_, ⟨fun j hj => (OA 51 j (by omega)).2.trans (m8.1 j hj), fun k j p q r => (OA k j (by omega)).1.trans (m8.2.1 k j p q r), fun j hj => (OM 85 j (by omega)).2.trans (m8.2.2.1 j hj), fun k j p q r => (OM k j (by omega)).1.trans (m8.2.2.2.1 k j p q r), w8.2.2.2.2.tr hps⟩⟩, n1, l1, l2, n4, n5, n6⟩
      refine m7.imp id (fun q => ⟨q.1, q.2.1, q.2.2.1, ?_⟩)
      rw [e 96 _ (by omega)]; exact q.2.2.2
  exact J.go hE (TKS.one hd.2.2.2.2 tk) (SPS.one (M.runs ho hb (by decide)) st) (by omega) (g _ _ J (OA.mono fun k j p => by omega) (OM.mono fun k j p => by omega) hps)
/-- print -/
theorem SIS.print (hE : EOKS E) (hv : SIV E Lim stk p ty nx (a + 1) a1 (b + 1) b1) (w1 : gl (cA E) 41 a = wdC 40 0 0) (w2 : gl (cA E) 41 a1 = wdC 28 0 0) {X Y Z X' Y' Z' : Int32} (o1 : opW (dM E) b 12 X Y Z) (o2 : opW (dM E) b1 13 X' Y' Z') (ha : a + 1 ≤ a1 ∧ a1 < eNo E 5 0) (hb : b < 60000 ∧ b1 < 60000) : SIS E Lim stk p nx a (a1 + 1) b (b1 + 1) := by
  intro K A h sp sc x i wA wM hA hon hst hp H hH hL hh hxa hxk hc
  refine JS.pay (x1 := x + 1) hE H hA hon w1 o1 (by omega) hb.1 ⟨by unfold KK at *; omega, by omega⟩ (fun uA uM hs J k0 ⟨pr, de, fu, Tw, T⟩ => ?_)
  refine hv K A h sp (sc + 1) (x + 1) _ uA uM hA hon hst hp J hH (by omega) hh (fun j B hB => by have := hxa j B hB; omega) (by omega) ?_
  intro yA yM v sc2 i2 J2 s2 v1 v2 hvt k2
  refine JS.prn (x1 := x + ((a1 + 1 : Nat) - (a : Int))) hE H J2 hA hon H.lod H.dep.2.2.1 (v1.trans v2.symm) w2 o2 (by omega) hb.2 ⟨by omega, hxk⟩ (fun pr2 de2 fu2 pr0 de0 fu0 T2 T0 => ?_) (by omega) (fun zA zM J3 OA OM hPs => ?_)
  · have e1 := T.psq T2 k2.2.2.2.2
    have e2 := T0.uq Tw
    omega
  · have kk := k0.tr k2
    exact hc zA zM sc2 _ J3 (by omega) trivial ⟨fun j hj => (OA 51 j (by omega)).2.trans (kk.1 j hj), fun k j p q r => (OA k j (by omega)).1.trans (kk.2.1 k j p q r), fun j hj => (OM 85 j (by omega)).2.trans (kk.2.2.1 j hj), fun k j p q r => (OM k j (by omega)).1.trans (kk.2.2.2.1 k j p q r), hPs⟩
end PR5
