/-! BOTH MACHINES: a for's ELEMENT with step and until -/
section MI8
variable {E : SENV} {K : CXT} {Lim p a a' a1 a2 b b' b1 b2 h sp sc i el nx L T t sg m1 m2 s0 c e va vm H x4 b3 e3 M v1 pl j k q u1 d1 s2 u3 b4 d2 d3 d4 d5 d6 S U : Nat} {x x1 x0 xs cap : Int} {stk : List Nat} {ty ty2 : Int32} {wA wM uA uM yA yM : Wd} {v v2 w1 : Int64} {A B : ACT} {G : GHO} {PT PR : Nat → Nat → Wd → Prop}
/-- the class alone looks at a truth value -/
theorem JS.jfc (hE : EOKS E) (H : JS E K (K.2.2 5) a b (h + 1) sp sc x i wA wM) (hA : K.1[K.2.2 0]? = some A) (L : LOWK K h sp) (hsp : sp ≤ h) (hw : gl (cA E) 41 a = jwC 34 a1) (ha : a < eNo E 5 0 ∧ a1 ≤ 36872) (hx : x + 1 ≤ x1 ∧ x1 ≤ KK) (g1 : gl wA 51 h ≠ 0 → ∀ uA, JS E K (K.2.2 5) (a + 1) b h sp sc x1 (i + 1) uA wM → GD E (i + 1) uA wM) (g0 : gl wA 51 h = 0 → ∀ uA, JS E K (K.2.2 5) a1 b h sp sc x1 (i + 1) uA wM → GD E (i + 1) uA wM) : GD E i wA wM := by
  have hd := H.dep
  obtain ⟨C, M⟩ := H.cka hA
  have hw' : gl (cA E) 41 a = wdC 34 0 (Int32.ofNat a1) := hw.trans (jwC_wdC (x := 34) (by omega) (by omega))
  have tkc := k_jf C ha.1 hw' (by omega)
  have OA0 : OFF (PSK h) (popW wA (a + 1) h) wA := popW_off.mono fun k j p => Or.inl p
  have OA : ∀ y : Int32, OFF (PSK h) (si (popW wA (a + 1) h) 48 11 y) wA := fun y => OFF.tr (OFF.si (Or.inl ⟨rfl, Or.inl rfl⟩)) OA0
  by_cases z : gl wA 51 h = 0
  · rw [if_pos z] at tkc
    refine JS.stp (k := 1) (j := 0) (h0 := h) (sp0 := sp) (h1 := h) (sp1 := sp) (a1 := a1) (b1 := b) (x1 := x1) hE H (TKS.one hd.2.2.2.2 tkc) (show SPS 0 wM wM from rfl) (by omega) L (OA _) OFF.rf (gi_si0 _ _ _ _) ?_ M.2.2.1 M.2.2.2.2.1 (by omega) hx (fun J => g0 z _ J)
    rw [gi_si1 (by omega)]; exact gi_si0 _ _ _ _
  · rw [if_neg z] at tkc
    refine JS.stp (k := 1) (j := 0) (h0 := h) (sp0 := sp) (h1 := h) (sp1 := sp) (a1 := a + 1) (b1 := b) (x1 := x1) hE H (TKS.one hd.2.2.2.2 tkc) (show SPS 0 wM wM from rfl) (by omega) L (OA _) OFF.rf (gi_si0 _ _ _ _) ?_ M.2.2.1 M.2.2.2.2.1 (by omega) hx (fun J => g1 z _ J)
    rw [gi_si1 (by omega)]; exact gi_si0 _ _ _ _
/-- FTEST and OVER -/
theorem JS.fte (hE : EOKS E) (H : JS E K (K.2.2 5) a b (h + 3) (sp + 3) sc x i wA wM) (hA : K.1[K.2.2 0]? = some A) (L : LOWK K h sp) (hsp : sp ≤ h) (hv : ∀ q, q < 3 → gl wA 51 (h + q) = gl wM 85 (sp + q)) (w1 : gl (cA E) 41 a = wdC 39 0 0) (w2 : gl (cA E) 41 (a + 1) = jwC 34 a1) {Y Z : Int32} (o1 : opW (dM E) b 28 (Int32.ofNat b1) Y Z) (ha : a + 1 < eNo E 5 0 ∧ a1 ≤ 36872) (hb : b < 60000 ∧ b1 ≤ 60000) (hx : x + 2 ≤ x1 ∧ x1 ≤ KK) (g1 : ∀ uA uM, JS E K (K.2.2 5) (a + 2) (b + 1) h sp sc x1 (i + 2) uA uM → GD E (i + 2) uA uM) (g0 : ∀ uA uM, JS E K (K.2.2 5) a1 b1 h sp sc x1 (i + 2) uA uM → GD E (i + 2) uA uM) : GD E i wA wM := by
  have hd := H.dep
  obtain ⟨C, M⟩ := H.cka hA
  obtain ⟨y, O1, C1, tk⟩ := k_ftest C (by omega) w1
  obtain ⟨q, O2, M1, st⟩ := rm_over M hb.1 o1
  have e0 := hv 0 (by omega)
  have e1 := hv 1 (by omega)
  have e2 := hv 2 (by omega)
  rw [Nat.add_zero, Nat.add_zero] at e0
  rw [e0, e1, e2] at tk
  have hR := M.runs o1 hb.1 (by decide)
  have q11 : ∀ v, gi (pshQ y h v) 48 11 = Int32.ofNat (a + 1) := fun v => by
    unfold pshQ; rw [gi_si1 (by omega), gi_sl]; exact C1.2.2.1
  have OA : ∀ v, OFF (PSK h) (pshQ y h v) wA := fun v => OFF.tr pshQ_off (O1.mono fun k j p => Or.inl p)
  by_cases z : ftC (gl wM 85 (sp + 2)) (gl wM 85 (sp + 1)) (gl wM 85 sp)
  · rw [if_pos z] at tk st
    have OM : OFF (PSO sp) (si q 0 128 (Int32.ofNat b1)) wM := OFF.tr (OFF.si (Or.inl ⟨rfl, Or.inl rfl⟩)) (O2.mono fun k j p => Or.inl p)
    refine JS.stp (k := 1) (j := 1) (h0 := h) (sp0 := sp) (h1 := h + 1) (sp1 := sp) (a1 := a + 1) (b1 := b1) (x1 := x + 1) hE H (TKS.one hd.2.2.2.2 tk) (SPS.one hR st) (by omega) L (OA 0) OM (q11 0) (gi_si0 _ _ _ _) (gi_si0 _ _ _ _) (by rw [gi_si1 (by omega)]; exact M1.2.2.2.2.1) (by omega) ⟨by omega, by omega⟩ (fun J => ?_)
    exact JS.jfc (x1 := x1) hE J hA L hsp w2 ⟨by omega, ha.2⟩ ⟨by omega, hx.2⟩ (fun c => absurd pshQ_v c) (fun _ uA J2 => g0 uA _ J2)
  · rw [if_neg z] at tk st
    have OM : OFF (PSO sp) q wM := O2.mono fun k j p => Or.inl p
    refine JS.stp (k := 1) (j := 1) (h0 := h) (sp0 := sp) (h1 := h + 1) (sp1 := sp) (a1 := a + 1) (b1 := b + 1) (x1 := x + 1) hE H (TKS.one hd.2.2.2.2 tk) (SPS.one hR st) (by omega) L (OA 1) OM (q11 1) (gi_si0 _ _ _ _) M1.2.2.1 M1.2.2.2.2.1 (by omega) ⟨by omega, by omega⟩ (fun J => ?_)
    exact JS.jfc (x1 := x1) hE J hA L hsp w2 ⟨by omega, ha.2⟩ ⟨by omega, hx.2⟩ (fun _ uA J2 => g1 uA _ J2) (fun c => absurd (pshQ_v.symm.trans c) (by decide))
/-- codes of an ELEMENT with step and until: n: its step's words; r: its step's codes -/
def FSU (E : SENV) (pl n s2 u3 sg H r d2 d3 b4 d5 d6 m2 x4 : Nat) (PT PR : Nat → Nat → Wd → Prop) : Prop :=
  (gl (cA E) 41 s2 = wdC 36 0 0 ∧ gl (cA E) 41 (s2 + 1) = wdC 35 0 (Int32.ofNat n) ∧ gl (cA E) 41 (s2 + 2) = wdC 35 0 (Int32.ofNat pl) ∧ gl (cA E) 41 (s2 + 3) = wdC 24 0 0 ∧ gl (cA E) 41 u3 = wdC 39 0 0 ∧ gl (cA E) 41 (u3 + 1) = jwC 34 (u3 + 12) ∧ gl (cA E) 41 (u3 + 2) = wdC 37 0 (Int32.ofNat sg) ∧ gl (cA E) 41 (u3 + 3) = jwC 33 H) ∧
  (gl (cA E) 41 (u3 + 4) = wdC 40 0 0 ∧ gl (cA E) 41 (u3 + 5) = wdC 35 0 (Int32.ofNat pl) ∧ gl (cA E) 41 (u3 + 6) = wdC 35 0 (Int32.ofNat pl) ∧ gl (cA E) 41 (u3 + 7) = wdC 24 0 0 ∧ gl (cA E) 41 (u3 + 8) = wdC 35 0 (Int32.ofNat n) ∧ gl (cA E) 41 (u3 + 9) = wdC 1 0 0 ∧ gl (cA E) 41 (u3 + 10) = wdC 26 0 1 ∧ gl (cA E) 41 (u3 + 11) = jwC 33 (s2 + 1)) ∧
  (opW (dM E) d2 32 0 0 0 ∧ opW (dM E) (d2 + 1) 12 0 0 0 ∧ PT (d2 + 2) d3 (dM E) ∧ PR d3 b4 (dM E) ∧ opW (dM E) b4 31 (Int32.ofNat r) 0 0 ∧ opW (dM E) (b4 + 1) 8 43 0 0 ∧ opW (dM E) (b4 + 2) 7 1 0 0) ∧
  (opW (dM E) (b4 + 3) 31 (Int32.ofNat r) 0 0 ∧ PR (b4 + 4) d5 (dM E) ∧ opW (dM E) d6 28 (Int32.ofNat (d6 + 3)) 0 0 ∧ opW (dM E) (d6 + 1) 30 (Int32.ofNat m2) (Int32.ofNat (d2 + 1)) 0 ∧ opW (dM E) (d6 + 2) 10 (Int32.ofNat x4) 0 0) ∧
  (n ≤ s2 ∧ s2 + 4 ≤ u3 ∧ u3 + 12 < eNo E 5 0) ∧ (r ≤ d2 ∧ d2 + 2 ≤ d3 ∧ d3 ≤ b4 ∧ b4 + 4 ≤ d5 ∧ d5 ≤ d6 ∧ d6 + 3 < 60000)
/-- the test -/
theorem FSU.tst {n r : Nat} (hE : EOKS E) (hF : FCX E L K A stk p) (hT : FTM K A x0 M) (hR : VRD E L K 1 nx T pl PR) (hS : FST E L K A stk p sg m1 s0 m2 H b3 x4 e3) (hs : SIV E L stk p 1 nx n s2 r d2) (hu : SIV E L stk p 1 nx (s2 + 4) u3 d5 d6) (hC : FSU E pl n s2 u3 sg H r d2 d3 b4 d5 d6 m2 x4 PT PR) (J : JS E K (K.2.2 5) (s2 + 1) (b4 + 3) (A.1 5) (A.1 6) sc x t wA wM) (hn : nx + 3 ≤ 502) (hL : eNo E 5 5 ≤ L + sc) (hx : x0 ≤ x ∧ x + (s2 - n + 2) + (T + 1) + (u3 - (s2 + 4)) + 4 ≤ x0 + S) (hM : M < KK ∧ S + 4 * (b3 - H) + 2 ≤ M)
    (g1 : FG E L K A (x0 + M - 1) (u3 + 4) (d2 + 1)) (g0 : FG E L K A (x0 + M - 1) (u3 + 12) (d6 + 3)) : GD E t wA wM := by
  obtain ⟨⟨c1, c2, c3, c4, c5, c6, c7, c8⟩, _, ⟨p1, _⟩, ⟨p2, p3, p4, p5, p6⟩, ⟨n1, n2, n3⟩, n4, n5, n6, n7, n8, n9⟩ := hC
  obtain ⟨f1, f2, f3, f4, ⟨Y9, Z9, f5⟩, f6, f7, f8, f9⟩ := hS
  obtain ⟨hA, hon, hl, hr, hp, hN, hH, hroom⟩ := id hF
  have hd3 : K.2.2 3 = A.1 4 := hN.2.2.1
  have hd4 : K.2.2 4 = A.1 7 := hN.2.2.2.1
  have hEN := hE.1
  have hT1 := hT.1
  have hT2 := hT.2.1
  have hst : ∀ s ∈ stk, s ∈ aK A := fun s hs => by rw [hr]; exact hs
  have hsp : A.1 6 ≤ A.1 5 := J.dep.2.2.1
  refine SUB.both hE (SIV_g.mp hs) PV.pov c2 p2 c1 p1 ⟨by omega, n1, by omega⟩ ⟨by omega, by omega, by omega⟩ hA hon hst hp J hH hL (by rw [hd3]; omega) (by rw [hd3, hd4]; omega) (fun j B hB => by have := hT1 j B hB; omega) (by omega) (fun uA uM sc1 t1 J1 s1 hv1 k1 => ?_)
  refine hR (s2 + 2) (b4 + 4) d5 (A.1 5 + 1) (A.1 6 + 1) sc1 _ t1 uA uM c3 c4 p3 (by omega) (by omega) ⟨J1, by omega, by rw [hd3]; omega, by rw [hd3, hd4]; omega, fun j B hB => by have := hT1 j B hB; omega, by omega⟩ (fun yA yM sc2 t2 J2 s2' hv2 k2 => ?_)
  refine hu K A (A.1 5 + 2) (A.1 6 + 2) sc2 _ t2 yA yM hA hon hst hp J2 hH (by omega) (by rw [hd3]; omega) (fun j B hB => by have := hT1 j B hB; omega) (by omega) (fun zA zM v sc3 t3 J3 s3 q1 q2 hvt k3 => ?_)
  refine JS.fte (h := A.1 5) (sp := A.1 6) (x1 := x0 + S - 2) hE J3 hA J.low hsp (fun q hq => ?_) c5 c6 p4 ⟨by omega, by omega⟩ ⟨by omega, by omega⟩ ⟨by omega, by omega⟩ (fun rA rM J4 => ?_) (fun rA rM J4 => ?_)
  · have h3 : q = 0 ∨ q = 1 ∨ q = 2 := by omega
    rcases h3 with rfl | rfl | rfl
    · rw [Nat.add_zero, Nat.add_zero, k3.1 _ (by omega), k3.2.2.1 _ (by omega), k2.1 _ (by omega), k2.2.2.1 _ (by omega)]
      exact hv1.1
    · rw [k3.1 _ (by omega), k3.2.2.1 _ (by omega)]
      exact hv2.1
    · exact q1.trans q2.symm
  · exact JS.fgo (xs := x0 + S) (cap := x0 + M - 1) hE hF f1 f2 hT J4 c7 c8 p5 p6 f3 f4 f5 ⟨by omega, f6, f7⟩ ⟨by omega, f8, f9, by omega⟩ (by omega) ⟨by omega, by omega, by omega, by omega⟩ g1
  · exact g0 sc3 _ _ rA rM J4 (by omega) (by omega)
/-- once round -/
theorem FSU.rnd {n r : Nat} (hE : EOKS E) (hF : FCX E (L + 1) K A stk p) (hT : FTM K A x0 M) (hV : FVX E L K 1 nx T pl PT PR) (hS : FST E L K A stk p sg m1 s0 m2 H b3 x4 e3) (hs : SIV E L stk p 1 nx n s2 r d2) (hu : SIV E L stk p 1 nx (s2 + 4) u3 d5 d6) (hC : FSU E pl n s2 u3 sg H r d2 d3 b4 d5 d6 m2 x4 PT PR) (hn : nx + 4 ≤ 502) (hM : M + 1 < KK ∧ 3 * T + 2 * (s2 - n) + (u3 - s2) + 20 ≤ S ∧ S + 4 * (b3 - H) + 2 ≤ M)
    (g1 : FG E L K A (x0 + M - 1) (u3 + 4) (d2 + 1)) (g0 : FG E L K A (x0 + M - 1) (u3 + 12) (d6 + 3)) : FG E (L + 1) K A (x0 + M) (u3 + 4) (d2 + 1) := fun sc x t wA wM J hx hL => by
  have hC' := hC
  obtain ⟨⟨c1, c2, c3, c4, c5, c6, c7, c8⟩, ⟨w1, w2, w3, w4, w5, w6, w7, w8⟩, ⟨p1, o1, o2, o3, o4, o5, o6⟩, ⟨p2, p3, p4, p5, p6⟩, ⟨n1, n2, n3⟩, n4, n5, n6, n7, n8, n9⟩ := hC
  obtain ⟨hA, hon, hl, hr, hp, hN, hH, hroom⟩ := id hF
  have hd3 : K.2.2 3 = A.1 4 := hN.2.2.1
  have hd4 : K.2.2 4 = A.1 7 := hN.2.2.2.1
  have hEN := hE.1
  have hT1 := hT.1
  have hT2 := hT.2.1
  have hst : ∀ s ∈ stk, s ∈ aK A := fun s hs => by rw [hr]; exact hs
  have hsp : A.1 6 ≤ A.1 5 := J.dep.2.2.1
  have hHL : HND E K L := hH.le (by omega)
  refine JS.pay (x1 := x0 + 1) hE J hA hon w1 o1 (by omega) (by omega) ⟨by omega, by omega⟩ (fun uA uM hs' J1 k0 _ => ?_)
  have hy : VHY E L K nx T (u3 + 5) (d2 + 2) (A.1 5) (A.1 6) (sc + 1) (x0 + 1) (t + 1) uA uM := ⟨J1, by omega, by rw [hd3]; omega, by rw [hd3, hd4]; omega, fun j B hB => by have := hT1 j B hB; omega, by omega⟩
  rcases hV with hV | ⟨hV, hR⟩
  · exact hV _ _ _ _ _ _ _ _ _ _ w2 o2 (by omega) (by omega) hy
  refine hV _ _ _ _ _ _ _ _ _ _ w2 o2 (by omega) (by omega) hy (fun yA yM sc1 i1 J2 s1 hpp k1 => ?_)
  refine hR (u3 + 6) d3 b4 (A.1 5 + 1) (A.1 6 + 1) sc1 _ i1 yA yM w3 w4 o3 (by omega) (by omega) ⟨J2, by omega, by rw [hd3]; omega, by rw [hd3, hd4]; omega, fun j B hB => by have := hT1 j B hB; omega, by omega⟩ (fun zA zM sc2 i2 J3 s2' hv2 k2 => ?_)
  refine SUB.both (h := A.1 5 + 2) (sp := A.1 6 + 2) hE (SIV_g.mp hs) PV.pov w5 o4 c1 p1 ⟨by omega, n1, by omega⟩ ⟨by omega, by omega, by omega⟩ hA hon hst hp J3 hHL (by omega) (by rw [hd3]; omega) (by rw [hd3, hd4]; omega) (fun j B hB => by have := hT1 j B hB; omega) (by omega) (fun qA qM sc3 i3 J4 s3 hv3 k3 => ?_)
  have l1 : gl qA 51 (A.1 5 + 1) = gl zA 51 (A.1 5 + 1) := k3.1 _ (by omega)
  have l2 : gl qM 85 (A.1 6 + 1) = gl zM 85 (A.1 6 + 1) := k3.2.2.1 _ (by omega)
  have low1 : LOWK K (A.1 5 + 1) (A.1 6 + 1) := fun j B hB => by have := J.low j B hB; omega
  refine JS.two (sg := 33) (g9 := qA) (h := A.1 5 + 1) (sp := A.1 6 + 1) (x1 := x0 + (2 * T + (s2 - n) + 7 : Nat)) hE (by unfold SG2; omega) J4 low1 l1 (l2.trans hv2.1.symm) rfl hv3.1.symm hv3.2 o5 (by rw [w6]; rfl) (by omega) (by omega) ⟨by omega, by omega⟩ (fun rA rM v J5 r1 r2 r3 OA5 OM5 => ?_)
  obtain ⟨xx, q, g3, g4, g5⟩ := hpp
  have m1' : gl rA 51 (A.1 5) = Int64.ofNat xx := (OA5 51 _ (by unfold PSK; omega)).2.trans ((k3.1 _ (by omega)).trans ((k2.1 _ (by omega)).trans g3))
  have m2' : gl rM 85 (A.1 6) = Int64.ofNat q := (OM5 85 _ (by unfold PSO; omega)).2.trans ((k3.2.2.1 _ (by omega)).trans ((k2.2.2.1 _ (by omega)).trans g4))
  refine JS.store (l := [(xx, q)]) (h := A.1 5) (sp := A.1 6) (ty := 1) (x1 := x0 + (2 * T + (s2 - n) + 8 : Nat)) hE J5 hA J.lod hsp ⟨by simp, by simp⟩ (fun q' c hq => ?_) (r1.trans r2.symm) (r1.symm ▸ r3) w7 o6 (by omega) (by omega) ⟨by omega, by omega⟩ (fun tA tM J6 k6 => ?_)
  · have hq0 : q' = 0 := by
      rcases List.getElem?_eq_some_iff.mp hq with ⟨w, _⟩
      simpa using w
    subst hq0
    have : c = (xx, q) := by simpa using hq.symm
    subst this
    exact ⟨m1', m2', g5⟩
  · refine JS.jcl (x1 := x0 + (2 * T + (s2 - n) + 9 : Nat)) hE J6 hA w8 ⟨by omega, by omega⟩ ⟨by omega, by omega⟩ (fun vA J7 _ => ?_)
    exact FSU.tst (S := S) hE (hF.le (by omega)) hT hR hS hs hu hC' J7 (by omega) (by omega) ⟨by omega, by omega⟩ ⟨by omega, hM.2.2⟩ g1 g0
/-- .. from its beginning -/
theorem FSU.beg {n r : Nat} (hE : EOKS E) (hF : FCX E (L + 1) K A stk p) (hT : FTM K A x0 M) (hV : FVX E L K 1 nx T pl PT PR) (hS : FST E L K A stk p sg m1 s0 m2 H b3 x4 e3) (hv : SIV E L stk p 1 nx (a + 2) v1 b1 b2) (hs : SIV E L stk p 1 nx n s2 r d2) (hu : SIV E L stk p 1 nx (s2 + 4) u3 d5 d6) (hC : FSU E pl n s2 u3 sg H r d2 d3 b4 d5 d6 m2 x4 PT PR) (w1 : gl (cA E) 41 a = wdC 40 0 0) (w2 : gl (cA E) 41 (a + 1) = wdC 35 0 (Int32.ofNat pl)) (w3 : gl (cA E) 41 v1 = wdC 26 0 1) (w4 : gl (cA E) 41 (v1 + 1) = jwC 33 (s2 + 1)) {X Y Z Y2 Z2 : Int32} (o1 : opW (dM E) b 12 X Y Z) (hP : PT (b + 1) b1 (dM E)) (o3 : opW (dM E) b2 7 1 Y2 Z2) (o4 : opW (dM E) (b2 + 1) 10 (Int32.ofNat (b4 + 3)) 0 0) (ha : a + 2 ≤ v1 ∧ v1 + 1 < eNo E 5 0) (hb : b < 60000 ∧ b1 < 60000 ∧ b2 + 1 < 60000) (hn : nx + 4 ≤ 502) (hM : M + 1 < KK ∧ 2 * T + (v1 - a) + (s2 - n) + (u3 - s2) + 20 ≤ S ∧ S + 4 * (b3 - H) + 2 ≤ M)
    (g1 : FG E L K A (x0 + M - 1) (u3 + 4) (d2 + 1)) (g0 : FG E L K A (x0 + M - 1) (u3 + 12) (d6 + 3)) : FG E (L + 1) K A (x0 + M) a b := fun sc x t wA wM J hx hL => by
  obtain ⟨_, _, _, _, ⟨n1, n2, n3⟩, n4, n5, n6, n7, n8, n9⟩ := id hC
  have hEN := hE.1
  have hT2 := hT.2.1
  refine JS.fst hE hF hT J hV hv w1 w2 w3 o1 hP o3 ⟨ha.1, by omega⟩ ⟨hb.1, hb.2.1, by omega⟩ (by omega) hL ⟨hx, by omega⟩ (by omega) (fun _ hR uA uM sc' t' J2 l2 => ?_)
  refine JS.jmp (x1 := x0 + (T + (v1 - a) + 1 : Nat)) hE J2 J2.low w4 o4 (by omega) ⟨hb.2.2, by omega, by omega⟩ ⟨by omega, by omega⟩ (fun yA yM _ _ J3 => ?_)
  exact FSU.tst (S := S) hE (hF.le (by omega)) hT hR hS hs hu hC J3 (by omega) l2 ⟨by omega, by omega⟩ ⟨by omega, hM.2.2⟩ g1 g0
end MI8
