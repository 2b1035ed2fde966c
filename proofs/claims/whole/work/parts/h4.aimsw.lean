/-! BOTH MACHINES: AIMS out of switches -/
section AS
variable {E : SENV} {K : CXT} {Lim k n p nx a a1 b b1 y tk h sp sc i el j : Nat} {x : Int} {wA wM uA uM : Wd} {stk : List Nat} {ty : Int32} {A B : ACT} {v : Int64}
theorem NOD.a4 (hE : EOKS E) (hS : SYS E) (hW : SAD E) (hT : SWT E) (hX : ∀ L, L < Lim → ALLX E L) (ih : ALLk E Lim k) (H : NOD E stk p (k + 1) 2 n a a1 b b1) (h : gi (vM E) 7 n = 4) : SIM E Lim stk p (k + 1) 2 n a a1 b b1 := by
  have hle := H.le hS (by omega)
  obtain ⟨h1, h2, h3, h4, h5, h6, h7⟩ := H
  rw [cdc2_4 h] at h2
  rw [cdm2_4 h] at h3
  rw [okn2_4 h] at h5
  obtain ⟨q9, q, q1, q2, hq⟩ := flx24_n (hS.no0 h1) h h4
  obtain ⟨y, ey⟩ : ∃ y, eLU E stk (nd (vM E) 12 n) = y + 1 := ⟨eLU E stk (nd (vM E) 12 n) - 1, (Nat.sub_add_cancel (Nat.pos_of_ne_zero q)).symm⟩
  have hy := hS.nm h1 ey
  unfold SIM PMD cnP
  rw [if_neg (by decide), if_neg (by decide), if_pos rfl, ndx2_4 h]
  rw [ey] at h2 h3 hq
  rw [Nat.add_sub_cancel] at hq h3
  obtain ⟨a2, a3, c1, ⟨c2, c3⟩, c4, c5⟩ := h2
  subst c3
  subst c5
  obtain ⟨b2, d1, d2⟩ := h3
  have l1 := WLE hS h1 k 0 (nd (vM E) 8 n) 0 (Or.inl (by omega)) h5 q1
  have e1 := l1.1 _ _ _ _ c1
  have e2 := l1.2 _ _ _ _ _ d1
  have hb2 : b2 < 60000 := by rcases d2 with ⟨_, _, d⟩ | ⟨_, _, d⟩ | ⟨_, d⟩ <;> omega
  have t1 := TYX_is hS h1 d1 h5 q1 q2
  have v1 := (NOD.sim (md := 0) ih (by omega) ⟨h1, c1, d1, q1, h5, by omega, by omega⟩).v
  rw [t1] at v1
  intro K A hh sp sc x i wA wM hA hon hstk hp H hH hL hh' hxa hxk hc
  subst hp
  have hn3 : 3 ≤ max 3 (NDX (vM E) k 0 (nd (vM E) 8 n)) := Nat.le_max_left _ _
  have hnx : NDX (vM E) k 0 (nd (vM E) 8 n) ≤ max 3 (NDX (vM E) k 0 (nd (vM E) 8 n)) := Nat.le_max_right _ _
  refine v1 K A hh sp sc x i wA wM hA hon hstk rfl H hH hL (by omega) (fun j B hB => by have := hxa j B hB; omega) (by omega) ?_
  intro uA uM v sc1 i1 J1 s1 u1 u2 hv k1
  have hd := J1.dep
  have hEN := hE.1
  have LL := H.lod
  have hsp := H.dep.2.2.1
  obtain ⟨y', j, nn, B, e, F⟩ := J1.sym hS hA hon hstk (tk := nd (vM E) 12 n) q
  have : y' = y := by
    have := e.symm.trans ey
    omega
  subst this
  obtain ⟨f1, f2, f3, f4, f5, f6, f7, f8, f9, f10, f11, f12, f13, f17⟩ := id F
  have ex : x + (a2 - a) + 1 + 1 = x + ((a2 + 1 + 1 : Nat) - (a : Int)) := by omega
  rcases hq with hq | hq
  · obtain ⟨w1, w2, w3⟩ := F.hop hS (Or.inr (Or.inr hq))
    rw [if_neg (by rw [w2, hq]; decide), if_neg (by rw [w1]; decide), w3] at c2
    obtain ⟨z1, xx, z2, z3⟩ := hW y' hy (Or.inr (Or.inr hq))
    obtain ⟨g1, g2, g3, g4, g5⟩ := AT_ok hE J1 hA c2 z1 z2 z3 (Or.inl ⟨by omega, f5⟩) (Nat.le_of_lt (J1.frm f2 f3)) (by omega) (by omega)
    obtain ⟨C, M⟩ := J1.cka hA
    refine JS.stp (k := 1) (j := 0) (x1 := x + (a2 - a) + 1) hE J1 g1 (show SPS 0 uM uM from rfl) (by omega) J1.low g2 (OFF.rf : OFF (PSO (sp + 1)) uM uM) g3 (gi_si0 _ _ _ _) M.2.2.1 M.2.2.2.2.1 ⟨hd.2.1, by omega, by omega, Nat.le_refl _, by omega⟩ ⟨by omega, by omega⟩ (fun J2 => ?_)
    generalize si (sl (pshW uA (a2 + 1) (hh + 1) (Int64.ofNat xx)) 51 (hh + 1 + 1) (Int64.ofNat (aF B))) 48 14 (Int32.ofNat (hh + 1 + 2)) = zA at g1 g2 g3 g4 g5 J2
    rcases d2 with ⟨_, d2, d3⟩ | ⟨d, _⟩ | ⟨d, _⟩
    · subst d3
      obtain ⟨s, r, z5, z6, z7⟩ := F.suf
      obtain ⟨ss, y5, y6, y7⟩ := f17
      refine JS.swi (k := y') (j := j) (v := v) (h := hh) (sp := sp) hE hS hX hT J2 hA hon c4 d2 ((g2 51 hh (by unfold PSK; omega)).2.trans u1) u2 g4 g5 z2 z3 f2 f3 ⟨f1, hq, ss, y5, y6, y7⟩ (fun qq => Or.inl ⟨nn, f8, by omega, rfl, f6.agr (fun _ _ => by rw [gi_si1 (by omega)])⟩) (by omega) hb2 LL hsp hH (by omega) (by omega) (fun j B hB => by have := hxa j B hB; omega) (by omega) ?_
      rw [ex]
      exact fun tA tM sc2 i2 J3 l1 l2 l3 => hc tA tM sc2 i2 J3 (by omega) l2 ((k1.tr ((KEE.st g2 (OFF.rf : OFF (PSO (sp + 1)) uM uM)).le (by omega) (Nat.le_refl _) (by omega) (Nat.le_refl _))).tr l3)
    · exact absurd (hq.symm.trans d.1) (by decide)
    · exact absurd (hq.symm.trans d.1) (by decide)
  · obtain ⟨kd, m, C0, hY⟩ := hS.sy hy
    have h28 : gi (vM E) 28 y' = 0 := by
      by_cases z : gi (vM E) 28 y' = 0
      · exact z
      · exact absurd ((hY.val hq.1 z).symm.trans hq.2) (by decide)
    have w16 : gi (vA E) 16 (y' + 1) = 3 := hY.fml.mpr ⟨hq.1, h28⟩
    have w14 : gi (vA E) 14 (y' + 1) = 5 := by
      have := hY.srt
      rw [if_pos hq.1, hq.2] at this
      exact this
    rw [if_neg (by rw [w14]; decide), if_pos w16] at c2
    obtain ⟨o1, o2, o3, o4, o5⟩ := F.fml hS hq.1
    obtain ⟨kk, j', B', ad, s1', s2, s3, s4, s5, s6⟩ := f4.2.2.2.2.2.2.2.2 hq.1 hq.2
    obtain ⟨z1, xx, z2, z3⟩ := hW kk s6.1 (Or.inr (Or.inr s6.2.1))
    have ead : Int64.ofNat ad = Int64.ofNat xx := s3.symm.trans z2
    rw [ead] at s4
    rw [o1, o2] at c2
    refine JS.pair hE J1 hA c2 o4 s4 s5 (by omega) (by omega) (x1 := x + (a2 - a) + 1) ⟨by omega, by omega⟩ (fun zA OA J2 g4 g5 => ?_)
    obtain ⟨C, M⟩ := J2.cka hA
    obtain ⟨hM, hD⟩ := J2.mem
    have m1 := (hM _ _ _ _ _ _ s4).2.2 (Or.inl rfl)
    have m2 := (hM _ _ _ _ _ _ s5).2.2 (Or.inl rfl)
    have hq' : aB B + sM E y' + 1 < 200000 := by
      rcases (hD.2.2 _ _ _ _ _ _ s5).2.2.1 (by omega) with c | c
      · have := M.2.2.2.2.2.2.2.2.2.2.2.2.2.2.2.1
        omega
      · omega
    unfold RMq at m1 m2
    rw [if_pos (by omega)] at m1 m2
    rcases d2 with ⟨d, _⟩ | ⟨_, d2, d3⟩ | ⟨d, _⟩
    · exact absurd (hq.1.symm.trans d) (by decide)
    · subst d3
      have f13' := f13 (Or.inr (Or.inr hq.1))
      rw [o3] at d2
      refine JS.swi (k := kk) (j := j') (v := v) (h := hh) (sp := sp) hE hS hX hT J2 hA hon c4 d2 ((OA 51 hh (by unfold PSK; omega)).2.trans u1) u2 g4 g5 z2 z3 s1' s2 s6 (fun qq => Or.inr ⟨sM E y', aB B + sM E y', rfl, by omega, o5.nx, hq', (gl_si _ _ _ _ _ _).trans m1, (gl_si _ _ _ _ _ _).trans m2⟩) (by omega) hb2 LL hsp hH (by omega) (by omega) (fun j B hB => by have := hxa j B hB; omega) (by omega) ?_
      rw [ex]
      exact fun tA tM sc2 i2 J3 l1 l2 l3 => hc tA tM sc2 i2 J3 (by omega) l2 ((k1.tr ((KEE.st OA (OFF.rf : OFF (PSO (sp + 1)) uM uM)).le (by omega) (Nat.le_refl _) (by omega) (Nat.le_refl _))).tr l3)
    · exact absurd (hq.2.symm.trans d.2) (by decide)
end AS
