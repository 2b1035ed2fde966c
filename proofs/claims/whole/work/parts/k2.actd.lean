/-! BOTH MACHINES: ACTUALS that aren't worked out: LABELS, ARRAYS, procedures, switches; all of them -/
section KC2
variable {E : SENV} {K : CXT} {Lim p nx a a1 b b1 h sp sc i el j S k n f ac y th a0 b0 : Nat} {x x1 : Int} {wA wM uA uM : Wd} {A B N : ACT} {F : Nat → Int64} {stk : List Nat}
theorem ANO.thl (hS : SYS E) (h : ANO E stk p k n f ac a a1 b b1) (hst : ∀ s ∈ stk, s ∈ aK A) (hp : aP A = p) (h24 : gi (vM E) 24 f = 4) : ∃ e th, a1 = e + 1 ∧ a + 1 ≤ e ∧ gl (cA E) 41 a = jwC 33 e ∧ gl (cA E) 41 e = wdC 23 0 (Int32.ofNat (a + 1)) ∧ gi (dM E) 52 ac = 4 ∧ gi (dM E) 53 ac = Int32.ofNat th ∧ th < 6000 ∧ THL E (a + 1) th A := by
  obtain ⟨hk, hc, hm, hf, ho, h5, ha, hb⟩ := h
  subst hp
  rw [cdc5_4 h24] at hc
  rw [cdm5_4 h24] at hm
  rw [flx5_4 h24] at hf
  rw [okn5] at ho
  obtain ⟨o30, o40⟩ := (ho f).2.2 h24
  have o3 := okn02 o30 hf
  have o4 : NDX (vM E) k 2 n ≤ 502 := by
    have := ndx02 o30 hf
    omega
  obtain ⟨e, e2, c1, c2, c3, c4, c5, c6⟩ := hc
  obtain ⟨d1, d2, th, g1, t1, t2, t3, t4, d3, d4, d5⟩ := hm
  have le := WLE hS hk k 2 n 0 (Or.inl (by omega)) o3 hf
  have e3 := le.1 _ _ _ _ c2
  have e4 := le.2 _ _ _ _ _ d4
  exact ⟨e, th, c6, by omega, c1, c5, d1, t2, t1, stk, k, n, b + 1, e2, g1, hst, t1, t3, t4, c2, c3, d4, d5, hf, o4, o3, ⟨e3, e4⟩, by omega, by omega⟩
/-- all that aren't worked out -/
theorem ANO.ok (hE : EOKS E) (hS : SYS E) (hW : SAD E) (hC : SCA E) (H : JS E K el a0 b0 j sp sc x i wA wM) (hA : K.1[K.2.2 0]? = some A) (hon : aOn A) (hst : ∀ s ∈ stk, s ∈ aK A) (hp : aP A = p) (h : ANO E stk p k n f ac a a1 b b1) (hv : gi (vM E) 24 f = 1 → gi (vM E) 28 f = 0) : a ≤ a1 ∧ ∃ v1 v2 m1 m2, FVL E K.1 K.2.1 f v1 v2 m1 m2 ∧ RFM E K wM ac f m1 m2 ∧ CWD E K f a a1 v1 v2 := by
  obtain ⟨kd, m, C0, hY⟩ := hS.sy h.f6.1
  have hx : ∃ x, x ≤ 5 ∧ gi (vM E) 24 f = Int32.ofNat x := by
    obtain ⟨_, _, _, _, _, _, _, _, hK⟩ := hY
    rcases hK with q | q | q | q | q | q
    · exact absurd (h.f6.2.symm.trans q.1) (by decide)
    · exact absurd (h.f6.2.symm.trans q.1) (by decide)
    · exact absurd (h.f6.2.symm.trans q.1) (by decide)
    · exact absurd (h.f6.2.symm.trans q.1) (by decide)
    · exact absurd (h.f6.2.symm.trans q.1) (by decide)
    · exact q.2.2.2.1
  have h0 : gi (vM E) 24 f ≠ 0 := by
    obtain ⟨kd, m, C, c1, c2, c3, c4, c5, c6, c7, c8, c9, c10, c10', c11⟩ := hS
    exact (c10' f (by have := h.f6.1; omega) h.f6.2).1
  by_cases h1 : gi (vM E) 24 f = 1
  · obtain ⟨e, th, e1, e2, e3, e4, e5, e6, e7, e8⟩ := h.thv hS hst hp h1 (hv h1)
    have ha := h.2.2.2.2.2.2.1
    subst e1
    have hw : wdF E f = 2 := by
      unfold wdF
      rw [if_neg (by
        rintro (q | q)
        · rw [h1] at q; exact absurd q (by decide)
        · exact q.2 (hv h1))]
    exact ⟨by omega, _, _, _, _, FVL.f1 h1 (hv h1) ⟨a + 1, th, K.2.2 0, A, hA, hon, rfl, rfl, rfl, rfl, e8⟩, RFM.thk (Or.inl e5) e6 e7, CWD.thk hE hA e3 e4 ⟨e2, by omega⟩ hw⟩
  by_cases h4 : gi (vM E) 24 f = 4
  · obtain ⟨e, th, e1, e2, e3, e4, e5, e6, e7, e8⟩ := h.thl hS hst hp h4
    have ha := h.2.2.2.2.2.2.1
    subst e1
    have hw : wdF E f = 2 := by
      unfold wdF
      rw [if_neg (by
        rintro (q | q)
        · rw [h4] at q; exact absurd q (by decide)
        · rw [h4] at q; exact absurd q.1 (by decide))]
    exact ⟨by omega, _, _, _, _, FVL.f4 h4 ⟨a + 1, th, K.2.2 0, A, hA, hon, rfl, rfl, rfl, rfl, e8⟩, RFM.thk (Or.inr e5) e6 e7, CWD.thk hE hA e3 e4 ⟨e2, by omega⟩ hw⟩
  have h235 : gi (vM E) 24 f = 2 ∨ gi (vM E) 24 f = 3 ∨ gi (vM E) 24 f = 5 := by
    obtain ⟨x, x1, x2⟩ := hx
    have : x = 0 ∨ x = 1 ∨ x = 2 ∨ x = 3 ∨ x = 4 ∨ x = 5 := by omega
    rcases this with q | q | q | q | q | q <;> subst q
    · exact absurd x2 h0
    · exact absurd x2 h1
    · exact Or.inl x2
    · exact Or.inr (Or.inl x2)
    · exact absurd x2 h4
    · exact Or.inr (Or.inr x2)
  obtain ⟨hk, hc, hm, hf, ho, h5, ha, hb⟩ := h
  subst hp
  rw [cdc5_d h1 h4 h0] at hc
  rw [cdm5_d h1 h4 h0] at hm
  rw [flx5_d h1 h4 h0] at hf
  have h7 : gi (vM E) 7 n = 3 := by
    by_cases q : gi (vM E) 7 n = 3
    · exact q
    · rw [if_pos q] at hf
      exact absurd (app_nil hf).1 (by simp)
  rw [if_neg (fun q => q h7)] at hf
  obtain ⟨hf1, hf2⟩ := app_nil hf
  have hl0 := notD_n hf1
  obtain ⟨y', j', nn, B, ey, F⟩ := H.fns hS hA hon hst (tk := nd (vM E) 12 n) hl0
  have hno : ¬ FO (vM E) y' 0 := by
    have := hS.no0 hk (tk := nd (vM E) 12 n)
    rw [ey] at this
    have := this (by omega)
    rw [Nat.add_sub_cancel] at this
    exact this
  rw [ey] at hc hm hf2
  rw [Nat.add_sub_cancel] at hm hf2
  rw [if_neg (by omega)] at hf2
  have hz : (gi (vM E) 19 y' = gi (vM E) 24 f ∨ FO (vM E) y' (gi (vM E) 24 f)) ∧ (gi (vM E) 24 f = 5 ∨ gi (vM E) 20 y' = gi (vM E) 20 f) := by
    by_cases q : (gi (vM E) 19 y' = gi (vM E) 24 f ∨ FO (vM E) y' (gi (vM E) 24 f)) ∧ (gi (vM E) 24 f = 5 ∨ gi (vM E) 20 y' = gi (vM E) 20 f)
    · exact q
    · rw [if_neg q] at hf2
      exact (misS_n (l := y' + 1) (fun _ => by rw [Nat.add_sub_cancel]; exact hno) (by omega) (by rw [misS, Nat.add_sub_cancel]; exact hf2)).elim
  rw [if_pos hz] at hf2
  have h6 : gi (vM E) 24 f ≠ 6 := by rcases h235 with q | q | q <;> rw [q] <;> decide
  have w14 : gi (vA E) 14 (y' + 1) = gi (vM E) 24 f := by
    have := hS.is hk (tk := nd (vM E) 12 n) h6 h0
    rw [ey, Nat.add_sub_cancel] at this
    exact this.mpr ⟨by omega, hz.1⟩
  have hpu : puC (vA E) (eLV E (aP A)) (y' + 1) a a1 (cA E) := by
    rcases hc with ⟨q, _⟩ | ⟨_, q⟩
    · exact absurd (w14.symm.trans q) h0
    · exact q
  obtain ⟨hm1, hm2⟩ := hm
  have hm3 := hm2.elim (fun q => absurd q hno) id
  obtain ⟨m53, hm4⟩ := hm3
  obtain ⟨hw0, e1⟩ := hpu
  subst e1
  refine ⟨by omega, ?_⟩
  obtain ⟨f1, f2, f3, f4, f5, f6, f7, f8, f9, f10, f11s, f15⟩ := id F
  rw [f7] at m53
  have hmt : K.2.2 2 ≤ 199000 := by
    obtain ⟨A', e1, e2, C, M⟩ := H.ck
    exact M.2.2.2.2.2.2.2.2.2.2.2.2.2.2.2.1
  have hbB := (H.act f2).2.2.2.2.2.1
  have D := F.nds H hA
  by_cases y6 : gi (vM E) 19 y' = 6
  · -- a formal that's handed on
    have f12' := f11s (Or.inr (Or.inr y6))
    have hFO : gi (vM E) 24 y' = gi (vM E) 24 f := hz.1.elim (fun q => absurd (q.symm.trans y6) h6) (fun q => q.2)
    obtain ⟨k1, k2, k3, k4, k5⟩ := D.fml hS y6
    have y28 : gi (vM E) 28 y' = 0 := by
      obtain ⟨kd, m, C0, hY'⟩ := hS.sy f1
      by_cases z : gi (vM E) 28 y' = 0
      · exact z
      · exact absurd ((hY'.val y6 z).symm.trans hFO).symm h1
    have w16 : gi (vA E) 16 (y' + 1) = 3 := by
      obtain ⟨kd, m, C0, hY'⟩ := hS.sy f1
      exact hY'.fml.mpr ⟨y6, y28⟩
    have hm5 : gi (dM E) 52 ac = 10 ∧ gi (dM E) 54 ac = gi (vM E) 26 y' := by
      rcases hm4 with q | q
      · exact q.2
      · exact absurd y6 q.2.1
    rw [k3] at hm5
    obtain ⟨_, _, _, _, _, g6, g7, g8, g9⟩ := f4
    rcases h235 with q | q | q
    · rw [w14, q, if_pos rfl, if_pos w16, k1, k2] at hw0
      obtain ⟨xx, qq, nb, r1, r2⟩ := g6 y6 (hFO.trans q)
      obtain ⟨z1, z2, z3⟩ := H.rmc r1 (by omega)
      have hw : wdF E f = 1 := by
        unfold wdF
        rw [if_pos (Or.inl q)]
      have h20 : gi (vM E) 20 y' = gi (vM E) 20 f := hz.2.elim (fun c => absurd (q.symm.trans c) (by decide)) id
      rw [h20] at r2
      exact ⟨_, 0, _, 0, FVL.f2 q ⟨xx, qq, nb, rfl, rfl, r2⟩, RFM.far H F m53 hm5.2 (by omega) (Or.inl ⟨hm5.1, z2, z1, by omega, fun c => absurd q c⟩) (by omega), CWD.val hE hA F hw0 r1 (by omega) hw⟩
    · rw [w14, q, if_neg (by decide), if_pos w16, k1, k2] at hw0
      obtain ⟨pp, jj, BB, r1, r2, r3, r4, r5, r6, r7⟩ := g7 y6 (hFO.trans q)
      obtain ⟨z1, z2, z3⟩ := H.rmc r3 (by omega)
      obtain ⟨z4, z5, z6⟩ := H.rmc r4 (by omega)
      have hw : wdF E f = 2 := by
        unfold wdF
        rw [if_neg (by
          rintro (c | c)
          · rw [q] at c; exact absurd c (by decide)
          · rw [q] at c; exact absurd c.1 (by decide))]
      have h20 : gi (vM E) 20 y' = gi (vM E) 20 f := hz.2.elim (fun c => absurd (q.symm.trans c) (by decide)) id
      exact ⟨_, _, _, _, FVL.f3 q ⟨pp, jj, BB, r1, r2, rfl, rfl, rfl, rfl, r5, r6, r7.trans h20⟩, RFM.far H F m53 hm5.2 (by omega) (Or.inl ⟨hm5.1, z2, z1, by omega, fun _ => ⟨z5, z4⟩⟩) (by omega), CWD.pair hE hA F hw0 r3 r4 (by omega) hw⟩
    · rw [w14, q, if_neg (by decide), if_pos w16, k1, k2] at hw0
      obtain ⟨kk, jj, BB, xx, r1, r2, r0, r3, r4, r5⟩ := g9 y6 (hFO.trans q)
      obtain ⟨z1, z2, z3⟩ := H.rmc r3 (by omega)
      obtain ⟨z4, z5, z6⟩ := H.rmc r4 (by omega)
      have hw : wdF E f = 2 := by
        unfold wdF
        rw [if_neg (by
          rintro (c | c)
          · rw [q] at c; exact absurd c (by decide)
          · rw [q] at c; exact absurd c.1 (by decide))]
      exact ⟨_, _, _, _, FVL.f5 q ⟨kk, jj, BB, xx, r1, r2, r0, rfl, rfl, rfl, rfl, r5⟩, RFM.far H F m53 hm5.2 (by omega) (Or.inl ⟨hm5.1, z2, z1, by omega, fun _ => ⟨z5, z4⟩⟩) (by omega), CWD.pair hE hA F hw0 r3 r4 (by omega) hw⟩
  · have y19 : gi (vM E) 19 y' = gi (vM E) 24 f := hz.1.elim id (fun q => absurd q.1 y6)
    have hm5 : gi (dM E) 52 ac = gi (vM E) 24 f ∧ gi (dM E) 54 ac = (if gi (vM E) 24 f = 3 then gi (vM E) 24 y' else if gi (vM E) 24 f = 5 then Int32.ofNat y' else gi (vM E) 26 y') := by
      rcases hm4 with q | q
      · exact absurd q.1.1 y6
      · exact q.2.2
    obtain ⟨kd, m, C0, hY'⟩ := hS.sy f1
    have w16 : gi (vA E) 16 (y' + 1) ≠ 3 := fun q => y6 (hY'.fml.mp q).1
    rcases h235 with q | q | q
    · have w2 := y19.trans q
      have hop : hpC (vA E) (eLV E (aP A)) (y' + 1) = Int32.ofNat nn := by
        unfold hpC
        rw [if_neg (fun c => ?_)]
        · exact f8
        · obtain ⟨_, _, _, _, _, _, _, _, hK⟩ := hY'
          rcases hK with g | g | g | g | g | g
          · exact absurd (w2.symm.trans g.1) (by decide)
          · rw [g.2.2.1] at c; exact absurd c (by decide)
          · exact absurd (w2.symm.trans g.1) (by decide)
          · exact absurd (w2.symm.trans g.1) (by decide)
          · exact absurd (w2.symm.trans g.1) (by decide)
          · exact absurd g.1 y6
      obtain ⟨f11, f12, f13, f14⟩ := f11s (Or.inr (Or.inl w2))
      rw [w14, q, if_pos rfl, if_neg w16, hop, f13] at hw0
      have hD := f4.2.2.1 w2
      have hD' := hD
      obtain ⟨base, sz, lo, hi, r1, r2, r3⟩ := hD
      obtain ⟨z1, z2, z3⟩ := H.rmc r1 (by omega)
      rw [q, if_neg (by decide), if_neg (by decide), f11] at hm5
      have hw : wdF E f = 1 := by
        unfold wdF
        rw [if_pos (Or.inl q)]
      have h20 : gi (vM E) 20 y' = gi (vM E) 20 f := hz.2.elim (fun c => absurd (q.symm.trans c) (by decide)) id
      rw [h20] at hD'
      exact ⟨_, 0, _, 0, FVL.f2 q ⟨_, _, _, rfl, rfl, hD'⟩, RFM.far H F m53 hm5.2 (by omega) (Or.inr (Or.inl ⟨hm5.1, q, by omega, rfl⟩)) (by omega), CWD.plc hE hA F hw0 r1 (by omega) hw⟩
    · have w2 := y19.trans q
      obtain ⟨g16, g14, hop⟩ := D.hop hS (Or.inl w2)
      rw [w14, q, if_neg (by decide), if_neg w16, hop] at hw0
      obtain ⟨pp, p1, p2, p3, p4, p5, p6, p6', p7, p8⟩ := F.cab hS hC H w2
      obtain ⟨s1, xx, s2, s3⟩ := hW y' f1 (Or.inl w2)
      rw [q, if_pos rfl, p1] at hm5
      have hw : wdF E f = 2 := by
        unfold wdF
        rw [if_neg (by
          rintro (c | c)
          · rw [q] at c; exact absurd c (by decide)
          · rw [q] at c; exact absurd c.1 (by decide))]
      have h20 : gi (vM E) 20 y' = gi (vM E) 20 f := hz.2.elim (fun c => absurd (q.symm.trans c) (by decide)) id
      have h31 : gi (vM E) 31 pp = 0 := by
        have hle : gi (vM E) 31 (nd (vM E) 24 y') ≤ 0 := by
          by_cases c : gi (vM E) 31 (nd (vM E) 24 y') ≤ 0
          · exact c
          · rw [if_pos ⟨q, w2, c⟩] at hf2
            exact absurd hf2 (by simp)
        obtain ⟨p', nf, ff, r1, r2, r3, r4, r5, r6, r7, r8, r9, r10, r11, r12, r13, r14, r15⟩ := hS.pf f1 w2
        have e9 : p' = pp := r4.symm.trans p2
        subst e9
        rw [p2, r6] at hle
        have := (le_iN (a := nf) (b := 0) (by omega) (by omega)).mp hle
        rw [r6, show nf = 0 by omega]; rfl
      have hxx : gl (cA E) 41 (y' + 1) = Int64.ofNat xx := s2
      have e9 : Int64.ofNat xx = Int64.ofNat (eNo E 0 pp) := s2.symm.trans p8
      refine ⟨Int64.ofNat xx, _, Int64.ofNat pp, Int64.ofNat j', FVL.f3 q ⟨pp, j', B, f2, f3, e9, rfl, rfl, rfl, p7, h31, by rw [p6]; exact h20⟩, RFM.far H F m53 hm5.2 (by omega) (Or.inr (Or.inr ⟨Or.inl hm5.1, rfl, rfl⟩)) (by omega), CWD.at_ hE hA F hw0 s1 s2 s3 (by omega) hw⟩
    · have w2 := y19.trans q
      obtain ⟨g16, g14, hop⟩ := D.hop hS (Or.inr (Or.inr w2))
      rw [w14, q, if_neg (by decide), if_neg w16, hop] at hw0
      obtain ⟨s1, xx, s2, s3⟩ := hW y' f1 (Or.inr (Or.inr w2))
      rw [q, if_neg (by decide), if_pos rfl] at hm5
      have hw : wdF E f = 2 := by
        unfold wdF
        rw [if_neg (by
          rintro (c | c)
          · rw [q] at c; exact absurd c (by decide)
          · rw [q] at c; exact absurd c.1 (by decide))]
      obtain ⟨s, g1, g2, g3⟩ := f15
      have hy9 : y' < 100000 := by
        obtain ⟨kd, m, C, c1, c2, c3, c4, _⟩ := hS
        omega
      exact ⟨Int64.ofNat xx, _, Int64.ofNat y', Int64.ofNat j', FVL.f5 q ⟨y', j', B, xx, f2, f3, s2, rfl, rfl, rfl, rfl, f1, w2, s, g1, g2, g3⟩, RFM.far H F m53 hm5.2 hy9 (Or.inr (Or.inr ⟨Or.inr hm5.1, rfl, rfl⟩)) (by omega), CWD.at_ hE hA F hw0 s1 s2 s3 (by omega) hw⟩
end KC2
