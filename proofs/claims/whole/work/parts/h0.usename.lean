/-! BOTH MACHINES: NAMES as values and places -/
section HN
variable {E : SENV} {Lim k n p nx a a1 b b1 y tk : Nat} {stk : List Nat} {ty : Int32}
/-- a formal by name: m: 0 its value, 1 its place -/
theorem SIG.fmn (hE : EOKS E) (hS : SYS E) (hU : USD E Lim) {m : Nat} (hm : m ≤ 1) (hl : eLU E stk tk = y + 1) (h6 : FO (vM E) y 1) (h28 : gi (vM E) 28 y = 0) (hw : gl (cA E) 41 a = wdC 21 (hpC (vA E) (eLV E p) (y + 1)) (gi (vA E) 18 (y + 1))) (hw2 : gl (cA E) 41 (a + 1) = wdC 44 0 (Int32.ofNat m)) (ho : opW (dM E) b 4 (upI (vM E) (eLV E p) y) (gi (vM E) 26 y) (Int32.ofNat m)) (ha : a + 1 < eNo E 5 0) (hb : b < 60000) (hn : 2 ≤ nx) : SIG E Lim stk p (if Int32.ofNat m = 0 then PV (gi (vM E) 20 y) else PP (gi (vM E) 20 y)) 1 nx a (a + 2) b (b + 1) := by
  intro K A h sp sc x i wA wM hA hon hstk hp H hH hL hh hxa hxk hc
  subst hp
  have hd := H.dep
  obtain ⟨y', j, n, B, e, F⟩ := H.sym hS hA hon hstk (tk := tk) (fun q => absurd (hl.symm.trans q) (by omega))
  have : y' = y := by
    have := e.symm.trans hl
    omega
  subst this
  have e2 : x + ((a + 2 : Nat) - (a : Int)) = x + 2 := by omega
  rw [e2] at hc hxk
  have hm01 : m = 0 ∨ m = 1 := by omega
  refine USD.fml (m := Int32.ofNat m) (X := Int32.ofNat m) hE hS F hU h6 h28 hw ho (fun uA J OA => ?_) (Or.inr ⟨?_, rfl⟩) H hA hon ha hb hH hL (by omega) (fun j B hB => by have := hxa j B hB; omega) hxk ?_ hc
  · obtain ⟨C, _⟩ := J.cka hA
    exact k_use C ha hw2 (by omega)
  · rcases hm01 with e | e <;> rw [e] <;> decide
  · rcases hm01 with e | e <;> rw [e]
    · exact Or.inl rfl
    · exact Or.inr rfl
/-- procedure's result: its place in the frame of the procedure round what's at hand -/
def RSP (E : SENV) (Lim : Nat) : Prop := ∀ (stk : List Nat) (p y a b : Nat), SCE E stk → y < eNo E 5 2 → gi (vM E) 19 y = 3 → gi (vM E) 20 y ≠ 0 → inPr (vM E) (gi (vM E) 24 y) 9000 (Int32.ofNat p) = true → gl (cA E) 41 a = wdC 20 (Int32.ofNat (eLV E p) - (gi (vA E) 17 (y + 1) + 1)) 5 → opW (dM E) b 3 (Int32.ofNat (eLV E p) - gi (vM E) 30 (nd (vM E) 24 y)) 0 0 → a < eNo E 5 0 → b < 60000 → SIG E Lim stk p (PP (gi (vM E) 20 y)) 1 2 a (a + 1) b (b + 1)
/-- a call without ACTUALS, of a procedure or a formal -/
def CL0 (E : SENV) (Lim : Nat) : Prop := ∀ (stk : List Nat) (p y tk a b : Nat), SCE E stk → eLU E stk tk = y + 1 → y < eNo E 5 2 → gi (vM E) 19 y = 3 ∨ FO (vM E) y 3 → gi (vM E) 20 y ≠ 0 → (gi (vM E) 19 y = 3 → gi (vM E) 31 (nd (vM E) 24 y) ≤ 0) → gl (cA E) 41 a = wdC 41 0 0 → puC (vA E) (eLV E p) (y + 1) (a + 1) (a + 2) (cA E) → gl (cA E) 41 (a + 2) = wdC 42 0 0 → cdP (vM E) (eLV E p) y 1 b (dM E) → a + 3 < eNo E 5 0 → b + 1 < 60000 → SIV E Lim stk p (gi (vM E) 20 y) 2 a (a + 3) b (b + 1)
/-- symbols that are VARIABLES or TYPE formals, by their words -/
theorem SYS.v16 (hS : SYS E) (hy : y < eNo E 5 2) : (gi (vM E) 19 y = 1 → gi (vA E) 16 (y + 1) ≠ 3) ∧ (FO (vM E) y 1 → (gi (vA E) 16 (y + 1) = 3 ↔ gi (vM E) 28 y = 0)) := by
  obtain ⟨kd, m, C, hY⟩ := hS.sy hy
  refine ⟨fun h q => ?_, fun h => ?_⟩
  · exact absurd (h.symm.trans (hY.fml.mp q).1) (by decide)
  · exact ⟨fun q => (hY.fml.mp q).2, fun q => hY.fml.mpr ⟨h.1, q⟩⟩
theorem NOD.n3 (hE : EOKS E) (hS : SYS E) (hU : USD E Lim) (hC : CL0 E Lim) (H : NOD E stk p (k + 1) 0 n a a1 b b1) (h : gi (vM E) 7 n = 3) : SIM E Lim stk p (k + 1) 0 n a a1 b b1 := by
  obtain ⟨h1, h2, h3, h4, h5, h6, h7⟩ := H
  rw [cdc0_3 h] at h2
  rw [cdm0_3 h] at h3
  rw [flx0_3 h] at h4
  obtain ⟨q, hq⟩ := flY_n (hS.no0 h1) h4
  apply SIM.of
  rw [tyx_3 h, ndx0_3 h]
  obtain ⟨y, ey⟩ : ∃ y, eLU E stk (nd (vM E) 12 n) = y + 1 := ⟨eLU E stk (nd (vM E) 12 n) - 1, (Nat.sub_add_cancel (Nat.pos_of_ne_zero q)).symm⟩
  have hy := hS.nm h1 ey
  have his := fun {x : Int32} (hx : x ≠ 6) (h0 : x ≠ 0) => hS.is h1 (tk := nd (vM E) 12 n) hx h0
  rw [ey] at h2 h3 hq his ⊢
  rw [Nat.add_sub_cancel] at hq his
  unfold tyY
  rw [if_neg (by omega), Nat.add_sub_cancel]
  unfold cdY at h3
  rw [Nat.add_sub_cancel] at h3
  rcases h3 with ⟨h3, _⟩ | ⟨_, h3⟩
  · omega
  obtain ⟨w1, w2⟩ := hS.v16 hy
  rcases hq with hq | ⟨hq, hq2, hq3⟩
  · rw [if_pos (hq.elim Or.inl (fun c => Or.inr (Or.inl c)))]
    have n3 : gi (vA E) 14 (y + 1) ≠ 3 := fun c => by
      have := ((his (by decide) (by decide)).mp c).2
      rcases this with g | g
      · rcases hq with g' | g'
        · exact absurd (g.symm.trans g') (by decide)
        · exact absurd (g.symm.trans g'.1) (by decide)
      · rcases hq with g' | g'
        · exact absurd (g.1.symm.trans g') (by decide)
        · exact absurd (g.2.symm.trans g'.2) (by decide)
    rw [if_neg n3] at h2
    rcases hq with hq | hq
    · rcases h2 with ⟨c, _⟩ | ⟨_, c2, c3⟩
      · exact absurd c (w1 hq)
      rcases h3 with ⟨_, d2, d3⟩ | ⟨d, _⟩ | ⟨d, _⟩ | ⟨d, _⟩
      · subst c3
        subst d3
        exact SIV.nam hE hS ey (Or.inl hq) c2 d2 (by rw [if_pos hq]) (by omega) (by omega) (by omega)
      · exact absurd (hq.symm.trans d.1) (by decide)
      · exact (d.elim (fun d => absurd (hq.symm.trans d) (by decide)) (fun d => absurd (hq.symm.trans d.1) (by decide)))
      · exact absurd (Or.inl hq) d
    · have hn1 : gi (vM E) 19 y ≠ 1 := by rw [hq.1]; decide
      rcases h3 with ⟨d, _⟩ | ⟨_, d2, d3⟩ | ⟨d, _⟩ | ⟨d, _⟩
      · exact absurd d hn1
      · subst d3
        rcases h2 with ⟨c, c2, c3, c4⟩ | ⟨c, c2, c3⟩
        · subst c4
          have h28 := (w2 hq).mp c
          rw [if_pos h28] at d2
          have := SIG.fmn (m := 0) (nx := 2) hE hS hU (by omega) ey hq h28 c2 c3 d2 (by omega) (by omega) (Nat.le_refl _)
          exact SIV_g.mpr this
        · subst c3
          have h28 : gi (vM E) 28 y ≠ 0 := fun z => c ((w2 hq).mpr z)
          rw [if_neg h28] at d2
          exact SIV.nam hE hS ey (Or.inr ⟨hq, h28⟩) c2 d2 (by rw [if_neg hn1]) (by omega) (by omega) (by omega)
      · exact (d.elim (fun d => absurd (hq.1.symm.trans d) (by decide)) (fun d => absurd (hq.2.symm.trans d.2) (by decide)))
      · exact absurd (Or.inr (Or.inl hq)) d
  · rw [if_pos (Or.inr (Or.inr hq))]
    have y3 : gi (vA E) 14 (y + 1) = 3 := (his (by decide) (by decide)).mpr ⟨by omega, hq⟩
    rw [if_pos y3] at h2
    obtain ⟨c1, c2, c3, c4⟩ := h2
    subst c4
    rcases h3 with ⟨d, _⟩ | ⟨d, _⟩ | ⟨_, d⟩ | ⟨d, _⟩
    · exact hq.elim (fun c => absurd (d.symm.trans c) (by decide)) (fun c => absurd (d.symm.trans c.1) (by decide))
    · exact hq.elim (fun c => absurd (d.1.symm.trans c) (by decide)) (fun c => absurd (d.2.symm.trans c.2) (by decide))
    · rcases d with ⟨d, _⟩ | ⟨_, d2, d3⟩
      · exact absurd d hq2
      · subst d3
        exact hC stk p y _ a b h1 ey hy hq hq2 hq3 c1 c2 c3 d2 h6 h7
    · exact absurd (Or.inr (Or.inr hq)) d
theorem NOD.p3 (hE : EOKS E) (hS : SYS E) (hU : USD E Lim) (hR : RSP E Lim) (H : NOD E stk p (k + 1) 1 n a a1 b b1) (h : gi (vM E) 7 n = 3) : SIM E Lim stk p (k + 1) 1 n a a1 b b1 := by
  obtain ⟨h1, h2, h3, h4, h5, h6, h7⟩ := H
  rw [cdc1_3 h] at h2
  rw [cdm1_3 h] at h3
  obtain ⟨q, hq⟩ := flx13_n (hS.no0 h1) h h4
  obtain ⟨y, ey⟩ : ∃ y, eLU E stk (nd (vM E) 12 n) = y + 1 := ⟨eLU E stk (nd (vM E) 12 n) - 1, (Nat.sub_add_cancel (Nat.pos_of_ne_zero q)).symm⟩
  have hy := hS.nm h1 ey
  have his := fun {x : Int32} (hx : x ≠ 6) (h0 : x ≠ 0) => hS.is h1 (tk := nd (vM E) 12 n) hx h0
  unfold SIM PMD cnP
  rw [if_neg (by decide), if_pos rfl, if_neg (by decide), ndx1_3 h]
  unfold tyP plT
  rw [if_neg (by rw [h]; decide), ey]
  rw [ey] at h2 h3 hq his
  rw [Nat.add_sub_cancel] at hq his ⊢
  rw [if_neg (by omega)]
  unfold cdL at h3
  rw [Nat.add_sub_cancel] at h3
  obtain ⟨w1, w2⟩ := hS.v16 hy
  rcases hq with hq | hq | ⟨hq, hq2, hq3⟩
  · rw [if_pos (Or.inl hq)]
    have n3 : gi (vA E) 14 (y + 1) ≠ 3 := fun c => by
      rcases ((his (by decide) (by decide)).mp c).2 with g | g
      · exact absurd (g.symm.trans hq) (by decide)
      · exact absurd (g.1.symm.trans hq) (by decide)
    rw [if_neg n3] at h2
    rcases h2 with ⟨c, _⟩ | ⟨_, c2, c3⟩
    · exact absurd c (w1 hq)
    rcases h3 with ⟨_, d2, d3⟩ | ⟨d, _⟩ | ⟨d, _⟩ | ⟨d, _⟩ | ⟨d, _⟩
    · subst c3
      subst d3
      exact SIG.nam hE hS ey (Or.inl hq) c2 d2 (by rw [if_pos hq]) (by omega) (by omega) (by omega)
    · exact absurd (hq.symm.trans d.1) (by decide)
    · exact absurd (hq.symm.trans d.1) (by decide)
    · exact absurd (hq.symm.trans d) (by decide)
    · exact absurd (hq.symm.trans d.1) (by decide)
  · rw [if_pos (Or.inr hq)]
    have hn1 : gi (vM E) 19 y ≠ 1 := by rw [hq.1]; decide
    have n3 : gi (vA E) 14 (y + 1) ≠ 3 := fun c => by
      rcases ((his (by decide) (by decide)).mp c).2 with g | g
      · exact absurd (g.symm.trans hq.1) (by decide)
      · exact absurd (g.2.symm.trans hq.2) (by decide)
    rw [if_neg n3] at h2
    rcases h3 with ⟨d, _⟩ | ⟨_, d1, d2, d3⟩ | ⟨_, d1, d2, d3⟩ | ⟨d, _⟩ | ⟨d, _⟩
    · exact absurd d hn1
    · subst d3
      rcases h2 with ⟨c, _⟩ | ⟨c, c2, c3⟩
      · exact absurd ((w2 hq).mp c) d1
      · subst c3
        exact SIG.nam hE hS ey (Or.inr ⟨hq, d1⟩) c2 d2 (by rw [if_neg hn1]) (by omega) (by omega) (by omega)
    · subst d3
      rcases h2 with ⟨c, c2, c3, c4⟩ | ⟨c, _⟩
      · subst c4
        exact SIG.fmn (m := 1) (nx := 2) hE hS hU (by omega) ey hq d1 c2 c3 d2 (by omega) (by omega) (Nat.le_refl _)
      · exact absurd ((w2 hq).mpr d1) c
    · exact absurd (hq.1.symm.trans d) (by decide)
    · exact absurd (hq.2.symm.trans d.2) (by decide)
  · rw [if_neg (fun c => c.elim (fun c => absurd (hq.symm.trans c) (by decide)) (fun c => absurd (hq.symm.trans c.1) (by decide))), if_pos ⟨rfl, hq, hq2, hq3⟩]
    rw [if_pos ((his (by decide) (by decide)).mpr ⟨by omega, Or.inl hq⟩)] at h2
    obtain ⟨c1, c2⟩ := h2
    rcases h3 with ⟨d, _⟩ | ⟨d, _⟩ | ⟨d, _⟩ | ⟨_, d2, d3⟩ | ⟨d, _⟩
    · exact absurd (hq.symm.trans d) (by decide)
    · exact absurd (hq.symm.trans d.1) (by decide)
    · exact absurd (hq.symm.trans d.1) (by decide)
    · subst c2
      subst d3
      exact hR stk p y a b h1 hy hq hq2 hq3 c1 d2 (by omega) (by omega)
    · exact absurd (hq.symm.trans d.1) (by decide)
end HN
