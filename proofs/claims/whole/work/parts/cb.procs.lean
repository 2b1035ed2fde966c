/-! BOTH SIDES: what's noted of a procedure that is being declared -/
section JT
variable {kd wr nm : Nat → Nat} {vv : Nat → Int64} {m z : Nat} {gA gM : Wd} {lv : Bool} {sl us B : Nat} {stk obl stkF : List Nat} {prs : PRL} {C TK : Nat → Nat} {SL : Nat → List Nat} {t d b : Nat} {fa : Int32} {wA wM : Wd} {γ α : Type} {wd : γ → Wd} {S : γ → α → Wd → Prop} {P : (Nat → Nat) → Nat → Wd → Wd → Prop}
def PAU (us k j : Nat) : Prop := (k = 3 ∧ (j = 6 ∨ j = 7)) ∨ (14 ≤ k ∧ k ≤ 24 ∧ k ≠ 17 ∧ k ≠ 21 ∧ k ≠ 22 ∧ us + 1 ≤ j) ∨ PRE k j ∨ k = 33 ∨ k = 36 ∨ k = 37 ∨ k = 39
def PAN (k j : Nat) : Prop := (k = 3 ∧ (j = 6 ∨ j = 7)) ∨ (13 ≤ k ∧ k ≤ 24 ∧ k ≠ 14 ∧ k ≠ 22) ∨ PRE k j ∨ (33 ≤ k ∧ k ≤ 39)
def PMU (us pn k j : Nat) : Prop := (k = 0 ∧ (j = 10 ∨ j = 11)) ∨ ((k = 20 ∨ 24 ≤ k ∧ k ≤ 28) ∧ us ≤ j) ∨ k = 33 ∨ k = 38 ∨ ((k = 31 ∨ k = 32 ∨ k = 35) ∧ j = pn)
/-- faults noted on both sides at once -/
def NTF (wA wM uA uM : Wd) : Prop := (FLA uA = FLA wA ∧ FLM uM = FLM wM) ∨ ∃ (num : Int32) (x : Nat), num ≠ 0 ∧ x ≤ 8192 ∧ FLA uA = FN (FLA wA) num (Int32.ofNat x) ∧ FLM uM = FN (FLM wM) num (Int32.ofNat x)
theorem NTF.exf {Q : Nat → Nat → Prop} {wA wM uA uM : Wd} (h : NTF wA wM uA uM) (hO : OFF Q uM wM) (hQ : ∀ k j, Q k j → k ≠ 16 ∧ k ≠ 21 ∧ k ≠ 35 ∧ ¬ (k = 0 ∧ (j = 28 ∨ j = 42 ∨ j = 53))) : EXF wM uM := by
  rcases h with ⟨_, h⟩ | ⟨num, x, hn, _, _, h⟩
  · exact EXF.mk hO hQ fun hh => by
      show (FLM uM).1 ≠ 0
      rw [h]
      exact hh
  · exact EXF.fn hO hQ h hn
theorem FLN.fng {q : Int32 × Int32} {num : Int32} {x y : Nat} (h : FLN q x) (hn : num ≠ 0) (hy : y < 2147483648) : FLN (FN q num (Int32.ofNat y)) x := by
  obtain ⟨h1, h2⟩ := h
  unfold FN
  rw [if_neg h1]
  have hyi : (Int32.ofNat y).toInt = (y : Int) := by
    rw [Int32.toInt_ofNat_of_lt (by omega)]
  by_cases c1 : Int32.ofNat y < q.2
  · rw [if_pos c1]
    have := Int32.lt_iff_toInt_lt.mp c1
    exact ⟨hn, by show (Int32.ofNat y).toInt < _; omega⟩
  · rw [if_neg c1]
    by_cases c2 : Int32.ofNat y = q.2
    · rw [if_pos c2]
      by_cases c3 : q.1 ≤ num
      · rw [if_pos c3]; exact ⟨h1, h2⟩
      · rw [if_neg c3]
        exact ⟨hn, by show (Int32.ofNat y).toInt < _; rw [c2]; exact h2⟩
    · rw [if_neg c2]; exact ⟨h1, h2⟩
theorem STJ.dn {C' TK' : Nat → Nat} {SL' : Nat → List Nat} {sl' us' d' : Nat} {prs' : PRL} {uA uM : Wd} (h : STJ kd wr nm vv m z gA gM lv sl us stk prs C TK SL t d b fa wA wM) (hl : lv = false) (hO : OFF PAN uA wA) : STJ kd wr nm vv m z gA gM lv sl' us' stk prs' C' TK' SL' t d' b fa uA uM := by
  rcases h with ⟨hlv, _⟩ | ⟨hlv, ht, hin, h0, hP, TK', SL', ns, nsc, hc, hb⟩
  · rw [hl] at hlv; exact absurd hlv (by decide)
  · exact Or.inr ⟨hlv, ht, hin.off hO (fun k j hk => by unfold PAN PRE at hk; omega), h0, OFF.tr (hO.mono fun k j hk => by unfold PAN PRE at hk; unfold PAA; omega) hP, TK', SL', ns, nsc, hc.agr (fun k j hk => (hO k j (by unfold PSC at hk; unfold PAN PRE; omega)).1), hb⟩
theorem STJ.updG {pn sg q sg' q' : Nat} {r : PRL} (h : STJ kd wr nm vv m z gA gM lv sl us stk ((pn, sg, q) :: r) C TK SL t d b fa wA wM) {uA uM : Wd} (hA : lv = false → OFF PAN uA wA) (hl : lv = true → OFF (PAU us) uA wA ∧ OFF (PMU us pn) uM wM ∧ NTF wA wM uA uM ∧ (∀ l, l < r.length → gi uA 36 l = gi wA 36 l) ∧ gi uA 36 r.length = Int32.ofNat sg' ∧ sg' ≤ 6 + 8 * C 1 + C 3 + C 0 ∧ gi uM 35 pn = Int32.ofNat q' ∧ q' ≤ 1 + 8 * C 1 + 2 * C 3 ∧ (∀ i, i < us → gi wM 29 pn = Int32.ofNat i → gi uM 31 pn = gi wM 31 pn ∧ gi uM 32 pn = gi wM 32 pn) ∧ (gi uM 31 pn = gi wM 31 pn ∨ ∃ nf, nf ≤ 5000 ∧ gi uM 31 pn = Int32.ofNat nf ∧ (8 < nf → gi uM 0 10 ≠ 0))) : STJ kd wr nm vv m z gA gM lv sl us stk ((pn, sg', q') :: r) C TK SL t d b fa uA uM := by
  cases lv
  · exact h.dn rfl (hA rfl)
  · obtain ⟨hfa, hJ⟩ := h.jl rfl
    obtain ⟨i1, i2, i3, i4, i5, ⟨b0, b1, b2, b3, b4, b5, b6, b7⟩, i7, ⟨r1, r2, r3, r4, r5⟩, i9, ⟨c1, c2, c3, c4, c5, c6, c7⟩, i11, ⟨l, l1, l2, l3, p0, sg0, q0, r0, l4, l5⟩, i13, i14, i15⟩ := hJ
    obtain ⟨hA, hM, hF, h36l, h36, hsg, h35, hq, h29, h31⟩ := hl rfl
    have e4 : p0 = pn ∧ r0 = r := by
      obtain ⟨e1, e2⟩ := List.cons.inj l4
      exact ⟨((Prod.mk.inj e1).1).symm, e2.symm⟩
    obtain ⟨e4, e5⟩ := e4
    subst e4
    subst e5
    obtain ⟨s1, s2, ⟨n, s3, s4, s5⟩, s6, s7, s8, s9, s10, s11, s12⟩ := i13
    have fA : ∀ k j, ¬ PAU us k j → gi uA k j = gi wA k j := fun k j hk => (hA k j hk).1
    have fM : ∀ k j, ¬ PMU us p0 k j → gi uM k j = gi wM k j := fun k j hk => (hM k j hk).1
    have hin : IN1 kd wr z uA t 0 (-1) := by
      obtain ⟨a, b', c, d'⟩ := i1
      exact ⟨a.off hA (fun k j hp => by unfold PAU PRE at hp; omega), (fA 3 5 (by unfold PAU PRE; omega)).trans b', (fA 14 0 (by unfold PAU PRE; omega)).trans c, (fA 43 4 (by unfold PAU PRE; omega)).trans d'⟩
    refine Or.inl ⟨rfl, hfa, hin, ?_, OFF.tr (hA.mono fun k j hk => by unfold PAU PRE at hk; unfold PAA; omega) i3, OFF.tr (hM.mono fun k j hk => by unfold PMU at hk; unfold PMM; omega) i4, ?_, ⟨b0, b1, b2, b3, b4, b5, b6, b7⟩, i7.agr (fun k j hk => fA k j (by unfold PSC at hk; unfold PAU PRE; omega)), ?_, by rw [fM 0 29 (by unfold PMU; omega)]; exact i9, ?_, ?_, ⟨l, l1, by rw [fA 34 5 (by unfold PAU PRE; omega)]; exact l2, l3, p0, sg', q', r0, rfl, by rw [fM 0 30 (by unfold PMU; omega)]; exact l5⟩, ?_, fun j hj hz => by rw [fA 25 j (by unfold PAU PRE; omega)]; exact i14 j hj hz, ?_⟩
    · obtain ⟨⟨a1, a2, a3, a4, a5⟩, a6, a7, a8, a9⟩ := i2
      exact ⟨⟨a1, a2, a3, a4, fun i hi => by rw [fM 2 i (by unfold PMU; omega), fM 3 i (by unfold PMU; omega)]; exact a5 i hi⟩, a6, a7, by rw [fM 0 7 (by unfold PMU; omega)]; exact a8, by rw [fM 0 8 (by unfold PMU; omega)]; exact a9⟩
    · rcases hF with ⟨f1, f2⟩ | ⟨num, x, f1, f2, f3, f4⟩
      · rw [f1, f2]; exact i5
      · rw [f3, f4]; exact i5.fn f1
    · refine ⟨by rw [fM 0 28 (by unfold PMU; omega)]; exact r1, by rw [fM 0 42 (by unfold PMU; omega)]; exact r2, r3.agr (Nat.le_refl _) (fun s hs => fM 14 s (by unfold PMU; omega)), fun s hs => ?_, fun i hi => by rw [(hM 18 i (by unfold PMU; omega)).2]; exact r5 i hi⟩
      rw [fM 16 s (by unfold PMU; omega)]
      exact (r4 s hs).agr (fun i _ => fM 21 i (by unfold PMU; omega))
    · rw [fM 0 23 (by unfold PMU; omega), fM 0 59 (by unfold PMU; omega), fM 0 53 (by unfold PMU; omega), fA 13 14 (by unfold PAU PRE; omega), fM 0 54 (by unfold PMU; omega), fA 13 13 (by unfold PAU PRE; omega), fA 13 12 (by unfold PAU PRE; omega)]
      exact ⟨c1, c2, c3, c4, c5, c6, c7⟩
    · intro i hi
      refine (i11 i hi).agr LEC.rf (fun k hk => fA k _ (by unfold PAU PRE; omega)) (fA 25 _ (by unfold PAU PRE; omega)) (fun k hk => fM k _ (by unfold PMU; omega)) (fun p _ => fM 30 p (by unfold PMU; omega)) (fun p _ hpi => ?_)
      by_cases hpn : p = p0
      · rw [hpn] at hpi ⊢
        exact ⟨fM 29 p0 (by unfold PMU; omega), (h29 i hi hpi).1, (h29 i hi hpi).2⟩
      · exact ⟨fM 29 p (by unfold PMU; omega), fM 31 p (by unfold PMU; omega), fM 32 p (by unfold PMU; omega)⟩
    · refine ⟨h36, h35, ⟨n, by rw [fA 38 r0.length (by unfold PAU PRE; omega)]; exact s3, by rw [fM 34 p0 (by unfold PMU; omega)]; exact s4, s5⟩, by rw [fM 30 p0 (by unfold PMU; omega)]; exact s6, s7, by rw [fM 37 p0 (by unfold PMU; omega)]; exact s8, s9, hsg, hq, ?_⟩
      exact s12.agr2 LEC.rf (fun l' hl' => ⟨h36l l' hl', fA 38 l' (by unfold PAU PRE; omega)⟩) (fun y hy => by
        have := s9 y hy
        exact ⟨fM 35 _ (by unfold PMU; omega), fM 34 _ (by unfold PMU; omega), fM 30 _ (by unfold PMU; omega), fM 37 _ (by unfold PMU; omega)⟩)
    · have hf : ∀ x, FLN (gi wM 0 10, gi wM 0 11) x → FLN (gi uM 0 10, gi uM 0 11) x := fun x hx => by
        show FLN (FLM uM) x
        have hx' : FLN (FLM wM) x := hx
        rcases hF with ⟨f1, f2⟩ | ⟨num, y, f1, f2, f3, f4⟩
        · rw [f2]; exact hx'
        · rw [f4]; exact FLN.fng hx' f1 (by omega)
      by_cases q31 : gi uM 31 p0 = gi wM 31 p0
      · refine i15.agr b6 rfl rfl (Nat.le_refl _) (fun k' i' hk' => ?_) hf
        by_cases q : k' = 31 ∧ i' = p0
        · rw [q.1, q.2]; exact q31
        · exact fM k' i' (by unfold PMU; omega)
      · have hz : gi wM 0 10 ≠ 0 → gi uM 0 10 ≠ 0 := fun hz => (hf _ (FLN.big hz)).1
        have hc : ∀ p, cntP uM p (C 1) = cntP wM p (C 1) := fun p => cntP_agr _ (fun i hi => ⟨fM 23 i (by unfold PMU; omega), fM 19 i (by unfold PMU; omega)⟩)
        refine ⟨fun p => ⟨fun hp => ?_, fun hp hp2 => by rw [hc]; exact (i15.1 p).2 hp hp2⟩, fun i hi g1 g2 => ?_, fun p nf g1 g2 g3 g4 g5 => ?_, fun i hi hn => by rw [fM 22 i (by unfold PMU; omega)]; exact hf _ (i15.2.2.2 i hi hn)⟩
        · rw [hc, fM 34 p (by unfold PMU; omega)]
          obtain ⟨g1, g2⟩ := (i15.1 p).1 hp
          exact ⟨g1, fun g => hf _ (g2 g)⟩
        · rw [fM 19 i (by unfold PMU; omega)] at g1
          rw [fM 24 i (by unfold PMU; omega)] at g2
          rw [fM 22 i (by unfold PMU; omega)]
          exact hf _ (i15.2.1 i hi g1 g2)
        · by_cases qp : p = p0
          · subst qp
            rcases h31 with h31 | ⟨nf', y1, y2, y3⟩
            · exact absurd h31 q31
            · rw [y2] at g4
              have := (eq_iN (a := nf') (b := nf) (by omega) (by omega)).mp g4
              exact y3 (by omega)
          · rw [fM 31 p (by unfold PMU; omega)] at g4
            exact hz (i15.2.2.1 p nf g1 g2 g3 g4 g5)
theorem STJ.upd {pn sg q sg' q' : Nat} {r : PRL} (h : STJ kd wr nm vv m z gA gM lv sl us stk ((pn, sg, q) :: r) C TK SL t d b fa wA wM) {uA uM : Wd} (hA : lv = false → OFF PAN uA wA) (hl : lv = true → OFF (PAU us) uA wA ∧ OFF (PMU us pn) uM wM ∧ NTF wA wM uA uM ∧ (∀ l, l < r.length → gi uA 36 l = gi wA 36 l) ∧ gi uA 36 r.length = Int32.ofNat sg' ∧ sg' ≤ 6 + 8 * C 1 + C 3 + C 0 ∧ gi uM 35 pn = Int32.ofNat q' ∧ q' ≤ 1 + 8 * C 1 + 2 * C 3 ∧ (∀ i, i < us → gi wM 29 pn ≠ Int32.ofNat i) ∧ (gi uM 31 pn = gi wM 31 pn ∨ ∃ nf, nf ≤ 5000 ∧ gi uM 31 pn = Int32.ofNat nf ∧ (8 < nf → gi uM 0 10 ≠ 0))) : STJ kd wr nm vv m z gA gM lv sl us stk ((pn, sg', q') :: r) C TK SL t d b fa uA uM :=
  h.updG hA (fun hlv => by
    obtain ⟨a1, a2, a3, a4, a5, a6, a7, a8, a9, a10⟩ := hl hlv
    exact ⟨a1, a2, a3, a4, a5, a6, a7, a8, fun i hi e => absurd e (a9 i hi), a10⟩)
/-- a procedure more, on both sides -/
theorem STJ.newp {p sg q : Nat} {r : PRL} (h : STJ kd wr nm vv m z gA gM lv sl us stk ((p, sg, q) :: r) C TK SL t d b fa wA wM) {uA uM : Wd} (hA : lv = false → OFF PAN uA wA) (hl : lv = true → 9 * (C 4 + 1) ≤ wr t + 9 ∧ r.length ≤ 40 ∧ OFF (fun k j => PRE k j ∨ (k = 34 ∧ j = 5) ∨ (k = 35) ∨ (36 ≤ k ∧ k ≤ 39 ∧ j = r.length + 1)) uA wA ∧ OFF (fun k j => (k = 0 ∧ (j = 30 ∨ j = 53)) ∨ (k = 24 ∧ us ≤ j) ∨ ((29 ≤ k ∧ k ≤ 32 ∨ k = 34 ∨ k = 35 ∨ k = 37) ∧ j = C 4)) uM wM ∧ gi uA 34 5 = Int32.ofNat (r.length + 1) ∧ gi uA 36 (r.length + 1) = 6 ∧ gi uA 38 (r.length + 1) = 0 ∧ gi uM 0 30 = Int32.ofNat (C 4) ∧ gi uM 0 53 = Int32.ofNat (C 4 + 1) ∧ gi uM 30 (C 4) = Int32.ofNat (r.length + 1) ∧ gi uM 34 (C 4) = 0 ∧ gi uM 35 (C 4) = 1 ∧ gi uM 37 (C 4) = Int32.ofNat p ∧ gi uM 31 (C 4) = 0) : STJ kd wr nm vv m z gA gM lv sl us stk ((C 4, 6, 1) :: (p, sg, q) :: r) (upC C 4 (C 4 + 1)) TK SL t d b fa uA uM := by
  cases lv
  · exact h.dn rfl (hA rfl)
  · obtain ⟨hfa, hJ⟩ := h.jl rfl
    have htop := hJ.top
    have htq := hJ.topq
    obtain ⟨i1, i2, i3, i4, i5, ⟨b0, b1, b2, b3, b4, b5, b6, b7⟩, i7, ⟨r1, r2, r3, r4, r5⟩, i9, ⟨c1, c2, c3, c4, c5, c6, c7⟩, i11, ⟨l, l1, l2, l3, p0, sg0, q0, r0, l4, l5⟩, i13, i14, i15⟩ := hJ
    obtain ⟨h9, hr, hA, hM, g1, g2, g3, g4, g5, g6, g7, g8, g9, g10⟩ := hl rfl
    have fA : ∀ k j, ¬ (PRE k j ∨ (k = 34 ∧ j = 5) ∨ (k = 35) ∨ (36 ≤ k ∧ k ≤ 39 ∧ j = r.length + 1)) → gi uA k j = gi wA k j := fun k j hk => (hA k j hk).1
    have fM : ∀ k j, ¬ ((k = 0 ∧ (j = 30 ∨ j = 53)) ∨ (k = 24 ∧ us ≤ j) ∨ ((29 ≤ k ∧ k ≤ 32 ∨ k = 34 ∨ k = 35 ∨ k = 37) ∧ j = C 4)) → gi uM k j = gi wM k j := fun k j hk => (hM k j hk).1
    have e : ∀ {i}, i ≠ 4 → upC C 4 (C 4 + 1) i = C i := fun hi => upC_n hi
    have hC : LEC C (upC C 4 (C 4 + 1)) := fun i => by
      by_cases q : i = 4
      · rw [q, upC_s]; omega
      · rw [e q]; exact Nat.le_refl _
    have hyp : ∀ y ∈ ((p, sg, q) :: r : PRL), y.1 < C 4 := fun y hy => by
      rcases List.mem_cons.mp hy with rfl | hy
      · exact htq.2.2
      · have := i13.2.2.2.2.2.2.1 y hy
        have := htq.2.2
        omega
    refine Or.inl ⟨rfl, hfa, i1.off hA (fun k j hk => by unfold PRE at hk; omega), ?_, OFF.tr (hA.mono fun k j hk => by unfold PRE at hk; unfold PAA; omega) i3, OFF.tr (hM.mono fun k j hk => by unfold PMM; omega) i4, ?_, ?_, ?_, ?_, by rw [fM 0 29 (by omega)]; exact i9, ?_, ?_, ⟨r.length + 1, by simp, g1, by omega, C 4, 6, 1, (p, sg, q) :: r, rfl, g4⟩, ?_, fun j hj hz => by rw [fA 25 j (by unfold PRE; omega)]; exact i14 j hj hz, ?_⟩
    · obtain ⟨⟨a1, a2, a3, a4, a5⟩, a6, a7, a8, a9⟩ := i2
      exact ⟨⟨a1, a2, a3, a4, fun i hi => by rw [fM 2 i (by omega), fM 3 i (by omega)]; exact a5 i hi⟩, a6, a7, by rw [fM 0 7 (by omega)]; exact a8, by rw [fM 0 8 (by omega)]; exact a9⟩
    · have e1 : FLA uA = FLA wA := by
        unfold FLA
        rw [fA 3 6 (by unfold PRE; omega), fA 3 7 (by unfold PRE; omega)]
      have e2 : FLM uM = FLM wM := by
        unfold FLM
        rw [fM 0 10 (by omega), fM 0 11 (by omega)]
      rw [e1, e2, e (by omega)]; exact i5
    · rw [upC_s, e (by omega), e (by omega), e (by omega), e (by omega), e (by omega)]
      exact ⟨b0, b1, b2, b3, h9, b5, b6, by omega⟩
    · rw [e (by omega), e (by omega)]
      exact i7.agr (fun k j hk => fA k j (by unfold PSC at hk; unfold PRE; omega))
    · unfold RSC
      rw [e (by omega), e (by omega)]
      refine ⟨by rw [fM 0 28 (by omega)]; exact r1, by rw [fM 0 42 (by omega)]; exact r2, r3.agr (Nat.le_refl _) (fun s hs => fM 14 s (by omega)), fun s hs => ?_, fun i hi => by rw [(hM 18 i (by omega)).2]; exact r5 i hi⟩
      rw [fM 16 s (by omega)]
      exact (r4 s hs).agr (fun i _ => fM 21 i (by omega))
    · rw [upC_s, e (by omega), e (by omega), e (by omega), e (by omega), e (by omega), fM 0 23 (by omega), fM 0 59 (by omega), fA 13 14 (by unfold PRE; omega), fM 0 54 (by omega), fA 13 13 (by unfold PRE; omega), fA 13 12 (by unfold PRE; omega)]
      exact ⟨c1, c2, g5, c4, c5, c6, c7⟩
    · intro i hi
      exact (i11 i hi).agr hC (fun k hk => fA k _ (by unfold PRE; omega)) (fA 25 _ (by unfold PRE; omega)) (fun k hk => fM k _ (by omega)) (fun p hp => fM 30 p (by omega)) (fun p hp hpi => ⟨fM 29 p (by omega), fM 31 p (by omega), fM 32 p (by omega)⟩)
    · refine ⟨g2, g8, ⟨0, g3, g7, Nat.zero_le _⟩, g6, by rw [upC_s]; omega, g9, hyp, by omega, by omega, ?_⟩
      exact i13.agr2 hC (fun l' hl' => by
        have hl2 : l' < r.length + 1 := hl'
        exact ⟨fA 36 l' (by unfold PRE; omega), fA 38 l' (by unfold PRE; omega)⟩) (fun y hy => by
        have := hyp y hy
        exact ⟨fM 35 _ (by omega), fM 34 _ (by omega), fM 30 _ (by omega), fM 37 _ (by omega)⟩)
    · have hc : ∀ p, cntP uM p (C 1) = cntP wM p (C 1) := fun p => cntP_agr _ (fun i hi => ⟨fM 23 i (by omega), fM 19 i (by omega)⟩)
      unfold OVF
      rw [upC_s, e (by omega)]
      refine ⟨fun p' => ⟨fun hp => ?_, fun hp hp2 => by rw [hc]; exact (i15.1 p').2 (by omega) hp2⟩, fun i hi k1 k2 => ?_, fun p' nf k1 k2 k3 k4 k5 => ?_, fun i hi hn => by rw [fM 22 i (by omega), fM 0 10 (by omega), fM 0 11 (by omega)]; exact i15.2.2.2 i hi hn⟩
      · rw [hc, fM 0 10 (by omega), fM 0 11 (by omega)]
        by_cases qp : p' = C 4
        · have hw := (i1.1.2.2.2.2.2.1 t i1.1.2.2.2.2.2.2.1).2.2
          rw [qp, g7, (i15.1 (C 4)).2 (Nat.le_refl _) (by omega)]
          exact ⟨rfl, fun h => absurd h (by omega)⟩
        · rw [fM 34 p' (by omega)]
          exact (i15.1 p').1 (by omega)
      · rw [fM 19 i (by omega)] at k1
        rw [fM 24 i (by omega)] at k2
        rw [fM 22 i (by omega), fM 0 10 (by omega), fM 0 11 (by omega)]
        exact i15.2.1 i hi k1 k2
      · by_cases qp : p' = C 4
        · rw [qp, g10] at k4
          have := (eq_iN (a := 0) (b := nf) (by omega) (by omega)).mp k4
          omega
        · rw [fM 31 p' (by omega)] at k4
          rw [fM 0 10 (by omega)]
          exact i15.2.2.1 p' nf k1 (by omega) k3 k4 k5
/-- out of a procedure -/
theorem STJ.endp {pn sg1 q1 p sg q : Nat} {r : PRL} (h : STJ kd wr nm vv m z gA gM lv sl us stk ((pn, sg1, q1) :: (p, sg, q) :: r) C TK SL t d b fa wA wM) {uA uM : Wd} (hA : OFF (fun k j => k = 34 ∧ j = 5) uA wA) (hl : lv = true → gi uA 34 5 = Int32.ofNat r.length ∧ OFF (fun k j => k = 0 ∧ j = 30) uM wM ∧ gi uM 0 30 = Int32.ofNat p) : STJ kd wr nm vv m z gA gM lv sl us stk ((p, sg, q) :: r) C TK SL t d b fa uA uM := by
  cases lv
  · exact h.dn rfl (hA.mono fun k j hk => by unfold PAN; omega)
  · obtain ⟨hfa, hJ⟩ := h.jl rfl
    obtain ⟨i1, i2, i3, i4, i5, i6, i7, ⟨r1, r2, r3, r4, r5⟩, i9, ⟨c1, c2, c3, c4, c5, c6, c7⟩, i11, ⟨l, l1, l2, l3, p0, sg0, q0, r0, l4, l5⟩, i13, i14, i15⟩ := hJ
    obtain ⟨g1, hM, g2⟩ := hl rfl
    have fA : ∀ k j, ¬ (k = 34 ∧ j = 5) → gi uA k j = gi wA k j := fun k j hk => (hA k j hk).1
    have fM : ∀ k j, ¬ (k = 0 ∧ j = 30) → gi uM k j = gi wM k j := fun k j hk => (hM k j hk).1
    have hlen : l = r.length + 1 := by
      rw [List.length_cons, List.length_cons] at l1
      omega
    refine Or.inl ⟨rfl, hfa, i1.off hA (fun k j hk => by omega), ?_, OFF.tr (hA.mono fun k j hk => by unfold PAA; omega) i3, OFF.tr (hM.mono fun k j hk => by unfold PMM; omega) i4, ?_, i6, i7.agr (fun k j hk => fA k j (by unfold PSC at hk; omega)), ?_, by rw [fM 0 29 (by omega)]; exact i9, ?_, ?_, ⟨r.length, by simp, g1, by omega, p, sg, q, r, rfl, g2⟩, ?_, fun j hj hz => by rw [fA 25 j (by omega)]; exact i14 j hj hz, ?_⟩
    · obtain ⟨⟨a1, a2, a3, a4, a5⟩, a6, a7, a8, a9⟩ := i2
      exact ⟨⟨a1, a2, a3, a4, fun i hi => by rw [fM 2 i (by omega), fM 3 i (by omega)]; exact a5 i hi⟩, a6, a7, by rw [fM 0 7 (by omega)]; exact a8, by rw [fM 0 8 (by omega)]; exact a9⟩
    · have e1 : FLA uA = FLA wA := by
        unfold FLA
        rw [fA 3 6 (by omega), fA 3 7 (by omega)]
      have e2 : FLM uM = FLM wM := by
        unfold FLM
        rw [fM 0 10 (by omega), fM 0 11 (by omega)]
      rw [e1, e2]; exact i5
    · refine ⟨by rw [fM 0 28 (by omega)]; exact r1, by rw [fM 0 42 (by omega)]; exact r2, r3.agr (Nat.le_refl _) (fun s hs => fM 14 s (by omega)), fun s hs => ?_, fun i hi => by rw [(hM 18 i (by omega)).2]; exact r5 i hi⟩
      rw [fM 16 s (by omega)]
      exact (r4 s hs).agr (fun i _ => fM 21 i (by omega))
    · rw [fM 0 23 (by omega), fM 0 59 (by omega), fM 0 53 (by omega), fA 13 14 (by omega), fM 0 54 (by omega), fA 13 13 (by omega), fA 13 12 (by omega)]
      exact ⟨c1, c2, c3, c4, c5, c6, c7⟩
    · intro i hi
      exact (i11 i hi).agr LEC.rf (fun k hk => fA k _ (by omega)) (fA 25 _ (by omega)) (fun k hk => fM k _ (by omega)) (fun p hp => fM 30 p (by omega)) (fun p hp hpi => ⟨fM 29 p (by omega), fM 31 p (by omega), fM 32 p (by omega)⟩)
    · exact (i13.2.2.2.2.2.2.2.2.2 : NST C wA wM ((p, sg, q) :: r)).agr2 LEC.rf (fun l' hl' => ⟨fA 36 l' (by omega), fA 38 l' (by omega)⟩) (fun y hy => ⟨fM 35 _ (by omega), fM 34 _ (by omega), fM 30 _ (by omega), fM 37 _ (by omega)⟩)
    · exact i15.agr i6.2.2.2.2.2.2.1 rfl rfl (Nat.le_refl _) (fun k' i' hk' => fM k' i' (by omega)) (fun x hx => by rw [fM 0 10 (by omega), fM 0 11 (by omega)]; exact hx)
/-- symbols that are settled, many -/
theorem STJ.usn (h : STJ kd wr nm vv m z gA gM lv sl us stk prs C TK SL t d b fa wA wM) {us' : Nat} (hs : lv = true → us ≤ us' ∧ us' ≤ C 1 ∧ (∀ i, us ≤ i → i < us' → SYM kd m C TK wA wM i) ∧ ∀ i, us ≤ i → i < us' → gi wM 19 i = 6 → gi wM 24 i = 0 → FLN (gi wM 0 10, gi wM 0 11) (wr (gi wM 22 i).toNatClampNeg + 1)) : STJ kd wr nm vv m z gA gM lv sl us' stk prs C TK SL t d b fa wA wM := by
  rcases h with ⟨h1, h2, h3⟩ | h
  · obtain ⟨i1, i2, i3, i4, i5, ⟨b0, b1, b2, b3, b4, b5, b6, b7⟩, i7, i8, i9, i10, i11, i12, i13, i14, i15⟩ := h3
    obtain ⟨s0, s1, s2, s3⟩ := hs h1
    refine Or.inl ⟨h1, h2, i1, i2, i3, i4, i5, ⟨b0, b1, b2, b3, b4, b5, s1, b7⟩, i7, i8, i9, i10, fun i hi => ?_, i12, i13, i14, i15.1, fun i hi g1 g2 => ?_, i15.2.2⟩
    rotate_left
    · by_cases q : i < us
      · exact i15.2.1 i q g1 g2
      · exact s3 i (by omega) hi g1 g2
    by_cases q : i < us
    · exact i11 i q
    · exact s2 i (by omega) hi
  · exact Or.inr h
end JT
