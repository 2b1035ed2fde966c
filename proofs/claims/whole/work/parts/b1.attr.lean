/-! BOTH SIDES: attributes of the newest symbols -/
section JT
variable {kd wr nm : Nat → Nat} {vv : Nat → Int64} {m z : Nat} {gA gM : Wd} {lv : Bool} {sl us B : Nat} {stk obl stkF : List Nat} {prs : PRL} {C TK : Nat → Nat} {SL : Nat → List Nat} {t d b : Nat} {fa : Int32} {wA wM : Wd} {γ α : Type} {wd : γ → Wd} {S : γ → α → Wd → Prop} {P : (Nat → Nat) → Nat → Wd → Wd → Prop}
def PAT (us k j : Nat) : Prop := (15 ≤ k ∧ k ≤ 24 ∧ k ≠ 17 ∧ k ≠ 21 ∧ k ≠ 22 ∧ us + 1 ≤ j) ∨ (k = 13 ∧ j = 13)
def PAD (k j : Nat) : Prop := 13 ≤ k ∧ k ≤ 24 ∧ k ≠ 14 ∧ k ≠ 22
def PMT (us k j : Nat) : Prop := ((k = 20 ∨ 24 ≤ k ∧ k ≤ 28) ∧ us ≤ j) ∨ (k = 0 ∧ j = 54)
theorem STJ.attr (h : STJ kd wr nm vv m z gA gM lv sl us stk prs C TK SL t d b fa wA wM) {uA uM : Wd} {c5 : Nat} (hA : OFF PAD uA wA) (hl : lv = true → OFF (PAT us) uA wA ∧ OFF (PMT us) uM wM ∧ gi uM 0 54 = Int32.ofNat c5 ∧ gi uA 13 13 = Int32.ofNat c5 ∧ C 5 ≤ c5 ∧ c5 ≤ C 1) : STJ kd wr nm vv m z gA gM lv sl us stk prs (upC C 5 c5) TK SL t d b fa uA uM := by
  rcases h with ⟨hlv, hfa, hJ⟩ | ⟨hlv, ht, hin, h0, hP, TK', SL', ns, nsc, hc, hb⟩
  · obtain ⟨i1, i2, i3, i4, i5, ⟨b0, b1, b2, b3, b4, b5, b6, b7⟩, i7, ⟨r1, r2, r3, r4, r5⟩, i9, ⟨c1, c2, c3, c4, c5', c6, c7⟩, i11, ⟨l, l1, l2, l3, p, sg, q, r, l4, l5⟩, i13, i14, i15⟩ := hJ
    obtain ⟨hA', hM, h54, h13, h5a, h5b⟩ := hl hlv
    have fA : ∀ k j, ¬ PAT us k j → gi uA k j = gi wA k j := fun k j hk => (hA' k j hk).1
    have fM : ∀ k j, ¬ PMT us k j → gi uM k j = gi wM k j := fun k j hk => (hM k j hk).1
    have e : ∀ {i}, i ≠ 5 → upC C 5 c5 i = C i := fun hi => upC_n hi
    have hC : LEC C (upC C 5 c5) := fun i => by
      by_cases q : i = 5
      · rw [q, upC_s]; exact h5a
      · rw [e q]; exact Nat.le_refl _
    refine Or.inl ⟨hlv, hfa, i1.off hA' (fun k j hk => by unfold PAT at hk; omega), ?_, OFF.tr (hA'.mono fun k j hk => by unfold PAT at hk; unfold PAA; omega) i3, OFF.tr (hM.mono fun k j hk => by unfold PMT at hk; unfold PMM; omega) i4, ?_, ?_, ?_, ?_, by rw [fM 0 29 (by unfold PMT; omega)]; exact i9, ?_, ?_, ⟨l, l1, by rw [fA 34 5 (by unfold PAT; omega)]; exact l2, l3, p, sg, q, r, l4, by rw [fM 0 30 (by unfold PMT; omega)]; exact l5⟩, ?_, fun j hj hz => by rw [fA 25 j (by unfold PAT; omega)]; exact i14 j hj hz, ?_⟩
    · obtain ⟨⟨a1, a2, a3, a4, a5⟩, a6, a7, a8, a9⟩ := i2
      exact ⟨⟨a1, a2, a3, a4, fun i hi => by rw [fM 2 i (by unfold PMT; omega), fM 3 i (by unfold PMT; omega)]; exact a5 i hi⟩, a6, a7, by rw [fM 0 7 (by unfold PMT; omega)]; exact a8, by rw [fM 0 8 (by unfold PMT; omega)]; exact a9⟩
    · have e1 : FLA uA = FLA wA := by
        unfold FLA
        rw [fA 3 6 (by unfold PAT; omega), fA 3 7 (by unfold PAT; omega)]
      have e2 : FLM uM = FLM wM := by
        unfold FLM
        rw [fM 0 10 (by unfold PMT; omega), fM 0 11 (by unfold PMT; omega)]
      rw [e1, e2, e (by omega)]; exact i5
    · rw [upC_s, e (by omega), e (by omega), e (by omega), e (by omega), e (by omega)]
      exact ⟨b0, b1, b2, b3, b4, h5b, b6, b7⟩
    · rw [e (by omega), e (by omega)]
      exact i7.agr (fun k j hk => fA k j (by unfold PSC at hk; unfold PAT; omega))
    · unfold RSC
      rw [e (by omega), e (by omega)]
      refine ⟨by rw [fM 0 28 (by unfold PMT; omega)]; exact r1, by rw [fM 0 42 (by unfold PMT; omega)]; exact r2, r3.agr (Nat.le_refl _) (fun s hs => fM 14 s (by unfold PMT; omega)), fun s hs => ?_, fun i hi => by rw [(hM 18 i (by unfold PMT; omega)).2]; exact r5 i hi⟩
      rw [fM 16 s (by unfold PMT; omega)]
      exact (r4 s hs).agr (fun i _ => fM 21 i (by unfold PMT; omega))
    · rw [upC_s, e (by omega), e (by omega), e (by omega), e (by omega), e (by omega), fM 0 23 (by unfold PMT; omega), fM 0 59 (by unfold PMT; omega), fM 0 53 (by unfold PMT; omega), fA 13 14 (by unfold PAT; omega), fA 13 12 (by unfold PAT; omega)]
      exact ⟨c1, c2, c3, c4, h54, h13, c7⟩
    · exact fun i hi => (i11 i hi).agr hC (fun k hk => fA k _ (by unfold PAT; omega)) (fA 25 _ (by unfold PAT; omega)) (fun k hk => fM k _ (by unfold PMT; omega)) (fun p _ => fM 30 p (by unfold PMT; omega)) (fun p _ _ => ⟨fM 29 p (by unfold PMT; omega), fM 31 p (by unfold PMT; omega), fM 32 p (by unfold PMT; omega)⟩)
    · exact i13.agr hC (fun l _ => ⟨fA 36 l (by unfold PAT; omega), fA 38 l (by unfold PAT; omega)⟩) (fun p _ => ⟨fM 35 p (by unfold PMT; omega), fM 34 p (by unfold PMT; omega), fM 30 p (by unfold PMT; omega), fM 37 p (by unfold PMT; omega)⟩)
    · exact i15.agr b6 (e (by omega)) (e (by omega)) (Nat.le_refl _) (fun k' i' hk' => fM k' i' (by unfold PMT; omega)) (fun x hx => by rw [fM 0 10 (by unfold PMT; omega), fM 0 11 (by unfold PMT; omega)]; exact hx)
  · exact Or.inr ⟨hlv, ht, hin.off hA (fun k j hk => by unfold PAD at hk; omega), h0, OFF.tr (hA.mono fun k j hk => by unfold PAD at hk; unfold PAA; omega) hP, TK', SL', ns, nsc, hc.agr (fun k j hk => (hA k j (by unfold PSC at hk; unfold PAD; omega)).1), hb⟩
theorem STJ.attr0 (h : STJ kd wr nm vv m z gA gM lv sl us stk prs C TK SL t d b fa wA wM) {uA uM : Wd} (hA : OFF PAD uA wA) (hl : lv = true → OFF (fun k j => PAT us k j ∧ k ≠ 13) uA wA ∧ OFF (fun k j => PMT us k j ∧ k ≠ 0) uM wM) : STJ kd wr nm vv m z gA gM lv sl us stk prs C TK SL t d b fa uA uM := by
  have := h.attr (uM := uM) (c5 := C 5) hA (fun hlv => by
    obtain ⟨h1, h2⟩ := hl hlv
    have hJ := (h.jl hlv).2
    obtain ⟨c1, c2, c3, c4, c5', c6, c7⟩ := hJ.2.2.2.2.2.2.2.2.2.1
    exact ⟨h1.mono fun k j hk => hk.1, h2.mono fun k j hk => hk.1, by rw [(h2 0 54 (by omega)).1]; exact c5', by rw [(h1 13 13 (by omega)).1]; exact c6, Nat.le_refl _, hJ.2.2.2.2.2.1.2.2.2.2.2.1⟩)
  rw [upC_id] at this
  exact this
theorem STJ.sl1 (h : STJ kd wr nm vv m z gA gM lv 0 us stk prs C TK SL t d b fa wA wM) : STJ kd wr nm vv m z gA gM lv 1 us stk prs C TK SL t d b fa wA wM := by
  rcases h with ⟨hlv, hfa, i1, i2, i3, i4, i5, ⟨b0, b1, b2⟩, i7⟩ | h
  · exact Or.inl ⟨hlv, hfa, i1, i2, i3, i4, i5, ⟨b0, by omega, b2⟩, i7⟩
  · exact Or.inr h
/-- the newest symbol, with its attributes -/
theorem sym_mk {i l pr sort kind ty sg q : Nat} {r : PRL} {uA uM : Wd} (hJ : JL kd wr nm vv m z gA gM sl us stk prs C TK SL t d wA wM) {s : Nat} (hN : NEW i s l pr sort kind (Int32.ofNat ty) wA wM) (hp : prs = (pr, sg, q) :: r) (hTK : TK i = s) (hs : s < m) (hk : kd s = 2) (hty : ty ≤ 2) (hA : ∀ k, k = 15 ∨ k = 17 ∨ k = 21 → gi uA k (i + 1) = gi wA k (i + 1)) (h25 : gi uA 25 s = gi wA 25 s) (hM : ∀ k, k = 20 ∨ k = 22 ∨ k = 23 → gi uM k i = gi wM k i) (h30 : gi uM 30 pr = gi wM 30 pr) {C' : Nat → Nat} (h4 : C 4 ≤ C' 4)
    (hK : (gi uM 19 i = 1 ∧ gi uA 14 (i + 1) = 1 ∧ gi uM 20 i ≠ 0 ∧ (gi uM 27 i = 0 ∧ gi uA 16 (i + 1) = 0 ∨ gi uM 27 i = 1 ∧ gi uA 16 (i + 1) = 1 ∧ ∃ o, o < C' 5 ∧ gi uA 18 (i + 1) = Int32.ofNat o ∧ gi uM 26 i = Int32.ofNat o))
      ∨ (gi uM 19 i = 2 ∧ gi uA 14 (i + 1) = 2 ∧ gi uA 16 (i + 1) = 0 ∧ gi uM 20 i ≠ 0 ∧ ∃ b, 1 ≤ b ∧ b ≤ 3 ∧ gi uA 19 (i + 1) = Int32.ofNat b ∧ gi uM 24 i = Int32.ofNat b)
      ∨ (gi uM 19 i = 4 ∧ gi uA 14 (i + 1) = 4 ∧ gi uA 16 (i + 1) = 0 ∧ gi uM 20 i = 0)
      ∨ (gi uM 19 i = 5 ∧ gi uA 14 (i + 1) = 5 ∧ gi uA 16 (i + 1) = 0 ∧ gi uM 20 i = 0)) : SYM kd m C' TK uA uM i := by
  obtain ⟨⟨a1, a2, a3, a4, a5, a6, a7, a8, a9, a10, a11⟩, b1, b2, b3, b4, b5, b6, b7, b8, b9⟩ := hN
  have hN2 := hJ.2.2.2.2.2.2.2.2.2.2.2.2.1
  rw [hp] at hN2
  have hpr := hN2.2.2.2.2.1
  refine ⟨by omega, by rw [hTK]; exact hk, by rw [hTK, hA 21 (by omega)]; exact a1, by rw [hTK, hM 22 (by omega)]; exact b3, by rw [hTK, h25]; exact a11, by rw [hA 15 (by omega), hM 20 (by omega)]; exact a3.trans b2.symm, ⟨ty, hty, by rw [hM 20 (by omega)]; exact b2⟩, ⟨pr, l, by rw [hM 23 (by omega)]; exact b4, by omega, by rw [hA 17 (by omega)]; exact a4, h30.trans b9⟩, ?_⟩
  rcases hK with k | k | k | k
  · exact Or.inl k
  · exact Or.inr (Or.inl k)
  · exact Or.inr (Or.inr (Or.inr (Or.inl k)))
  · exact Or.inr (Or.inr (Or.inr (Or.inr (Or.inl k))))
/-- slots of the reference, taken -/
theorem STJ.slotM {p sg q q' : Nat} {r : PRL} (hst : STJ kd wr nm vv m z gA gM lv sl us stk ((p, sg, q) :: r) C TK SL t d b fa wA wM) {uM : Wd} (hl : lv = true → OFF (fun k j => k = 35 ∧ j = p) uM wM ∧ gi uM 35 p = Int32.ofNat q' ∧ q' ≤ 1 + 8 * C 1 + 2 * C 3) : STJ kd wr nm vv m z gA gM lv sl us stk ((p, sg, q') :: r) C TK SL t d b fa wA uM := by
  cases lv
  · rcases hst with ⟨h1, _⟩ | h2
    · exact absurd h1 (by decide)
    · exact Or.inr h2
  · obtain ⟨hfa, hJ⟩ := hst.jl rfl
    obtain ⟨hO, h35, hq⟩ := hl rfl
    obtain ⟨i1, i2, i3, i4, i5, ⟨b0, b1, b2, b3, b4, b5, b6, b7⟩, i7, ⟨r1, r2, r3, r4, r5⟩, i9, ⟨c1, c2, c3, c4, c5, c6, c7⟩, i11, ⟨l, l1, l2, l3, p', sg', q'', r', l4, l5⟩, ⟨s1, s2, ⟨n, s3, s4, s5⟩, s6, s7, s8, s9, s10, s11, s12⟩, i14, i15⟩ := hJ
    obtain ⟨e1, e2⟩ := List.cons.inj l4
    rw [← (Prod.mk.inj e1).1] at l5
    have fM : ∀ k' j', ¬ (k' = 35 ∧ j' = p) → gi uM k' j' = gi wM k' j' := fun k' j' h => (hO k' j' h).1
    refine Or.inl ⟨rfl, hfa, i1, ?_, i3, OFF.tr (hO.mono fun k j hk => by unfold PMM; omega) i4, ?_, ⟨b0, b1, b2, b3, b4, b5, b6, b7⟩, i7, ?_, by rw [fM 0 29 (by omega)]; exact i9, ?_, ?_, ⟨l, l1, l2, l3, p, sg, q', r, rfl, by rw [fM 0 30 (by omega)]; exact l5⟩, ⟨s1, h35, ⟨n, s3, by rw [fM 34 p (by omega)]; exact s4, s5⟩, by rw [fM 30 p (by omega)]; exact s6, s7, by rw [fM 37 p (by omega)]; exact s8, s9, s10, hq, ?_⟩, i14, ?_⟩
    · obtain ⟨⟨a1, a2, a3, a4, a5⟩, a6, a7, a8, a9⟩ := i2
      exact ⟨⟨a1, a2, a3, a4, fun i hi => by rw [fM 2 i (by omega), fM 3 i (by omega)]; exact a5 i hi⟩, a6, a7, by rw [fM 0 7 (by omega)]; exact a8, by rw [fM 0 8 (by omega)]; exact a9⟩
    · have e2 : FLM uM = FLM wM := by
        unfold FLM
        rw [fM 0 10 (by omega), fM 0 11 (by omega)]
      rw [e2]; exact i5
    · refine ⟨by rw [fM 0 28 (by omega)]; exact r1, by rw [fM 0 42 (by omega)]; exact r2, r3.agr (Nat.le_refl _) (fun s hs => fM 14 s (by omega)), fun s hs => ?_, fun i hi => by rw [(hO 18 i (by omega)).2]; exact r5 i hi⟩
      rw [fM 16 s (by omega)]
      exact (r4 s hs).agr (fun i _ => fM 21 i (by omega))
    · rw [fM 0 23 (by omega), fM 0 59 (by omega), fM 0 53 (by omega), fM 0 54 (by omega)]
      exact ⟨c1, c2, c3, c4, c5, c6, c7⟩
    · exact fun i hi => (i11 i hi).agr LEC.rf (fun k hk => rfl) rfl (fun k' hk'' => fM k' _ (by omega)) (fun p _ => fM 30 p (by omega)) (fun p _ _ => ⟨fM 29 p (by omega), fM 31 p (by omega), fM 32 p (by omega)⟩)
    · exact s12.agr2 LEC.rf (fun l _ => ⟨rfl, rfl⟩) (fun y hy => by
        have := s9 y hy
        exact ⟨fM 35 _ (by omega), fM 34 _ (by omega), fM 30 _ (by omega), fM 37 _ (by omega)⟩)
    · exact i15.agr b6 rfl rfl (Nat.le_refl _) (fun k' i' hk' => fM k' i' (by omega)) (fun x hx => by rw [fM 0 10 (by omega), fM 0 11 (by omega)]; exact hx)
/-- changes of what's newer than C -/
def NQA (C : Nat → Nat) (k j : Nat) : Prop := k = 13 ∨ k = 26 ∨ k = 27 ∨ 34 ≤ k ∨ (14 ≤ k ∧ k ≤ 24 ∧ C 1 + 1 ≤ j)
def NQM (C : Nat → Nat) (pz k j : Nat) : Prop := k = 0 ∨ k = 34 ∨ (k = 35 ∧ j = pz) ∨ (18 ≤ k ∧ k ≤ 28 ∧ C 1 ≤ j)
theorem STEP.att {C' C2 : Nat → Nat} {t' pz : Nat} {uA uM vA vM : Wd} (hpz : ∃ y ∈ prs, y.1 = pz) (h : STEP C t stk prs obl wA wM C' t' uA uM) (hA : OFF (NQA C) vA uA) (hM : OFF (NQM C pz) vM uM) (hC : LEC C C2) (hE : EXF uM vM) : STEP C t stk prs obl wA wM C2 t' vA vM := by
  refine ⟨hC, h.2.1, fun k j hk => (hA k j (fun hq => ?_)).1.trans (h.2.2.1 k j hk), fun k j hk => ?_, h.2.2.2.2.tr hE⟩
  · unfold NQA at hq
    rcases hk with hk | hk | hk | hk | hk | hk | hk <;> omega
  · have h1 := hM k j (fun hq => by
      unfold NQM at hq
      obtain ⟨y, y1, y2⟩ := hpz
      rcases hk with hk | hk | hk | hk | hk | hk | hk | hk | hk
      all_goals first | omega | skip
      by_cases c : k = 35
      · exact hk.2.2 (Or.inr (Or.inl c)) y y1 (by omega)
      · omega)
    have h2 := h.2.2.2.1 k j hk
    exact ⟨h1.1.trans h2.1, h1.2.trans h2.2⟩
theorem FACT.att {lo pd tf pz : Nat} {Cf : Nat → Nat} {Φ : Wd → Wd → Prop} {uA uM vA vM : Wd} (hpz : ∃ y ∈ prs, y.1 = pz) (h : FACT stk prs obl lo Cf tf pd Φ uA uM) (hA : OFF (NQA Cf) vA uA) (hM : OFF (NQM Cf pz) vM uM) (hE : EXF uM vM) : FACT stk prs obl lo Cf tf pd Φ vA vM := by
  intro fA fM gA gM gE
  refine h fA fM (fun k j hk => (gA k j hk).trans (hA k j (fun hq => ?_)).1) (fun k j hk => ?_) (hE.tr gE)
  · unfold NQA at hq
    rcases hk with hk | hk | hk | hk | hk | hk | hk <;> omega
  · have h1 := hM k j (fun hq => by
      unfold NQM at hq
      obtain ⟨y, y1, y2⟩ := hpz
      rcases hk with hk | hk | hk | hk | hk | hk | hk | hk | hk
      all_goals first | omega | skip
      by_cases c : k = 35
      · exact hk.2.2 (Or.inr (Or.inl c)) y y1 (by omega)
      · omega)
    have h2 := gM k j hk
    exact ⟨h2.1.trans h1.1, h2.2.trans h1.2⟩
end JT
