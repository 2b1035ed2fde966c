/-! BOTH SIDES: a BLOCK's beginning -/
section JT
variable {kd wr nm : Nat → Nat} {vv : Nat → Int64} {m z : Nat} {gA gM : Wd} {lv : Bool} {sl us B : Nat} {stk obl stkF : List Nat} {prs : PRL} {C TK : Nat → Nat} {SL : Nat → List Nat} {t d b : Nat} {fa : Int32} {wA wM : Wd} {γ α : Type} {wd : γ → Wd} {S : γ → α → Wd → Prop} {P : (Nat → Nat) → Nat → Wd → Wd → Prop}
/-- open, of a BLOCK -/
theorem a_open4 {gb : Bool} {w : Wd} (h : CT kd wr gb z w t fa) (h4 : kd t = 4) (hd : d ≤ 40) : (fX9_open (Int32.ofNat d) w).1 = Int32.ofNat (d + 1) ∧ (d < 40 ∨ kd (t + 1) = 5 → CT kd wr gb z (fX9_open (Int32.ofNat d) w).2 (t + 1) fa) ∧ (¬ (d < 40 ∨ kd (t + 1) = 5) → CT kd wr gb z (fX9_open (Int32.ofNat d) w).2 (z - 1) (FA wr fa (t + 1))) ∧ OFF (fun k j => k = 4 ∧ (j = 9 ∨ j = 10)) (fX9_open (Int32.ofNat d) w).2 w := by
  have h3 := h.2.2.1
  unfold fX9_open
  dsimp only [lt]
  have hc4 : Int32.ofNat (kd t) = 4 := by rw [h4]; rfl
  rw [a_kind h, if_pos hc4]
  unfold fX9_open_13
  dsimp only [lt]
  rw [h.2.2.2.2.2.2.2.1, ad1_iN, ad1_iN]
  have hg := h.go (kdlt h (by omega)) (by omega)
  by_cases q : d < 40
  · rw [if_pos (show Int32.ofNat d < 40 from ylt_iN (b := 40) q (by omega))]
    exact ⟨rfl, fun _ => hg, fun hn => absurd (Or.inl q) hn, OFF.si ⟨rfl, Or.inl rfl⟩⟩
  · have hc : ¬ (Int32.ofNat d < 40) := nlt_iN (b := 40) (by omega) (by omega)
    rw [if_neg hc, if_pos rfl, a_kind hg]
    by_cases q5 : kd (t + 1) = 5
    · rw [if_pos (by rw [q5]; rfl)]
      exact ⟨rfl, fun _ => hg, fun hn => absurd (Or.inr q5) hn, OFF.si ⟨rfl, Or.inl rfl⟩⟩
    · have := h3 (t + 1)
      rw [if_neg (show ¬ (Int32.ofNat (kd (t + 1)) = 5) from fun e => q5 ((eq_iN (a := kd (t + 1)) (b := 5) (by omega) (by omega)).mp e))]
      exact ⟨rfl, fun hn => absurd hn (by omega), fun _ => (a_fail hg).1, OFF.tr (a_fail hg).2 (OFF.si ⟨rfl, Or.inl rfl⟩)⟩
/-- into a BLOCK -/
theorem J.opn4 (hT : TOKS kd wr nm vv m z gA gM) (hS : STBJ stk prs obl P) (hst : STJ kd wr nm vv m z gA gM true sl us stk prs C TK SL t d b fa wA wM) (hP : P C t wA wM) (h4 : kd t = 4) (hd : d ≤ 40) (hb : 2800 ≤ b) (hs1 : sl ≤ 1) {rT : Option (Option Int32 × Wd)} (hrT : rT = some (some (Int32.ofNat t), si wM 0 7 (Int32.ofNat (t + 1)))) {KA : Int32 → Wd → Option γ} {KM : Int32 → Wd → Option (Option α × Wd)}
    (hdoom : ∀ uM, SM kd wr m uM (t + 1) 41 → kd (t + 1) ≠ 5 → OFF (fun k j => k = 0 ∧ (j = 7 ∨ j = 8)) uM wM → ∃ v, KM (Int32.ofNat t) uM = some (none, v) ∧ gi v 0 9 = Int32.ofNat (wr (t + 1)) ∧ OFF PMM v uM)
    (H : ∀ lv' t' fa' uA uM, STJ kd wr nm vv m z gA gM lv' 0 us stk prs C TK SL t' (d + 1) b fa' uA uM → (lv' = true → (d + 1 ≤ 40 ∨ kd (t + 1) = 5) ∧ t' = t + 1 ∧ t + 1 ≤ m ∧ wr t + 5 ≤ wr (t + 1) ∧ P C t' uA uM) → (lv' = false → t' = z - 1) → GLJ kd wr nm z gA gM wd lv' stkF fa' B (KA (Int32.ofNat (d + 1)) uA) (KM (Int32.ofNat t) uM) S) :
    GLJ kd wr nm z gA gM wd true stkF fa B (lt2 (fX9_open (Int32.ofNat d) wA) KA) (be rT fun x w2 => lt (si w2 0 8 ((gi w2 0 8) + 1)) (KM x)) S := by
  obtain ⟨h2, h3⟩ := hst.jl rfl
  have hin := hst.in1
  subst h2
  obtain ⟨n0, n1, n2, n3⟩ := a_open4 hin.1 h4 hd
  rw [lt2q, n0, hrT, be_so, ltq]
  have hsm := h3.2.1
  have htm := hsm.lt (by omega)
  have hd8 : gi (si wM 0 7 (Int32.ofNat (t + 1))) 0 8 = Int32.ofNat d := by rw [gi_si1 (by omega)]; exact hsm.2.2.2.2
  have hw5 : wr t + 5 ≤ wr (t + 1) := by
    have := hT.2.2.2.2.2.2.1 t htm
    have h5 : wlN (kd t) = 5 := by rw [h4]; rfl
    omega
  rw [hd8, ad1_iN]
  by_cases q : d < 40 ∨ kd (t + 1) = 5
  · obtain ⟨a1, a2, a3⟩ := JL.tok (obl := obl) hT h3 (by omega) hs1 (hin.tok n3 (n1 q)) n3 rfl
    refine (J.dep (b := b) (KM := KM (Int32.ofNat t)) (rA := KA (Int32.ofNat (d + 1)) _) hT hS (Or.inl ⟨rfl, rfl, a1⟩) (fun _ => hS _ _ _ _ _ _ _ _ hP a2) (d' := d + 1) (by omega) (fun _ => rfl) (fun uM hu hPu => ?_))
    exact H true (t + 1) (-1) _ uM hu (fun _ => ⟨by omega, rfl, a3, hw5, hPu rfl⟩) (fun h => absurd h (by decide))
  · have hn2 := n2 q
    rw [FA_1] at hn2
    have hin2 := hin.tok n3 hn2
    have hD : DI kd wr nm z gA stk (Int32.ofNat (wr (t + 1))) b (fX9_open (Int32.ofNat d) wA).2 := by
      refine ⟨hin2, zl_iN (by have := hT.1 (t + 1); omega), OFF.tr (n3.mono (fun k j hp => Or.inr (Or.inl hp))) h3.2.2.1, TK, SL, C 1, C 2, h3.2.2.2.2.2.2.1.agr (fun k j hk => (n3 k j (by unfold PSC at hk; omega)).1), ?_⟩
      have := h3.2.2.2.2.2.1
      have := hT.1 t
      omega
    obtain ⟨g, g1, g2⟩ := (H false (z - 1) _ _ wM (Or.inr ⟨rfl, rfl, hD⟩) (fun h => absurd h (by decide)) (fun _ => rfl)).1 rfl
    have hs41 : SM kd wr m (si (si wM 0 7 (Int32.ofNat (t + 1))) 0 8 (Int32.ofNat (d + 1))) (t + 1) 41 := by
      have := (hsm.goT (t' := t + 1) (by omega)).goD (d' := d + 1) (by omega)
      rw [show d + 1 = 41 by omega] at this ⊢
      exact this
    obtain ⟨v, v1, v2, v3⟩ := hdoom _ hs41 (fun h => q (Or.inr h)) (OFF.tr (OFF.si ⟨rfl, Or.inr rfl⟩) (OFF.si ⟨rfl, Or.inl rfl⟩))
    refine ⟨fun h => absurd h (by decide), fun _ => Or.inl ⟨t + 1, g, v, g1, g2, v1, v2, v3.tr (OFF.tr (OFF.si (by unfold PMM; omega)) (OFF.tr (OFF.si (by unfold PMM; omega)) h3.2.2.2.1))⟩⟩
/-- one BLOCK more -/
theorem J.blks (hS : STBJ stk prs obl P) (hst : STJ kd wr nm vv m z gA gM lv sl us stk prs C TK SL t d b fa wA wM) (hP : lv = true → P C t wA wM) (hw : lv = true → 5 * C 3 + 5 ≤ wr t) {v : Int32} (hv : lv = true → v = Int32.ofNat (C 3 + 1)) {rA : Option γ} {KM : Wd → Option (Option α × Wd)}
    (H : ∀ uM, STJ kd wr nm vv m z gA gM lv sl us stk prs (upC C 3 (C 3 + 1)) TK SL t d b fa wA uM → (lv = true → P (upC C 3 (C 3 + 1)) t wA uM ∧ OFF (fun k j => k = 0 ∧ j = 59) uM wM) → GLJ kd wr nm z gA gM wd lv stkF fa B rA (KM uM) S) :
    GLJ kd wr nm z gA gM wd lv stkF fa B rA (lt (si wM 0 59 v) KM) S := by
  rw [ltq]
  cases lv
  · exact ⟨fun _ => (H wM (hst.dd rfl) (fun h => absurd h (by decide))).1 rfl, fun h => absurd h (by decide)⟩
  · obtain ⟨hfa, hJ⟩ := hst.jl rfl
    obtain ⟨i1, i2, i3, i4, i5, ⟨b0, b1, b2, b3, b4, b5, b6, b7⟩, i7, ⟨r1, r2, r3, r4, r5⟩, i9, ⟨c1, c2, c3, c4, c5, c6, c7⟩, i11, ⟨l, l1, l2, l3, p, sg, q, r, l4, l5⟩, i13, i14, i15⟩ := hJ
    have hw' := hw rfl
    have hO : OFF (fun k j => k = 0 ∧ j = 59) (si wM 0 59 v) wM := OFF.si ⟨rfl, rfl⟩
    have fM : ∀ k' j', ¬ (k' = 0 ∧ j' = 59) → gi (si wM 0 59 v) k' j' = gi wM k' j' := fun k' j' h => gi_si1 h
    have e : ∀ {i}, i ≠ 3 → upC C 3 (C 3 + 1) i = C i := fun hi => upC_n hi
    have hC : LEC C (upC C 3 (C 3 + 1)) := upC_le (by omega)
    refine H _ (Or.inl ⟨rfl, hfa, i1, i2.si (by omega) (by omega), i3, OFF.tr (OFF.si (by unfold PMM; omega)) i4, ?_, ?_, by rw [e (by omega), e (by omega)]; exact i7, ?_, by rw [fM 0 29 (by omega)]; exact i9, ?_, ?_, ⟨l, l1, l2, l3, p, sg, q, r, l4, by rw [fM 0 30 (by omega)]; exact l5⟩, ?_, i14, ?_⟩) (fun _ => ⟨hS _ _ _ _ _ _ _ _ (hP rfl) ⟨hC, Nat.le_refl _, EXTA.rf, fun k j hk => hO k j (by omega), EXF.off hO (fun k j hk => by omega)⟩, hO⟩)
    · have e2 : FLM (si wM 0 59 v) = FLM wM := by
        unfold FLM
        rw [fM 0 10 (by omega), fM 0 11 (by omega)]
      rw [e2, e (by omega)]; exact i5
    · rw [upC_s, e (by omega), e (by omega), e (by omega), e (by omega), e (by omega)]
      exact ⟨b0, b1, b2, by omega, b4, b5, b6, b7⟩
    · unfold RSC
      rw [e (by omega), e (by omega)]
      refine ⟨by rw [fM 0 28 (by omega)]; exact r1, by rw [fM 0 42 (by omega)]; exact r2, r3.agr (Nat.le_refl _) (fun s hs => fM 14 s (by omega)), fun s hs => ?_, r5⟩
      rw [fM 16 s (by omega)]
      exact (r4 s hs).agr (fun i _ => fM 21 i (by omega))
    · rw [fM 0 23 (by omega), fM 0 53 (by omega), fM 0 54 (by omega), gi_si0, upC_s, e (by omega), e (by omega), e (by omega), e (by omega), e (by omega)]
      exact ⟨c1, hv rfl, c3, c4, c5, c6, c7⟩
    · exact fun i hi => (i11 i hi).agr hC (fun k hk => rfl) rfl (fun k' hk'' => fM k' _ (by omega)) (fun p _ => fM 30 p (by omega)) (fun p _ _ => ⟨fM 29 p (by omega), fM 31 p (by omega), fM 32 p (by omega)⟩)
    · exact i13.agr hC (fun l _ => ⟨rfl, rfl⟩) (fun p _ => ⟨fM 35 p (by omega), fM 34 p (by omega), fM 30 p (by omega), fM 37 p (by omega)⟩)
    · exact i15.agr b6 (e (by omega)) (e (by omega)) (Nat.le_refl _) (fun k' i' hk' => fM k' i' (by omega)) (fun x hx => by rw [fM 0 10 (by omega), fM 0 11 (by omega)]; exact hx)
/-- a place of a BLOCK of the reference -/
theorem STJ.setB (hst : STJ kd wr nm vv m z gA gM lv sl us stk prs C TK SL t d b fa wA wM) {uM : Wd} (hO : lv = true → OFF (fun k j => 39 ≤ k ∧ k ≤ 42) uM wM) : STJ kd wr nm vv m z gA gM lv sl us stk prs C TK SL t d b fa wA uM := by
  cases lv
  · exact hst.dd rfl
  · obtain ⟨hfa, hJ⟩ := hst.jl rfl
    have hO' := hO rfl
    obtain ⟨i1, i2, i3, i4, i5, i6, i7, ⟨r1, r2, r3, r4, r5⟩, i9, ⟨c1, c2, c3, c4, c5, c6, c7⟩, i11, ⟨l, l1, l2, l3, p, sg, q, r, l4, l5⟩, i13, i14, i15⟩ := hJ
    have fM : ∀ k' j', ¬ (39 ≤ k' ∧ k' ≤ 42) → gi uM k' j' = gi wM k' j' := fun k' j' h => (hO' k' j' h).1
    refine Or.inl ⟨rfl, hfa, i1, ?_, i3, OFF.tr (hO'.mono fun k j hk => by unfold PMM; omega) i4, ?_, i6, i7, ?_, by rw [fM 0 29 (by omega)]; exact i9, ?_, ?_, ⟨l, l1, l2, l3, p, sg, q, r, l4, by rw [fM 0 30 (by omega)]; exact l5⟩, ?_, i14, ?_⟩
    · obtain ⟨⟨a1, a2, a3, a4, a5⟩, a6, a7, a8, a9⟩ := i2
      exact ⟨⟨a1, a2, a3, a4, fun i hi => by rw [fM 2 i (by omega), fM 3 i (by omega)]; exact a5 i hi⟩, a6, a7, by rw [fM 0 7 (by omega)]; exact a8, by rw [fM 0 8 (by omega)]; exact a9⟩
    · have e2 : FLM uM = FLM wM := by
        unfold FLM
        rw [fM 0 10 (by omega), fM 0 11 (by omega)]
      rw [e2]; exact i5
    · refine ⟨by rw [fM 0 28 (by omega)]; exact r1, by rw [fM 0 42 (by omega)]; exact r2, r3.agr (Nat.le_refl _) (fun s hs => fM 14 s (by omega)), fun s hs => ?_, fun i hi => by rw [(hO' 18 i (by omega)).2]; exact r5 i hi⟩
      rw [fM 16 s (by omega)]
      exact (r4 s hs).agr (fun i _ => fM 21 i (by omega))
    · rw [fM 0 23 (by omega), fM 0 59 (by omega), fM 0 53 (by omega), fM 0 54 (by omega)]
      exact ⟨c1, c2, c3, c4, c5, c6, c7⟩
    · exact fun i hi => (i11 i hi).agr LEC.rf (fun k hk => rfl) rfl (fun k' hk'' => fM k' _ (by omega)) (fun p _ => fM 30 p (by omega)) (fun p _ _ => ⟨fM 29 p (by omega), fM 31 p (by omega), fM 32 p (by omega)⟩)
    · exact i13.agr LEC.rf (fun l _ => ⟨rfl, rfl⟩) (fun p _ => ⟨fM 35 p (by omega), fM 34 p (by omega), fM 30 p (by omega), fM 37 p (by omega)⟩)
    · exact i15.agr i6.2.2.2.2.2.2.1 rfl rfl (Nat.le_refl _) (fun k' i' hk' => fM k' i' (by omega)) (fun x hx => by rw [fM 0 10 (by omega), fM 0 11 (by omega)]; exact hx)
/-- the reference's slots so far -/
theorem JL.sl35 {p sg q : Nat} {r : PRL} (h : JL kd wr nm vv m z gA gM sl us stk ((p, sg, q) :: r) C TK SL t d wA wM) (hT : TOKS kd wr nm vv m z gA gM) : gi wM 35 p = Int32.ofNat q ∧ q ≤ 60000 ∧ gi wM 0 53 = Int32.ofNat (C 4) ∧ C 4 ≤ 1200 := by
  obtain ⟨i1, i2, i3, i4, i5, ⟨b0, b1, b2, b3, b4, b5, b6, b7⟩, i7, i8, i9, ⟨c1, c2, c3, c4, c5, c6, c7⟩, i11, i12, ⟨s1, s2, s3, s6, s7, s8, s9, s10, s11, s12⟩, i14, i15⟩ := h
  have h1 := i7.2.2.2.2.2.2.2.1
  have h2 := hT.1 t
  exact ⟨s2, by omega, c3, by omega⟩
theorem JL.ge35 {p sg q : Nat} {r : PRL} (h : JL kd wr nm vv m z gA gM sl us stk ((p, sg, q) :: r) C TK SL t d wA wM) (hT : TOKS kd wr nm vv m z gA gM) : GE35 wM p q := by
  obtain ⟨h1, h2, h3, h4⟩ := h.sl35 hT
  obtain ⟨i1, i2, i3, i4, i5, i6, i7, i8, i9, i10, i11, i12, ⟨s1, s2, s3, s6, s7, s8⟩, i14⟩ := h
  exact ⟨C 4, q, s7, by omega, h3, h1, Nat.le_refl _, h2⟩
/-- slots of the reference -/
theorem J.slots (hT : TOKS kd wr nm vv m z gA gM) {p sg q a : Nat} {r : PRL} (hS : STBJ stk ((p, sg, q) :: r) obl P) (hst : STJ kd wr nm vv m z gA gM lv sl us stk ((p, sg, q) :: r) C TK SL t d b fa wA wM) (hP : lv = true → P C t wA wM) (ha : lv = true → q + a ≤ 1 + 8 * C 1 + 2 * C 3) {rA : Option γ} {KM : Int32 → Wd → Option (Option α × Wd)}
    (H : ∀ uM, STJ kd wr nm vv m z gA gM lv sl us stk ((p, sg, q + a) :: r) C TK SL t d b fa wA uM → (lv = true → P C t wA uM ∧ OFF (fun k j => k = 35 ∧ j = p) uM wM) → GLJ kd wr nm z gA gM wd lv stkF fa B rA (KM (Int32.ofNat q) uM) S) :
    GLJ kd wr nm z gA gM wd lv stkF fa B rA (bn2 (fX12_slots (Int32.ofNat a) wM) KM) S := by
  cases lv
  · exact ⟨fun _ => (H wM (by
      rcases hst with ⟨h1, _⟩ | h2
      · exact absurd h1 (by decide)
      · exact Or.inr h2) (fun h => absurd h (by decide))).1 rfl, fun h => absurd h (by decide)⟩
  · obtain ⟨hfa, hJ⟩ := hst.jl rfl
    have ha' := ha rfl
    obtain ⟨i1, i2, i3, i4, i5, ⟨b0, b1, b2, b3, b4, b5, b6, b7⟩, i7, ⟨r1, r2, r3, r4, r5⟩, i9, ⟨c1, c2, c3, c4, c5, c6, c7⟩, i11, ⟨l, l1, l2, l3, p', sg', q', r', l4, l5⟩, ⟨s1, s2, ⟨n, s3, s4, s5⟩, s6, s7, s8, s9, s10, s11, s12⟩, i14, i15⟩ := hJ
    obtain ⟨e1, e2⟩ := List.cons.inj l4
    rw [← (Prod.mk.inj e1).1] at l5
    have hwr := hT.1 t
    have hp12 : p < 1200 := by omega
    have hrun : fX12_slots (Int32.ofNat a) wM = some (Int32.ofNat q, si wM 35 p (Int32.ofNat (q + a))) := by
      unfold fX12_slots
      rw [l5, if_pos (inb_iN hp12 (by omega)), tc_iN (by omega), s2, ltq, if_pos (inb_iN hp12 (by omega)), if_pos (inb_iN hp12 (by omega)), add_iN]
      rfl
    rw [hrun, bn2_so]
    have hO : OFF (fun k j => k = 35 ∧ j = p) (si wM 35 p (Int32.ofNat (q + a))) wM := OFF.si ⟨rfl, rfl⟩
    have fM : ∀ k' j', ¬ (k' = 35 ∧ j' = p) → gi (si wM 35 p (Int32.ofNat (q + a))) k' j' = gi wM k' j' := fun k' j' h => gi_si1 h
    refine H _ (Or.inl ⟨rfl, hfa, i1, i2.si (by omega) (by omega), i3, OFF.tr (OFF.si (by unfold PMM; omega)) i4, ?_, ⟨b0, b1, b2, b3, b4, b5, b6, b7⟩, i7, ?_, by rw [fM 0 29 (by omega)]; exact i9, ?_, ?_, ⟨l, l1, l2, l3, p, sg, q + a, r, rfl, by rw [fM 0 30 (by omega)]; exact l5⟩, ⟨s1, gi_si0 _ _ _ _, ⟨n, s3, by rw [fM 34 p (by omega)]; exact s4, s5⟩, by rw [fM 30 p (by omega)]; exact s6, s7, by rw [fM 37 p (by omega)]; exact s8, s9, s10, ha', ?_⟩, i14, ?_⟩) (fun _ => ⟨hS _ _ _ _ _ _ _ _ (hP rfl) ⟨LEC.rf, Nat.le_refl _, EXTA.rf, fun k j hk => hO k j (fun e => by
      rcases hk with q | q | q | q | q | q | q | q | q
      all_goals first | omega | exact q.2.2 (Or.inr (Or.inl e.1)) _ List.mem_cons_self e.2.symm), EXF.slot hO (fun k j hk => by omega) s2 (gi_si0 _ _ _ _) ⟨by omega, by have := i7.2.2.2.2.2.2.2.1; omega⟩ (fun hh => by rw [fM 0 10 (by omega)]; exact hh)⟩, hO⟩)
    · have e2 : FLM (si wM 35 p (Int32.ofNat (q + a))) = FLM wM := by
        unfold FLM
        rw [fM 0 10 (by omega), fM 0 11 (by omega)]
      rw [e2]; exact i5
    · refine ⟨by rw [fM 0 28 (by omega)]; exact r1, by rw [fM 0 42 (by omega)]; exact r2, r3.agr (Nat.le_refl _) (fun s hs => fM 14 s (by omega)), fun s hs => ?_, r5⟩
      rw [fM 16 s (by omega)]
      exact (r4 s hs).agr (fun i _ => fM 21 i (by omega))
    · rw [fM 0 23 (by omega), fM 0 59 (by omega), fM 0 53 (by omega), fM 0 54 (by omega)]
      exact ⟨c1, c2, c3, c4, c5, c6, c7⟩
    · exact fun i hi => (i11 i hi).agr LEC.rf (fun k hk => rfl) rfl (fun k' hk'' => fM k' _ (by omega)) (fun p _ => fM 30 p (by omega)) (fun p _ _ => ⟨fM 29 p (by omega), fM 31 p (by omega), fM 32 p (by omega)⟩)
    · exact s12.agr2 LEC.rf (fun l _ => ⟨rfl, rfl⟩) (fun y hy => by
        have := s9 y hy
        exact ⟨fM 35 _ (by omega), fM 34 _ (by omega), fM 30 _ (by omega), fM 37 _ (by omega)⟩)
    · exact i15.agr b6 rfl rfl (Nat.le_refl _) (fun k' i' hk' => fM k' i' (by omega)) (fun x hx => by rw [fM 0 10 (by omega), fM 0 11 (by omega)]; exact hx)
end JT
