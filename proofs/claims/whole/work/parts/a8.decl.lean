/-! BOTH SIDES: SCOPES entered and left, NAMES declared -/
section JT
variable {kd wr nm : Nat → Nat} {vv : Nat → Int64} {m z : Nat} {gA gM : Wd} {lv : Bool} {sl us B : Nat} {stk obl stkF : List Nat} {prs : PRL} {C TK : Nat → Nat} {SL : Nat → List Nat} {t d b : Nat} {fa : Int32} {wA wM : Wd} {γ α : Type} {wd : γ → Wd} {S : γ → α → Wd → Prop} {P : (Nat → Nat) → Nat → Wd → Wd → Prop}
theorem ns_ok {w : Wd} {n : Nat} {a1 a2 : Int32} (hn : gi w 0 28 = Int32.ofNat n) (hb : n < 9000) : ∃ u, fX12_newScope a1 a2 w = some (Int32.ofNat n, u) ∧ gi u 0 28 = Int32.ofNat (n + 1) ∧ gi u 14 n = a1 ∧ gi u 15 n = gi w 0 30 ∧ gi u 16 n = -1 ∧ gi u 17 n = a2 ∧ OFF (fun k j => (k = 0 ∧ j = 28) ∨ (14 ≤ k ∧ k ≤ 17 ∧ j = n)) u w := by
  have e1 : inb (Int32.ofNat n) 9000 = true := inb_iN hb (by omega)
  unfold fX12_newScope
  rw [hn, if_pos e1, ltq, tc_iN (by omega)]
  rw [show gi (si w 14 n a1) 0 28 = Int32.ofNat n by rw [gi_si1 (by omega)]; exact hn, if_pos e1, ltq, tc_iN (by omega)]
  rw [show ∀ x, gi (si (si w 14 n a1) 15 n x) 0 28 = Int32.ofNat n by (intro x; rw [gi_si1 (by omega), gi_si1 (by omega)]; exact hn), if_pos e1, ltq, tc_iN (by omega)]
  rw [show ∀ x, gi (si (si (si w 14 n a1) 15 n x) 16 n (-1)) 0 28 = Int32.ofNat n by (intro x; rw [gi_si1 (by omega), gi_si1 (by omega), gi_si1 (by omega)]; exact hn), if_pos e1, ltq, tc_iN (by omega), ltq]
  rw [show ∀ x, gi (si (si (si (si w 14 n a1) 15 n x) 16 n (-1)) 17 n a2) 0 28 = Int32.ofNat n by (intro x; rw [gi_si1 (by omega), gi_si1 (by omega), gi_si1 (by omega), gi_si1 (by omega)]; exact hn), ad1_iN, gi_si0, sb1_iN (by omega) (by omega)]
  refine ⟨_, rfl, gi_si0 _ _ _ _, ?_, ?_, ?_, ?_, fun k j hp => ⟨?_, rfl⟩⟩
  · repeat first | rw [gi_si0] | rw [gi_si1 (by omega)]
  · repeat first | rw [gi_si0] | rw [gi_si1 (by omega)]
  · repeat first | rw [gi_si0] | rw [gi_si1 (by omega)]
  · repeat first | rw [gi_si0] | rw [gi_si1 (by omega)]
  · repeat rw [gi_si1 (by omega)]
theorem UPM.agr {n n' : Nat} {u w : Wd} (hn : n ≤ n') : ∀ {st : List Nat}, UPM n w st → (∀ s, s < n → gi u 14 s = gi w 14 s) → UPM n' u st := by
  intro st
  induction st with
  | nil => exact fun _ _ => trivial
  | cons s r ih => exact fun h hA => ⟨(hA s h.2.1).trans h.1, by have := h.2.1; omega, ih h.2.2 hA⟩
/-- into a SCOPE -/
theorem J.enter (hT : TOKS kd wr nm vv m z gA gM) (hS : STBJ stk prs obl P) (hst : STJ kd wr nm vv m z gA gM lv sl us stk prs C TK SL t d b fa wA wM) (hP : lv = true → P C t wA wM) (hb : b < 3990) (hb2 : 2800 ≤ b) (hw : lv = true → 3 * C 2 + 3 ≤ wr t) {v : Int32} {KA : Wd → Option γ} {KM : Int32 → Wd → Option (Option α × Wd)}
    (H : ∀ s uA uM, STJ kd wr nm vv m z gA gM lv sl us (s :: stk) prs (upC C 2 (C 2 + 1)) TK SL t d (b + 1) fa uA uM → (lv = true → s = C 2) → (lv = true → P (upC C 2 (C 2 + 1)) t uA uM ∧ gi uM 14 (C 2) = hdM stk ∧ gi uM 15 (C 2) = gi wM 0 30 ∧ gi uM 17 (C 2) = v ∧ OFF (fun k j => (k = 26 ∧ (j = 8 ∨ j = 9)) ∨ (k = 32 ∧ j = C 2 + 1)) uA wA ∧ OFF (fun k j => (k = 0 ∧ (j = 28 ∨ j = 29)) ∨ (14 ≤ k ∧ k ≤ 17 ∧ j = C 2)) uM wM) → GLJ kd wr nm z gA gM wd lv stkF fa B (KA uA) (KM (Int32.ofNat (C 2)) uM) S) :
    GLJ kd wr nm z gA gM wd lv stkF fa B (bn (fX7_enter wA) KA) (bn2 (fX12_newScope (gi wM 0 29) v wM) fun x w3 => lt (si w3 0 29 x) (KM x)) S := by
  have hin := hst.in1
  cases lv
  · rcases hst with ⟨h1, _⟩ | ⟨_, h2, h3⟩
    · exact absurd h1 (by decide)
    · obtain ⟨a, c, e, TK', SL', ns, nsc, f, g⟩ := h3
      obtain ⟨u, u1, u2, u3⟩ := a_enter f (by omega)
      have hoff : OFF PAA u gA := OFF.tr (u3.mono (fun k j hp => by unfold PAA; omega)) e
      have hin2 : IN1 kd wr z u (z - 1) 0 fa := a.off u3 (fun k j hp => by omega)
      rw [u1]
      have hD : STJ kd wr nm vv m z gA gM false sl us (nsc :: stk) prs (upC C 2 (C 2 + 1)) TK SL t d (b + 1) fa u wM := Or.inr ⟨rfl, h2, hin2, c, hoff, TK', SL', ns, nsc + 1, u2, by omega⟩
      exact ⟨fun _ => (H nsc u wM hD (fun h => absurd h (by decide)) (fun h => absurd h (by decide))).1 rfl, fun h => absurd h (by decide)⟩
  · obtain ⟨hfa, hJ⟩ := hst.jl rfl
    have hw' := hw rfl
    obtain ⟨i1, i2, i3, i4, i5, ⟨b0, b1, b2, b3, b4, b5, b6, b7⟩, i7, ⟨r1, r2, r3, r4, r5⟩, i9, ⟨c1, c2, c3, c4, c5, c6, c7⟩, i11, ⟨l, l1, l2, l3, p, sg, q, r, l4, l5⟩, i13, i14, i15⟩ := hJ
    have hwr := hT.1 t
    obtain ⟨u, u1, u2, u3⟩ := a_enter i7 (by omega)
    obtain ⟨v1, w1, w2, w3, w4, w5, w6, w7⟩ := ns_ok (a1 := gi wM 0 29) (a2 := v) r1 (by omega)
    rw [u1, w1, bn2_so, ltq]
    have hO2 : OFF (fun k j => (k = 0 ∧ (j = 28 ∨ j = 29)) ∨ (14 ≤ k ∧ k ≤ 17 ∧ j = C 2)) (si v1 0 29 (Int32.ofNat (C 2))) wM := OFF.tr (OFF.si (Or.inl ⟨rfl, Or.inr rfl⟩)) (w7.mono (fun k j hp => by omega))
    have e : ∀ {i}, i ≠ 2 → upC C 2 (C 2 + 1) i = C i := fun hi => upC_n hi
    have hC : LEC C (upC C 2 (C 2 + 1)) := fun i => by
      by_cases q : i = 2
      · rw [q, upC_s]; omega
      · rw [e q]; exact Nat.le_refl _
    have fA : ∀ k j, ¬ ((k = 26 ∧ (j = 8 ∨ j = 9)) ∨ (k = 32 ∧ j = C 2 + 1)) → gi u k j = gi wA k j := fun k j hk => (u3 k j hk).1
    have fM : ∀ k j, ¬ ((k = 0 ∧ (j = 28 ∨ j = 29)) ∨ (14 ≤ k ∧ k ≤ 17 ∧ j = C 2)) → gi (si v1 0 29 (Int32.ofNat (C 2))) k j = gi wM k j := fun k j hk => (hO2 k j hk).1
    have hsm : SM kd wr m (si v1 0 29 (Int32.ofNat (C 2))) t d := by
      obtain ⟨⟨a1, a2, a3, a4, a5⟩, a6, a7, a8, a9⟩ := i2
      exact ⟨⟨a1, a2, a3, a4, fun i hi => by rw [fM 2 i (by omega), fM 3 i (by omega)]; exact a5 i hi⟩, a6, a7, by rw [fM 0 7 (by omega)]; exact a8, by rw [fM 0 8 (by omega)]; exact a9⟩
    have hSL : SL (C 2) = [] := (i7.2.2.2.2.1 (C 2) (Nat.le_refl _)).1
    have hRv : RSC nm vv (upC C 2 (C 2 + 1)) TK SL (C 2 :: stk) (si v1 0 29 (Int32.ofNat (C 2))) := by
      unfold RSC
      rw [upC_s, e (by omega), fM 0 42 (by omega)]
      refine ⟨by rw [gi_si1 (by omega)]; exact w2, r2, ⟨by rw [gi_si1 (by omega), w3]; exact i9, by omega, r3.agr (by omega) (fun s hs => fM 14 s (by omega))⟩, fun s hs => ?_, fun i hi => by rw [(hO2 18 i (by omega)).2]; exact r5 i hi⟩
      by_cases q2 : s = C 2
      · rw [q2, hSL, gi_si1 (by omega)]; exact w5
      · rw [fM 16 s (by omega)]
        exact (r4 s (by omega)).agr (fun i _ => fM 21 i (by omega))
    have hstep : STEP C t stk prs obl wA wM (upC C 2 (C 2 + 1)) t u (si v1 0 29 (Int32.ofNat (C 2))) := by
      have hns9 := i7.2.2.2.2.2.2.2.1
      have hbL : ∀ s, ∀ i ∈ SL s, i < 9000 := fun s i hi => by have := ((i7.2.2.2.2.2.1 s).2.2 i hi).1; omega
      refine ⟨hC, Nat.le_refl _, fun k j hk => fA k j (by omega), fun k j hk => hO2 k j (by omega), fun hh => by rw [fM 0 10 (by omega)]; exact hh, RSC.exl (stk := stk) (stk' := C 2 :: stk) ⟨r1, r2, r3, r4, r5⟩ hRv (by rw [e (by omega)]; exact Nat.le_refl _) (by rw [upC_s]; omega) (by rw [e (by omega)]; omega) (by rw [upC_s]; omega) hbL hbL (fun s i hs hi hm => ?_) (fun s => List.suffix_refl _), EXS.off hO2 (fun k j hk => by omega)⟩
      by_cases q2 : s = C 2
      · rw [q2, hSL] at hm
        exact absurd hm (by simp)
      · rw [upC_s] at hs
        exact ⟨by omega, hm⟩
    refine H (C 2) u _ (Or.inl ⟨rfl, hfa, i1.off u3 (fun k j hp => by omega), hsm, OFF.tr (u3.mono (fun k j hp => by unfold PAA; omega)) i3, OFF.tr (hO2.mono (fun k j hp => by unfold PMM; omega)) i4, ?_, ?_, ?_, ?_, gi_si0 _ _ _ _, ?_, ?_, ⟨l, l1, ?_, l3, p, sg, q, r, l4, ?_⟩, ?_, ?_, ?_⟩) (fun _ => rfl) (fun _ => ⟨hS _ _ _ _ _ _ _ _ (hP rfl) hstep, ?_, ?_, ?_, u3, hO2⟩)
    · have e1 : FLA u = FLA wA := by
        unfold FLA
        rw [fA 3 6 (by omega), fA 3 7 (by omega)]
      have e2 : FLM (si v1 0 29 (Int32.ofNat (C 2))) = FLM wM := by
        unfold FLM
        rw [fM 0 10 (by omega), fM 0 11 (by omega)]
      rw [e1, e2]
      exact i5
    · rw [upC_s, e (by omega), e (by omega), e (by omega), e (by omega), e (by omega)]
      exact ⟨b0, b1, by omega, b3, b4, b5, b6, b7⟩
    · rw [upC_s, e (by omega)]
      exact u2
    · exact hRv
    · rw [e (by omega), e (by omega), e (by omega), e (by omega), e (by omega), e (by omega), fM 0 23 (by omega), fM 0 59 (by omega), fM 0 53 (by omega), fA 13 14 (by omega), fM 0 54 (by omega), fA 13 13 (by omega), fA 13 12 (by omega)]
      exact ⟨c1, c2, c3, c4, c5, c6, c7⟩
    · exact fun i hi => (i11 i hi).agr hC (fun k hk => fA k _ (by omega)) (fA 25 _ (by omega)) (fun k hk => fM k _ (by omega)) (fun p _ => fM 30 p (by omega)) (fun p _ _ => ⟨fM 29 p (by omega), fM 31 p (by omega), fM 32 p (by omega)⟩)
    · rw [fA 34 5 (by omega)]; exact l2
    · rw [fM 0 30 (by omega)]; exact l5
    · exact i13.agr hC (fun l _ => ⟨fA 36 l (by omega), fA 38 l (by omega)⟩) (fun p _ => ⟨fM 35 p (by omega), fM 34 p (by omega), fM 30 p (by omega), fM 37 p (by omega)⟩)
    · intro j hj hz
      rw [fA 25 j (by omega)]
      exact i14 j hj hz
    · exact i15.agr b6 (e (by omega)) (e (by omega)) (Nat.le_refl _) (fun k' i' hk' => fM k' i' (by omega)) (fun x hx => by rw [fM 0 10 (by omega), fM 0 11 (by omega)]; exact hx)
    · rw [gi_si1 (by omega), w3]; exact i9
    · rw [gi_si1 (by omega), w4]
    · rw [gi_si1 (by omega), w6]
/-- into a SCOPE no symbol gets -/
theorem STJ.exe {sl' us' t' d' b' : Nat} {prs' : PRL} {fa' : Int32} {stk' : List Nat} {uA uM : Wd} (h : STJ kd wr nm vv m z gA gM true sl us stk prs C TK SL t d b fa wA wM) (h' : STJ kd wr nm vv m z gA gM true sl' us' stk' prs' (upC C 2 (C 2 + 1)) TK SL t' d' b' fa' uA uM) (h10 : gi wM 0 10 ≠ 0 → gi uM 0 10 ≠ 0) (hX : EXS wM uM) : EXF wM uM := by
  have hJ := (h.jl rfl).2
  have hJ' := (h'.jl rfl).2
  have hc := hJ.2.2.2.2.2.2.1
  have hns := hc.2.2.2.2.2.2.2.1
  have hnc := hc.2.2.2.2.2.2.2.2
  have e1 : upC C 2 (C 2 + 1) 1 = C 1 := upC_n (by omega)
  have e2 : upC C 2 (C 2 + 1) 2 = C 2 + 1 := upC_s
  have hb : ∀ s, ∀ i ∈ SL s, i < 9000 := fun s i hi => by have := ((hc.2.2.2.2.2.1 s).2.2 i hi).1; omega
  refine ⟨h10, RSC.exl hJ.2.2.2.2.2.2.2.1 hJ'.2.2.2.2.2.2.2.1 (by omega) (by omega) (by omega) (by omega) hb hb (fun s i hs hi hm => ?_) (fun s => List.suffix_refl _), hX⟩
  by_cases q2 : s = C 2
  · rw [q2, (hc.2.2.2.2.1 (C 2) (Nat.le_refl _)).1] at hm
    exact absurd hm (by simp)
  · exact ⟨by omega, hm⟩
/-- out of a SCOPE -/
theorem J.leave (hT : TOKS kd wr nm vv m z gA gM) (hS : STBJ stk prs obl P) {s : Nat} (hst : STJ kd wr nm vv m z gA gM lv sl us (s :: stk) prs C TK SL t d b fa wA wM) (hP : lv = true → P C t wA wM) (hb : b < 4000) {v : Int32} (hv : lv = true → v = hdM stk) {KA : Wd → Option γ} {KM : Wd → Option (Option α × Wd)}
    (H : ∀ uA uM, STJ kd wr nm vv m z gA gM lv sl us stk prs C TK SL t d b fa uA uM → (lv = true → P C t uA uM ∧ OFF (fun k j => (k = 26 ∧ j = 9) ∨ k = 27) uA wA ∧ OFF (fun k j => k = 0 ∧ j = 29) uM wM) → GLJ kd wr nm z gA gM wd lv stkF fa B (KA uA) (KM uM) S) :
    GLJ kd wr nm z gA gM wd lv stkF fa B (bn (fX7_leave wA) KA) (lt (si wM 0 29 v) KM) S := by
  have hin := hst.in1
  cases lv
  · rcases hst with ⟨h1, _⟩ | ⟨_, h2, h3⟩
    · exact absurd h1 (by decide)
    · obtain ⟨a, c, e, TK', SL', ns, nsc, f, g⟩ := h3
      obtain ⟨u, u1, u2, u3⟩ := a_leave f (by omega)
      have hoff : OFF PAA u gA := OFF.tr (u3.mono (fun k j hp => by unfold PAA; omega)) e
      have hin2 : IN1 kd wr z u (z - 1) 0 fa := a.off u3 (fun k j hp => by omega)
      rw [u1]
      exact ⟨fun _ => (H u wM (Or.inr ⟨rfl, h2, hin2, c, hoff, TK', SL', ns, nsc, u2, g⟩) (fun h => absurd h (by decide))).1 rfl, fun h => absurd h (by decide)⟩
  · obtain ⟨hfa, hJ⟩ := hst.jl rfl
    obtain ⟨i1, i2, i3, i4, i5, ⟨b0, b1, b2, b3, b4, b5, b6, b7⟩, i7, ⟨r1, r2, r3, r4, r5⟩, i9, ⟨c1, c2, c3, c4, c5, c6, c7⟩, i11, ⟨l, l1, l2, l3, p, sg, q, r, l4, l5⟩, i13, i14, i15⟩ := hJ
    have hwr := hT.1 t
    obtain ⟨u, u1, u2, u3⟩ := a_leave i7 (by omega)
    rw [u1, hv rfl, ltq]
    have hO2 : OFF (fun k j => k = 0 ∧ j = 29) (si wM 0 29 (hdM stk)) wM := OFF.si ⟨rfl, rfl⟩
    have fA : ∀ k j, ¬ ((k = 26 ∧ j = 9) ∨ k = 27) → gi u k j = gi wA k j := fun k j hk => (u3 k j hk).1
    have fM : ∀ k j, ¬ (k = 0 ∧ j = 29) → gi (si wM 0 29 (hdM stk)) k j = gi wM k j := fun k j hk => (hO2 k j hk).1
    have hsm : SM kd wr m (si wM 0 29 (hdM stk)) t d := i2.si (by omega) (by omega)
    have hstep : STEP C t stk prs obl wA wM C t u (si wM 0 29 (hdM stk)) := by
      refine ⟨LEC.rf, Nat.le_refl _, fun k j hk => fA k j (by omega), fun k j hk => hO2 k j (by omega), EXF.off hO2 (fun k j hk => by omega)⟩
    refine H u _ (Or.inl ⟨rfl, hfa, i1.off u3 (fun k j hp => by omega), hsm, OFF.tr (u3.mono (fun k j hp => by unfold PAA; omega)) i3, OFF.tr (hO2.mono (fun k j hp => by unfold PMM; omega)) i4, ?_, ⟨b0, b1, b2, b3, b4, b5, b6, b7⟩, u2, ?_, gi_si0 _ _ _ _, ?_, ?_, ⟨l, l1, ?_, l3, p, sg, q, r, l4, ?_⟩, ?_, ?_, ?_⟩) (fun _ => ⟨hS _ _ _ _ _ _ _ _ (hP rfl) hstep, u3, hO2⟩)
    · have e1 : FLA u = FLA wA := by
        unfold FLA
        rw [fA 3 6 (by omega), fA 3 7 (by omega)]
      have e2 : FLM (si wM 0 29 (hdM stk)) = FLM wM := by
        unfold FLM
        rw [fM 0 10 (by omega), fM 0 11 (by omega)]
      rw [e1, e2]
      exact i5
    · unfold RSC
      rw [fM 0 42 (by omega), fM 0 28 (by omega)]
      refine ⟨r1, r2, r3.2.2.agr (Nat.le_refl _) (fun s hs => fM 14 s (by omega)), fun s hs => ?_, fun i hi => by rw [(hO2 18 i (by omega)).2]; exact r5 i hi⟩
      rw [fM 16 s (by omega)]
      exact (r4 s (by omega)).agr (fun i _ => fM 21 i (by omega))
    · rw [fM 0 23 (by omega), fM 0 59 (by omega), fM 0 53 (by omega), fA 13 14 (by omega), fM 0 54 (by omega), fA 13 13 (by omega), fA 13 12 (by omega)]
      exact ⟨c1, c2, c3, c4, c5, c6, c7⟩
    · exact fun i hi => (i11 i hi).agr LEC.rf (fun k hk => fA k _ (by omega)) (fA 25 _ (by omega)) (fun k hk => fM k _ (by omega)) (fun p _ => fM 30 p (by omega)) (fun p _ _ => ⟨fM 29 p (by omega), fM 31 p (by omega), fM 32 p (by omega)⟩)
    · rw [fA 34 5 (by omega)]; exact l2
    · rw [fM 0 30 (by omega)]; exact l5
    · exact i13.agr LEC.rf (fun l _ => ⟨fA 36 l (by omega), fA 38 l (by omega)⟩) (fun p _ => ⟨fM 35 p (by omega), fM 34 p (by omega), fM 30 p (by omega), fM 37 p (by omega)⟩)
    · intro j hj hz
      rw [fA 25 j (by omega)]
      exact i14 j hj hz
    · exact i15.agr b6 rfl rfl (Nat.le_refl _) (fun k' i' hk' => fM k' i' (by omega)) (fun x hx => by rw [fM 0 10 (by omega), fM 0 11 (by omega)]; exact hx)
end JT
