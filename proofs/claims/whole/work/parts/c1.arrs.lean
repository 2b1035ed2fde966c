/-! BOTH SIDES: ARRAYS settled -/
section JT
variable {kd wr nm : Nat → Nat} {vv : Nat → Int64} {m z : Nat} {gA gM : Wd} {lv : Bool} {sl us B : Nat} {stk obl stkF : List Nat} {prs : PRL} {C TK : Nat → Nat} {SL : Nat → List Nat} {t d b : Nat} {fa : Int32} {wA wM : Wd} {γ α : Type} {wd : γ → Wd} {S : γ → α → Wd → Prop} {P : (Nat → Nat) → Nat → Wd → Wd → Prop}
theorem JL.lev {p sg q : Nat} {r : PRL} (h : JL kd wr nm vv m z gA gM sl us stk ((p, sg, q) :: r) C TK SL t d wA wM) : gi wM 30 p = Int32.ofNat r.length ∧ gi wM 35 p = Int32.ofNat q := by
  obtain ⟨i1, i2, i3, i4, i5, i6, i7, i8, i9, c, i11, i12, ⟨s1, s2, s3, s6, s7⟩, i14, i15⟩ := h
  exact ⟨s6, s2⟩
theorem m_213 {k : Int32 → Int32 → Int32 → Int32 → Wd → Option (Option Int32 × Wd)} {e5 i p q : Nat} {a6 a8 : Int32} {w : Wd} (hi : i < e5) (he : e5 ≤ 5000) (h30 : gi w 0 30 = Int32.ofNat p) (hp : p < 1200) (hq : gi w 35 p = Int32.ofNat q) : fX12_arrays_213 k (Int32.ofNat e5) a6 a8 (Int32.ofNat i) w = k (Int32.ofNat e5) a6 a8 (Int32.ofNat (i + 1)) (si (si (si w 24 i a8) 35 p (Int32.ofNat (q + 8))) 26 i (Int32.ofNat q)) := by
  unfold fX12_arrays_213
  rw [if_neg (nle_iN hi (by omega)), if_pos (inb_iN (by omega) (by omega)), tc_iN (by omega), ltq, show (8 : Int32) = Int32.ofNat 8 from rfl, sl_ok (p := p) (by rw [gi_si1 (by omega)]; exact h30) hp, bn2_so, if_pos (inb_iN (by omega) (by omega)), ltq, ltq, gi_si1 (show ¬ (35 = 24 ∧ p = i) by omega), hq, add_iN, ad1_iN i]
def QAA (i0 jn k j : Nat) : Prop := ((k = 18 ∨ k = 19) ∧ i0 + 1 ≤ j ∧ j ≤ i0 + jn) ∨ PS6 k j ∨ PRE k j
def QAM (i0 jn p k j : Nat) : Prop := ((k = 24 ∨ k = 26) ∧ i0 ≤ j ∧ j < i0 + jn) ∨ (k = 35 ∧ j = p)
def AR2 (bb sg q i : Nat) (fA fM : Wd) : Prop := gi fA 19 (i + 1) = Int32.ofNat bb ∧ gi fA 18 (i + 1) = Int32.ofNat sg ∧ gi fM 24 i = Int32.ofNat bb ∧ gi fM 26 i = Int32.ofNat q
theorem arr_settle (hT : TOKS kd wr nm vv m z gA gM) {s p sg0 q0 s1 ty i0 jn bb : Nat} {r : PRL} {a6 : Int32} {vA vM : Wd} {KA : Wd → Option γ} {KM : Int32 → Wd → Option (Option α × Wd)} (hbb : 1 ≤ bb ∧ bb ≤ 3) (hty : 1 ≤ ty ∧ ty ≤ 2) (hC1 : C 1 = i0 + jn) (hsg : sg0 ≤ 6 + 8 * i0 + C 3 + C 0) (hq : q0 ≤ 1 + 8 * i0 + 2 * C 3)
    (hAR : ∀ i, i < jn → AR1 s ty (s1 + 2 * i) (i0 + i) r.length p vA vM ∧ TK (i0 + i) = s1 + 2 * i ∧ kd (s1 + 2 * i) = 2 ∧ s1 + 2 * i < m)
    (HX : ∀ uA uM, STJ kd wr nm vv m z gA gM true 0 (i0 + jn) (s :: stk) ((p, sg0 + jn * (2 + 2 * bb), q0 + jn * 8) :: r) C TK SL t d b fa uA uM → OFF (QAA i0 jn) uA vA → OFF (QAM i0 jn p) uM vM → (∀ i, i < jn → AR2 bb (sg0 + i * (2 + 2 * bb)) (q0 + i * 8) (i0 + i) uA uM) → GLJ kd wr nm z gA gM wd true stkF fa B (KA uA) (KM a6 uM) S)
    {fo fm : Nat} : ∀ (n i : Nat) (wA wM : Wd), jn ≤ i + n → i ≤ jn → STJ kd wr nm vv m z gA gM true 0 (i0 + i) (s :: stk) ((p, sg0 + i * (2 + 2 * bb), q0 + i * 8) :: r) C TK SL t d b fa wA wM → OFF (QAA i0 jn) wA vA → OFF (QAM i0 jn p) wM vM → (∀ i', i' < i → AR2 bb (sg0 + i' * (2 + 2 * bb)) (q0 + i' * 8) (i0 + i') wA wM) →
      GLJ kd wr nm z gA gM wd true stkF fa B (bn (oX4_arrays_68 (fo + n + 1) (Int32.ofNat s1) (Int32.ofNat jn) (Int32.ofNat bb) (Int32.ofNat i) wA) KA) (be (oX12_arrays_213 (fm + n + 1) (Int32.ofNat (i0 + jn)) a6 (Int32.ofNat bb) (Int32.ofNat (i0 + i)) wM) KM) S := by
  have hend : ∀ (n : Nat) (wA wM : Wd), STJ kd wr nm vv m z gA gM true 0 (i0 + jn) (s :: stk) ((p, sg0 + jn * (2 + 2 * bb), q0 + jn * 8) :: r) C TK SL t d b fa wA wM → OFF (QAA i0 jn) wA vA → OFF (QAM i0 jn p) wM vM → (∀ i', i' < jn → AR2 bb (sg0 + i' * (2 + 2 * bb)) (q0 + i' * 8) (i0 + i') wA wM) →
      GLJ kd wr nm z gA gM wd true stkF fa B (bn (oX4_arrays_68 (fo + n + 1) (Int32.ofNat s1) (Int32.ofNat jn) (Int32.ofNat bb) (Int32.ofNat jn) wA) KA) (be (oX12_arrays_213 (fm + n + 1) (Int32.ofNat (i0 + jn)) a6 (Int32.ofNat bb) (Int32.ofNat (i0 + jn)) wM) KM) S := by
    intro n wA wM hst hOA hOM hv
    have hJ := (hst.jl rfl).2
    have hcc := hJ.2.2.2.2.2.1
    have hwt := hT.1 t
    rw [a_68e (Nat.le_refl _) (by omega), bn_so]
    have e2 : oX12_arrays_213 (fm + n + 1) (Int32.ofNat (i0 + jn)) a6 (Int32.ofNat bb) (Int32.ofNat (i0 + jn)) wM = some (some a6, wM) := by
      show fX12_arrays_213 (oX12_arrays_213 (fm + n)) (Int32.ofNat (i0 + jn)) a6 (Int32.ofNat bb) (Int32.ofNat (i0 + jn)) wM = _
      unfold fX12_arrays_213
      rw [if_pos (ofle (Nat.le_refl _) (by omega))]
    rw [e2, be_so]
    have hOp : OFF PRE (fX0_put_ 27 (2 * Int32.ofNat bb) wA).2 wA := e_put_
    refine HX _ wM (hst.pre hT hOp) (OFF.tr (hOp.mono fun k j h => Or.inr (Or.inr h)) hOA) hOM (fun i hi => ?_)
    obtain ⟨b1, b2, b3, b4⟩ := hv i hi
    exact ⟨by rw [(hOp 19 _ (by unfold PRE; omega)).1]; exact b1, by rw [(hOp 18 _ (by unfold PRE; omega)).1]; exact b2, b3, b4⟩
  intro n
  induction n with
  | zero =>
    intro i wA wM h1 h2 hst hOA hOM hv
    have hi : i = jn := by omega
    subst hi
    exact hend 0 wA wM hst hOA hOM hv
  | succ n ih =>
    intro i wA wM h1 h2 hst hOA hOM hv
    by_cases q : i < jn
    · have hJ := (hst.jl rfl).2
      have hcc := hJ.2.2.2.2.2.1
      have hwt := hT.1 t
      obtain ⟨⟨a1, a2, a3, a4, a5, a6', a7, a8, a9, a10⟩, hTK, hk2, hsm⟩ := hAR i q
      have hm9 := hJ.2.1.1.1
      have e3 : (Int32.ofNat s1) + (2 * Int32.ofNat i) = Int32.ofNat (s1 + 2 * i) := by
        rw [show (2 : Int32) = Int32.ofNat 2 from rfl, mul_iN, add_iN]
      rw [show fo + (n + 1) + 1 = (fo + n + 1) + 1 by omega, a_68 hst.in1.2.1 q (by omega), e3]
      have e4 : oX12_arrays_213 (fm + (n + 1) + 1) (Int32.ofNat (i0 + jn)) a6 (Int32.ofNat bb) (Int32.ofNat (i0 + i)) wM = fX12_arrays_213 (oX12_arrays_213 (fm + n + 1)) (Int32.ofNat (i0 + jn)) a6 (Int32.ofNat bb) (Int32.ofNat (i0 + i)) wM := rfl
      have hp4 := hJ.topq.2.2
      rw [e4, m_213 (p := p) (q := q0 + i * 8) (by omega) (by omega) hJ.topq.2.1 (by omega) hJ.lev.2]
      have hmul : i * (2 + 2 * bb) + (2 + 2 * bb) ≤ 8 * (i + 1) := by
        have h8 : 2 + 2 * bb ≤ 8 := by omega
        have := Nat.mul_le_mul_left (i + 1) h8
        rw [Nat.succ_mul] at this
        omega
      obtain ⟨hst1, hO1, g19, g18⟩ := arW_ok (i := i0 + i) (bb := bb) (tk := s1 + 2 * i) hT hst (by omega) (Nat.le_refl _) (by rw [(hOA 25 _ (by unfold QAA PS6 PRE; omega)).1]; exact a6') (by omega) (by omega)
      generalize arW (fX8_declaredAt (Int32.ofNat (s1 + 2 * i)) wA) (Int32.ofNat bb) wA = yA at hst1 hO1 g19 g18 ⊢
      have hst2 : STJ kd wr nm vv m z gA gM true 0 (i0 + i) (s :: stk) ((p, sg0 + i * (2 + 2 * bb) + (2 + 2 * bb), q0 + i * 8 + 8) :: r) C TK SL t d b fa yA (si wM 35 p (Int32.ofNat (q0 + i * 8 + 8))) := hst1.slotM (fun _ => ⟨OFF.si ⟨rfl, rfl⟩, gi_si0 _ _ _ _, by omega⟩)
      have hO2 : OFF (fun k j => ((k = 24 ∨ k = 26) ∧ j = i0 + i) ∨ (k = 35 ∧ j = p)) (si (si (si wM 24 (i0 + i) (Int32.ofNat bb)) 35 p (Int32.ofNat (q0 + i * 8 + 8))) 26 (i0 + i) (Int32.ofNat (q0 + i * 8))) wM := OFF.tr (OFF.si (by omega)) (OFF.tr (OFF.si (by omega)) (OFF.si (by omega)))
      have y24 : gi (si (si (si wM 24 (i0 + i) (Int32.ofNat bb)) 35 p (Int32.ofNat (q0 + i * 8 + 8))) 26 (i0 + i) (Int32.ofNat (q0 + i * 8))) 24 (i0 + i) = Int32.ofNat bb := by rw [gi_si1 (by omega), gi_si1 (by omega), gi_si0]
      have y26 : gi (si (si (si wM 24 (i0 + i) (Int32.ofNat bb)) 35 p (Int32.ofNat (q0 + i * 8 + 8))) 26 (i0 + i) (Int32.ofNat (q0 + i * 8))) 26 (i0 + i) = Int32.ofNat (q0 + i * 8) := gi_si0 _ _ _ _
      have y35 : gi (si (si (si wM 24 (i0 + i) (Int32.ofNat bb)) 35 p (Int32.ofNat (q0 + i * 8 + 8))) 26 (i0 + i) (Int32.ofNat (q0 + i * 8))) 35 p = Int32.ofNat (q0 + i * 8 + 8) := by rw [gi_si1 (by omega), gi_si0]
      have ygl : ∀ k j, gl (si (si (si wM 24 (i0 + i) (Int32.ofNat bb)) 35 p (Int32.ofNat (q0 + i * 8 + 8))) 26 (i0 + i) (Int32.ofNat (q0 + i * 8))) k j = gl wM k j := fun _ _ => rfl
      generalize si (si (si wM 24 (i0 + i) (Int32.ofNat bb)) 35 p (Int32.ofNat (q0 + i * 8 + 8))) 26 (i0 + i) (Int32.ofNat (q0 + i * 8)) = yM at hO2 y24 y26 y35 ygl ⊢
      have hst3 : STJ kd wr nm vv m z gA gM true 0 (i0 + i) (s :: stk) ((p, sg0 + i * (2 + 2 * bb) + (2 + 2 * bb), q0 + i * 8 + 8) :: r) C TK SL t d b fa yA yM := hst2.attr0 OFF.rf (fun _ => ⟨OFF.rf, fun k j hk => by
        by_cases q35 : k = 35 ∧ j = p
        · rw [q35.1, q35.2, gi_si0]
          exact ⟨y35, ygl _ _⟩
        · have e := hO2 k j (fun hq => by
            unfold PMT at hk
            omega)
          exact ⟨e.1.trans (gi_si1 q35).symm, e.2⟩⟩)
      have fA : ∀ k j, ¬ (((k = 18 ∨ k = 19) ∧ i0 + 1 ≤ j ∧ j ≤ i0 + jn) ∨ PS6 k j ∨ PRE k j) → gi yA k j = gi vA k j := fun k j hk => ((hO1 k j (fun hq => hk (by
        rcases hq with hq | hq | hq
        · exact Or.inl (by omega)
        · exact Or.inr (Or.inl hq)
        · exact Or.inr (Or.inr hq)))).1).trans (hOA k j hk).1
      have fM : ∀ k j, ¬ (((k = 24 ∨ k = 26) ∧ i0 ≤ j ∧ j < i0 + jn) ∨ (k = 35 ∧ j = p)) → gi yM k j = gi vM k j := fun k j hk => ((hO2 k j (by omega)).1).trans (hOM k j hk).1
      have hsym : SYM kd m C TK yA yM (i0 + i) := by
        refine ⟨by omega, by rw [hTK]; exact hk2, ?_, ?_, ?_, ?_, ⟨ty, hty.2, ?_⟩, ⟨p, r.length, ?_, hp4, ?_, ?_⟩, Or.inr (Or.inl ⟨?_, ?_, ?_, ?_, bb, hbb.1, hbb.2, g19, y24⟩)⟩
        · rw [hTK, fA 21 _ (by unfold PS6 PRE; omega)]; exact a1
        · rw [hTK, fM 22 _ (by omega)]; exact a9
        · rw [hTK, fA 25 _ (by unfold PS6 PRE; omega)]; exact a6'
        · rw [fA 15 _ (by unfold PS6 PRE; omega), fM 20 _ (by omega)]; exact a3.trans a8.symm
        · rw [fM 20 _ (by omega)]; exact a8
        · rw [fM 23 _ (by omega)]; exact a10.1
        · rw [fA 17 _ (by unfold PS6 PRE; omega)]; exact a4
        · exact (hst3.jl rfl).2.lev.1
        · rw [fM 19 _ (by omega)]; exact a7
        · rw [fA 14 _ (by unfold PS6 PRE; omega)]; exact a2
        · rw [fA 16 _ (by unfold PS6 PRE; omega)]; exact a5
        · rw [fM 20 _ (by omega), a8]
          exact of_ne (k := 0) (by omega) (by omega) (by omega)
      have hst4 := STJ.us1 hst3 (fun _ => ⟨by omega, hsym, by rw [fM 19 _ (by omega), a7]; decide⟩)
      have e5 : (i + 1) * (2 + 2 * bb) = i * (2 + 2 * bb) + (2 + 2 * bb) := Nat.succ_mul i _
      rw [show sg0 + i * (2 + 2 * bb) + (2 + 2 * bb) = sg0 + (i + 1) * (2 + 2 * bb) by omega, show q0 + i * 8 + 8 = q0 + (i + 1) * 8 by omega] at hst4
      refine ih (i + 1) yA yM (by omega) (by omega) hst4 (OFF.tr (hO1.mono fun k j h => ?_) hOA) (OFF.tr (hO2.mono fun k j h => ?_) hOM) (fun i' hi' => ?_)
      · unfold QAA
        rcases h with h | h | h
        · exact Or.inl (by omega)
        · exact Or.inr (Or.inl h)
        · exact Or.inr (Or.inr h)
      · unfold QAM
        omega
      · by_cases q9 : i' = i
        · rw [q9]
          exact ⟨g19, g18, y24, y26⟩
        · obtain ⟨b1, b2, b3, b4⟩ := hv i' (by omega)
          exact ⟨by rw [(hO1 19 _ (by unfold PS6 PRE; omega)).1]; exact b1, by rw [(hO1 18 _ (by unfold PS6 PRE; omega)).1]; exact b2, by rw [(hO2 24 _ (by omega)).1]; exact b3, by rw [(hO2 26 _ (by omega)).1]; exact b4⟩
    · have hi : i = jn := by omega
      subst hi
      exact hend (n + 1) wA wM hst hOA hOM hv
end JT
