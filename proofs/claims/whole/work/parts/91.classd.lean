/-! THE CLASS GOES OVER EXPRS: nots and a sign before an operand -/
section CB
variable {kd wr : Nat → Nat} {gb : Bool} {z base d0 : Nat} {pr : Nat → Nat → Sum Nat Nat} {J : List EV → Wd → Prop}
/-- signs S wait, from base on -/
def CW (J : List EV → Wd → Prop) (base d0 : Nat) (S ev : List EV) (w : Wd) : Prop := gi w 43 4 = Int32.ofNat (base + S.length) ∧ WTS base S w ∧ (∀ s ∈ S, okE s) ∧ CHN S ∧ J ev w ∧ base ≤ 10 * d0 ∧ d0 + notS S ≤ 41
theorem CW.b {S ev : List EV} {w : Wd} (h : CW J base d0 S ev w) : base + S.length ≤ 460 := by
  obtain ⟨h1, h2, h3, h4, h5, h6, h7⟩ := h
  have := h4.le
  omega
theorem CW.off {S ev : List EV} {u w : Wd} (hJ : JX base J) (h : CW J base d0 S ev w) (hO : OFF (PSG base) u w) (hm : gi u 43 4 = gi w 43 4) (hg : ∀ j, j < base + S.length → gi u 44 j = gi w 44 j ∧ gi u 45 j = gi w 45 j) : CW J base d0 S ev u := by
  obtain ⟨h1, h2, h3, h4, h5, h6, h7⟩ := h
  exact ⟨hm.trans h1, h2.agr hg, h3, h4, hJ.2.2 _ _ _ h5 hO, h6, h7⟩
theorem CW.tok {S ev : List EV} {u w : Wd} (hJ : JX base J) (h : CW J base d0 S ev w) (hO : OFF (fun k j => k = 4 ∧ (j = 9 ∨ j = 10)) u w) : CW J base d0 S ev u :=
  h.off hJ (hO.mono (fun _ _ hp => Or.inl hp)) (hO 43 4 (by omega)).1 (fun j _ => ⟨(hO 44 j (by omega)).1, (hO 45 j (by omega)).1⟩)
theorem CW.hold {S ev : List EV} {w : Wd} {x tk : Int32} {s : EV} (hJ : JX base J) (h : CW J base d0 S ev w) (hx : x = sgI s) (htk : tk = Int32.ofNat s.2.2) (hs : okE s) (hc : topS S < stg s.2.1 ∨ s.2.1 = 29 ∧ topS S = 5) (hd : d0 + notS (s :: S) ≤ 41) : CW J base d0 (s :: S) ev (fX10_hold x tk w) ∧ OFF (PSG base) (fX10_hold x tk w) w := by
  have hb := h.b
  obtain ⟨h1, h2, h3, h4, h5, h6, h7⟩ := h
  obtain ⟨a1, a2, a3⟩ := c_hold hx htk h1 h2 (by omega)
  exact ⟨⟨a1, a2, fun y hy => by
    rcases List.mem_cons.mp hy with rfl | hy
    · exact hs
    · exact h3 y hy, ⟨hc, h4⟩, hJ.2.2 _ _ _ h5 a3, h6, hd⟩, a3⟩
theorem CT.psg {w u : Wd} {t : Nat} {fa : Int32} (h : CT kd wr gb z w t fa) (hO : OFF (PSG base) u w) (h9 : gi u 4 9 = gi w 4 9) (h10 : gi u 4 10 = gi w 4 10) : CT kd wr gb z u t fa := by
  obtain ⟨a1, a2, a3, a4, a5, a6, a7, a8, a9, a10⟩ := h
  exact ⟨a1, a2, a3, a4, by rw [(hO 4 8 (by unfold PSG; omega)).1]; exact a5, fun i hi => by rw [(hO 5 i (by unfold PSG; omega)).1, (hO 6 i (by unfold PSG; omega)).1]; exact a6 i hi, a7, h9.trans a8, h10.trans a9, fun hb => (a10 hb).agr (fun k j hk => (hO k j (by unfold PSG; omega)).1)⟩
theorem hold_4 {w : Wd} {x tk : Int32} (j : Nat) : gi (fX10_hold x tk w) 4 j = gi w 4 j := by
  have h : ∀ (k m : Nat) (i v : Int32) (u : Wd), k ≠ 4 → gi (rsi u k m i v) 4 j = gi u 4 j := by
    intro k m i v u hk
    unfold Jvm.Pilot.CAlgolMillLaw_law_r8408_c9b5e4.rsi
    split
    · exact gi_si1 (by omega)
    · rfl
  unfold fX10_hold
  dsimp only [lt]
  rw [gi_si1 (by omega), h 45 _ _ _ _ (by omega), h 44 _ _ _ _ (by omega)]
/-- a + or - -/
theorem c_plus (hJ : JX base J) {n t : Nat} {S ev : List EV} {w : Wd} {fa a3 : Int32} (hT : CT kd wr gb z w t fa) (hW : CW J base d0 S ev w) (hn : 9000 ≤ t + n) (h29 : kd t = 29 → 5 < topS S) : ∃ n' S' t' u, opX kd pr d0 n true S t ev = opX kd pr d0 n' true S' t' ev ∧ 9000 ≤ t' + n' ∧ t ≤ t' ∧ (kd t' = 29 → 5 < topS S') ∧ ((kd t' = 33 ∨ kd t' = 34) → 6 < topS S') ∧ notS S' = notS S ∧ fX2_before_69 (Int32.ofNat base) a3 w = some (a3, u) ∧ CT kd wr gb z u t' fa ∧ CW J base d0 S' ev u ∧ OFF (PSG base) u w ∧ (t' = t → S' = S) := by
  have hz := hT.2.1
  have htz := hT.2.2.2.2.2.2.1
  have hk50 := hT.2.2.1 t
  have hb := hW.b
  obtain ⟨n1, rfl⟩ : ∃ n1, n = n1 + 1 := ⟨n - 1, by omega⟩
  unfold fX2_before_69
  dsimp only [lt]
  rw [a_kind hT]
  have hno : ¬ (kd t = 33 ∨ kd t = 34) → ∃ n' S' t' u, opX kd pr d0 (n1 + 1) true S t ev = opX kd pr d0 n' true S' t' ev ∧ 9000 ≤ t' + n' ∧ t ≤ t' ∧ (kd t' = 29 → 5 < topS S') ∧ ((kd t' = 33 ∨ kd t' = 34) → 6 < topS S') ∧ notS S' = notS S ∧ fX2_before_98 false (Int32.ofNat base) a3 w = some (a3, u) ∧ CT kd wr gb z u t' fa ∧ CW J base d0 S' ev u ∧ OFF (PSG base) u w ∧ (t' = t → S' = S) := by
    intro q
    refine ⟨n1 + 1, S, t, w, rfl, hn, Nat.le_refl _, h29, fun h => absurd h q, rfl, ?_, hT, hW, OFF.rf, fun _ => rfl⟩
    unfold fX2_before_98
    exact if_neg (by decide)
  have hyes : (kd t = 33 ∨ kd t = 34) → ∃ n' S' t' u, opX kd pr d0 (n1 + 1) true S t ev = opX kd pr d0 n' true S' t' ev ∧ 9000 ≤ t' + n' ∧ t ≤ t' ∧ (kd t' = 29 → 5 < topS S') ∧ ((kd t' = 33 ∨ kd t' = 34) → 6 < topS S') ∧ notS S' = notS S ∧ fX2_before_98 true (Int32.ofNat base) a3 w = some (a3, u) ∧ CT kd wr gb z u t' fa ∧ CW J base d0 S' ev u ∧ OFF (PSG base) u w ∧ (t' = t → S' = S) := by
    intro q
    unfold fX2_before_98
    rw [if_pos rfl]
    dsimp only [lt, lt2]
    rw [c_strongest hW.1 hW.2.1 (by omega) hW.2.2.1]
    have h9 : topS S ≤ 9 := by
      cases S with
      | nil => exact Nat.zero_le _
      | cons s S => exact stg_le _
    by_cases q6 : 6 < topS S
    · rw [if_pos (show (6 : Int32) < Int32.ofNat (topS S) from ylt_iN (a := 6) q6 (by omega))]
      exact ⟨n1 + 1, S, t, w, rfl, hn, Nat.le_refl _, h29, fun _ => q6, rfl, rfl, hT, hW, OFF.rf, fun _ => rfl⟩
    · have hc : ¬ ((6 : Int32) < Int32.ofNat (topS S)) := nlt_iN (a := 6) (by omega) (by omega)
      rw [if_neg hc, a_at hT, a_kind hT]
      have hg : stg (kd t) = 7 := by
        rcases q with h | h <;> rw [h]
        · exact stg_33
        · exact stg_34
      obtain ⟨b1, b2⟩ := CW.hold (s := (1, kd t, t)) (x := -(Int32.ofNat (kd t))) (tk := Int32.ofNat t) hJ hW (by
        unfold sgI
        rw [if_pos ⟨rfl, by show kd t ≠ 29; omega⟩]) rfl ⟨hk50, by show stg (kd t) ≠ 0; omega, by show t ≤ 8193; omega, Or.inl ⟨rfl, Or.inr q⟩⟩ (Or.inl (by show topS S < stg (kd t); omega)) (by
        have := hW.2.2.2.2.2.2
        show d0 + (notS S + (if kd t = 29 then 1 else 0)) ≤ 41
        rw [if_neg (by omega)]
        exact this)
      have hT1 : CT kd wr gb z (fX10_hold (-(Int32.ofNat (kd t))) (Int32.ofNat t) w) t fa := hT.psg b2 (hold_4 9) (hold_4 10)
      obtain ⟨e1, e2⟩ := a_take (k := fX9_kind (fX10_hold (-(Int32.ofNat (kd t))) (Int32.ofNat t) w)) hT1 (by omega) (a_kind hT1)
      rw [e1]
      have hO1 : OFF (fun k j => k = 4 ∧ (j = 9 ∨ j = 10)) (si (fX10_hold (-(Int32.ofNat (kd t))) (Int32.ofNat t) w) 4 9 (Int32.ofNat (t + 1))) (fX10_hold (-(Int32.ofNat (kd t))) (Int32.ofNat t) w) := OFF.si ⟨rfl, Or.inl rfl⟩
      refine ⟨n1, (1, kd t, t) :: S, t + 1, _, ?_, by omega, by omega, fun _ => by show 5 < stg (kd t); omega, fun _ => by show 6 < stg (kd t); omega, ?_, rfl, e2, b1.tok hJ hO1, OFF.tr (hO1.mono (fun _ _ hp => Or.inl hp)) b2, fun h => by omega⟩
      · rw [opX, if_neg (fun h => by omega), if_pos ⟨q, by omega⟩]
      · show notS S + (if kd t = 29 then 1 else 0) = _
        rw [if_neg (by omega)]
        rfl
  by_cases q33 : kd t = 33
  · rw [if_pos (show Int32.ofNat (kd t) = 33 by rw [q33]; rfl)]
    exact hyes (Or.inl q33)
  · have hc33 : ¬ (Int32.ofNat (kd t) = 33) := fun e => q33 ((eq_iN (a := kd t) (b := 33) (by omega) (by omega)).mp e)
    rw [if_neg hc33]
    by_cases q34 : kd t = 34
    · rw [if_pos (show Int32.ofNat (kd t) = 34 by rw [q34]; rfl)]
      exact hyes (Or.inr q34)
    · have hc34 : ¬ (Int32.ofNat (kd t) = 34) := fun e => q34 ((eq_iN (a := kd t) (b := 34) (by omega) (by omega)).mp e)
      rw [if_neg hc34]
      exact hno (by omega)
/-- all that stands before an operand -/
theorem c_before (hJ : JX base J) {fa : Int32} : ∀ (j n t i f : Nat) (S ev : List EV) (w : Wd), CT kd wr gb z w t fa → CW J base d0 S ev w → 9000 ≤ t + n → d0 + notS S ≤ 40 → 42 ≤ j + (d0 + notS S) → i ≤ d0 + notS S →
    (∃ p S' u, opX kd pr d0 n true S t ev = .inl p ∧ oX2_before_5 (f + j) (Int32.ofNat base) (Int32.ofNat (d0 + notS S)) (Int32.ofNat i) w = some (Int32.ofNat (d0 + notS S'), u) ∧ CT kd wr gb z u (z - 1) (FA wr fa p) ∧ CW J base d0 S' ev u ∧ OFF (PSG base) u w)
    ∨ ∃ n' S' t' u, opX kd pr d0 n true S t ev = opX kd pr d0 n' true S' t' ev ∧ 9000 ≤ t' + n' ∧ t ≤ t' ∧ (kd t' = 29 → 5 < topS S') ∧ ((kd t' = 33 ∨ kd t' = 34) → 6 < topS S') ∧ d0 + notS S' ≤ 40 ∧ oX2_before_5 (f + j) (Int32.ofNat base) (Int32.ofNat (d0 + notS S)) (Int32.ofNat i) w = some (Int32.ofNat (d0 + notS S'), u) ∧ CT kd wr gb z u t' fa ∧ CW J base d0 S' ev u ∧ OFF (PSG base) u w ∧ (t' = t → S' = S) := by
  intro j
  induction j with
  | zero => intro n t i f S ev w hT hW hn hd hj; omega
  | succ j ih =>
    intro n t i f S ev w hT hW hn hd hj hi
    have hz := hT.2.1
    have htz := hT.2.2.2.2.2.2.1
    have hk50 := hT.2.2.1 t
    have hb := hW.b
    have hst : oX2_before_5 (f + (j + 1)) (Int32.ofNat base) (Int32.ofNat (d0 + notS S)) (Int32.ofNat i) w = fX2_before_5 (oX2_before_5 (f + j)) (Int32.ofNat base) (Int32.ofNat (d0 + notS S)) (Int32.ofNat i) w := rfl
    rw [hst]
    unfold fX2_before_5
    have hc40 : ¬ ((40 : Int32) < Int32.ofNat i) := nlt_iN (a := 40) (by omega) (by omega)
    rw [if_neg hc40]
    dsimp only [lt]
    rw [a_kind hT]
    have h9 : topS S ≤ 9 := by
      cases S with
      | nil => exact Nat.zero_le _
      | cons s S => exact stg_le _
    by_cases q : kd t = 29
    · rw [if_pos (show Int32.ofNat (kd t) = 29 by rw [q]; rfl), c_strongest hW.1 hW.2.1 (by omega) hW.2.2.1]
      by_cases q5 : topS S ≤ 5
      · rw [if_pos (show Int32.ofNat (topS S) ≤ 5 from yle_iN (b := 5) q5 (by omega)), a_at hT]
        obtain ⟨n1, rfl⟩ : ∃ n1, n = n1 + 1 := ⟨n - 1, by omega⟩
        have hno : notS ((1, 29, t) :: S) = notS S + 1 := rfl
        obtain ⟨b1, b2⟩ := CW.hold (s := (1, 29, t)) (x := 29) (tk := Int32.ofNat t) hJ hW rfl rfl ⟨by show 29 ≤ 50; omega, by show stg 29 ≠ 0; decide, by show t ≤ 8193; omega, Or.inl ⟨rfl, Or.inl rfl⟩⟩ (by
          show topS S < stg 29 ∨ 29 = 29 ∧ topS S = 5
          rw [stg_29]; omega) (by omega)
        have hT1 : CT kd wr gb z (fX10_hold 29 (Int32.ofNat t) w) t fa := hT.psg b2 (hold_4 9) (hold_4 10)
        obtain ⟨o1, o2, o3, o4⟩ := a_open (d := d0 + notS S) hT1 (by omega) (by omega) hd
        dsimp only [lt2]
        rw [o1, ad1_iN]
        have hop : opX kd pr d0 (n1 + 1) true S t ev = (if 40 ≤ d0 + notS S then .inl (t + 1) else opX kd pr d0 n1 true ((1, 29, t) :: S) (t + 1) ev) := by
          rw [opX, if_pos ⟨q, q5⟩]
        have hOO : OFF (PSG base) (fX9_open (Int32.ofNat (d0 + notS S)) (fX10_hold 29 (Int32.ofNat t) w)).2 w := OFF.tr (o4.mono (fun _ _ hp => Or.inl hp)) b2
        have hd1 : d0 + notS S + 1 = d0 + notS ((1, 29, t) :: S) := by omega
        rw [hop, hd1]
        by_cases q40 : 40 ≤ d0 + notS S
        · rw [if_pos q40]
          left
          have hT2 := o3 q40
          have hW2 := b1.tok hJ o4
          have hk0 : kd (z - 1) = 0 := hT.2.2.2.1 (z - 1) (by omega)
          refine ⟨t + 1, (1, 29, t) :: S, _, rfl, ?_, hT2, hW2, hOO⟩
          obtain ⟨j', rfl⟩ : ∃ j', j = j' + 1 := ⟨j - 1, by omega⟩
          show fX2_before_5 (oX2_before_5 (f + j')) _ _ _ _ = _
          have h69 : ∀ a3, fX2_before_69 (Int32.ofNat base) a3 (fX9_open (Int32.ofNat (d0 + notS S)) (fX10_hold 29 (Int32.ofNat t) w)).2 = some (a3, (fX9_open (Int32.ofNat (d0 + notS S)) (fX10_hold 29 (Int32.ofNat t) w)).2) := by
            intro a3
            unfold fX2_before_69
            dsimp only [lt]
            rw [a_kind hT2, hk0, if_neg (by decide), if_neg (by decide)]
            unfold fX2_before_98
            exact if_neg (by decide)
          unfold fX2_before_5
          rw [h69]
          dsimp only [lt]
          rw [a_kind hT2, hk0, if_neg (show ¬ (Int32.ofNat 0 = 29) by decide), ite_self]
        · rw [if_neg q40]
          have hT2 := o2 (by omega)
          have hW2 := b1.tok hJ o4
          rcases ih n1 (t + 1) (i + 1) f ((1, 29, t) :: S) ev _ hT2 hW2 (by omega) (by omega) (by omega) (by omega) with ⟨p, S', u, c1, c2, c3, c4, c5⟩ | ⟨n', S', t', u, c1, c2, c3, c4, c5, c6, c7, c8, c9, c10, _⟩
          · exact Or.inl ⟨p, S', u, c1, c2, c3, c4, c5.tr hOO⟩
          · exact Or.inr ⟨n', S', t', u, c1, c2, by omega, c4, c5, c6, c7, c8, c9, c10.tr hOO, fun h => by omega⟩
      · have hc5 : ¬ (Int32.ofNat (topS S) ≤ 5) := nle_iN (b := 5) (by omega) (by omega)
        rw [if_neg hc5]
        exact Or.inr ⟨n, S, t, w, rfl, hn, Nat.le_refl _, fun _ => by omega, fun h => by omega, hd, rfl, hT, hW, OFF.rf, fun _ => rfl⟩
    · have hc29 : ¬ (Int32.ofNat (kd t) = 29) := fun e => q ((eq_iN (a := kd t) (b := 29) (by omega) (by omega)).mp e)
      rw [if_neg hc29]
      obtain ⟨n', S', t', u, c1, c2, c3, c4, c5, c6, c7, c8, c9, c10⟩ := c_plus (pr := pr) (a3 := Int32.ofNat (d0 + notS S)) hJ hT hW hn (fun h => absurd h q)
      exact Or.inr ⟨n', S', t', u, c1, c2, c3, c4, c5, by omega, by rw [c6]; exact c7, c8, c9, c10⟩
end CB
