/-! A BLOCK's words and slots, as they lie: BLS -/
section QA0
variable {kd wr nm TK SG : Nat → Nat} {vv : Nat → Int64} {m z : Nat} {Cf : Nat → Nat} {SL : Nat → List Nat} {fA fM : Wd} {NS ns lev : Nat} {W : PSTT} {d p sg Wd' kp : Nat} {stk : List Nat} {r : PRL} {E : SENV}
/-- words of a symbol, by the tables -/
def lnM (fM : Wd) (y : Nat) : Nat := if gi fM 19 y = 1 then (if gi fM 27 y = 0 then 1 else 0) else if gi fM 19 y = 2 then 2 + 2 * nd fM 24 y else 0
theorem lnM_0 {y : Nat} (h1 : gi fM 19 y ≠ 1) (h2 : gi fM 19 y ≠ 2) : lnM fM y = 0 := by
  unfold lnM
  rw [if_neg h1, if_neg h2]
/-- DECLS' words: h: the symbols that count -/
def DSL (fA fM : Wd) (h : Nat → Prop) (sg sg' q q' i i1 : Nat) : Prop :=
  (∀ y, h y → i ≤ y → y < i1 → (gi fM 19 y ≠ 6 ∧ gi fM 19 y ≠ 4 ∧ (gi fM 19 y = 1 ∨ gi fM 19 y = 2 → gi fM 20 y = 1 ∨ gi fM 20 y = 2) ∧ (gi fM 19 y = 2 → 1 ≤ nd fM 24 y ∧ nd fM 24 y ≤ 3)) ∧ (0 < lnM fM y → sg ≤ nd fA 18 (y + 1) ∧ nd fA 18 (y + 1) + lnM fM y ≤ sg' ∧ q ≤ nd fM 26 y ∧ nd fM 26 y + lnM fM y ≤ q')) ∧
  ∀ y y', h y → h y' → i ≤ y → y < y' → y' < i1 → 0 < lnM fM y → 0 < lnM fM y' → nd fA 18 (y + 1) + lnM fM y ≤ nd fA 18 (y' + 1) ∧ nd fM 26 y + lnM fM y ≤ nd fM 26 y'
theorem DSL.nil {h : Nat → Prop} {sg q i : Nat} : DSL fA fM h sg sg q q i i := ⟨fun y _ h1 h2 => absurd h2 (by omega), fun y y' _ _ h1 h2 h3 => absurd h3 (by omega)⟩
theorem DSL.seq {h : Nat → Prop} {s0 s1 s2 q0 q1 q2 i i1 i2 : Nat} (g : DSL fA fM h s0 s1 q0 q1 i i1) (g' : DSL fA fM h s1 s2 q1 q2 i1 i2) (hs : s0 ≤ s1 ∧ s1 ≤ s2 ∧ q0 ≤ q1 ∧ q1 ≤ q2) : DSL fA fM h s0 s2 q0 q2 i i2 := by
  refine ⟨fun y hy h1 h2 => ?_, fun y y' hy hy' h1 h2 h3 h4 h5 => ?_⟩
  · by_cases c : y < i1
    · obtain ⟨a1, a2⟩ := g.1 y hy h1 c
      exact ⟨a1, fun hl => by have := a2 hl; omega⟩
    · obtain ⟨a1, a2⟩ := g'.1 y hy (by omega) h2
      exact ⟨a1, fun hl => by have := a2 hl; omega⟩
  · by_cases c : y' < i1
    · exact g.2 y y' hy hy' h1 h2 c h4 h5
    · by_cases c' : y < i1
      · have a := (g.1 y hy h1 c').2 h4
        have b := (g'.1 y' hy' (by omega) h3).2 h5
        omega
      · exact g'.2 y y' hy hy' (by omega) h2 h3 h4 h5
theorem dcl_dsl (hW : WSP fA fM W) (hT : WTP W) {h : Nat → Prop} (hh : ∀ y t, NIL fM y t → h y → t = stk.headD 0) {out : Int32} {s e sg sg' q q' : Nat} {an : Option Nat} {C C' : CV} (hd : stk.headD 0 < C 2) (hb : sg' ≤ 200000 ∧ q' ≤ 200000) (hX : DCLX kd fA fM W d stk out p r s e sg sg' q q' an C C') : DSL fA fM h sg sg' q q' (C 1) (C' 1) := by
  rcases hX with ⟨s1, j, ty, own, ho, _, t1, t2, _, _, _, _, h9, hD, h0, h1⟩ | ⟨s1, ty, j, n, xs, e1, b, hty, _, _, _, _, _, _, _, _, _, _, _, hb1, hb3, _, _, _, h9, hD, hs, hq, hC⟩ | ⟨_, _, _, h19, _, _, _, _, hs, hq, hC⟩ | ⟨s1, ty, pn, nf, W0, sb, nb, q1, _, _, _, h19, _, _, _, _, _, _, _, _, _, _, _, _, _, _, hD1, hDf, _, _, _, _, _, _, _, hB, hs, hq, _⟩
  · by_cases c : own = 0
    · obtain ⟨x1, x2, x3⟩ := h0 c
      have e1 : C' 1 = C 1 + j := by rw [x3]; exact upD_s
      rw [e1]
      have f : ∀ i, i < j → gi fM 19 (C 1 + i) = 1 ∧ gi fM 20 (C 1 + i) = Int32.ofNat ty ∧ lnM fM (C 1 + i) = 1 ∧ nd fA 18 (C 1 + i + 1) = sg + i ∧ nd fM 26 (C 1 + i) = q + i := fun i hi => by
        obtain ⟨a1, a2, a3, a4, _⟩ := h9 i hi
        obtain ⟨a5, a6⟩ := a4 c
        refine ⟨a1, a2, ?_, by unfold nd; rw [a5, tc_iN (by omega)], by unfold nd; rw [a6, tc_iN (by omega)]⟩
        unfold lnM
        rw [if_pos a1, if_pos (by rw [a3, c]; rfl)]
      refine ⟨fun y _ y1 y2 => ?_, fun y y' _ _ y1 y2 y3 _ _ => ?_⟩
      · obtain ⟨i, rfl⟩ : ∃ i, y = C 1 + i := ⟨y - C 1, by omega⟩
        obtain ⟨a1, a2, a3, a4, a5⟩ := f i (by omega)
        refine ⟨⟨by rw [a1]; decide, by rw [a1]; decide, fun _ => ?_, fun e => absurd (a1.symm.trans e) (by decide)⟩, fun _ => by omega⟩
        rw [a2]
        rcases (show ty = 1 ∨ ty = 2 by omega) with e | e <;> rw [e]
        · exact Or.inl rfl
        · exact Or.inr rfl
      · obtain ⟨i, rfl⟩ : ∃ i, y = C 1 + i := ⟨y - C 1, by omega⟩
        obtain ⟨i', rfl⟩ : ∃ i, y' = C 1 + i := ⟨y' - C 1, by omega⟩
        obtain ⟨a1, a2, a3, a4, a5⟩ := f i (by omega)
        obtain ⟨b1, b2, b3, b4, b5⟩ := f i' (by omega)
        omega
    · have c1 : own = 1 := by rcases ho with ho | ho <;> omega
      obtain ⟨x1, x2, x3⟩ := h1 c1
      have e1 : C' 1 = C 1 + j := by rw [x3, upD_n (by decide)]; exact upD_s
      rw [e1]
      have f : ∀ i, i < j → gi fM 19 (C 1 + i) = 1 ∧ gi fM 20 (C 1 + i) = Int32.ofNat ty ∧ lnM fM (C 1 + i) = 0 := fun i hi => by
        obtain ⟨a1, a2, a3, _⟩ := h9 i hi
        refine ⟨a1, a2, ?_⟩
        unfold lnM
        rw [if_pos a1, if_neg (by rw [a3, c1]; decide)]
      refine ⟨fun y _ y1 y2 => ?_, fun y y' _ _ y1 y2 y3 y4 _ => ?_⟩
      · obtain ⟨i, rfl⟩ : ∃ i, y = C 1 + i := ⟨y - C 1, by omega⟩
        obtain ⟨a1, a2, a3⟩ := f i (by omega)
        refine ⟨⟨by rw [a1]; decide, by rw [a1]; decide, fun _ => ?_, fun e => absurd (a1.symm.trans e) (by decide)⟩, fun _ => by omega⟩
        rw [a2]
        rcases (show ty = 1 ∨ ty = 2 by omega) with e | e <;> rw [e]
        · exact Or.inl rfl
        · exact Or.inr rfl
      · obtain ⟨i, rfl⟩ : ∃ i, y = C 1 + i := ⟨y - C 1, by omega⟩
        have := (f i (by omega)).2.2
        omega
  · have e1 : C' 1 = C 1 + j := by rw [hC, upC_n (by decide)]; exact upD_s
    rw [e1]
    have f : ∀ i, i < j → gi fM 19 (C 1 + i) = 2 ∧ gi fM 20 (C 1 + i) = Int32.ofNat ty ∧ nd fM 24 (C 1 + i) = b ∧ lnM fM (C 1 + i) = 2 + 2 * b ∧ nd fA 18 (C 1 + i + 1) = sg + i * (2 + 2 * b) ∧ nd fM 26 (C 1 + i) = q + i * 8 := fun i hi => by
      obtain ⟨a1, a2, a3, a4, a5⟩ := h9 i hi
      have hm1 : i * (2 + 2 * b) ≤ j * (2 + 2 * b) := Nat.mul_le_mul_right _ (by omega)
      have e24 : nd fM 24 (C 1 + i) = b := by unfold nd; rw [a3, tc_iN (by omega)]
      refine ⟨a1, a2, e24, ?_, by unfold nd; rw [a4, tc_iN (by omega)], by unfold nd; rw [a5, tc_iN (by omega)]⟩
      unfold lnM
      rw [if_neg (by rw [a1]; decide), if_pos a1, e24]
    refine ⟨fun y _ y1 y2 => ?_, fun y y' _ _ y1 y2 y3 _ _ => ?_⟩
    · obtain ⟨i, rfl⟩ : ∃ i, y = C 1 + i := ⟨y - C 1, by omega⟩
      obtain ⟨a1, a2, a3, a4, a5, a6⟩ := f i (by omega)
      have hm1 : (i + 1) * (2 + 2 * b) ≤ j * (2 + 2 * b) := Nat.mul_le_mul_right _ (by omega)
      rw [Nat.add_mul, Nat.one_mul] at hm1
      refine ⟨⟨by rw [a1]; decide, by rw [a1]; decide, fun _ => ?_, fun _ => by rw [a3]; exact ⟨hb1, hb3⟩⟩, fun _ => by omega⟩
      rw [a2]
      rcases (show ty = 1 ∨ ty = 2 by rcases hty with hty | hty <;> omega) with e | e <;> rw [e]
      · exact Or.inl rfl
      · exact Or.inr rfl
    · obtain ⟨i, rfl⟩ : ∃ i, y = C 1 + i := ⟨y - C 1, by omega⟩
      obtain ⟨i', rfl⟩ : ∃ i, y' = C 1 + i := ⟨y' - C 1, by omega⟩
      obtain ⟨a1, a2, a3, a4, a5, a6⟩ := f i (by omega)
      obtain ⟨b1, b2, b3, b4, b5, b6⟩ := f i' (by omega)
      have hm1 : (i + 1) * (2 + 2 * b) ≤ i' * (2 + 2 * b) := Nat.mul_le_mul_right _ (by omega)
      rw [Nat.add_mul, Nat.one_mul] at hm1
      omega
  · have e1 : C' 1 = C 1 + 1 := by rw [hC, upC_n (by decide)]; exact upD_s
    rw [e1, hs, hq]
    have hl : lnM fM (C 1) = 0 := lnM_0 (by rw [h19]; decide) (by rw [h19]; decide)
    refine ⟨fun y _ y1 y2 => ?_, fun y y' _ _ y1 y2 y3 _ _ => by omega⟩
    have : y = C 1 := by omega
    subst this
    exact ⟨⟨by rw [h19]; decide, by rw [h19]; decide, fun e => e.elim (fun e => absurd (h19.symm.trans e) (by decide)) (fun e => absurd (h19.symm.trans e) (by decide)), fun e => absurd (h19.symm.trans e) (by decide)⟩, fun hl' => by omega⟩
  · have hl : lnM fM (C 1) = 0 := lnM_0 (by rw [h19]; decide) (by rw [h19]; decide)
    obtain ⟨⟨g1, g2, g3⟩, g4, g5⟩ := hW _ _ _ _ _ _ _ _ _ _ hB
    have u1 : (upD (upD (upD (upD C 1 (1 + nf)) 2 2) 4 1) 6 1) 1 = C 1 + (1 + nf) := by
      rw [upD_n (by decide), upD_n (by decide), upD_n (by decide), upD_s]
    have u2 : (upD (upD (upD (upD C 1 (1 + nf)) 2 2) 4 1) 6 1) 2 = C 2 + 2 := by
      rw [upD_n (by decide), upD_n (by decide), upD_s, upD_n (by decide)]
    rw [u1] at g4
    rw [u2] at g4
    have no : ∀ y, h y → C 1 < y → y < C' 1 → False := fun y hy y1 y2 => by
      by_cases c : y < C 1 + 1 + nf
      · have := hDf (y - (C 1 + 1)) (by omega)
        rw [show C 1 + 1 + (y - (C 1 + 1)) = y by omega] at this
        have := hh y _ this.2.2 hy
        omega
      · obtain ⟨t, p', a1, a2⟩ := g4 y (by omega) y2
        have := hh y _ a1.2.2 hy
        rcases a2 with a2 | a2
        · have a2 : t = C 2 + 1 := a2
          omega
        · omega
    refine ⟨fun y hy y1 y2 => ?_, fun y y' hy hy' y1 y2 y3 _ _ => (no y' hy' (by omega) y3).elim⟩
    by_cases c : y = C 1
    · subst c
      exact ⟨⟨by rw [h19]; decide, by rw [h19]; decide, fun e => e.elim (fun e => absurd (h19.symm.trans e) (by decide)) (fun e => absurd (h19.symm.trans e) (by decide)), fun e => absurd (h19.symm.trans e) (by decide)⟩, fun hl' => by omega⟩
    · exact (no y hy (by omega) y2).elim
theorem dcs_dsl (hW : WSP fA fM W) (hT : WTP W) {h : Nat → Prop} (hh : ∀ y t, NIL fM y t → h y → t = stk.headD 0) {out : Int32} : ∀ (j s e sg sg' q q' : Nat) (al : List Nat) (C C' : CV), stk.headD 0 < C 2 → sg' ≤ 200000 ∧ q' ≤ 200000 → DCSX kd fA fM W d stk out p r j s e sg sg' q q' al C C' → DSL fA fM h sg sg' q q' (C 1) (C' 1) := by
  intro j
  induction j with
  | zero =>
    intro s e sg sg' q q' al C C' _ _ ⟨_, h2, h3, _, hC, _⟩
    rw [h2, h3, hC]
    exact DSL.nil
  | succ j ih =>
    intro s e sg sg' q q' al C C' hd hb ⟨e1, sg1, q1, C1, an, al1, h1, h2, h3, h4, h5, h6⟩
    obtain ⟨a1, a2, _, _⟩ := dcl_sd hT h1
    obtain ⟨b1, b2, _, _⟩ := dcs_sd hT _ _ _ _ _ _ _ _ _ _ h6
    have hL := (dcl_tp hT h1).2.1 2
    exact (dcl_dsl hW hT hh hd ⟨by omega, by omega⟩ h1).seq (ih _ _ _ _ _ _ _ _ _ (by omega) hb h6) ⟨a1, b1, a2, b2⟩
/-- BLS, out of the walk -/
theorem bls_of {C C1 : CV} {Lim q q1 : Nat} (hEQ : EQJ E nm TK SG SL fA fM NS ns stk lev p kp) (hSO : SOK E Lim) (h17 : gi fM 17 (C 2) = Int32.ofNat (C 3)) (hbk : C 3 < 9000) (h15 : gi fM 15 (C 2) = Int32.ofNat p) (hSG : SG (C 2) = sg) (h41 : gi fM 41 (C 3) = Int32.ofNat q) (hC2 : C 2 < NS) (hW1 : 1 ≤ Wd') (hZ : sg + Wd' ≤ eNo E 1 p) (h1690 : sg + Wd' ≤ 1690) (h6 : 6 ≤ sg) (hq1 : q1 ≤ eNo E 3 p) (hqq : q + 2 ≤ q1)
    (hD : DSL fA fM (fun y => y ∈ SL (C 2)) (sg + 1) (sg + Wd') (q + 2) q1 (C 1) (C1 1)) (hsc : ∀ y ∈ SL (C 2), C 1 ≤ y ∧ y < ns ∧ (C1 1 ≤ y → gi fM 19 y = 4)) : BLS E (C 2) p (C 3) sg Wd' q q1 := by
  obtain ⟨e1, e2, e3, e4, e5, e6, e7, ⟨e8, e9, e10, e11, e12⟩, e13, e14, e15, e16, e17, e18⟩ := hEQ
  have gs : eSL E (C 2) = SL (C 2) := by rw [← e8]
  have eq41 : nd (vM E) 41 (C 3) = q := by rw [e1]; unfold nd; rw [h41, tc_iN (by omega)]
  have eA : ∀ y, sA E y = nd fA 18 (y + 1) := fun y => by rw [← e2]
  have eM : ∀ y, sM E y = nd fM 26 y := fun y => by rw [← e1]
  have eL : ∀ y, lnY E y = lnM fM y := fun y => by rw [← e1]; rfl
  have hd41 : gi (dM E) 41 (C 3) = Int32.ofNat (nd (vM E) 41 (C 3)) := by
    rcases hSO.2.2.2.1.2.2.1 (C 2) (by omega) with g | ⟨bk, g1, g2, g3, _⟩
    · rw [e1, h17] at g
      have h2 : (0 : Int32) ≤ Int32.ofNat (C 3) := zl_iN (by omega)
      rw [g] at h2
      exact absurd h2 (by decide)
    · rw [e1, h17] at g1
      have := (eq_iN (by omega) (by omega)).mp g1
      rw [this]; exact g3
  refine ⟨⟨by show gi (vM E) 15 (C 2) = _; rw [e1]; exact h15, by rw [e1]; exact h17, hbk, (e15 _ hC2).trans hSG, hd41⟩, ⟨hW1, hZ, h1690, h6, hq1, by rw [eq41]; omega⟩, by rw [eq41]; omega, fun y hy => ?_, fun y hy y' hy' hne hl hl' => ?_, ?_⟩
  · rw [gs] at hy
    obtain ⟨y1, y2, y3⟩ := hsc y hy
    rw [eL, eA, eM, e12, eq41, e1]
    by_cases c : C1 1 ≤ y
    · have h4 := y3 c
      have hz : lnM fM y = 0 := lnM_0 (by rw [h4]; decide) (by rw [h4]; decide)
      exact ⟨by rw [h4]; decide, y2, fun e => e.elim (fun e => absurd (h4.symm.trans e) (by decide)) (fun e => absurd (h4.symm.trans e) (by decide)), fun e => absurd (h4.symm.trans e) (by decide), fun hl => by omega⟩
    · obtain ⟨⟨a1, a2, a3, a4⟩, a5⟩ := hD.1 y hy y1 (by omega)
      exact ⟨a1, y2, a3, a4, fun hl => by have := a5 hl; omega⟩
  · rw [gs] at hy hy'
    rw [eL] at hl hl' ⊢
    rw [eL, eA, eA, eM, eM]
    have lt : ∀ y ∈ SL (C 2), 0 < lnM fM y → y < C1 1 := fun y hy hl => by
      obtain ⟨y1, y2, y3⟩ := hsc y hy
      refine Classical.byContradiction fun c => ?_
      have h4 := y3 (by omega)
      have hz : lnM fM y = 0 := lnM_0 (by rw [h4]; decide) (by rw [h4]; decide)
      omega
    have l1 := lt y hy hl
    have l2 := lt y' hy' hl'
    by_cases c : y < y'
    · have := hD.2 y y' hy hy' (hsc y hy).1 c l2 hl hl'
      exact ⟨Or.inl this.1, Or.inl this.2⟩
    · have := hD.2 y' y hy' hy (hsc y' hy').1 (by omega) l1 hl' hl
      exact ⟨Or.inr this.1, Or.inr this.2⟩
  · exact e17 (C 2) (C 3) (by omega) (by rw [e1]; exact h17) hbk
end QA0
