/-! BOTH SIDES MAKE A STATEMENT'S CODES, AND WHAT THEY DO: calls, choices -/
section OB1
variable {kd wr nm TK SG : Nat → Nat} {vv : Nat → Int64} {m z : Nat} {Cf C C' C1 C2 : Nat → Nat} {SL : Nat → List Nat} {fA fM : Wd} {NS ns SZ lev : Nat} {pn : Nat → Int32} {p sg kp s e n d q q' q1 x y N N1 : Nat} {stk : List Nat} {R R1 R2 : RTY} {lo e1 e2 cn k T F : Nat} {rc rc0 : TX4_block} {E : SENV} {hA0 : Wd → Option (Int32 × Wd)}
theorem fcl_eq {lu : Nat → Nat} {l t : Nat} (hl : lu t = l) (hSY : SYT kd m Cf TK lu fA fM) : notD l t ++ srE fA 3 l t ++ nmC fA l t 0 = FCL fM lu t := by
  obtain ⟨h0, hlu, hb, hS⟩ := hSY
  unfold FCL
  by_cases e : l = 0
  · subst e
    rw [if_pos hl]
    unfold notD srE nmC
    rw [if_pos rfl, if_pos (Or.inr h0), if_neg (by rw [h0]; decide)]
    rfl
  · have hl1 := hlu t
    rw [hl] at hl1
    obtain ⟨y, rfl⟩ : ∃ y, l = y + 1 := ⟨l - 1, by omega⟩
    have hY := hS y (by omega)
    have i3 := hY.is (x := 3) (by decide)
    have i0 := hY.is (x := 0) (by decide)
    rw [hl, if_neg (by omega), Nat.add_sub_cancel]
    unfold notD srE nmC
    rw [if_neg (by omega)]
    obtain ⟨_, _, _, _, _, _, _, _, hK⟩ := hY
    by_cases c : gi fM 19 y = 3 ∨ FO fM y 3
    · have c14 := i3.mpr c
      rw [if_pos c, if_pos (Or.inl c14), if_pos c14]
      rcases c with c | c
      · have k3 : ∃ p nf ff, 1 ≤ p ∧ p < Cf 4 ∧ gi fM 24 y = Int32.ofNat p ∧ gi fM 29 p = Int32.ofNat y ∧ gi fM 31 p = Int32.ofNat nf ∧ gi fM 32 p = Int32.ofNat ff ∧ gi fA 19 (y + 1) = Int32.ofNat nf ∧ gi fA 20 (y + 1) = Int32.ofNat (ff + 1) ∧ y < ff ∧ ff + nf ≤ Cf 1 := by
          rcases hK with g | g | g | g | g | g
          · exact absurd (c.symm.trans g.1) (by decide)
          · exact absurd (c.symm.trans g.1) (by decide)
          · exact g.2.2.2
          · exact absurd (c.symm.trans g.1) (by decide)
          · exact absurd (c.symm.trans g.1) (by decide)
          · exact absurd (c.symm.trans g.1) (by decide)
        obtain ⟨p', nf, ff, _, g2, g3, _, g5, _, g7, _, _, g9⟩ := k3
        have e24 : (gi fM 24 y).toNatClampNeg = p' := by rw [g3]; exact tc_iN (by omega)
        rw [e24, g5, g7]
        by_cases z0 : nf = 0
        · subst z0
          rw [if_pos rfl, if_neg (fun q => q.2 (by decide))]
          rfl
        · rw [if_neg (fun q => z0 ((eq_iN (a := 0) (by omega) (by omega)).mp q).symm), if_pos ⟨c, fun q => z0 (by
            have := (le_iN (a := nf) (b := 0) (by omega) (by omega)).mp q
            omega)⟩]
          rfl
      · have e19 : gi fA 19 (y + 1) = 0 := by
          rcases hK with g | g | g | g | g | g
          · exact absurd (c.1.symm.trans g.1) (by decide)
          · exact absurd (c.1.symm.trans g.1) (by decide)
          · exact absurd (c.1.symm.trans g.1) (by decide)
          · exact absurd (c.1.symm.trans g.1) (by decide)
          · exact absurd (c.1.symm.trans g.1) (by decide)
          · exact g.2.1
        rw [e19, if_pos (show Int32.ofNat 0 = 0 from rfl), if_neg (fun q => absurd (c.1.symm.trans q.1) (by decide))]
        rfl
    · have c14 : gi fA 14 (y + 1) ≠ 3 := fun q => c (i3.mp q)
      rw [if_neg c, if_neg c14]
      unfold misS
      rw [Nat.add_sub_cancel]
      by_cases c0 : FO fM y 0
      · rw [if_pos c0, if_pos (Or.inr (i0.mpr (Or.inr c0)))]; rfl
      · rw [if_neg c0, if_neg (fun q => q.elim c14 (fun q => (i0.mp q).elim (fun w => by
          rcases hK with g | g | g | g | g | g <;> exact absurd (w.symm.trans g.1) (by decide)) c0))]; rfl
theorem jp_call (hc : CTJ kd wr nm TK vv m z Cf SL fA fM stk lev p pn) (hR : ∀ PA PM L, R PA PM L L) (h50 : kd (s + 1) ≠ 50) (h45 : kd (s + 1) ≠ 45) (h7 : gi fM 7 n = 22) (h8 : gi fM 8 n = Int32.ofNat x) (hnx : n = x + 1) (hx : CLC kd (hdM stk) lo x d s e fA fM) (hn : n < 24000) (he : e ≤ m) (hC1 : C' 1 = C 1) (hC2 : C' 2 = C 2) (hi : C 1 ≤ ns) : JSP kd wr nm TK SG m z SL fA fM NS ns SZ lev pn R p sg kp N s e n stk q q C C' (wr e - wr s) 0 (fX4_statement_61 rc (Int32.ofNat d)) := by
  have hk9 := hc.k9
  have hfu := fuj
  have hm9 := hc.m9
  obtain ⟨hT, hB, hcu, hU, hl, hCX⟩ := hc
  obtain ⟨hSY, hFM, hPN, hwr, hz, hW, hz9, hk0⟩ := id hCX
  obtain ⟨k, ek⟩ : ∃ k, FUJ = k + 1 := ⟨FUJ - 1, by omega⟩
  obtain ⟨hse, h12, hs⟩ := s_call (rc := rc) (K := FUJ) hCX hx (by omega) he h50 h45 (by omega)
  have hm := rs_call (lev := lev) (i := C 1) (K := FUJ) (N := N) hB hT hFM hcu hk9 hU hl (by omega) hn he h7 h8 hnx hx
  rw [JSP, hC1, hC2]
  rcases hs with ⟨a1, a2, hs⟩ | ⟨a1, a2, hs⟩
  · rcases hm with ⟨b1, b2, hm⟩ | ⟨b1, _⟩
    · rw [fcl_eq rfl hSY] at hs
      refine ⟨⟨Nat.le_refl _, Nat.le_refl _⟩, _, _, _, _, SSC.ec hs hi, hm, hR _ _ _, fun E ⟨q1, q2, q3, q4, q5, q6⟩ hL hS => ⟨fun a a' Z hA => by have := hA.2.2.2.2.2; omega, fun b qq b' q2' hM => by
        obtain ⟨_, e9, hM⟩ := hM
        rcases hM with ⟨_, e8⟩ | ⟨_, ⟨_, _, e8⟩ | ⟨_, e8⟩⟩ <;> omega⟩, fun E s0 Lim ⟨q1, q2, q3, q4, q5, q6⟩ hq hL hS a a' Z b qq b' q2' hA hM hZ hq' ha hb h0 => ?_⟩
      rw [← q1, ← q3] at hL
      rw [← q2, ← q3, ← q4] at hA
      rw [← q1, ← q3, ← q4] at hM
      obtain ⟨⟨g1, g2, g3⟩, g4⟩ := sp_call0 (Z := 0) (sg := sg) (m1 := q) (s0 := s0) (m2 := qq) hS q5 hA hM hL ha hb
      exact ⟨⟨g1, g2, by omega⟩, g4⟩
    · exact absurd b1 a1
  · rcases hm with ⟨b1, _⟩ | ⟨b1, b2, hm⟩
    · exact absurd a1 b1
    · have hf := (clc_fit hk9 hx b1 (by omega)).2 FUJ (by omega)
      refine ⟨⟨Nat.le_refl _, Nat.le_refl _⟩, _, _, _, _, ((SSC.ec hs hi).wk (fun b b' Z g h => h) (by omega)), hm, hR _ _ _, fun E ⟨q1, q2, q3, q4, q5, q6⟩ hL hS => ?_, fun E s0 Lim ⟨q1, q2, q3, q4, q5, q6⟩ hq hL hS a a' Z b qq b' q2' hA hM hZ hq' ha hb h0 => ?_⟩
      · rw [← q1, ← q3] at hL
        rw [← q1] at hf b2
        have wl := WLE (cur := p) hS q5 FUJ 0 x 1 (Or.inl (by omega)) hf hL
        refine ⟨fun a a' Z hA => ?_, fun b qq b' q2' hM => ?_⟩
        · rw [← q1, ← q2, ← q3, ← q4] at hA
          obtain ⟨_, a2, hc, _, e9⟩ := hA
          have hc := hc hL
          rw [ek, cdc0_5 b2 rfl] at hc
          rw [ek] at wl
          have := wl.1 (eLV E p) (a + 1) a2 (cA E) (by rw [cdc0_5 b2 rfl]; exact hc)
          omega
        · rw [← q1, ← q3, ← q4] at hM
          obtain ⟨_, e9, hm⟩ := hM
          have := wl.2 _ _ _ _ _ (hm hL)
          omega
      rw [← q1, ← q3] at hL
      rw [← q1] at hf b2
      rw [← q1, ← q2, ← q3, ← q4] at hA
      rw [← q1, ← q3, ← q4] at hM
      rw [ek] at hL hA hM hf
      obtain ⟨⟨g1, g2, g3⟩, g4⟩ := sp_call1 (Z := 0) (sg := sg) (m1 := q) (s0 := s0) (m2 := qq) hS q5 b2 hA hM hL hf ha hb
      exact ⟨⟨g1, g2, by omega⟩, g4⟩
/-- both sides of a STATEMENT that's a part of another; PM's and PA's places only grow -/
def JSS (kd wr nm TK SG : Nat → Nat) (m z : Nat) (SL : Nat → List Nat) (fA fM : Wd) (NS ns SZ lev : Nat) (pn : Nat → Int32) (R : RTY) (p sg kp N s e n : Nat) (stk : List Nat) (q q' : Nat) (C C' : CV) (T F : Nat) (hA : Wd → Option (Int32 × Wd)) : Prop :=
  (q ≤ q' ∧ T ≤ wr e - wr s) ∧ ∃ (PA : Nat → Nat → Nat → Wd → Prop) (PM : Nat → Nat → Nat → Nat → Wd → Prop) (LA LM : List (Nat × Int32)), SSC kd wr nm TK z fA SL NS ns SZ lev pn sg kp (C 2) (C' 2) (C 1) (C' 1) s e stk LA PA (4 * (wr e - wr s) + 1) hA ∧ STS kd wr m fM lev p N (C 1) (C' 1) n T LM PM ∧ R PA PM LA LM ∧ (∀ E : SENV, EQJ E nm TK SG SL fA fM NS ns stk lev p kp → LM = [] → SYS E → SPM E F PA PM) ∧ ∀ (E : SENV) (s0 Lim : Nat), EQJ E nm TK SG SL fA fM NS ns stk lev p kp → q' ≤ s0 → LM = [] → SOK E Lim → SPQ E Lim stk p sg q s0 PA PM
theorem jp_if1 (hc : CTJ kd wr nm TK vv m z Cf SL fA fM stk lev p pn) (hRR : ∀ L, GR1 (fun E => EQJ E nm TK SG SL fA fM NS ns stk lev p kp) R1 R L) (h15 : kd s = 15) (hd : d ≤ 39) (h7 : gi fM 7 n = 25) (h8 : gi fM 8 n = Int32.ofNat x) (h9 : gi fM 9 n = Int32.ofNat y) (h10 : gi fM 10 n = -1) (hx : XPR kd (hdM stk) lo x (d + 1) (s + 1) e1 cn fA fM) (hxn : x < n) (hyn : y < n) (h16 : kd e1 = 16) (h17 : kd e ≠ 17) (hee : e1 + 1 ≤ e) (hn : n < 24000) (he : e ≤ m) (hCC : C 1 ≤ C' 1 ∧ C' 1 ≤ ns) (hi : C 1 ≤ ns) (h6 : ∀ w, rc 6 (Int32.ofNat d) 0 0 w = fX4_choice rc0 (Int32.ofNat d) w)
    (hS : JSS kd wr nm TK SG m z SL fA fM NS ns SZ lev pn R1 p sg kp N (e1 + 1) e y stk q q' C C' T F (fun w => rc0 4 (Int32.ofNat (d + 1)) 0 0 w)) : JSP kd wr nm TK SG m z SL fA fM NS ns SZ lev pn R p sg kp N s e n stk q q' C C' (T + (wr (e1 + 1) - wr s)) F (fX4_statement_61 rc (Int32.ofNat d)) := by
  have hk9 := hc.k9
  have hfu := fuj
  have hm9 := hc.m9
  obtain ⟨hT, hB, hcu, hU, hl, hCX⟩ := hc
  obtain ⟨hSY, hFM, hPN, hwr, hz, hW, hz9, hk0⟩ := id hCX
  obtain ⟨hq9, PA, PM, LA, LM, hS1, hS2, hR1, hmon, hsim⟩ := hS
  have hA := xpr_alc hCX hx (by omega) (by omega) (by omega)
  have hv : SPE kd wr z fA (luN nm TK SL stk) lev pn (d + 1) (s + 1) e1 0 (mbL fM (luN nm TK SL stk) p FUJ x 2) (fun b b' g => FLX fM (luN nm TK SL stk) p FUJ 0 x 0 = [] → CDC fM fA (luN nm TK SL stk) lev FUJ 0 x 0 b b' g) (4 * (wr e1 - wr (s + 1)) - 1) (fun w => RX2_typed 899 0 (Int32.ofNat (d + 1)) 2 0 w) := by
    have hD := hA.2.1.2.2.1
    have := SPE.typed (ty := 2) (hA.2.2.1 FUJ 898 (by omega) (by omega)) (show s + 1 < z by omega)
    unfold mbL
    rw [hD.tk hz, mis_dif (by decide)]
    exact this
  have hf := xpr_fit hk9 hx (by omega) (by omega) (by omega) FUJ (by omega)
  have w1 := hW s (by omega)
  have w2 := wr_mo hW e1 hA.1 (by omega)
  have w3 := hW e1 (by omega)
  have w5 := hB s (by omega)
  have w6 := hB e1 (by omega)
  rw [h15] at w5
  rw [h16] at w6
  have w7 : wr (e1 + 1) ≤ wr e := by
    by_cases q9 : e1 + 1 = e
    · rw [q9]; exact Nat.le_refl _
    · have := wr_mo hW e (s := e1 + 1) (by omega) he
      omega
  have hm := rs_if1 (K := FUJ) hB hT hFM hcu hk9 hU hl (by omega) hn he h7 h8 h9 h10 hx hxn hyn h16 hee (T := T + (wr (e1 + 1) - wr s)) ⟨Nat.le_refl _, by omega⟩ hS2 hCC.1
  have hs := s_choice1 (rc := rc) (d := d) h15 (show d < 40 by omega) h16 hi h6 hv hS1 h17
  rw [JSP]
  have hcon : ∀ E, EQJ E nm TK SG SL fA fM NS ns stk lev p kp → mbL fM (luN nm TK SL stk) p FUJ x 2 = [] → LM = [] → SYS E → (∀ a a' Z, PI1c (fun b b' g => FLX fM (luN nm TK SL stk) p FUJ 0 x 0 = [] → CDC fM fA (luN nm TK SL stk) lev FUJ 0 x 0 b b' g) PA a a' Z (cA E) → ∃ x x', a ≤ x ∧ x ≤ x' ∧ x' ≤ a' ∧ PA x x' Z (cA E)) ∧ ∀ b q b' q', PI1 fM (luN nm TK SL stk) p lev FUJ x PM b q b' q' (dM E) → ∃ y r y' r', b ≤ y ∧ y ≤ y' ∧ y' ≤ b' ∧ q ≤ r ∧ r ≤ r' ∧ r' ≤ q' ∧ PM y r y' r' (dM E) := fun E hEQ l1 l2 hSY => by
    obtain ⟨q1, q2, q3, q4, q5, q6⟩ := id hEQ
    obtain ⟨m1, m2⟩ := hmon E hEQ l2 hSY
    rw [← q1, ← q3] at l1
    rw [← q1] at hf
    obtain ⟨l3, _⟩ := app_nil (show FLX (vM E) (eLU E stk) p FUJ 0 x 0 ++ misT (TYX (vM E) (eLU E stk) FUJ x) 2 (nd (vM E) 12 x) = [] from l1)
    have wl := WLE (cur := p) hSY q5 FUJ 0 x 0 (Or.inl (by omega)) hf.1 l3
    refine ⟨fun a a' Z hAA => ?_, fun b qq b' q2' hM => ?_⟩
    · rw [← q1, ← q2, ← q3, ← q4] at hAA
      obtain ⟨_, a1, hc, _, hP⟩ := hAA
      have := wl.1 _ _ _ _ (hc l3)
      have := m1 _ _ _ hP
      exact ⟨_, _, by omega, by omega, by omega, hP⟩
    · rw [← q1, ← q3, ← q4] at hM
      obtain ⟨b1, _, hm, _, hP⟩ := hM
      have := wl.2 _ _ _ _ _ (hm l3)
      have := m2 _ _ _ _ hP
      exact ⟨_, _, _, _, by omega, by omega, by omega, by omega, by omega, by omega, hP⟩
  refine ⟨⟨hq9.1, by omega⟩, _, _, _, _, hs.wk (fun b b' Z g h => h) (by omega) (by omega), hm, hRR _ _ _ _ _ _ _ (fun E hEQ l1 l2 hSY => hcon E hEQ l1 l2 hSY) hR1, fun E hEQ hL hSY => ?_, fun E s0 Lim hEQ hq hL hSO a a' Z b qq b' q2' hAA hM hZ hq' ha hb h0 => ?_⟩
  · obtain ⟨l1, l2⟩ := app_nil hL
    obtain ⟨c1, c2⟩ := hcon E hEQ l1 l2 hSY
    have m2 := (hmon E hEQ l2 hSY).2
    exact ⟨fun a a' Z hAA => by obtain ⟨x, x', g1, g2, g3, _⟩ := c1 _ _ _ hAA; omega, fun b q b' q' hM => by
      obtain ⟨x, r, x', r', g1, g2, g3, g4, g5, g6, _⟩ := c2 _ _ _ _ hM
      obtain ⟨_, _, _, _, hP⟩ := hM
      have := m2 _ _ _ _ hP
      omega⟩
  obtain ⟨q1, q2, q3, q4, q5, q6⟩ := id hEQ
  obtain ⟨l1, l2⟩ := app_nil hL
  have hsim := hsim E s0 Lim hEQ hq l2 hSO
  rw [← q1, ← q3] at l1
  rw [← q1] at hf
  rw [← q1, ← q2, ← q3, ← q4] at hAA
  rw [← q1, ← q3, ← q4] at hM
  have hb9 : NBd (d + 1) ≤ 478 := by unfold NBd; omega
  exact sp_if1 hSO q5 hsim hAA hM l1 hf.1 (by omega) hZ hq' ha hb h0
end OB1
