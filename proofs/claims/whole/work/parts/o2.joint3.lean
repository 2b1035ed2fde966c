/-! BOTH SIDES MAKE A STATEMENT'S CODES, AND WHAT THEY DO: two branches, for -/
section OC2
variable {kd wr nm TK SG : Nat → Nat} {vv : Nat → Int64} {m z : Nat} {Cf C C' C1 C2 : Nat → Nat} {SL : Nat → List Nat} {fA fM : Wd} {NS ns SZ lev : Nat} {pn : Nat → Int32} {p sg kp s e n d q q' q1 x y v N N1 tk : Nat} {stk : List Nat} {R R1 R2 : RTY} {lo e1 e2 cn k T F T' F' : Nat} {rc rc0 : TX4_block} {E : SENV} {sc : Int32}
theorem test_c (hc : CTX kd wr m z Cf TK fA fM (luN nm TK SL stk) lev p pn) (hx : XPR kd sc lo x (d + 1) (s + 1) e1 cn fA fM) (hn : x < 24000) (he : e1 ≤ m) (hd : d ≤ 39) {K : Nat} (hK : 4 * x + 1 ≤ K) : SPE kd wr z fA (luN nm TK SL stk) lev pn (d + 1) (s + 1) e1 0 (mbL fM (luN nm TK SL stk) p K x 2) (fun b b' g => FLX fM (luN nm TK SL stk) p K 0 x 0 = [] → CDC fM fA (luN nm TK SL stk) lev K 0 x 0 b b' g) (4 * (wr e1 - wr (s + 1)) - 1) (fun w => RX2_typed 899 0 (Int32.ofNat (d + 1)) 2 0 w) := by
  obtain ⟨hSY, hFM, hPN, hwr, hz, hW, hz9, hk0⟩ := id hc
  have hA := xpr_alc hc hx hn he (by omega)
  have hD := hA.2.1.2.2.1
  have := SPE.typed (ty := 2) (hA.2.2.1 K 898 hK (by omega)) (show s + 1 < z by omega)
  unfold mbL
  rw [hD.tk hz, mis_dif (by decide)]
  exact this
theorem jp_if2 (hc : CTJ kd wr nm TK vv m z Cf SL fA fM stk lev p pn) (hRR : ∀ L, GR2 (fun E => EQJ E nm TK SG SL fA fM NS ns stk lev p kp) R1 R2 R L) (h15 : kd s = 15) (hd : d ≤ 39) (h7 : gi fM 7 n = 25) (h8 : gi fM 8 n = Int32.ofNat x) (h9 : gi fM 9 n = Int32.ofNat y) (h10 : gi fM 10 n = Int32.ofNat v) (hx : XPR kd (hdM stk) lo x (d + 1) (s + 1) e1 cn fA fM) (hxn : x < n) (hyn : y < n) (hvn : v < n) (h16 : kd e1 = 16) (h17 : kd e2 = 17) (hee : e1 + 1 ≤ e2 ∧ e2 + 1 ≤ e) (hn : n < 24000) (he : e ≤ m) (hC1 : C 1 ≤ C1 1 ∧ C1 1 ≤ C' 1 ∧ C' 1 ≤ ns) (hi : C 1 ≤ ns) (h6 : ∀ w, rc 6 (Int32.ofNat d) 0 0 w = fX4_choice rc0 (Int32.ofNat d) w)
    (hS : JSS kd wr nm TK SG m z SL fA fM NS ns SZ lev pn R1 p sg kp N (e1 + 1) e2 y stk q q1 C C1 T F (fun w => rc0 4 (Int32.ofNat (d + 1)) 0 0 w)) (hS' : JSS kd wr nm TK SG m z SL fA fM NS ns SZ lev pn R2 p sg kp N (e2 + 1) e v stk q1 q' C1 C' T' F' (fun w => rc0 4 (Int32.ofNat (d + 1)) 0 0 w)) : JSP kd wr nm TK SG m z SL fA fM NS ns SZ lev pn R p sg kp N s e n stk q q' C C' (T + T' + (wr (e1 + 1) - wr s) + (wr (e2 + 1) - wr e2)) (F + F') (fX4_statement_61 rc (Int32.ofNat d)) := by
  have hk9 := hc.k9
  have hfu := fuj
  have hm9 := hc.m9
  obtain ⟨hT, hB, hcu, hU, hl, hCX⟩ := hc
  obtain ⟨hSY, hFM, hPN, hwr, hz, hW, hz9, hk0⟩ := id hCX
  obtain ⟨hq1, PA, PM, LA, LM, hS1, hS2, hR1, hmon, hsim⟩ := hS
  obtain ⟨hq2, PA', PM', LA', LM', hS1', hS2', hR2, hmon', hsim'⟩ := hS'
  have hxe := (xpr_alc hCX hx (by omega) (by omega) (by omega)).1
  have hv := test_c (K := FUJ) hCX hx (by omega) (by omega) hd (by omega)
  have hf := xpr_fit hk9 hx (by omega) (by omega) (by omega) FUJ (by omega)
  have w1 := hW s (by omega)
  have w2 := wr_mo hW e1 hxe (by omega)
  have w3 := hW e1 (by omega)
  have w4 := hW e2 (by omega)
  have mono : ∀ a b, a ≤ b → b ≤ m → wr a ≤ wr b := fun a b h1 h2 => by
    by_cases q9 : a = b
    · rw [q9]; exact Nat.le_refl _
    · have := wr_mo hW b (s := a) (by omega) h2
      omega
  have w7 := mono (e1 + 1) e2 hee.1 (by omega)
  have w8 := mono (e2 + 1) e hee.2 he
  have w5 := hB e2 (by omega)
  rw [h17] at w5
  have hm := rs_if2 (K := FUJ) hB hT hFM hcu hk9 hU hl (by omega) hn he h7 h8 h9 h10 hx hxn hyn hvn hee (T := T + T' + (wr (e1 + 1) - wr s) + (wr (e2 + 1) - wr e2)) ⟨Nat.le_refl _, by omega⟩ hS2 hS2' hC1.1 hC1.2.1
  have hs := s_choice2 (rc := rc) (d := d) h15 (show d < 40 by omega) h16 h17 hi h6 hv hS1 hS1'
  rw [JSP]
  have hcon : ∀ E, EQJ E nm TK SG SL fA fM NS ns stk lev p kp → mbL fM (luN nm TK SL stk) p FUJ x 2 = [] → LM = [] → LM' = [] → SYS E → CON E (PI2c (fun b b' g => FLX fM (luN nm TK SL stk) p FUJ 0 x 0 = [] → CDC fM fA (luN nm TK SL stk) lev FUJ 0 x 0 b b' g) PA PA') PA (PI2 fM (luN nm TK SL stk) p lev FUJ x PM PM') PM ∧ CON E (PI2c (fun b b' g => FLX fM (luN nm TK SL stk) p FUJ 0 x 0 = [] → CDC fM fA (luN nm TK SL stk) lev FUJ 0 x 0 b b' g) PA PA') PA' (PI2 fM (luN nm TK SL stk) p lev FUJ x PM PM') PM' := fun E hEQ l1 l2 l9 hSY => by
    obtain ⟨q1, q2, q3, q4, q5, q6⟩ := id hEQ
    obtain ⟨m1, m2⟩ := hmon E hEQ l2 hSY
    obtain ⟨m3, m4⟩ := hmon' E hEQ l9 hSY
    rw [← q1, ← q3] at l1
    rw [← q1] at hf
    obtain ⟨l3, _⟩ := app_nil (show FLX (vM E) (eLU E stk) p FUJ 0 x 0 ++ misT (TYX (vM E) (eLU E stk) FUJ x) 2 (nd (vM E) 12 x) = [] from l1)
    have wl := WLE (cur := p) hSY q5 FUJ 0 x 0 (Or.inl (by omega)) hf.1 l3
    refine ⟨⟨fun a a' Z hAA => ?_, fun b qq b' q2' hM => ?_⟩, fun a a' Z hAA => ?_, fun b qq b' q2' hM => ?_⟩
    · rw [← q1, ← q2, ← q3, ← q4] at hAA
      obtain ⟨_, a1, hc, a2, _, hP, _, hP2⟩ := hAA
      have := wl.1 _ _ _ _ (hc l3)
      have := m1 _ _ _ hP
      have := m3 _ _ _ hP2
      exact ⟨_, _, by omega, by omega, by omega, hP⟩
    · rw [← q1, ← q3, ← q4] at hM
      obtain ⟨b1, b2, q9, _, hm, _, hP, _, hP2⟩ := hM
      have := wl.2 _ _ _ _ _ (hm l3)
      have := m2 _ _ _ _ hP
      have := m4 _ _ _ _ hP2
      exact ⟨_, _, _, _, by omega, by omega, by omega, by omega, by omega, by omega, hP⟩
    · rw [← q1, ← q2, ← q3, ← q4] at hAA
      obtain ⟨_, a1, hc, a2, _, hP, _, hP2⟩ := hAA
      have := wl.1 _ _ _ _ (hc l3)
      have := m1 _ _ _ hP
      have := m3 _ _ _ hP2
      exact ⟨_, _, by omega, by omega, by omega, hP2⟩
    · rw [← q1, ← q3, ← q4] at hM
      obtain ⟨b1, b2, q9, _, hm, _, hP, _, hP2⟩ := hM
      have := wl.2 _ _ _ _ _ (hm l3)
      have := m2 _ _ _ _ hP
      have := m4 _ _ _ _ hP2
      exact ⟨_, _, _, _, by omega, by omega, by omega, by omega, by omega, by omega, hP2⟩
  refine ⟨⟨by omega, by omega⟩, _, _, _, _, hs.wk (fun b b' Z g h => h) (by omega) (by omega), hm, hRR _ _ _ _ _ _ _ _ _ _ _ (fun E hEQ l1 l2 l3 hSY => hcon E hEQ l1 l2 l3 hSY) hR1 hR2, fun E hEQ hL hSY => ?_, fun E s0 Lim hEQ hq hL hSO a a' Z b qq b' q2' hAA hM hZ hq' ha hb h0 => ?_⟩
  · obtain ⟨l12, l3⟩ := app_nil hL
    obtain ⟨l1, l2⟩ := app_nil l12
    obtain ⟨c1, c2⟩ := (hcon E hEQ l1 l2 l3 hSY).1
    have m2 := (hmon E hEQ l2 hSY).2
    have m4 := (hmon' E hEQ l3 hSY).2
    exact ⟨fun a a' Z hAA => by obtain ⟨x, x', g1, g2, g3, _⟩ := c1 _ _ _ hAA; omega, fun b q b' q' hM => by
      obtain ⟨x, r, x', r', g1, g2, g3, g4, g5, g6, _⟩ := c2 _ _ _ _ hM
      obtain ⟨_, _, _, _, _, _, hP, _, hP2⟩ := hM
      have := m2 _ _ _ _ hP
      have := m4 _ _ _ _ hP2
      omega⟩
  obtain ⟨q1', q2, q3, q4, q5, q6⟩ := id hEQ
  obtain ⟨l12, l3⟩ := app_nil hL
  obtain ⟨l1, l2⟩ := app_nil l12
  obtain ⟨m1, m2⟩ := hmon E hEQ l2 hSO.2.1
  obtain ⟨m3, m4⟩ := hmon' E hEQ l3 hSO.2.1
  have hsim := hsim E s0 Lim hEQ (by omega) l2 hSO
  have hsim' := hsim' E s0 Lim hEQ hq l3 hSO
  rw [← q1', ← q3] at l1
  rw [← q1'] at hf
  rw [← q1', ← q2, ← q3, ← q4] at hAA
  rw [← q1', ← q3, ← q4] at hM
  have hb9 : NBd (d + 1) ≤ 478 := by unfold NBd; omega
  exact sp_if2 (m1' := q1) hSO q5 hsim hsim' hq1.1 hAA hM l1 hf.1 (by omega) hZ hq' ha hb h0 (fun b q b' q' h => (m2 _ _ _ _ h).2.1) m3 (fun b q b' q' h => ⟨(m4 _ _ _ _ h).1, (m4 _ _ _ _ h).2.1⟩)
end OC2
