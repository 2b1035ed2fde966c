/-! BOTH SIDES MAKE A STATEMENT'S CODES, AND WHAT THEY DO: simple STATEMENTS -/
/-- what's told of both sides' codes and faults together -/
abbrev RTY : Type := (Nat → Nat → Nat → Wd → Prop) → (Nat → Nat → Nat → Nat → Wd → Prop) → List (Nat × Int32) → List (Nat × Int32) → Prop
/-- a STATEMENT's codes hold those of a part -/
def CON (E : SENV) (PA' PA : Nat → Nat → Nat → Wd → Prop) (PM' PM : Nat → Nat → Nat → Nat → Wd → Prop) : Prop := (∀ a a' Z, PA' a a' Z (cA E) → ∃ x x', a ≤ x ∧ x ≤ x' ∧ x' ≤ a' ∧ PA x x' Z (cA E)) ∧ ∀ b q b' q', PM' b q b' q' (dM E) → ∃ y r y' r', b ≤ y ∧ y ≤ y' ∧ y' ≤ b' ∧ q ≤ r ∧ r ≤ r' ∧ r' ≤ q' ∧ PM y r y' r' (dM E)
def GR1 (EQ : SENV → Prop) (R1 R : RTY) (L : List (Nat × Int32)) : Prop := ∀ PA PM PA' PM' a b, (∀ E, EQ E → L = [] → b = [] → SYS E → CON E PA' PA PM' PM) → R1 PA PM a b → R PA' PM' (L ++ a) (L ++ b)
def GR2 (EQ : SENV → Prop) (R1 R2 R : RTY) (L : List (Nat × Int32)) : Prop := ∀ PA PM PA2 PM2 PA' PM' a b c d, (∀ E, EQ E → L = [] → b = [] → d = [] → SYS E → CON E PA' PA PM' PM ∧ CON E PA' PA2 PM' PM2) → R1 PA PM a b → R2 PA2 PM2 c d → R PA' PM' (L ++ a ++ c) (L ++ b ++ d)
section OA0
variable {kd wr nm TK SG : Nat → Nat} {vv : Nat → Int64} {m z : Nat} {Cf C C' : Nat → Nat} {SL : Nat → List Nat} {fA fM : Wd} {NS ns SZ lev : Nat} {pn : Nat → Int32} {p sg kp s e n d q q' x y : Nat} {stk : List Nat} {R : RTY} {lo e1 cn : Nat} {rc : TX4_block} {E : SENV}
/-- what's round a STATEMENT -/
def CTJ (kd wr nm TK : Nat → Nat) (vv : Nat → Int64) (m z : Nat) (Cf : Nat → Nat) (SL : Nat → List Nat) (fA fM : Wd) (stk : List Nat) (lev p : Nat) (pn : Nat → Int32) : Prop := TBM kd wr nm vv m Cf TK SL fA fM ∧ BYW kd wr m ∧ CUR fM p ∧ UPM (Cf 2) fM stk ∧ stk.length < 9000 ∧ CTX kd wr m z Cf TK fA fM (luN nm TK SL stk) lev p pn
/-- BLOCKS' VARIABLES, as the reference lists them -/
def BVS (E : SENV) : Prop := ∀ s bk, s < eNo E 5 6 → gi (vM E) 17 s = Int32.ofNat bk → bk < 9000 → ∃ ks, VLS (dM E) ks (gi (dM E) 81 bk) ∧ ks.length ≤ 90000 ∧ (∀ k ∈ ks, k ∈ eSL E s ∧ gi (vM E) 19 k = 1 ∧ gi (vM E) 27 k = 0 ∧ gi (dM E) 26 k = Int32.ofNat (sM E k)) ∧ ∀ y ∈ eSL E s, gi (vM E) 19 y = 1 → gi (vM E) 27 y = 0 → y ∈ ks
/-- the RUN's bundle has those tables -/
def EQJ (E : SENV) (nm TK SG : Nat → Nat) (SL : Nat → List Nat) (fA fM : Wd) (NS ns : Nat) (stk : List Nat) (lev p kp : Nat) : Prop := vM E = fM ∧ vA E = fA ∧ eLU E stk = luN nm TK SL stk ∧ eLV E p = lev ∧ SCE E stk ∧ eNo E 3 p ≤ 60000 ∧ kpO E p stk = kp ∧ (E.2.2.1 0 = SL ∧ E.2.2.2.1 = nm ∧ E.2.2.2.2 = TK ∧ eNo E 5 6 = NS ∧ eNo E 5 2 = ns) ∧ (∀ s, s < eNo E 5 6 → gi (vM E) 17 s = -1 ∨ ∃ bk, gi (vM E) 17 s = Int32.ofNat bk ∧ bk < 9000) ∧ gi (vM E) 0 10 = 0 ∧ (∀ s, s < NS → eNo E 4 s = SG s) ∧ (∀ j, j < 1200 → eNo E 3 j ≤ 60000) ∧ BVS E ∧ eNo E 5 0 ≤ 36872
def FUJ : Nat := 100000
theorem fuj : 99999 ≤ FUJ := by unfold FUJ; omega
/-- words and codes go on, slots too -/
def SPM (E : SENV) (F : Nat) (PA : Nat → Nat → Nat → Wd → Prop) (PM : Nat → Nat → Nat → Nat → Wd → Prop) : Prop := (∀ a a' Z, PA a a' Z (cA E) → a ≤ a') ∧ ∀ b q b' q', PM b q b' q' (dM E) → b ≤ b' ∧ q ≤ q' ∧ q' ≤ q + F
/-- both sides of a STATEMENT without its LABELS; R: how the faults belong together -/
def JSP (kd wr nm TK SG : Nat → Nat) (m z : Nat) (SL : Nat → List Nat) (fA fM : Wd) (NS ns SZ lev : Nat) (pn : Nat → Int32) (R : RTY) (p sg kp N s e n : Nat) (stk : List Nat) (q q' : Nat) (C C' : CV) (T F : Nat) (hA : Wd → Option (Int32 × Wd)) : Prop :=
  (q ≤ q' ∧ T ≤ wr e - wr s) ∧ ∃ (PA : Nat → Nat → Nat → Wd → Prop) (PM : Nat → Nat → Nat → Nat → Wd → Prop) (LA LM : List (Nat × Int32)), SSC kd wr nm TK z fA SL NS ns SZ lev pn sg kp (C 2) (C' 2) (C 1) (C' 1) s e stk LA PA (4 * (wr e - wr s) + 1) hA ∧ STP kd wr m fM lev p N (C 1) (C' 1) n T LM PM ∧ R PA PM LA LM ∧ (∀ E : SENV, EQJ E nm TK SG SL fA fM NS ns stk lev p kp → LM = [] → SYS E → SPM E F PA PM) ∧ ∀ (E : SENV) (s0 Lim : Nat), EQJ E nm TK SG SL fA fM NS ns stk lev p kp → q' ≤ s0 → LM = [] → SOK E Lim → SPQ E Lim stk p sg q s0 PA PM
theorem CTJ.k9 (h : CTJ kd wr nm TK vv m z Cf SL fA fM stk lev p pn) : ∀ i, 9000 ≤ i → kd i = 0 := fun i hi => by
  obtain ⟨_, _, _, _, _, _, _, _, _, hz, _, hz9, hk0⟩ := h
  exact hk0 i (by omega)
theorem CTJ.m9 (h : CTJ kd wr nm TK vv m z Cf SL fA fM stk lev p pn) : m ≤ 8192 := by
  obtain ⟨_, _, _, _, _, _, _, _, _, hz, _, hz9, hk0⟩ := h
  omega
theorem jp_none (hc : CTJ kd wr nm TK vv m z Cf SL fA fM stk lev p pn) (hR : ∀ PA PM L, R PA PM L L) (hk : ¬ (kd s = 2 ∨ kd s = 4 ∨ kd s = 14 ∨ kd s = 15 ∨ kd s = 18 ∨ kd s = 32)) (h7 : gi fM 7 n = 20) (hn : n < 24000) (hC1 : C' 1 = C 1) (hC2 : C' 2 = C 2) (hi : C 1 ≤ ns) (N : Nat) : JSP kd wr nm TK SG m z SL fA fM NS ns SZ lev pn R p sg kp N s s n stk q q C C' 0 0 (fX4_statement_61 rc (Int32.ofNat d)) := by
  rw [JSP, hC1, hC2]
  refine ⟨⟨Nat.le_refl _, Nat.zero_le _⟩, _, _, [], [], (s_none (rc := rc) (d := d) hk hi).wk (fun b b' Z g h => h) (by omega), stp_none (i := C 1) hn h7, hR _ _ _, fun E hE hL hS => ⟨fun a a' Z hA => by have hA : a' = a := hA; omega, fun b q b' q' hM => by have := hM.1; have := hM.2; omega⟩, fun E s0 Lim hE hq hL hS a a' Z b q1 b' q2 hA hM _ _ _ _ h0 => ?_⟩
  have hA : a' = a := hA
  obtain ⟨e1, e2⟩ := hM
  subst hA
  subst e1
  subst e2
  exact ⟨⟨Nat.le_refl _, Nat.le_refl _, Nat.le_refl _⟩, SIT.no⟩
theorem jp_print (hc : CTJ kd wr nm TK vv m z Cf SL fA fM stk lev p pn) (hR : ∀ PA PM L, R PA PM L L) (h32 : kd s = 32) (h43 : kd (s + 1) = 43) (hd : d ≤ 39) (h7 : gi fM 7 n = 23) (h8 : gi fM 8 n = Int32.ofNat x) (hnx : n = x + 1) (hx : XPR kd (hdM stk) lo x (d + 1) (s + 2) e1 cn fA fM) (h44 : kd e1 = 44) (hn : n < 24000) (he : e1 + 1 ≤ m) (hC1 : C' 1 = C 1) (hC2 : C' 2 = C 2) (hi : C 1 ≤ ns) (N : Nat) : JSP kd wr nm TK SG m z SL fA fM NS ns SZ lev pn R p sg kp N s (e1 + 1) n stk q q C C' (wr (e1 + 1) - wr s) 0 (fX4_statement_61 rc (Int32.ofNat d)) := by
  have hk9 := hc.k9
  have hfu := fuj
  have hm9 := hc.m9
  obtain ⟨hT, hB, hcu, hU, hl, hCX⟩ := hc
  obtain ⟨hSY, hFM, hPN, hwr, hz, hW, hz9, hk0⟩ := id hCX
  have hA := xpr_alc hCX hx (by omega) (by omega) (by omega)
  have hs := s_print (rc := rc) (K := FUJ) (hW s (by omega)) (hW (s + 1) (by omega)) (hW e1 (by omega)) h32 h43 h44 (show d < 40 by omega) hA.2 (by omega)
  have hm := rs_print (lev := lev) (i := C 1) (K := FUJ) (N := N) hB hT hFM hcu hk9 hU hl (by omega) hn (show e1 + 1 ≤ m by omega) h7 h8 hnx hx rfl
  have hf := xpr_fit hk9 hx (by omega) (by omega) (by omega) FUJ (by omega)
  rw [JSP, hC1, hC2]
  refine ⟨⟨Nat.le_refl _, Nat.le_refl _⟩, _, _, _, _, ((SSC.ec hs hi).wk (fun b b' Z g h => h) (by omega)), hm, hR _ _ _, fun E ⟨q1, q2, q3, q4, q5, q6⟩ hL hS => ?_, fun E s0 Lim ⟨q1, q2, q3, q4, q5, q6⟩ hq hL hS a a' Z b qq b' q2' hA hM hZ hq' ha hb h0 => ?_⟩
  · rw [← q1, ← q3] at hL
    rw [← q1] at hf
    have wl := WLE (cur := p) hS q5 FUJ 0 x 0 (Or.inl (by omega)) hf.1 hL
    refine ⟨fun a a' Z hA => ?_, fun b qq b' q2' hM => ?_⟩
    · rw [← q1, ← q2, ← q3, ← q4] at hA
      obtain ⟨_, a2, hc, _, e9⟩ := hA
      have := wl.1 _ _ _ _ (hc hL)
      omega
    · rw [← q1, ← q3, ← q4] at hM
      obtain ⟨b2, _, hm, _, e8, e9⟩ := hM
      have := wl.2 _ _ _ _ _ (hm hL)
      omega
  rw [← q1, ← q3] at hL
  rw [← q1] at hf
  rw [← q1, ← q2, ← q3, ← q4] at hA
  rw [← q1, ← q3, ← q4] at hM
  have hb9 : NBd (d + 1) ≤ 478 := by unfold NBd; omega
  obtain ⟨⟨g1, g2, g3⟩, g4⟩ := sp_print (sg := sg) (m1 := q) (s0 := s0) (m2 := qq) hS q5 hA hM hL hf.1 (by omega) ha hb
  exact ⟨⟨g1, g2, by omega⟩, g4⟩
theorem jp_goto (hc : CTJ kd wr nm TK vv m z Cf SL fA fM stk lev p pn) (hR : ∀ PA PM L, R PA PM L L) (h14 : kd s = 14) (hd : d ≤ 40) (h7 : gi fM 7 n = 24) (h8 : gi fM 8 n = Int32.ofNat x) (hnx : n = x + 1) (hx : XAM kd (hdM stk) lo x d (s + 1) e fA fM) (hn : n < 24000) (he : e ≤ m) (hs9 : s + 1 ≤ m) (hC1 : C' 1 = C 1) (hC2 : C' 2 = C 2) (hi : C 1 ≤ ns) (N : Nat) : JSP kd wr nm TK SG m z SL fA fM NS ns SZ lev pn R p sg kp N s e n stk q q C C' (wr e - wr s) 0 (fX4_statement_61 rc (Int32.ofNat d)) := by
  have hk9 := hc.k9
  have hfu := fuj
  have hm9 := hc.m9
  obtain ⟨hT, hB, hcu, hU, hl, hCX⟩ := hc
  obtain ⟨hSY, hFM, hPN, hwr, hz, hW, hz9, hk0⟩ := id hCX
  have hA := xam_aic hCX hx (by omega) he hd
  have hs := s_goto (rc := rc) (K := FUJ) (hW s (by omega)) h14 hA (by omega)
  have hm := rs_goto (lev := lev) (i := C 1) (K := FUJ) (N := N) hB hT hFM hcu hk9 hU hl (by omega) hn he h7 h8 hnx hx
  have hf := xam_fit hk9 hx hd (by omega) (by omega) FUJ (by omega)
  rw [JSP, hC1, hC2]
  refine ⟨⟨Nat.le_refl _, Nat.le_refl _⟩, _, _, _, _, ((SSC.ec hs hi).wk (fun b b' Z g h => h) (by omega)), hm, hR _ _ _, fun E ⟨q1, q2, q3, q4, q5, q6⟩ hL hS => ?_, fun E s0 Lim ⟨q1, q2, q3, q4, q5, q6⟩ hq hL hS a a' Z b qq b' q2' hA hM hZ hq' ha hb h0 => ?_⟩
  · rw [← q1, ← q3] at hL
    rw [← q1] at hf
    have wl := WLE (cur := p) hS q5 FUJ 2 x 0 (Or.inl (by omega)) hf.1 hL
    refine ⟨fun a a' Z hA => ?_, fun b qq b' q2' hM => ?_⟩
    · rw [← q1, ← q2, ← q3, ← q4] at hA
      obtain ⟨_, a2, hc, _, e9⟩ := hA
      have := wl.1 _ _ _ _ (hc hL)
      omega
    · rw [← q1, ← q3, ← q4] at hM
      obtain ⟨b2, _, hm, _, e8, e9⟩ := hM
      have := wl.2 _ _ _ _ _ (hm hL)
      omega
  rw [← q1, ← q3] at hL
  rw [← q1] at hf
  rw [← q1, ← q2, ← q3, ← q4] at hA
  rw [← q1, ← q3, ← q4] at hM
  have hb9 : NBd d ≤ 490 := by unfold NBd; omega
  obtain ⟨⟨g1, g2, g3⟩, g4⟩ := sp_goto (sg := sg) (m1 := q) (s0 := s0) (m2 := qq) hS q5 hA hM hL hf.1 (by omega) ha hb
  exact ⟨⟨g1, g2, by omega⟩, g4⟩
end OA0
