/-! BOTH SIDES MAKE A STATEMENT'S CODES, AND WHAT THEY DO: LABELS, SCOPES -/
section OG6
variable {kd wr nm TK SG : Nat → Nat} {vv : Nat → Int64} {m z : Nat} {Cf C C' : Nat → Nat} {SL : Nat → List Nat} {fA fM : Wd} {NS ns SZ lev : Nat} {pn : Nat → Int32} {p sg kp s e n d q q' j N T T' F i0 i1 cur t i : Nat} {stk : List Nat} {R R1 : RTY} {rc : TX4_block} {E : SENV} {L : List (Nat × Int32)} {P : Nat → Nat → Nat → Nat → Wd → Prop} {hA : Wd → Option (Int32 × Wd)}
theorem stp_wk (h : STP kd wr m fM lev cur N i0 i1 n T L P) (hT : T ≤ T') : STP kd wr m fM lev cur N i0 i1 n T' L P := fun c w k hG hf => by
  unfold FITS at hf
  obtain ⟨u, c', h1, h2⟩ := h c w k hG (by unfold FITS; omega)
  exact ⟨u, c', h1, h2.wk (fun _ _ _ _ _ g => g) (by omega)⟩
theorem nil_in (hT : TBM kd wr nm vv m Cf TK SL fA fM) (h : NIL fM i t) (hs : s < Cf 2) (hi : i ∈ SL s) : t = s := by
  obtain ⟨⟨r1, r2, r3, r4, r5⟩, _, _, hc, hSL, _⟩ := hT
  obtain ⟨c1, c2, h1, h2, h3, h4, h5, h6⟩ := h
  have e2 : c2 = Cf 2 := (eq_iN (by omega) (by omega)).mp (h5.symm.trans r1)
  have hL : LST fM s i := ⟨SL s, r4 s hs, fun k hk => by have := (hSL s hs).2 k hk; omega, hi⟩
  first | exact (h6 s (by omega) hL).symm | exact (h6.1 s (by omega) hL).1.symm
/-- a LABEL: where it is, and that the rest from there is a STATEMENT -/
def LBC (E : SENV) (Lim : Nat) (stk : List Nat) (p sg m1 s0 m2 a a9 b9 l : Nat) : Prop := ∃ al cl, gl (cA E) 41 (l + 1) = Int64.ofNat al ∧ gi (dM E) 55 l = Int32.ofNat cl ∧ cl ≤ 60000 ∧ gl (cA E) 41 al = wdC 32 0 (Int32.ofNat (kpO E p stk)) ∧ al < eNo E 5 0 ∧ a ≤ al ∧ al + 1 ≤ a9 ∧ ∀ L, L ≤ Lim → SIT E L stk p sg m1 s0 m2 (al + 1) a9 cl b9
/-- LABELS i0 .. i1 - 1 of the innermost SCOPE -/
def SPLB (E : SENV) (Lim : Nat) (stk : List Nat) (p sg m1 s0 i0 i1 : Nat) (PA : Nat → Nat → Nat → Wd → Prop) (PM : Nat → Nat → Nat → Nat → Wd → Prop) : Prop := ∀ a a' Z b q b' q', PA a a' Z (cA E) → PM b q b' q' (dM E) → Z ≤ eNo E 1 p → q' ≤ eNo E 3 p → a' < eNo E 5 0 → b' < 60000 → s0 ≤ q → ∀ l ∈ eSL E (stk.headD 0), i0 ≤ l → l < i1 → gi (vM E) 19 l = 4 → LBC E Lim stk p sg m1 s0 q a a' b' l
/-- both sides of a STATEMENT -/
def JST (kd wr nm TK SG : Nat → Nat) (m z : Nat) (SL : Nat → List Nat) (fA fM : Wd) (NS ns SZ lev : Nat) (pn : Nat → Int32) (R : RTY) (p sg kp N s e n : Nat) (stk : List Nat) (q q' : Nat) (C C' : CV) (T F : Nat) (hA : Wd → Option (Int32 × Wd)) : Prop :=
  (q ≤ q' ∧ T ≤ wr e - wr s) ∧ ∃ (PA : Nat → Nat → Nat → Wd → Prop) (PM : Nat → Nat → Nat → Nat → Wd → Prop) (LA LM : List (Nat × Int32)), SSC kd wr nm TK z fA SL NS ns SZ lev pn sg kp (C 2) (C' 2) (C 1) (C' 1) s e stk LA PA (4 * (wr e - wr s) + 1) hA ∧ STS kd wr m fM lev p N (C 1) (C' 1) n T LM PM ∧ R PA PM LA LM ∧ (∀ E : SENV, EQJ E nm TK SG SL fA fM NS ns stk lev p kp → LM = [] → SYS E → SPM E F PA PM) ∧ ∀ (E : SENV) (s0 Lim : Nat), EQJ E nm TK SG SL fA fM NS ns stk lev p kp → q' ≤ s0 → LM = [] → SOK E Lim → SPQ E Lim stk p sg q s0 PA PM ∧ SPLB E Lim stk p sg q s0 (C 1) (C' 1) PA PM
theorem jst_lab (hRL : ∀ PA PM a b, (∀ E : SENV, EQJ E nm TK SG SL fA fM NS ns stk lev p kp → b = [] → SYS E → SPM E F PA PM) → R1 PA PM a b → R (PLB kp (C 1) j PA) (fun b q b' q' g => (∀ x, x < j → gi g 55 (C 1 + x) = Int32.ofNat b) ∧ PM b q b' q' g) a b) (hc : CTJ kd wr nm TK vv m z Cf SL fA fM stk lev p pn) (hLB : LBS kd fM n s j (C 1)) (hD : DCN fA fM (C 1) j (stk.headD 0) p) (hl : ¬ (kd (s + 2 * j) = 2 ∧ kd (s + 2 * j + 1) = 42)) (hns : Cf 1 ≤ ns) (hj : C 1 + j ≤ C' 1 ∧ C' 1 ≤ Cf 1) (hse : s + 2 * j ≤ e) (he : e ≤ m) (hn : n < 24000) (hh : stk.headD 0 < C 2) (hC2 : C 2 ≤ Cf 2) (hWS : WSH fA fM (fun _ => False) (upD C 1 j) C')
    (h : JSP kd wr nm TK SG m z SL fA fM NS ns SZ lev pn R1 p sg kp N (s + 2 * j) e n stk q q' (upD C 1 j) C' T F (fX4_statement_61 rc (Int32.ofNat d))) : JST kd wr nm TK SG m z SL fA fM NS ns SZ lev pn R p sg kp (N + 1) s e n stk q q' C C' T F (fX4_statement rc (Int32.ofNat d)) := by
  obtain ⟨hq, PA, PM, LA, LM, hS1, hS2, hRR, hmon, hsim⟩ := h
  have u1 : upD C 1 j 1 = C 1 + j := upD_s
  have u2 : upD C 1 j 2 = C 2 := upD_n (by decide)
  rw [u1, u2] at hS1
  rw [u1] at hS2
  obtain ⟨hT, hB, hcu, hU, hll, hSYT, hFM, hPN, hwr, hz, hW, hz9, hk0⟩ := id hc
  have hcc := hT.2.2.2.1
  have w1 : wr s + j ≤ wr (s + 2 * j) := by
    have : ∀ i, i ≤ j → wr s + i ≤ wr (s + 2 * i) := by
      intro i
      induction i with
      | zero => exact fun _ => Nat.le_refl _
      | succ i ih =>
        intro hi
        have := ih (by omega)
        have a1 := hW (s + 2 * i) (by omega)
        have a2 := hW (s + 2 * i + 1) (by omega)
        rw [show s + 2 * i + 1 + 1 = s + 2 * (i + 1) by omega] at a2
        omega
    exact this j (Nat.le_refl _)
  have w2 : wr (s + 2 * j) ≤ wr e := by
    by_cases q9 : s + 2 * j = e
    · rw [q9]; exact Nat.le_refl _
    · have := wr_mo hW e (s := s + 2 * j) (by omega) he
      omega
  have hSA := (st_labels (C := Cf) hT.2.2.2.2.2.2 hz9 hLB hl (by omega) hns hS1).wk (fun b b' Z g h => h) (T1 := 4 * (wr e - wr s) + 1) (i2 := C 1) (i3 := C' 1) (by omega) (by omega)
  have hSM := sts_lab hn (show C 1 < 5000 by omega) (by omega) hLB (fun x hx => (hD x hx).1) hS2 hj.1
  refine ⟨⟨hq.1, by omega⟩, _, _, LA, LM, hSA, hSM, hRL _ _ _ _ hmon hRR, fun E hEQ hL hS => ⟨fun a a' Z hA => by have := (hmon E hEQ hL hS).1 _ _ _ hA.2; omega, fun b qq b' q2' hM => (hmon E hEQ hL hS).2 _ _ _ _ hM.2⟩, fun E s0 Lim hEQ hs0 hL hSO => ?_⟩
  obtain ⟨q1, q2, q3, q4, q5, q6, q7, ⟨q8a, q8⟩, q9, q10⟩ := id hEQ
  have hEN := hSO.1.1
  refine ⟨fun a a' Z b qq b' q2' hA hM hZ hq' ha hb h0 => ?_, fun a a' Z b qq b' q2' hA hM hZ hq' ha hb h0 l hl1 hl2 hl3 hl4 => ?_⟩
  · obtain ⟨⟨g1, g2, g3⟩, g4⟩ := hsim E s0 Lim hEQ hs0 hL hSO _ _ _ _ _ _ _ hA.2 hM.2 hZ hq' ha hb h0
    refine ⟨⟨by omega, g2, g3⟩, ?_⟩
    have := sp_labs hSO q9 g4 (fun i hi => by rw [q7]; exact (hA.1 i hi).2) ⟨g1, ha⟩ j (Nat.le_refl _)
    rw [Nat.sub_self, Nat.add_zero] at this
    exact this
  · have hg := hsim E s0 Lim hEQ hs0 hL hSO _ _ _ _ _ _ _ hA.2 hM.2 hZ hq' ha hb h0
    by_cases c : l < C 1 + j
    · obtain ⟨i, rfl⟩ : ∃ i, l = C 1 + i := ⟨l - C 1, by omega⟩
      obtain ⟨a1, a2⟩ := hA.1 i (by omega)
      refine ⟨a + i, b, by rw [a1, i64_iN (by omega)], hM.1 i (by omega), by omega, by rw [a2, q7], by omega, by omega, by omega, fun L hLL => ?_⟩
      obtain ⟨⟨g1, g2, g3⟩, g4⟩ := hsim E s0 L hEQ hs0 hL (hSO.le hLL) _ _ _ _ _ _ _ hA.2 hM.2 hZ hq' ha hb h0
      have := sp_labs (hSO.le hLL) q9 g4 (fun i hi => by rw [q7]; exact (hA.1 i hi).2) ⟨g1, ha⟩ (j - (i + 1)) (by omega)
      rw [show a + i + 1 = a + (j - (j - (i + 1))) by omega]
      exact this
    · exfalso
      obtain ⟨t, p', hd1, hd2⟩ := hWS.2.1 l (by rw [u1]; omega) hl3
      rw [u2] at hd2
      have hl1' : l ∈ SL (stk.headD 0) := by rw [← q8a]; exact hl1
      have := nil_in hT hd1.2.2 (show stk.headD 0 < Cf 2 by omega) hl1'
      rcases hd2 with c | c
      · exact c
      · omega
/-- a STATEMENT in a SCOPE of its own -/
theorem jss_ins (hRi : ∀ PA PM a b, R1 PA PM a b → R PA PM a b) (hT : TBM kd wr nm vv m Cf TK SL fA fM) (hn : C 2 < NS) (hNS : NS = Cf 2) (hi : C 1 ≤ ns) (h14 : gi fM 14 (C 2) = hdM stk) (h17 : gi fM 17 (C 2) = -1) (h15 : gi fM 15 (C 2) = Int32.ofNat p) (hU : UPM (Cf 2) fM stk) (hlen : (C 2 :: stk).length < 9000) (hlb : ∀ l ∈ SL (C 2), C 1 ≤ l ∧ l < C' 1 ∧ gi fM 19 l = 4)
    (h : JST kd wr nm TK SG m z SL fA fM NS ns SZ lev pn R1 p sg kp N s e n (C 2 :: stk) q q' (upD C 2 1) C' T F (fun w => rc 5 (Int32.ofNat d) 0 0 w)) : JSS kd wr nm TK SG m z SL fA fM NS ns SZ lev pn R p sg kp N s e n stk q q' C C' T F (fX4_scoped rc (Int32.ofNat d)) := by
  obtain ⟨hq, PA, PM, LA, LM, hS1, hS2, hRR, hmon, hsim⟩ := h
  have u1 : upD C 2 1 2 = C 2 + 1 := upD_s
  have u2 : upD C 2 1 1 = C 1 := upD_n (by decide)
  rw [u1, u2] at hS1
  rw [u2] at hS2
  have hgo : ∀ E, EQJ E nm TK SG SL fA fM NS ns stk lev p kp → EQJ E nm TK SG SL fA fM NS ns (C 2 :: stk) lev p kp ∧ own E (C 2) p ∧ gi (vM E) 17 (C 2) = -1 := fun E hEQ => by
    obtain ⟨q1, q2, q3, q4, q5, q6, q7, ⟨q8a, q8b, q8c, q8d, q8e⟩, q9, q10⟩ := id hEQ
    have ho : own E (C 2) p := by rw [← q1] at h15; exact h15
    have h17' : gi (vM E) 17 (C 2) = -1 := by rw [q1]; exact h17
    have hkp : kpO E p (C 2 :: stk) = kpO E p stk := by
      show (if own E (C 2) p then (if gi (vM E) 17 (C 2) = -1 then kpO E p stk else eNo E 4 (C 2)) else 2) = _
      rw [if_pos ho, if_pos h17']
    have hEQ' : EQJ E nm TK SG SL fA fM NS ns (C 2 :: stk) lev p kp := by
      refine ⟨q1, q2, ?_, q4, ?_, q6, hkp.trans q7, ⟨q8a, q8b, q8c, q8d, q8e⟩, q9, q10⟩
      · show luN E.2.2.2.1 E.2.2.2.2 (E.2.2.1 0) (C 2 :: stk) = _
        rw [q8a, q8b, q8c]
      · intro y hy
        rcases List.mem_cons.mp hy with rfl | hy
        · omega
        · exact q5 y hy
    exact ⟨hEQ', ho, h17'⟩
  refine ⟨hq, PA, PM, LA, LM, s_scoped hS1 hn hi, hS2, hRi _ _ _ _ hRR, fun E hEQ hL hS => hmon E (hgo E hEQ).1 hL hS, fun E s0 Lim hEQ hs0 hL hSO a a' Z b qq b' q2' hA hM hZ hq' ha hb h0 => ?_⟩
  obtain ⟨q1, q2, q3, q4, q5, q6, q7, ⟨q8a, q8b, q8c, q8d, q8e⟩, q9, q10⟩ := id hEQ
  obtain ⟨hEQ', ho, h17'⟩ := hgo E hEQ
  obtain ⟨hs, hl⟩ := hsim E s0 Lim hEQ' hs0 hL hSO
  obtain ⟨⟨g1, g2, g3⟩, g4⟩ := hs _ _ _ _ _ _ _ hA hM hZ hq' ha hb h0
  refine ⟨⟨g1, g2, g3⟩, SIT.scope hSO.1 q9 ho h17' (fun y hy => ?_) ?_ hlen g4 (fun l hl1 hl4 => ?_) g1⟩
  · rw [q1]
    exact (hlb y (by rw [← q8a]; exact hy)).2.2
  · refine ⟨by rw [q1]; exact h14, by omega, ?_⟩
    rw [q8d, hNS, q1]
    exact hU
  · have hy := hlb l (by rw [← q8a]; exact hl1)
    exact hl _ _ _ _ _ _ _ hA hM hZ hq' ha hb h0 l hl1 (by rw [u2]; exact hy.1) hy.2.1 hl4
end OG6
