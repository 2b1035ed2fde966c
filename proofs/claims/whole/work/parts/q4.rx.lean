/-! WHAT'S TOLD OF BOTH SIDES' CODES AND FAULTS: R of STATEMENTS -/
section QE4
/-- a switch, as it lies -/
def SWF (E : SENV) (k : Nat) : Prop := ∃ (s : Nat) (r : List Nat) (p : Nat), UPM (eNo E 5 6) (vM E) (s :: r) ∧ own E s p ∧ p < 1200 ∧ k ∈ eSL E s ∧ ∃ n e0 ad, gl (cA E) 41 (k + 1) = Int64.ofNat ad ∧ ad < eNo E 5 0 ∧ gl (cA E) 41 ad = Int64.ofNat n ∧ n ≤ 24000 ∧ gi (dM E) 57 k = Int32.ofNat n ∧ gi (dM E) 56 k = Int32.ofNat e0 ∧ e0 + n ≤ 24000 ∧
  ∀ j, j < n → ∃ g c a1 b1 K nn, SWC (cA E) (eNo E 5 0) j (ad + 1) g ∧ gi (dM E) 58 (e0 + j) = Int32.ofNat c ∧ NOD E (s :: r) p K 2 nn (g + 1) a1 c b1 ∧ gl (cA E) 41 a1 = wdC 46 0 0 ∧ opW (dM E) b1 17 0 0 0 ∧ NDX (vM E) K 2 nn ≤ 502
/-- symbols' cells, LABELS' codes, switches -/
def SYF (E : SENV) (i i1 : Nat) : Prop := ∀ y, i ≤ y → y < i1 → (gi (vM E) 19 y = 3 ∨ gi (vM E) 19 y = 4 ∨ gi (vM E) 19 y = 5 → ∃ x, gl (cA E) 41 (y + 1) = Int64.ofNat x ∧ x < eNo E 5 0) ∧ (gi (vM E) 19 y = 4 → ∃ c, gi (dM E) 55 y = Int32.ofNat c ∧ c ≤ 60000) ∧ (gi (vM E) 19 y = 5 → SWF E y)
/-- a procedure in the class's code -/
def PCF (E : SENV) (SZ : Nat) (x : PIF) (j : Nat) : Prop := ∃ h Zp r, gl (cA E) 41 (nd (vM E) 29 j + 1) = Int64.ofNat h ∧ gl (cA E) 41 h = Int64.ofNat (nd (vA E) 18 (nd (vM E) 29 j + 1)) ∧ gl (cA E) 41 (h + 1) = Int64.ofNat Zp ∧ (Zp ≤ SZ ∧ 6 + nd (vA E) 18 (nd (vM E) 29 j + 1) ≤ Zp) ∧ x.2.2.1 (h + 2) r Zp (cA E) ∧ h + 2 ≤ r ∧ gl (cA E) 41 r = wdC 43 0 0 ∧ r < eNo E 5 0
/-- procedures' codes of the reference are there -/
def PMH (E : SENV) (pi : Nat → PIF) (a n : Nat) : Prop := ∀ j, a ≤ j → j < n → ∃ b q b' q', (pi j).2.2.2 b q b' q' (dM E) ∧ b' < 60000
theorem SYF.rf {E : SENV} {i i1 : Nat} (h : i1 ≤ i) : SYF E i i1 := fun y h1 h2 => absurd h2 (by omega)
theorem SYF.tr {E : SENV} {i i1 i2 : Nat} (h : SYF E i i1) (g : SYF E i1 i2) : SYF E i i2 := fun y h1 h2 => by
  by_cases c : y < i1
  · exact h y h1 c
  · exact g y (by omega) h2
section RD
variable (kd wr nm TK SG ph : Nat → Nat) (m : Nat) (Cf : CV) (SL : Nat → List Nat) (fA fM : Wd) (NS ns SZ : Nat) (q0 : Int32 × Int32)
/-- a procedure j: n: 0 formals, 1 their words, 2 slots, 4 the level round it, 5 its SCOPE, 6 the SCOPE round it, 7 the procedure round it, 8 its symbol; st: SCOPES round them -/
def PIS (x : PIF) (n : Nat → Nat) (st : List Nat) (j : Nat) : Prop :=
  (1 ≤ j ∧ j < Cf 4 ∧ n 8 < Cf 1 ∧ gi fM 29 j = Int32.ofNat (n 8) ∧ gi fM 19 (n 8) = 3 ∧ gi fM 24 (n 8) = Int32.ofNat j ∧ gi fM 30 j = Int32.ofNat (n 4 + 1) ∧ n 4 ≤ 40 ∧ gi fM 30 (n 7) = Int32.ofNat (n 4) ∧ gi fM 37 j = Int32.ofNat (n 7) ∧ n 7 < j ∧ gi fM 31 j = Int32.ofNat (n 0) ∧ gi fM 32 j = Int32.ofNat (n 8 + 1) ∧ n 8 + 1 + n 0 ≤ Cf 1 ∧ gi fM 35 j = Int32.ofNat (n 2) ∧ n 2 ≤ 60000) ∧
  (n 2 ≤ 1 + 8 * cntP fM j (Cf 1) + 2 * Cf 3 ∧ 1 + 2 * n 0 ≤ n 2) ∧
  (UPM (Cf 2) fM (n 5 :: n 6 :: st) ∧ (n 6 :: st).length < 8000 ∧ gi fM 15 (n 5) = Int32.ofNat j ∧ gi fM 17 (n 5) = -1 ∧ gi fM 15 (n 6) = Int32.ofNat (n 7) ∧ NIL fM (n 8) (n 6) ∧ (∀ t ∈ n 6 :: st, gi fM 15 t ≠ Int32.ofNat j) ∧ ∀ y ∈ SL (n 5), n 8 + 1 ≤ y ∧ y < n 8 + 1 + n 0) ∧
  (gi fA 18 (n 8 + 1) = Int32.ofNat (n 1) ∧ 6 + n 1 ≤ SZ ∧ SZ ≤ 100000 ∧ ∃ f : Nat → Nat, f 0 = 0 ∧ f (n 0) = n 1 ∧ ∀ i, i < n 0 → (gi fM 19 (n 8 + 1 + i) = 6 ∧ gi fM 26 (n 8 + 1 + i) = Int32.ofNat (1 + 2 * i)) ∧ ∃ w, (w = 1 ∨ w = 2) ∧ f (i + 1) = f i + w ∧ gi fA 18 (n 8 + 1 + i + 1) = Int32.ofNat (6 + f i) ∧ (w = 1 ↔ gi fM 28 (n 8 + 1 + i) = 1 ∨ gi fM 24 (n 8 + 1 + i) = 2)) ∧
  PRQ kd wr m fM j x.1.1 x.2.1 (PPR fM j (n 8 + 1) (n 0) (n 2) x.2.2.2) ∧
  (∀ E : SENV, EQJ E nm TK SG SL fA fM NS ns (n 5 :: n 6 :: st) (n 4 + 1) j 2 → x.2.1 = [] → SYS E → SPM E x.1.2 x.2.2.1 x.2.2.2) ∧
  ∀ (E : SENV) (Lim : Nat), EQJ E nm TK SG SL fA fM NS ns (n 5 :: n 6 :: st) (n 4 + 1) j 2 → x.2.1 = [] → SOK E Lim → SPQ E Lim (n 5 :: n 6 :: st) j (6 + n 1) (1 + 2 * n 0) (n 2) x.2.2.1 x.2.2.2
/-- procedures a .. n - 1 -/
def PIR (pi : Nat → PIF) (a n : Nat) : Prop := ∀ j, a ≤ j → j < n → ∃ r st, PIS kd wr nm TK SG m Cf SL fA fM NS ns SZ (pi j) r st j
/-- what the codes tell, where there are no faults -/
def RCD (lev p kp : Nat) (stk : List Nat) (C C' : CV) (pi : Nat → PIF) (PA : Nat → Nat → Nat → Wd → Prop) (PM : Nat → Nat → Nat → Nat → Wd → Prop) : Prop := ∀ E : SENV, EQJ E nm TK SG SL fA fM NS ns stk lev p kp → (∀ j, C 4 ≤ j → j < C' 4 → (pi j).2.1 = []) → SYS E → PMH E pi (C 4) (C' 4) → ∀ a a' Z b q b' q', PA a a' Z (cA E) → PM b q b' q' (dM E) → a' < eNo E 5 0 → b' < 60000 → SYF E (C 1) (C' 1) ∧ ∀ j, C 4 ≤ j → j < C' 4 → PCF E SZ (pi j) j
/-- R of a STATEMENT, or of some in a row -/
def RXS (lev p kp : Nat) (stk : List Nat) (s e : Nat) (C C' : CV) (T F : Nat) : RTY := fun PA PM LA LM => ∃ pi : Nat → PIF, PIR kd wr nm TK SG m Cf SL fA fM NS ns SZ pi (C 4) (C' 4) ∧ T + rsm (fun j => (pi j).1.1) (C 4) (C' 4) ≤ wr e - wr s ∧ FLR wr q0 LA (LM ++ prF pi (C 4) (C' 4)) ∧ F7X C C' LA ∧ 10 * (C' 3 - C 3) + 9 * (F + rsm (fun j => (pi j).1.2) (C 4) (C' 4)) + 2 * (C' 5 - C 5) ≤ ph e - ph s ∧ (LM = [] → RCD nm TK SG SL fA fM NS ns SZ lev p kp stk C C' pi PA PM)
end RD
section RL
variable {kd wr nm TK SG ph : Nat → Nat} {m : Nat} {Cf : CV} {SL : Nat → List Nat} {fA fM : Wd} {NS ns SZ : Nat} {q0 : Int32 × Int32} {lev p kp s e s1 e1 s2 e2 T F T1 F1 T2 F2 : Nat} {stk : List Nat} {C C' C1 D D' : CV}
theorem PIR.mg {a b c : Nat} {pi1 pi2 : Nat → PIF} (h : PIR kd wr nm TK SG m Cf SL fA fM NS ns SZ pi1 a b) (g : PIR kd wr nm TK SG m Cf SL fA fM NS ns SZ pi2 b c) : PIR kd wr nm TK SG m Cf SL fA fM NS ns SZ (mgP b pi1 pi2) a c := fun j h1 h2 => by
  by_cases q : j < b
  · rw [mgP_l q]; exact h j h1 q
  · rw [mgP_r (by omega)]; exact g j (by omega) h2
/-- nothing within -/
theorem rx_leaf {PA : Nat → Nat → Nat → Wd → Prop} {PM : Nat → Nat → Nat → Nat → Wd → Prop} {LA LM : List (Nat × Int32)} (h1 : C' 1 = C 1) (h3 : C' 3 = C 3) (h4 : C' 4 = C 4) (h5 : C' 5 = C 5) (hT : T ≤ wr e - wr s) (hF : F = 0) (hL : FLR wr q0 LA LM) (h7 : F7X C C' LA) : RXS kd wr nm TK SG ph m Cf SL fA fM NS ns SZ q0 lev p kp stk s e C C' T F PA PM LA LM := by
  refine ⟨fun _ => ((0, 0), [], fun _ _ _ _ => True, fun _ _ _ _ _ => True), fun j a b => absurd b (by omega), ?_, ?_, h7, ?_, fun _ E _ _ _ _ a a' Z b q b' q' _ _ _ _ => ⟨SYF.rf (by omega), fun j a b => absurd b (by omega)⟩⟩
  · rw [rsm_z (by omega)]; omega
  · rw [prF_z (by omega), List.append_nil]; exact hL
  · rw [rsm_z (by omega)]; omega
/-- a part, and more -/
theorem rx_mk {PA PA' : Nat → Nat → Nat → Wd → Prop} {PM PM' : Nat → Nat → Nat → Nat → Wd → Prop} {LA LM LA' LM' : List (Nat × Int32)} (h : RXS kd wr nm TK SG ph m Cf SL fA fM NS ns SZ q0 lev p kp stk s1 e1 C C' T1 F1 PA PM LA LM) (c1 : D 1 = C 1 ∧ D' 1 = C' 1) (c3 : D 3 = C 3 ∧ D' 3 = C' 3) (c4 : D 4 = C 4 ∧ D' 4 = C' 4) (c5 : D 5 = C 5 ∧ D' 5 = C' 5) (c7 : D 7 = C 7 ∧ D' 7 = C' 7)
    (hT : T + (wr e1 - wr s1) ≤ T1 + (wr e - wr s)) (hF : 9 * F + (ph e1 - ph s1) ≤ 9 * F1 + (ph e - ph s)) (hfl : ∀ X, FLR wr q0 LA (LM ++ X) → FLR wr q0 LA' (LM' ++ X)) (hm : ∀ x ∈ LA, x ∈ LA')
    (hcon : ∀ E : SENV, EQJ E nm TK SG SL fA fM NS ns stk lev p kp → LM' = [] → SYS E → LM = [] ∧ CON E PA' PA PM' PM) : RXS kd wr nm TK SG ph m Cf SL fA fM NS ns SZ q0 lev p kp stk s e D D' T F PA' PM' LA' LM' := by
  obtain ⟨pi, r1, r2, r3, r4, r5, r6⟩ := h
  refine ⟨pi, by rw [c4.1, c4.2]; exact r1, by rw [c4.1, c4.2]; omega, by rw [c4.1, c4.2]; exact hfl _ r3, r4.cg c7.1 c7.2 hm, by rw [c3.1, c3.2, c4.1, c4.2, c5.1, c5.2]; omega, fun hL E hEQ hp hS hPM a a' Z b q b' q' hA hM ha hb => ?_⟩
  rw [c4.1, c4.2] at hp hPM
  obtain ⟨hL1, g1, g2⟩ := hcon E hEQ hL hS
  obtain ⟨x, x', x1, x2, x3, x4⟩ := g1 _ _ _ hA
  obtain ⟨y, r, y', r', y1, y2, y3, y4, y5, y6, y7⟩ := g2 _ _ _ _ hM
  rw [c1.1, c1.2, c4.1, c4.2]
  exact r6 hL1 E hEQ hp hS hPM x x' Z y r y' r' x4 y7 (by omega) (by omega)
/-- two parts, and more -/
theorem rx_mk2 {PA PA' PA2 : Nat → Nat → Nat → Wd → Prop} {PM PM' PM2 : Nat → Nat → Nat → Nat → Wd → Prop} {LA LM LA' LM' LA2 LM2 : List (Nat × Int32)} (h : RXS kd wr nm TK SG ph m Cf SL fA fM NS ns SZ q0 lev p kp stk s1 e1 C C1 T1 F1 PA PM LA LM) (g : RXS kd wr nm TK SG ph m Cf SL fA fM NS ns SZ q0 lev p kp stk s2 e2 C1 C' T2 F2 PA2 PM2 LA2 LM2) (c1 : D 1 = C 1 ∧ D' 1 = C' 1) (c3 : D 3 = C 3 ∧ D' 3 = C' 3) (c4 : D 4 = C 4 ∧ D' 4 = C' 4) (c5 : D 5 = C 5 ∧ D' 5 = C' 5) (c7 : D 7 = C 7 ∧ D' 7 = C' 7) (l3 : C 3 ≤ C1 3 ∧ C1 3 ≤ C' 3) (l4 : C 4 ≤ C1 4 ∧ C1 4 ≤ C' 4) (l5 : C 5 ≤ C1 5 ∧ C1 5 ≤ C' 5) (l7 : C1 7 ≠ 0 → C' 7 = C1 7)
    (hT : T + (wr e1 - wr s1) + (wr e2 - wr s2) ≤ T1 + T2 + (wr e - wr s)) (hF : 9 * F + (ph e1 - ph s1) + (ph e2 - ph s2) ≤ 9 * (F1 + F2) + (ph e - ph s)) (hfl : ∀ X Y, FLR wr q0 LA (LM ++ X) → FLR wr q0 LA2 (LM2 ++ Y) → FLR wr q0 LA' (LM' ++ (X ++ Y))) (hm : ∀ x, x ∈ LA ++ LA2 → x ∈ LA')
    (hcon : ∀ E : SENV, EQJ E nm TK SG SL fA fM NS ns stk lev p kp → LM' = [] → SYS E → (LM = [] ∧ LM2 = []) ∧ CON E PA' PA PM' PM ∧ CON E PA' PA2 PM' PM2) : RXS kd wr nm TK SG ph m Cf SL fA fM NS ns SZ q0 lev p kp stk s e D D' T F PA' PM' LA' LM' := by
  obtain ⟨pi1, r1, r2, r3, r4, r5, r6⟩ := h
  obtain ⟨pi2, t1, t2, t3, t4, t5, t6⟩ := g
  have m1 : ∀ j, C 4 ≤ j → j < C1 4 → mgP (C1 4) pi1 pi2 j = pi1 j := fun j _ h => mgP_l h
  have m2 : ∀ j, C1 4 ≤ j → j < C' 4 → mgP (C1 4) pi1 pi2 j = pi2 j := fun j h _ => mgP_r h
  have sT : rsm (fun j => (mgP (C1 4) pi1 pi2 j).1.1) (C 4) (C' 4) = rsm (fun j => (pi1 j).1.1) (C 4) (C1 4) + rsm (fun j => (pi2 j).1.1) (C1 4) (C' 4) := rsm_mgP (fun x => x.1.1) l4.1 l4.2
  have sF : rsm (fun j => (mgP (C1 4) pi1 pi2 j).1.2) (C 4) (C' 4) = rsm (fun j => (pi1 j).1.2) (C 4) (C1 4) + rsm (fun j => (pi2 j).1.2) (C1 4) (C' 4) := rsm_mgP (fun x => x.1.2) l4.1 l4.2
  have sL : prF (mgP (C1 4) pi1 pi2) (C 4) (C' 4) = prF pi1 (C 4) (C1 4) ++ prF pi2 (C1 4) (C' 4) := prF_mgP l4.1 l4.2
  refine ⟨mgP (C1 4) pi1 pi2, by rw [c4.1, c4.2]; exact r1.mg t1, by rw [c4.1, c4.2, sT]; omega, by rw [c4.1, c4.2, sL]; exact hfl _ _ r3 t3, (r4.app t4 l7).cg c7.1 c7.2 hm, by rw [c3.1, c3.2, c4.1, c4.2, c5.1, c5.2, sF]; omega, fun hL E hEQ hp hS hPM a a' Z b q b' q' hA hM ha hb => ?_⟩
  rw [c4.1, c4.2] at hp hPM
  obtain ⟨⟨hL1, hL2⟩, ⟨g1, g2⟩, g3, g4⟩ := hcon E hEQ hL hS
  obtain ⟨x, x', x1, x2, x3, x4⟩ := g1 _ _ _ hA
  obtain ⟨y, r, y', r', y1, y2, y3, y4, y5, y6, y7⟩ := g2 _ _ _ _ hM
  obtain ⟨u, u', u1, u2, u3, u4⟩ := g3 _ _ _ hA
  obtain ⟨v, w, v', w', v1, v2, v3, v4, v5, v6, v7⟩ := g4 _ _ _ _ hM
  obtain ⟨a1, a2⟩ := r6 hL1 E hEQ (fun j a b => by rw [← m1 j a b]; exact hp j a (by omega)) hS (fun j a b => by rw [← m1 j a b]; exact hPM j a (by omega)) x x' Z y r y' r' x4 y7 (by omega) (by omega)
  obtain ⟨b1, b2⟩ := t6 hL2 E hEQ (fun j a b => by rw [← m2 j a b]; exact hp j (by omega) b) hS (fun j a b => by rw [← m2 j a b]; exact hPM j (by omega) b) u u' Z v w v' w' u4 v7 (by omega) (by omega)
  rw [c1.1, c1.2, c4.1, c4.2]
  refine ⟨a1.tr b1, fun j h1 h2 => ?_⟩
  by_cases q : j < C1 4
  · rw [m1 j h1 q]; exact a2 j h1 q
  · rw [m2 j (by omega) h2]; exact b2 j (by omega) h2
/-- one more SCOPE -/
theorem eqj_ins {s0 : Nat} {E : SENV} (h15 : gi fM 15 s0 = Int32.ofNat p) (h17 : gi fM 17 s0 = -1) (hs : s0 < NS) (hEQ : EQJ E nm TK SG SL fA fM NS ns stk lev p kp) : EQJ E nm TK SG SL fA fM NS ns (s0 :: stk) lev p kp := by
  obtain ⟨q1, q2, q3, q4, q5, q6, q7, ⟨q8a, q8b, q8c, q8d, q8e⟩, q9, q10⟩ := hEQ
  have ho : own E s0 p := by rw [← q1] at h15; exact h15
  have h17' : gi (vM E) 17 s0 = -1 := by rw [q1]; exact h17
  have hkp : kpO E p (s0 :: stk) = kpO E p stk := by
    show (if own E s0 p then (if gi (vM E) 17 s0 = -1 then kpO E p stk else eNo E 4 s0) else 2) = _
    rw [if_pos ho, if_pos h17']
  refine ⟨q1, q2, ?_, q4, ?_, q6, hkp.trans q7, ⟨q8a, q8b, q8c, q8d, q8e⟩, q9, q10⟩
  · show luN E.2.2.2.1 E.2.2.2.2 (E.2.2.1 0) (s0 :: stk) = _
    rw [q8a, q8b, q8c]
  · intro y hy
    rcases List.mem_cons.mp hy with rfl | hy
    · omega
    · exact q5 y hy
theorem rx_ins {s0 : Nat} {PA : Nat → Nat → Nat → Wd → Prop} {PM : Nat → Nat → Nat → Nat → Wd → Prop} {LA LM : List (Nat × Int32)} (h15 : gi fM 15 s0 = Int32.ofNat p) (h17 : gi fM 17 s0 = -1) (hs : s0 < NS) (h : RXS kd wr nm TK SG ph m Cf SL fA fM NS ns SZ q0 lev p kp (s0 :: stk) s e C C' T F PA PM LA LM) (c1 : D 1 = C 1 ∧ D' 1 = C' 1) (c3 : D 3 = C 3 ∧ D' 3 = C' 3) (c4 : D 4 = C 4 ∧ D' 4 = C' 4) (c5 : D 5 = C 5 ∧ D' 5 = C' 5) (c7 : D 7 = C 7 ∧ D' 7 = C' 7) : RXS kd wr nm TK SG ph m Cf SL fA fM NS ns SZ q0 lev p kp stk s e D D' T F PA PM LA LM := by
  obtain ⟨pi, r1, r2, r3, r4, r5, r6⟩ := h
  refine ⟨pi, by rw [c4.1, c4.2]; exact r1, by rw [c4.1, c4.2]; exact r2, by rw [c4.1, c4.2]; exact r3, r4.cg c7.1 c7.2 (fun _ h => h), by rw [c3.1, c3.2, c4.1, c4.2, c5.1, c5.2]; exact r5, fun hL E hEQ hp hS hPM => ?_⟩
  rw [c4.1, c4.2] at hp hPM
  rw [c1.1, c1.2, c4.1, c4.2]
  exact r6 hL E (eqj_ins h15 h17 hs hEQ) hp hS hPM
end RL
end QE4
