/-! BOTH SIDES MAKE STATEMENTS' CODES, AND WHAT THEY DO: in a row -/
section OH7
variable {kd wr nm TK SG : Nat → Nat} {vv : Nat → Int64} {m z : Nat} {Cf C C1 C' : Nat → Nat} {SL : Nat → List Nat} {fA fM : Wd} {NS ns SZ lev : Nat} {pn : Nat → Int32} {p sg kp s e e1 n d q q' q1 j N x : Nat} {xs stk : List Nat} {R R1 R2 : RTY} {rc : TX4_block} {E : SENV} {Lim m1 m1' s0 i0 i1 i2 T F T' F' : Nat}
/-- both sides of STATEMENTS in a row -/
def JRW (kd wr nm TK SG : Nat → Nat) (m z : Nat) (SL : Nat → List Nat) (fA fM : Wd) (NS ns SZ lev : Nat) (pn : Nat → Int32) (R : RTY) (p sg kp N d : Nat) (rc : TX4_block) (xs : List Nat) (s e : Nat) (stk : List Nat) (q q' : Nat) (C C' : CV) (T F : Nat) : Prop :=
  (q ≤ q' ∧ T ≤ wr e - wr s) ∧ (C 1 ≤ C' 1 ∧ C' 1 ≤ ns) ∧ s ≤ e ∧ wr s ≤ wr e ∧ ∃ (PA : Nat → Nat → Nat → Wd → Prop) (l : List STE) (LA : List (Nat × Int32)), SBC kd wr nm TK z fA SL NS ns SZ lev pn rc d (xs.length - 1) sg kp (C 2) (C' 2) (C 1) (C' 1) s e stk LA PA (4 * (wr e - wr s) + 1) ∧ (l.map Prod.fst = xs ∧ rwS kd wr m fM lev p N l (C 1) (C' 1) ∧ rwT l ≤ T + 1) ∧ R PA (rwP l) LA (rwL l) ∧ (∀ E : SENV, EQJ E nm TK SG SL fA fM NS ns stk lev p kp → rwL l = [] → SYS E → SPM E F PA (rwP l)) ∧ ∀ (E : SENV) (s0 Lim : Nat), EQJ E nm TK SG SL fA fM NS ns stk lev p kp → q' ≤ s0 → rwL l = [] → SOK E Lim → SPQ E Lim stk p sg q s0 PA (rwP l) ∧ SPLB E Lim stk p sg q s0 (C 1) (C' 1) PA (rwP l)
theorem jrw_one (hRo : GR1 (fun E => EQJ E nm TK SG SL fA fM NS ns stk lev p kp) R1 R []) (hC : C 1 ≤ C' 1 ∧ C' 1 ≤ ns) (h41 : kd e ≠ 41) (hs : s + 1 < 8193) (hse : s ≤ e) (hwe : wr s ≤ wr e) (h : JST kd wr nm TK SG m z SL fA fM NS ns SZ lev pn R1 p sg kp N s e x stk q q' C C' T F (fun w => rc 5 (Int32.ofNat d) 0 0 w)) : JRW kd wr nm TK SG m z SL fA fM NS ns SZ lev pn R p sg kp N d rc [x] s e stk q q' C C' T F := by
  obtain ⟨hq, PA, PM, LA, LM, hS1, hS2, hRR, hmon, hsim⟩ := h
  have hP : ∀ b q b' q' g, rwP [(x, T, C' 1, LM, PM)] b q b' q' g → PM b q b' q' g := fun b q b' q' g ⟨b1, q1, g1, g2, g3⟩ => by
    rw [g2, g3]; exact g1
  have hL1 : rwL [(x, T, C' 1, LM, PM)] = LM := List.append_nil LM
  refine ⟨hq, hC, hse, hwe, PA, [(x, T, C' 1, LM, PM)], LA, sbc_one hS1 h41 hs, ⟨rfl, ⟨hS2, hC.1, rfl⟩, ?_⟩, ?_, fun E hEQ hL hS => ?_, fun E s0 Lim hEQ hs0 hL hSO => ?_⟩
  · show T + 1 + 0 ≤ _
    omega
  · rw [hL1]
    refine hRo _ _ _ _ _ _ (fun E hEQ _ hL hS => ?_) hRR
    obtain ⟨m1, m2⟩ := hmon E hEQ hL hS
    exact ⟨fun a a' Z h => ⟨a, a', Nat.le_refl _, m1 _ _ _ h, Nat.le_refl _, h⟩, fun b q b' q' h => by
      have h := hP _ _ _ _ _ h
      have := m2 _ _ _ _ h
      exact ⟨b, q, b', q', Nat.le_refl _, this.1, Nat.le_refl _, Nat.le_refl _, this.2.1, Nat.le_refl _, h⟩⟩
  · rw [hL1] at hL
    obtain ⟨m1, m2⟩ := hmon E hEQ hL hS
    exact ⟨m1, fun b q b' q' hM => m2 _ _ _ _ (hP _ _ _ _ _ hM)⟩
  rw [hL1] at hL
  obtain ⟨h1, h2⟩ := hsim E s0 Lim hEQ hs0 hL hSO
  exact ⟨fun a a' Z b q b' q' hA hM => h1 a a' Z b q b' q' hA (hP _ _ _ _ _ hM), fun a a' Z b q b' q' hA hM => h2 a a' Z b q b' q' hA (hP _ _ _ _ _ hM)⟩
theorem LBC.wid {a a' a9 b' b9 m2 l : Nat} (h : LBC E Lim stk p sg m1' s0 m2 a a' b' l) (h2 : ∀ L, L ≤ Lim → SIT E L stk p sg m1' s0 m2 a' a9 b' b9) (ha : a' ≤ a9) (hm : m1 ≤ m1') : LBC E Lim stk p sg m1 s0 m2 a a9 b9 l := by
  obtain ⟨al, cl, q1, q2, q3, q4, q5, q6, q7, q8⟩ := h
  exact ⟨al, cl, q1, q2, q3, q4, q5, q6, by omega, fun L hL => ((q8 L hL).seq (h2 L hL) ⟨by omega, ha⟩).mono (Nat.le_refl _) hm (Nat.le_refl _)⟩
theorem LBC.sub {a0 a a' b' m2 m3 l : Nat} (h : LBC E Lim stk p sg m1' s0 m3 a a' b' l) (ha : a0 ≤ a) (hm : m1 ≤ m1') (hm2 : m2 ≤ m3) : LBC E Lim stk p sg m1 s0 m2 a0 a' b' l := by
  obtain ⟨al, cl, q1, q2, q3, q4, q5, q6, q7, q8⟩ := h
  exact ⟨al, cl, q1, q2, q3, q4, q5, by omega, q7, fun L hL => (q8 L hL).mono (Nat.le_refl _) hm hm2⟩
/-- a STATEMENT before others -/
theorem jrw_cons (hRc : GR2 (fun E => EQJ E nm TK SG SL fA fM NS ns stk lev p kp) R1 R2 R []) (hC : C 1 ≤ C1 1) (h41 : kd e1 = 41) (hs : s + 1 < 8193) (hse : s ≤ e1) (hwe : wr s ≤ wr e1) (hw1 : wr e1 + 1 ≤ wr (e1 + 1)) (h : JST kd wr nm TK SG m z SL fA fM NS ns SZ lev pn R1 p sg kp N s e1 x stk q q1 C C1 T F (fun w => rc 5 (Int32.ofNat d) 0 0 w)) (hxs : xs ≠ []) (h2 : JRW kd wr nm TK SG m z SL fA fM NS ns SZ lev pn R2 p sg kp N d rc xs (e1 + 1) e stk q1 q' C1 C' T' F') : JRW kd wr nm TK SG m z SL fA fM NS ns SZ lev pn R p sg kp N d rc (x :: xs) s e stk q q' C C' (T + T' + 1) (F + F') := by
  obtain ⟨hq, PA, PM, LA, LM, hS1, hS2, hRR, hmon, hsim⟩ := h
  obtain ⟨hq', hC', hse', hwe', PA', l, LA', hB, ⟨r1, r2, r3⟩, hRR', hmon', hsim'⟩ := h2
  have hlen : (x :: xs).length - 1 = (xs.length - 1) + 1 := by
    cases xs with
    | nil => exact absurd rfl hxs
    | cons y r => simp
  have hSB := sbc_cons hS1 h41 hs hse hB
  have hcon : ∀ E, EQJ E nm TK SG SL fA fM NS ns stk lev p kp → LM = [] → rwL l = [] → SYS E → CON E (PSQ PA PA') PA (rwP ((x, T, C1 1, LM, PM) :: l)) PM ∧ CON E (PSQ PA PA') PA' (rwP ((x, T, C1 1, LM, PM) :: l)) (rwP l) := fun E hEQ l1 l2 hS => by
    obtain ⟨m1, m2⟩ := hmon E hEQ l1 hS
    obtain ⟨m3, m4⟩ := hmon' E hEQ l2 hS
    refine ⟨⟨fun a a' Z ⟨a1, g1, g2⟩ => ?_, fun b qq b' q2' ⟨b1, q1', g1, g2⟩ => ?_⟩, fun a a' Z ⟨a1, g1, g2⟩ => ?_, fun b qq b' q2' ⟨b1, q1', g1, g2⟩ => ?_⟩
    · have := m1 _ _ _ g1; have := m3 _ _ _ g2
      exact ⟨_, _, by omega, by omega, by omega, g1⟩
    · have := m2 _ _ _ _ g1; have := m4 _ _ _ _ g2
      exact ⟨_, _, _, _, by omega, by omega, by omega, by omega, by omega, by omega, g1⟩
    · have := m1 _ _ _ g1; have := m3 _ _ _ g2
      exact ⟨_, _, by omega, by omega, by omega, g2⟩
    · have := m2 _ _ _ _ g1; have := m4 _ _ _ _ g2
      exact ⟨_, _, _, _, by omega, by omega, by omega, by omega, by omega, by omega, g2⟩
  refine ⟨⟨by omega, by omega⟩, ⟨by omega, hC'.2⟩, by omega, by omega, PSQ PA PA', (x, T, C1 1, LM, PM) :: l, LA ++ LA', ?_, ⟨by show x :: l.map Prod.fst = _; rw [r1], ⟨hS2, hC, r2⟩, ?_⟩, hRc _ _ _ _ _ _ _ _ _ _ (fun E hEQ _ l1 l2 hS => hcon E hEQ l1 l2 hS) hRR hRR', fun E hEQ hL hS => ?_, fun E s0 Lim hEQ hs0 hL hSO => ?_⟩
  · rw [hlen]
    intro f qq a3 a4 w a sz h1 h2 h3 h4
    obtain ⟨u, a', sz', u1, u2⟩ := hSB f qq a3 a4 w a sz h1 h2 h3 (by omega)
    exact ⟨u, a', sz', u1, u2.wk (fun b b' Z g h => h) (by omega) (by have := u2.2.2.2.2.1; omega)⟩
  · show T + 1 + rwT l ≤ _
    omega
  · obtain ⟨l1, l2⟩ := app_nil (show LM ++ rwL l = [] from hL)
    obtain ⟨m1, m2⟩ := hmon E hEQ l1 hS
    obtain ⟨m3, m4⟩ := hmon' E hEQ l2 hS
    exact ⟨fun a a' Z ⟨a1, g1, g2⟩ => by have := m1 _ _ _ g1; have := m3 _ _ _ g2; omega, fun b qq b' q2' ⟨b1, q1', g1, g2⟩ => by have := m2 _ _ _ _ g1; have := m4 _ _ _ _ g2; omega⟩
  obtain ⟨l1, l2⟩ := app_nil (show LM ++ rwL l = [] from hL)
  obtain ⟨m1, m2⟩ := hmon E hEQ l1 hSO.2.1
  obtain ⟨m3, m4⟩ := hmon' E hEQ l2 hSO.2.1
  obtain ⟨s1, s2⟩ := hsim E s0 Lim hEQ (by omega) l1 hSO
  obtain ⟨s3, s4⟩ := hsim' E s0 Lim hEQ hs0 l2 hSO
  refine ⟨spq_cons (x := (x, T, C1 1, LM, PM)) s1 s3 hq.1 m3 (fun b q b' q' g => ⟨(m4 _ _ _ _ g).1, (m4 _ _ _ _ g).2.1⟩) (fun b q b' q' g => (m2 _ _ _ _ g).2.1), fun a a' Z b qq b' q2' ⟨a1, hA1, hA2⟩ ⟨b1, qq1, hM1, hM2⟩ hZ hq9 ha hb h0 y hl1 hl2 hl3 hl4 => ?_⟩
  have v1 := m3 _ _ _ hA2
  have v2 := m4 _ _ _ _ hM2
  have v3 := m1 _ _ _ hA1
  have v4 := m2 _ _ _ _ hM1
  by_cases c : y < C1 1
  · refine (s2 a a1 Z b qq b1 qq1 hA1 hM1 hZ (by omega) (by omega) (by omega) h0 y hl1 hl2 c hl4).wid (fun L hLL => ?_) v1 (Nat.le_refl _)
    obtain ⟨s3', _⟩ := hsim' E s0 L hEQ hs0 l2 (hSO.le hLL)
    exact (s3' a1 a' Z b1 qq1 b' q2' hA2 hM2 hZ hq9 ha hb (by omega)).2.mono (Nat.le_refl _) hq.1 v4.2.1
  · exact (s4 a1 a' Z b1 qq1 b' q2' hA2 hM2 hZ hq9 ha hb (by omega) y hl1 (by omega) hl3 hl4).sub v3 hq.1 v4.2.1
end OH7
