/-! PASS 2, THE REFERENCE: codes of STATEMENTS, one after the other -/
/-- what making codes of STATEMENTS may change -/
def PGS (cur k j : Nat) : Prop := PGX k j ∨ (k = 0 ∧ (j = 82 ∨ j = 85 ∨ j = 86)) ∨ (k = 35 ∧ j = cur) ∨ (55 ≤ k ∧ k ≤ 58)
/-- two worlds agree on what's made from c to c', and on LABELS and switches i0 .. i1 - 1 of this procedure -/
def SAS (fM : Wd) (cur i0 i1 : Nat) (c c' : Nat → Nat) (g u : Wd) : Prop := SAM c c' g u ∧ (∀ j, c 4 ≤ j → j < c' 4 → gi g 58 j = gi u 58 j) ∧ ∀ k j, 55 ≤ k → k ≤ 57 → i0 ≤ j → j < i1 → gi fM 23 j = Int32.ofNat cur → gi g k j = gi u k j
/-- codes are made; c 4: entries of switches, c 5: slots of this procedure -/
def GST (kd wr : Nat → Nat) (m : Nat) (fM : Wd) (lev cur : Nat) (c : Nat → Nat) (w : Wd) : Prop := GCS kd wr m fM lev cur c 0 w ∧ gi w 0 82 = Int32.ofNat (c 4) ∧ gi w 35 cur = Int32.ofNat (c 5)
/-- from c to c' codes as P says are made, with faults L; P: code and slot before, code and slot behind -/
def EST (kd wr : Nat → Nat) (m : Nat) (fM : Wd) (lev cur i0 i1 : Nat) (c c' : Nat → Nat) (w u : Wd) (L : List (Nat × Int32)) (P : Nat → Nat → Nat → Nat → Wd → Prop) (a0 a1 a2 a3 a4 a5 : Nat) : Prop :=
  GST kd wr m fM lev cur c' u ∧ FLM u = FNL wr L (FLM w) ∧ OFF (PGS cur) u w ∧ KPT c u w ∧ (∀ j, j < c 4 → gi u 58 j = gi w 58 j) ∧ (∀ k j, 55 ≤ k → k ≤ 57 → ¬ (i0 ≤ j ∧ j < i1 ∧ gi fM 23 j = Int32.ofNat cur) → gi u k j = gi w k j) ∧ LEC c c' ∧ (c' 0 ≤ c 0 + a0 ∧ c' 1 ≤ c 1 + a1 ∧ c' 2 ≤ c 2 + a2 ∧ c' 3 ≤ c 3 + a3 ∧ c' 4 ≤ c 4 + a4 ∧ c' 5 ≤ c 5 + a5) ∧ ∀ g, SAS fM cur i0 i1 c c' g u → P (c 0) (c 5) (c' 0) (c' 5) g
section ES
variable {kd wr nm : Nat → Nat} {vv : Nat → Int64} {m lev cur : Nat} {fA fM : Wd} {c c1 c2 c' C TK : Nat → Nat} {SL : Nat → List Nat} {w u v : Wd} {L L1 L2 : List (Nat × Int32)} {P P1 P2 : Nat → Nat → Nat → Nat → Wd → Prop} {a0 a1 a2 a3 a4 a5 b0 b1 b2 b3 b4 b5 i i0 i1 i2 i3 : Nat}
/-- counters of EXPRS from c', the others from c -/
def cM (c c' : Nat → Nat) : Nat → Nat := fun i => if i < 4 then c' i else c i
theorem cM_l {i : Nat} (h : i < 4) : cM c c' i = c' i := if_pos h
theorem cM_r {i : Nat} (h : 4 ≤ i) : cM c c' i = c i := if_neg (by omega)
theorem cM_up {i v : Nat} (h : i < 4) : cM c (upC c i v) = upC c i v := by
  funext j
  by_cases q : j < 4
  · rw [cM_l q]
  · rw [cM_r (by omega), upC_n (by omega)]
theorem GCS.cg {sp : Nat} (h : GCS kd wr m fM lev cur c sp w) (hc : ∀ i, i < 4 → c' i = c i) : GCS kd wr m fM lev cur c' sp w := by
  obtain ⟨h1, h2, ⟨h3, h4, h5, h6⟩, h7⟩ := h
  exact ⟨h1, h2, ⟨by rw [hc 0 (by omega)]; exact h3, by rw [hc 1 (by omega)]; exact h4, by rw [hc 2 (by omega)]; exact h5, by rw [hc 3 (by omega)]; exact h6⟩, h7⟩
theorem SAS.rf : SAS fM cur i0 i1 c c' w w := ⟨SAM.rf, fun _ _ _ => rfl, fun _ _ _ _ _ _ _ => rfl⟩
theorem EST.wk (h : EST kd wr m fM lev cur i0 i1 c c1 w u L P a0 a1 a2 a3 a4 a5) (hP : ∀ b q b' q' g, P b q b' q' g → P1 b q b' q' g) (hb : a0 ≤ b0 ∧ a1 ≤ b1 ∧ a2 ≤ b2 ∧ a3 ≤ b3 ∧ a4 ≤ b4 ∧ a5 ≤ b5) (hi : i2 ≤ i0 ∧ i1 ≤ i3 := by omega) : EST kd wr m fM lev cur i2 i3 c c1 w u L P1 b0 b1 b2 b3 b4 b5 := by
  obtain ⟨h1, h2, h3, h4, h5, h6, h7, h8, h9⟩ := h
  exact ⟨h1, h2, h3, h4, h5, fun k j k1 k2 hj => h6 k j k1 k2 (fun q => hj ⟨by omega, by omega, q.2.2⟩), h7, by omega, fun g hg => hP _ _ _ _ _ (h9 g ⟨hg.1, hg.2.1, fun k j k1 k2 j1 j2 => hg.2.2 k j k1 k2 (by omega) (by omega)⟩)⟩
theorem EST.fls (h : EST kd wr m fM lev cur i0 i1 c c1 w u L P a0 a1 a2 a3 a4 a5) (hL : L = L1) : EST kd wr m fM lev cur i0 i1 c c1 w u L1 P a0 a1 a2 a3 a4 a5 := hL ▸ h
theorem EST.seq (h : EST kd wr m fM lev cur i0 i1 c c1 w u L1 P1 a0 a1 a2 a3 a4 a5) (h' : EST kd wr m fM lev cur i2 i3 c1 c2 u v L2 P2 b0 b1 b2 b3 b4 b5) (hi : i0 ≤ i1 ∧ i1 ≤ i2 ∧ i2 ≤ i3 := by omega) : EST kd wr m fM lev cur i0 i3 c c2 w v (L1 ++ L2) (fun b q b' q' g => ∃ b1 q1, P1 b q b1 q1 g ∧ P2 b1 q1 b' q' g) (a0 + b0) (a1 + b1) (a2 + b2) (a3 + b3) (a4 + b4) (a5 + b5) := by
  obtain ⟨h1, h2, h3, h4, h5, h6, h7, h8, h9⟩ := h
  obtain ⟨g1, g2, g3, g4, g5, g6, g7, g8, g9⟩ := h'
  have k4 := h7 4
  have l4 := g7 4
  refine ⟨g1, by rw [g2, h2, FNL_app], OFF.tr g3 h3, g4.tr h4 h7, fun j hj => (g5 j (by omega)).trans (h5 j hj), fun k j q1 q2 hj => (g6 k j q1 q2 (fun q => hj ⟨by omega, by omega, q.2.2⟩)).trans (h6 k j q1 q2 (fun q => hj ⟨by omega, by omega, q.2.2⟩)), fun i => Nat.le_trans (h7 i) (g7 i), by omega, fun g hg => ⟨c1 0, c1 5, h9 g ⟨?_, ?_, ?_⟩, g9 g ⟨?_, ?_, ?_⟩⟩⟩
  · exact (hg.1.sub (fun i => Nat.le_refl _) g7).tr g4.sam
  · exact fun j q1 q2 => (hg.2.1 j q1 (by omega)).trans (g5 j q2)
  · exact fun k j q1 q2 q3 q4 q5 => (hg.2.2 k j q1 q2 (by omega) (by omega) q5).trans (g6 k j q1 q2 (fun q => by omega))
  · exact hg.1.sub h7 (fun i => Nat.le_refl _)
  · exact fun j q1 q2 => hg.2.1 j (by omega) q2
  · exact fun k j q1 q2 q3 q4 q5 => hg.2.2 k j q1 q2 (by omega) (by omega) q5
/-- codes of EXPRS -/
theorem EST.em {P : Nat → Nat → Wd → Prop} (hG : GST kd wr m fM lev cur c w) (h : EM kd wr m fM lev cur 0 c c1 w u L P a0 a1 a2 a3) : EST kd wr m fM lev cur i i c (cM c c1) w u L (fun b q b' q' g => P b b' g ∧ q' = q) a0 a1 a2 a3 0 0 := by
  obtain ⟨h1, h2, h3, h4, h5, h6, h7, h8⟩ := h
  have e : ∀ j, j < 4 → cM c c1 j = c1 j := fun j hj => cM_l hj
  have e4 : ∀ j, 4 ≤ j → cM c c1 j = c j := fun j hj => cM_r hj
  refine ⟨⟨h1.cg e, by rw [e4 4 (by omega), (h3 0 82 (by unfold PGX; omega)).1]; exact hG.2.1, by rw [e4 5 (by omega), (h3 35 cur (by unfold PGX; omega)).1]; exact hG.2.2⟩, h2, h3.mono fun k j hk => Or.inl hk, h4, fun j _ => (h3 58 j (by unfold PGX; omega)).1, fun k j k1 k2 _ => (h3 k j (by unfold PGX; omega)).1, fun j => ?_, ?_, fun g hg => ⟨?_, e4 5 (by omega)⟩⟩
  · by_cases q : j < 4
    · rw [e j q]; exact h6 j
    · rw [e4 j (by omega)]; exact Nat.le_refl _
  · rw [e 0 (by omega), e 1 (by omega), e 2 (by omega), e 3 (by omega), e4 4 (by omega), e4 5 (by omega)]
    omega
  · rw [e 0 (by omega)]
    refine h8 g (fun k j hk => hg.1 k j ?_)
    rw [e 0 (by omega), e 1 (by omega), e 2 (by omega), e 3 (by omega)]
    exact hk
theorem GST.fx (h : GST kd wr m fM lev cur c w) {k j : Nat} (hk : ¬ PGM k j) : gi w k j = gi fM k j := (h.1.fx hk).1
/-- nothing is made -/
theorem EST.no (h : GST kd wr m fM lev cur c w) : EST kd wr m fM lev cur i i c c w w [] (fun b q b' q' _ => b' = b ∧ q' = q) 0 0 0 0 0 0 :=
  ⟨h, rfl, OFF.rf, KPT.rf, fun _ _ => rfl, fun _ _ _ _ _ => rfl, LEC.rf, by omega, fun _ _ => ⟨rfl, rfl⟩⟩
/-- one code -/
theorem EST.op (h : GST kd wr m fM lev cur c w) (hc : c 0 < 60000) {a x y z : Int32} : ∃ u, fX12_op a x y z w = some (Int32.ofNat (c 0), u) ∧ (∀ i, EST kd wr m fM lev cur i i c (upC c 0 (c 0 + 1)) w u [] (fun b q b' q' g => (opW g b a x y z ∧ b' = b + 1) ∧ q' = q) 1 0 0 0 0 0) ∧ gi u 0 85 = gi w 0 85 ∧ gi u 0 86 = gi w 0 86 := by
  obtain ⟨u, u1, u2⟩ := EM.op h.1 hc (a := a) (x := x) (y := y) (z := z)
  refine ⟨u, u1, fun i => ?_, (u2.2.2.1 0 85 (by unfold PGX; omega)).1, (u2.2.2.1 0 86 (by unfold PGX; omega)).1⟩
  have := EST.em (i := i) h u2
  rw [cM_up (by omega)] at this
  exact this
/-- the registers of a for -/
theorem EST.reg (h : GST kd wr m fM lev cur c w) {j : Nat} {x : Int32} (hj : j = 85 ∨ j = 86) : EST kd wr m fM lev cur i i c c w (si w 0 j x) [] (fun b q b' q' _ => b' = b ∧ q' = q) 0 0 0 0 0 0 := by
  have hO : OFF (fun k j => k = 0 ∧ (j = 85 ∨ j = 86)) (si w 0 j x) w := OFF.si ⟨rfl, hj⟩
  refine ⟨⟨h.1.off hO (fun k j hk => by unfold PGM PGX; omega), (hO 0 82 (by omega)).1.trans h.2.1, (hO 35 cur (by omega)).1.trans h.2.2⟩, ?_, hO.mono fun k j hk => by unfold PGS; omega, fun k j hk => (hO k j (by omega)).1, fun j _ => (hO 58 j (by omega)).1, fun k j k1 k2 _ => (hO k j (by omega)).1, LEC.rf, by omega, fun _ _ => ⟨rfl, rfl⟩⟩
  show (gi _ 0 10, gi _ 0 11) = _
  rw [(hO 0 10 (by omega)).1, (hO 0 11 (by omega)).1]
  rfl
/-- a LABEL stands here -/
theorem EST.lab (h : GST kd wr m fM lev cur c w) {j : Nat} (h23 : gi fM 23 j = Int32.ofNat cur) : EST kd wr m fM lev cur j (j + 1) c c w (si w 55 j (Int32.ofNat (c 0))) [] (fun b q b' q' g => b' = b ∧ q' = q ∧ gi g 55 j = Int32.ofNat b) 0 0 0 0 0 0 := by
  have hO : OFF (fun k i => k = 55 ∧ i = j) (si w 55 j (Int32.ofNat (c 0))) w := OFF.si ⟨rfl, rfl⟩
  refine ⟨⟨h.1.off hO (fun k j hk => by unfold PGM PGX; omega), (hO 0 82 (by omega)).1.trans h.2.1, (hO 35 cur (by omega)).1.trans h.2.2⟩, ?_, hO.mono fun k j hk => by unfold PGS; omega, fun k j hk => (hO k j (by omega)).1, fun j _ => (hO 58 j (by omega)).1, fun k i k1 k2 hi => (hO k i (fun q => hi ⟨by omega, by omega, by rw [q.2]; exact h23⟩)).1, LEC.rf, by omega, fun g hg => ⟨rfl, rfl, ?_⟩⟩
  · show (gi _ 0 10, gi _ 0 11) = _
    rw [(hO 0 10 (by omega)).1, (hO 0 11 (by omega)).1]
    rfl
  · rw [hg.2.2 55 j (by omega) (by omega) (by omega) (by omega) h23]
    exact gi_si0 _ _ _ _
/-- a slot of this procedure -/
theorem EST.slot (h : GST kd wr m fM lev cur c w) : EST kd wr m fM lev cur i i c (upC c 5 (c 5 + 1)) w (si w 35 cur (Int32.ofNat (c 5 + 1))) [] (fun b q b' q' _ => b' = b ∧ q' = q + 1) 0 0 0 0 0 1 := by
  have hO : OFF (fun k i => k = 35 ∧ i = cur) (si w 35 cur (Int32.ofNat (c 5 + 1))) w := OFF.si ⟨rfl, rfl⟩
  have e : ∀ j, j ≠ 5 → upC c 5 (c 5 + 1) j = c j := fun j hj => upC_n hj
  have hf : FLM (si w 35 cur (Int32.ofNat (c 5 + 1))) = FNL wr [] (FLM w) := by
    show (gi _ 0 10, gi _ 0 11) = _
    rw [(hO 0 10 (by omega)).1, (hO 0 11 (by omega)).1]
    rfl
  refine ⟨⟨(h.1.off hO (fun k j hk => by unfold PGM PGX; omega)).cg (fun j hj => e j (by omega)), by rw [e 4 (by omega)]; exact (hO 0 82 (by omega)).1.trans h.2.1, by rw [upC_s]; exact gi_si0 _ _ _ _⟩, hf, hO.mono fun k j hk => by unfold PGS; omega, fun k j hk => (hO k j (by omega)).1, fun j _ => (hO 58 j (by omega)).1, fun k j k1 k2 _ => (hO k j (by omega)).1, LEC.up (by omega), ?_, fun g hg => ⟨e 0 (by omega), upC_s⟩⟩
  rw [e 0 (by omega), e 1 (by omega), e 2 (by omega), e 3 (by omega), e 4 (by omega), upC_s]
  omega
/-- a fault, perhaps -/
theorem EST.fl (h : GST kd wr m fM lev cur c w) (hg : GCS kd wr m fM lev cur c 0 u) (hf : FLM u = FNL wr L (FLM w)) (hO : OFF (fun k j => k = 0 ∧ (j = 10 ∨ j = 11)) u w) : EST kd wr m fM lev cur i i c c w u L (fun b q b' q' _ => b' = b ∧ q' = q) 0 0 0 0 0 0 :=
  ⟨⟨hg, (hO 0 82 (by omega)).1.trans h.2.1, (hO 35 cur (by omega)).1.trans h.2.2⟩, hf, hO.mono fun k j hk => by unfold PGS PGX; omega, fun k j hk => (hO k j (by omega)).1, fun j _ => (hO 58 j (by omega)).1, fun k j _ _ _ => (hO k j (by omega)).1, LEC.rf, by omega, fun _ _ => ⟨rfl, rfl⟩⟩
/-- one code, whose first part is set when what follows is made -/
theorem EST.set (f : Nat → Int32) {a y z : Int32} (h0 : EST kd wr m fM lev cur i0 i0 c (upC c 0 (c 0 + 1)) w u [] (fun b q b' q' g => (opW g b a 0 y z ∧ b' = b + 1) ∧ q' = q) 1 0 0 0 0 0) (h : EST kd wr m fM lev cur i0 i1 (upC c 0 (c 0 + 1)) c2 u v L P a0 a1 a2 a3 a4 a5) :
    EST kd wr m fM lev cur i0 i1 c c2 w (si v 46 (4 * c 0 + 1) (f (c2 0))) L (fun b q b' q' g => opW g b a (f b') y z ∧ P (b + 1) q b' q' g) (a0 + 1) a1 a2 a3 a4 a5 := by
  obtain ⟨h1, h2, h3, h4, h5, h6, h7, h8, h9⟩ := h
  obtain ⟨g1, g2, g3, g4, g5, g6, g7, g8, g9⟩ := h0
  have e0 : upC c 0 (c 0 + 1) 0 = c 0 + 1 := upC_s
  have e1 : ∀ i, i ≠ 0 → upC c 0 (c 0 + 1) i = c i := fun i hi => upC_n hi
  have l0 := h7 0
  have l4 := h7 4
  rw [e0] at h8 l0
  rw [e1 4 (by omega)] at l4
  rw [e1 1 (by omega), e1 2 (by omega), e1 3 (by omega), e1 4 (by omega), e1 5 (by omega)] at h8
  have hO : OFF (fun k j => k = 46 ∧ j = 4 * c 0 + 1) (si v 46 (4 * c 0 + 1) (f (c2 0))) v := OFF.si ⟨rfl, rfl⟩
  have hLE : LEC c c2 := fun i => Nat.le_trans (g7 i) (h7 i)
  refine ⟨⟨h1.1.off hO (fun k j hk => by unfold PGM PGX; omega), (hO 0 82 (by omega)).1.trans h1.2.1, (hO 35 cur (by omega)).1.trans h1.2.2⟩, ?_, OFF.tr (hO.mono fun k j hk => by unfold PGS PGX; omega) (OFF.tr h3 g3), ?_, fun j hj => ((hO 58 j (by omega)).1.trans (h5 j (by rw [e1 4 (by omega)]; exact hj))).trans (g5 j hj), fun k j k1 k2 hj => ((hO k j (by omega)).1.trans (h6 k j k1 k2 hj)).trans (g6 k j k1 k2 (fun q => by omega)), hLE, by omega, fun g hg => ⟨?_, ?_⟩⟩
  · show (gi _ 0 10, gi _ 0 11) = _
    rw [(hO 0 10 (by omega)).1, (hO 0 11 (by omega)).1]
    exact h2.trans (by rw [g2]; rfl)
  · intro k j hk
    have := h4.tr g4 g7 k j hk
    exact ((hO k j (by omega)).1).trans this
  · have hq := (g9 u SAS.rf).1.1
    obtain ⟨q1, q2, q3, q4⟩ := hq
    have hk : ∀ j, (4 * c 0 ≤ j ∧ j < 4 * c 0 + 4) → j ≠ 4 * c 0 + 1 → gi g 46 j = gi u 46 j := fun j hj hn => by
      rw [hg.1 46 j (Or.inl ⟨rfl, by omega, by omega⟩), (hO 46 j (by omega)).1]
      exact h4 46 j (Or.inl ⟨rfl, by rw [e0]; omega⟩)
    refine ⟨(hk _ (by omega) (by omega)).trans q1, ?_, (hk _ (by omega) (by omega)).trans q3, (hk _ (by omega) (by omega)).trans q4⟩
    rw [hg.1 46 _ (Or.inl ⟨rfl, by omega, by omega⟩), gi_si0]
  · have := h9 g ⟨fun k j hk => by
      rw [e0] at hk
      rw [e1 1 (by omega), e1 2 (by omega), e1 3 (by omega)] at hk
      have hz := hg.1 k j (by omega)
      exact hz.trans (hO k j (by omega)).1, fun j k1 k2 => by
      rw [e1 4 (by omega)] at k1
      exact (hg.2.1 j k1 k2).trans (hO 58 j (by omega)).1, fun k j k1 k2 k3 k4 k5 => (hg.2.2 k j k1 k2 k3 k4 k5).trans (hO k j (by omega)).1⟩
    rw [e0, e1 5 (by omega)] at this
    exact this
/-- one code and its jump to behind what is made next -/
theorem EST.jmp {a y z : Int32} (h0 : EST kd wr m fM lev cur i0 i0 c (upC c 0 (c 0 + 1)) w u [] (fun b q b' q' g => (opW g b a 0 y z ∧ b' = b + 1) ∧ q' = q) 1 0 0 0 0 0) (h : EST kd wr m fM lev cur i0 i1 (upC c 0 (c 0 + 1)) c2 u v L P a0 a1 a2 a3 a4 a5) (hc : c 0 < 60000) :
    ∃ v', fX12_patch (Int32.ofNat (c 0)) v = some v' ∧ EST kd wr m fM lev cur i0 i1 c c2 w v' L (fun b q b' q' g => opW g b a (Int32.ofNat b') y z ∧ P (b + 1) q b' q' g) (a0 + 1) a1 a2 a3 a4 a5 ∧ gi v' 0 85 = gi v 0 85 ∧ gi v' 0 86 = gi v 0 86 :=
  ⟨_, (g_patch h.1.1 hc).1, EST.set Int32.ofNat h0 h, gi_si1 (by omega), gi_si1 (by omega)⟩
/-- UNLESS, what's for true, JUMP, what's for false -/
theorem EST.two {i j : Nat} {v1 w2 : Wd} {d1 : Nat → Nat} (hi : i = c 0) (h0 : EST kd wr m fM lev cur i0 i0 c (upC c 0 (c 0 + 1)) w v1 [] (fun b q b' q' g => (opW g b 11 0 0 0 ∧ b' = b + 1) ∧ q' = q) 1 0 0 0 0 0) (h1 : EST kd wr m fM lev cur i0 i1 (upC c 0 (c 0 + 1)) d1 v1 w2 L1 P1 a0 a1 a2 a3 a4 a5) (hj : j = d1 0) (hj6 : d1 0 < 60000) (hc6 : c 0 < 60000) (h12 : i0 ≤ i1 ∧ i1 ≤ i3) :
    ∃ w4, fX12_op 10 0 0 0 w2 = some (Int32.ofNat j, w4) ∧ ∃ w5, fX12_patch (Int32.ofNat i) w4 = some w5 ∧ GST kd wr m fM lev cur (upC d1 0 (d1 0 + 1)) w5 ∧
      ∀ {d3 w6}, EST kd wr m fM lev cur i1 i3 (upC d1 0 (d1 0 + 1)) d3 w5 w6 L2 P2 b0 b1 b2 b3 b4 b5 → ∃ w7, fX12_patch (Int32.ofNat j) w6 = some w7 ∧ EST kd wr m fM lev cur i0 i3 c d3 w w7 (L1 ++ L2) (fun b q b' q' g => ∃ x qx, opW g b 11 (Int32.ofNat (x + 1)) 0 0 ∧ P1 (b + 1) q x qx g ∧ opW g x 10 (Int32.ofNat b') 0 0 ∧ P2 (x + 1) qx b' q' g) (a0 + 1 + (b0 + 1)) (a1 + b1) (a2 + b2) (a3 + b3) (a4 + b4) (a5 + b5) := by
  subst hi hj
  have hle := h1.2.2.2.2.2.2.1 0
  rw [upC_s] at hle
  have e64 : gi w2 0 64 = Int32.ofNat (d1 0) := h1.1.1.2.2.1.1
  have hset := EST.set (fun b' => Int32.ofNat (b' + 1)) h0 h1
  obtain ⟨u, u1, u2, _⟩ := EST.op hset.1 hj6 (a := 10) (x := 0) (y := 0) (z := 0)
  have e64' : gi (si w2 46 (4 * c 0 + 1) (Int32.ofNat (d1 0 + 1))) 0 64 = Int32.ofNat (d1 0) := by rw [gi_si1 (by omega)]; exact e64
  have hu := op_eq (a := 10) (x := 0) (y := 0) (z := 0) e64' hj6
  have huu : u = si (opU w2 (d1 0) 10 0 0 0) 46 (4 * c 0 + 1) (Int32.ofNat (d1 0 + 1)) := by
    rw [u1] at hu
    have h3 := (Prod.mk.inj (Option.some.inj hu)).2
    rw [h3]
    exact opU_comm (by omega)
  have hw4 := op_eq (a := 10) (x := 0) (y := 0) (z := 0) e64 hj6
  have e64o : gi (opU w2 (d1 0) 10 0 0 0) 0 64 = Int32.ofNat (d1 0 + 1) := gi_si0 _ _ _ _
  refine ⟨opU w2 (d1 0) 10 0 0 0, hw4, u, ?_, (u2 i1).1, fun {d3 w6} h3 => ?_⟩
  · rw [huu]
    unfold fX12_patch
    rw [four_op, ad1_iN, if_pos (inb_iN (by omega) (by omega)), tc_iN (by omega), e64o]
    rfl
  · obtain ⟨w7, p1, p2, _⟩ := EST.jmp (u2 i1) h3 hj6
    refine ⟨w7, p1, (hset.seq p2).wk (fun b q b' q' g hg => ?_) (by omega)⟩
    obtain ⟨x, qx, g1, g2⟩ := hg
    exact ⟨x, qx, g1.1, g1.2, g2.1, g2.2⟩
/-- room for T TOKENS -/
def FITS (c : Nat → Nat) (T : Nat) : Prop := c 0 + 4 * T ≤ 60000 ∧ 2 * c 1 + T ≤ 12000 ∧ 2 * c 2 + T ≤ 8598 ∧ 2 * c 3 + T ≤ 12000 ∧ c 4 + T ≤ 24000 ∧ c 5 + T ≤ 100000 ∧ T ≤ 9000
/-- what making the codes of STATEMENT n comes to: T TOKENS of its own -/
def STS (kd wr : Nat → Nat) (m : Nat) (fM : Wd) (lev cur N i0 i1 n T : Nat) (L : List (Nat × Int32)) (P : Nat → Nat → Nat → Nat → Wd → Prop) : Prop :=
  ∀ c w, GST kd wr m fM lev cur c w → FITS c T → ∃ u c', RX12_row N 1 (Int32.ofNat n) 0 0 w = some (0, u) ∧ EST kd wr m fM lev cur i0 i1 c c' w u L P (4 * T) (T / 2) ((T + 1) / 2) (T / 2) T T
end ES
