/-! PASS 2, THE REFERENCE: codes made one after the other -/
/-- from c to c' codes as P says are made, with faults L; a0 .. a3: at most so many codes, thunks, sites, actuals -/
def EM (kd wr : Nat → Nat) (m : Nat) (fM : Wd) (lev cur sp : Nat) (c c' : Nat → Nat) (w u : Wd) (L : List (Nat × Int32)) (P : Nat → Nat → Wd → Prop) (a0 a1 a2 a3 : Nat) : Prop :=
  GCS kd wr m fM lev cur c' sp u ∧ FLM u = FNL wr L (FLM w) ∧ OFF PGX u w ∧ KPT c u w ∧ (∀ j, j < sp → gi u 59 j = gi w 59 j) ∧ LEC c c' ∧ (c' 0 ≤ c 0 + a0 ∧ c' 1 ≤ c 1 + a1 ∧ c' 2 ≤ c 2 + a2 ∧ c' 3 ≤ c 3 + a3) ∧ ∀ g, SAM c c' g u → P (c 0) (c' 0) g
section SG
variable {kd wr nm : Nat → Nat} {vv : Nat → Int64} {m lev cur sp : Nat} {fA fM : Wd} {c c1 c2 C TK : Nat → Nat} {SL : Nat → List Nat} {w u v : Wd} {L L1 L2 : List (Nat × Int32)} {P P1 P2 : Nat → Nat → Wd → Prop} {a0 a1 a2 a3 b0 b1 b2 b3 : Nat}
theorem EM.wk (h : EM kd wr m fM lev cur sp c c1 w u L P a0 a1 a2 a3) (hP : ∀ b b' g, P b b' g → P1 b b' g) (hb : a0 ≤ b0 ∧ a1 ≤ b1 ∧ a2 ≤ b2 ∧ a3 ≤ b3) : EM kd wr m fM lev cur sp c c1 w u L P1 b0 b1 b2 b3 := by
  obtain ⟨h1, h2, h3, h4, h5, h6, h7, h8⟩ := h
  exact ⟨h1, h2, h3, h4, h5, h6, by omega, fun g hg => hP _ _ _ (h8 g hg)⟩
theorem EM.seq (h : EM kd wr m fM lev cur sp c c1 w u L1 P1 a0 a1 a2 a3) (h' : EM kd wr m fM lev cur sp c1 c2 u v L2 P2 b0 b1 b2 b3) : EM kd wr m fM lev cur sp c c2 w v (L1 ++ L2) (fun b b' g => ∃ b1, P1 b b1 g ∧ P2 b1 b' g) (a0 + b0) (a1 + b1) (a2 + b2) (a3 + b3) := by
  obtain ⟨h1, h2, h3, h4, h5, h6, h7, h8⟩ := h
  obtain ⟨g1, g2, g3, g4, g5, g6, g7, g8⟩ := h'
  refine ⟨g1, by rw [g2, h2, FNL_app], OFF.tr g3 h3, g4.tr h4 h6, fun j hj => (g5 j hj).trans (h5 j hj), fun i => Nat.le_trans (h6 i) (g6 i), by omega, fun g hg => ⟨c1 0, h8 g ?_, g8 g ?_⟩⟩
  · exact (hg.sub (fun i => Nat.le_refl _) g6).tr g4.sam
  · exact hg.sub h6 (fun i => Nat.le_refl _)
/-- nothing is made -/
theorem EM.no (h : GCS kd wr m fM lev cur c sp w) : EM kd wr m fM lev cur sp c c w w [] (fun b b' _ => b' = b) 0 0 0 0 :=
  ⟨h, rfl, OFF.rf, KPT.rf, fun _ _ => rfl, LEC.rf, by omega, fun _ _ => rfl⟩
/-- a fault, perhaps -/
theorem EM.fl (h : GCS kd wr m fM lev cur c sp u) (hf : FLM u = FNL wr L (FLM w)) (hO : OFF (fun k j => k = 0 ∧ (j = 10 ∨ j = 11)) u w) : EM kd wr m fM lev cur sp c c w u L (fun b b' _ => b' = b) 0 0 0 0 :=
  ⟨h, hf, hO.mono fun k j hk => by unfold PGX; omega, fun k j hk => (hO k j (by omega)).1, fun j _ => (hO 59 j (by omega)).1, LEC.rf, by omega, fun _ _ => rfl⟩
theorem LEC.up {c : Nat → Nat} {i v : Nat} (h : c i ≤ v) : LEC c (upC c i v) := fun j => by
  by_cases q : j = i
  · rw [q, upC_s]; exact h
  · rw [upC_n q]; exact Nat.le_refl _
/-- one code -/
theorem EM.op (h : GCS kd wr m fM lev cur c sp w) (hc : c 0 < 60000) {a x y z : Int32} : ∃ u, fX12_op a x y z w = some (Int32.ofNat (c 0), u) ∧ EM kd wr m fM lev cur sp c (upC c 0 (c 0 + 1)) w u [] (fun b b' g => opW g b a x y z ∧ b' = b + 1) 1 0 0 0 := by
  obtain ⟨u, u1, u2, u3, u4⟩ := g_op h hc (a := a) (x := x) (y := y) (z := z)
  refine ⟨u, u1, u2, ?_, u4.mono fun k j hk => by unfold PGX; omega, fun k j hk => (u4 k j (by omega)).1, fun j _ => (u4 59 j (by omega)).1, LEC.up (by omega), ?_, fun g hg => ⟨u3.sam hg (Nat.le_refl _) (by rw [upC_s]; omega), by rw [upC_s]⟩⟩
  · show (gi u 0 10, gi u 0 11) = (gi w 0 10, gi w 0 11)
    rw [(u4 0 10 (by omega)).1, (u4 0 11 (by omega)).1]
  · rw [upC_s, upC_n (by omega), upC_n (by omega), upC_n (by omega)]
    omega
/-- one code and its jump to behind what is made next -/
theorem EM.jmp {a y z : Int32} (h0 : EM kd wr m fM lev cur sp c (upC c 0 (c 0 + 1)) w u [] (fun b b' g => opW g b a 0 y z ∧ b' = b + 1) 1 0 0 0) (h : EM kd wr m fM lev cur sp (upC c 0 (c 0 + 1)) c2 u v L P a0 a1 a2 a3) (hc : c 0 < 60000) :
    fX12_patch (Int32.ofNat (c 0)) v = some (si v 46 (4 * c 0 + 1) (Int32.ofNat (c2 0))) ∧ EM kd wr m fM lev cur sp c c2 w (si v 46 (4 * c 0 + 1) (Int32.ofNat (c2 0))) L (fun b b' g => opW g b a (Int32.ofNat b') y z ∧ P (b + 1) b' g) (a0 + 1) a1 a2 a3 := by
  obtain ⟨h1, h2, h3, h4, h5, h6, h7, h8⟩ := h
  obtain ⟨g1, g2, g3, g4, g5, g6, g7, g8⟩ := h0
  obtain ⟨p1, p2⟩ := g_patch h1 hc
  have e0 : upC c 0 (c 0 + 1) 0 = c 0 + 1 := upC_s
  have e1 : ∀ i, i ≠ 0 → upC c 0 (c 0 + 1) i = c i := fun i hi => upC_n hi
  have l0 := h6 0
  rw [e0] at h7 l0
  rw [e1 1 (by omega), e1 2 (by omega), e1 3 (by omega)] at h7
  have hO : OFF (fun k j => k = 46 ∧ j = 4 * c 0 + 1) (si v 46 (4 * c 0 + 1) (Int32.ofNat (c2 0))) v := OFF.si ⟨rfl, rfl⟩
  have hLE : LEC c c2 := fun i => Nat.le_trans (g6 i) (h6 i)
  refine ⟨p1, p2, ?_, OFF.tr (hO.mono fun k j hk => by unfold PGX; omega) (OFF.tr h3 g3), ?_, fun j hj => ((hO 59 j (by omega)).1.trans (h5 j hj)).trans (g5 j hj), hLE, by omega, fun g hg => ⟨?_, ?_⟩⟩
  · show (gi _ 0 10, gi _ 0 11) = _
    rw [(hO 0 10 (by omega)).1, (hO 0 11 (by omega)).1]
    exact h2.trans (by rw [g2]; rfl)
  · intro k j hk
    have := h4.tr g4 g6 k j hk
    exact ((hO k j (by omega)).1).trans this
  · have hq := (g8 u SAM.rf).1
    obtain ⟨q1, q2, q3, q4⟩ := hq
    have hk : ∀ j, (4 * c 0 ≤ j ∧ j < 4 * c 0 + 4) → j ≠ 4 * c 0 + 1 → gi g 46 j = gi u 46 j := fun j hj hn => by
      rw [hg 46 j (Or.inl ⟨rfl, by omega, by omega⟩), (hO 46 j (by omega)).1]
      exact h4 46 j (Or.inl ⟨rfl, by rw [e0]; omega⟩)
    refine ⟨(hk _ (by omega) (by omega)).trans q1, ?_, (hk _ (by omega) (by omega)).trans q3, (hk _ (by omega) (by omega)).trans q4⟩
    rw [hg 46 _ (Or.inl ⟨rfl, by omega, by omega⟩), gi_si0]
  · have := h8 g (fun k j hk => by
      rw [e0] at hk
      rw [e1 1 (by omega), e1 2 (by omega), e1 3 (by omega)] at hk
      have hz := hg k j (by omega)
      exact hz.trans (hO k j (by omega)).1)
    rw [e0] at this
    exact this
/-- a procedure's NAME without ACTUALS -/
theorem g_alone (hT : TBM kd wr nm vv m C TK SL fA fM) (h : GCS kd wr m fM lev cur c sp w) {n tk y : Nat} {want : Int32} (hy : y < C 1) (hP : gi fM 19 y = 3 ∨ FO fM y 3) (hn : n < 24000) (h12 : gi fM 12 n = Int32.ofNat tk) (ht : tk ≤ m) (hc0 : c 0 < 60000) (hc2 : c 2 < 4300) :
    ∃ u c', fX12_alone (Int32.ofNat n) (Int32.ofNat y) want w = some u ∧ EM kd wr m fM lev cur sp c c' w u (if gi fM 19 y = 3 ∧ ¬ gi fM 31 (gi fM 24 y).toNatClampNeg ≤ 0 then [(tk, 5)] else []) (fun b b' g => cdP fM lev y want b g ∧ b' = b + 1) 1 0 1 0 := by
  have hC := hT.2.2.2.1
  have hm := hT.2.1.1.1
  obtain ⟨s1, s2, s3, s4, s5, s6, s7, ⟨p, l, q1, q2, q3, q4⟩, s9⟩ := hT.2.2.2.2.2.2 y hy
  have hp12 : p < 1200 := by omega
  have e : ∀ v, GCS kd wr m fM lev cur c sp v → ∀ k j, (12 ≤ k ∧ k ≤ 32) → gi v k j = gi fM k j := fun v hv k j hk => (hv.fx (by unfold PGM PGX; omega)).1
  unfold fX12_alone
  rw [if_pos (inb_iN (by omega) (by omega)), tc_iN (by omega), e w h 19 y (by omega)]
  by_cases q6 : gi fM 19 y = 6
  · have hup := g_up h (k := y) (by omega) q1 hp12
    obtain ⟨u, u1, u2⟩ := EM.op h hc0 (a := 15) (x := upI fM lev y) (y := gi fM 26 y) (z := want)
    refine ⟨u, upC c 0 (c 0 + 1), ?_, ?_⟩
    · rw [if_pos q6, hup, bn2_so, if_pos (inb_iN (by omega) (by omega)), e w h 26 y (by omega), u1]
      rfl
    · rw [if_neg (fun g => by rw [q6] at g; exact absurd g.1 (by decide))]
      exact u2.wk (fun b b' g hg => ⟨Or.inl ⟨q6, hg.1⟩, hg.2⟩) (by omega)
  · rw [if_neg q6, if_pos (inb_iN (by omega) (by omega)), e w h 24 y (by omega)]
    have h3 : gi fM 19 y = 3 := by
      rcases hP with g | g
      · exact g
      · exact absurd g.1 q6
    obtain ⟨pn, nf, ff, w1, w2, w3, w4, w5⟩ : ∃ pn nf ff, 1 ≤ pn ∧ pn < C 4 ∧ gi fM 24 y = Int32.ofNat pn ∧ gi fM 31 pn = Int32.ofNat nf ∧ (nf : Nat) ≤ ff := by
      rcases s9 with g | g | g | g | g | g
      · exact absurd (g.1.symm.trans h3) (by decide)
      · exact absurd (g.1.symm.trans h3) (by decide)
      · obtain ⟨_, _, _, pn, nf, ff, g1, g2, g3, g4, g5, g6⟩ := g
        exact ⟨pn, nf, nf, g1, g2, g3, g5, Nat.le_refl _⟩
      · exact absurd (g.1.symm.trans h3) (by decide)
      · exact absurd (g.1.symm.trans h3) (by decide)
      · exact absurd (g.1.symm.trans h3) (by decide)
    have h57 : ∀ v, GCS kd wr m fM lev cur c sp v → ∃ u c', fX12_alone_57 (Int32.ofNat y) want v = some u ∧ EM kd wr m fM lev cur sp c c' v u [] (fun b b' g => cdP fM lev y want b g ∧ b' = b + 1) 1 0 1 0 := fun v hv => by
      obtain ⟨u, u1, u2, u3, u4, u5, u6⟩ := g_site hv (k := y) (by omega) q1 hp12 hc2
      have e2 : upC c 2 (c 2 + 1) 2 = c 2 + 1 := upC_s
      have en : ∀ i, i ≠ 2 → upC c 2 (c 2 + 1) i = c i := fun i hi => upC_n hi
      have hl : LEC c (upC c 2 (c 2 + 1)) := LEC.up (by omega)
      generalize upC c 2 (c 2 + 1) = cc at u2 e2 en hl
      obtain ⟨u', v1, v2⟩ := EM.op u2 (by rw [en 0 (by omega)]; exact hc0) (a := 14) (x := Int32.ofNat (c 2)) (y := want) (z := 0)
      refine ⟨u', upC cc 0 (cc 0 + 1), ?_, ?_⟩
      · unfold fX12_alone_57
        rw [u1, bn2_so, v1]
        rfl
      · obtain ⟨g1, g2, g3, g4, g5, g6, g7, g8⟩ := v2
        generalize upC cc 0 (cc 0 + 1) = c9 at g1 g4 g6 g7 g8
        rw [e2, en 0 (by omega), en 1 (by omega), en 3 (by omega)] at g7
        refine ⟨g1, ?_, OFF.tr g3 (u6.mono fun k j hk => by unfold PGX; omega), fun k j hk => ?_, fun j hj => (g5 j hj).trans (u6 59 j (by omega)).1, fun i => Nat.le_trans (hl i) (g6 i), by omega, fun g hg => ?_⟩
        · rw [g2]
          show FLM u = FLM v
          unfold FLM
          rw [(u6 0 10 (by omega)).1, (u6 0 11 (by omega)).1]
        · exact (g4 k j (by rw [e2, en 0 (by omega), en 1 (by omega), en 3 (by omega)]; omega)).trans (u6 k j (by omega)).1
        · have h8 := g8 g (hg.sub hl (fun i => Nat.le_refl _))
          rw [en 0 (by omega)] at h8
          have l2 := g6 2
          rw [e2] at l2
          have hs : ∀ k, 49 ≤ k ∧ k ≤ 51 → gi g k (c 2) = gi u k (c 2) := fun k hk => (hg k (c 2) (by omega)).trans (g4 k (c 2) (by rw [e2]; omega))
          exact ⟨Or.inr ⟨q6, c 2, hc2, h8.1, (hs 49 (by omega)).trans u3, (hs 50 (by omega)).trans u4⟩, h8.2⟩
    rw [w3, if_pos (inb_iN (by omega) (by omega)), if_pos (inb_iN (by omega) (by omega)), tc_iN (by omega), e w h 31 pn (by omega)]
    by_cases q0 : gi fM 31 pn ≤ 0
    · rw [if_pos q0, if_neg (fun g => g.2 q0)]
      exact h57 w h
    · rw [if_neg q0, tc_iN (by omega), e w h 12 n (by omega), h12, if_pos ⟨h3, q0⟩]
      obtain ⟨u, u1, u2, u3, u4⟩ := g_found h ht (num := 5)
      obtain ⟨u', c', v1, v2⟩ := h57 u u2
      refine ⟨u', c', by rw [u1, bn_so]; exact v1, ?_⟩
      have := (EM.fl u2 (L := [(tk, 5)]) u3 u4).seq v2
      exact this.wk (fun b b' g hg => by
        obtain ⟨b1, g1, g2⟩ := hg
        rw [g1] at g2
        exact g2) (by omega)
end SG
