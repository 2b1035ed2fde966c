/-! PASS 2, THE REFERENCE: all procedures -/
/-- codes of formals by value; a: the first of n -/
def vfP (fM : Wd) (ff : Nat) : Nat → Nat → Nat → Nat → Wd → Prop
  | 0, _, b, b', _ => b' = b
  | n + 1, a, b, b', g => (gi fM 28 (ff + a) = 0 ∧ vfP fM ff n (a + 1) b b' g) ∨ (gi fM 28 (ff + a) ≠ 0 ∧ opW g b 18 (gi fM 26 (ff + a)) 0 0 ∧ vfP fM ff n (a + 1) (b + 1) b' g)
/-- between procedures -/
def TGW (kd wr : Nat → Nat) (m : Nat) (fM : Wd) (c : Nat → Nat) (w : Wd) : Prop := SM kd wr m w m 0 ∧ OFF PGM w fM ∧ CNT c w ∧ gi w 0 84 = 0 ∧ gi w 0 82 = Int32.ofNat (c 4)
def SAT (fM : Wd) (p0 p1 : Nat) (c c' : Nat → Nat) (g u : Wd) : Prop := SAM c c' g u ∧ (∀ j, c 4 ≤ j → j < c' 4 → gi g 58 j = gi u 58 j) ∧ (∀ k j p, 55 ≤ k → k ≤ 57 → p0 ≤ p → p < p1 → gi fM 23 j = Int32.ofNat p → (∃ c1 : Nat, gi fM 0 42 = Int32.ofNat c1 ∧ j < c1 ∧ c1 ≤ 9000) → gi g k j = gi u k j) ∧ ∀ p, p0 ≤ p → p < p1 → gi g 36 p = gi u 36 p ∧ gi g 35 p = gi u 35 p
/-- procedures p0 .. p1 - 1 are made -/
def TST (kd wr : Nat → Nat) (m : Nat) (fM : Wd) (p0 p1 : Nat) (c c' : Nat → Nat) (w u : Wd) (L : List (Nat × Int32)) (P : Wd → Prop) (T : Nat) : Prop :=
  TGW kd wr m fM c' u ∧ FLM u = FNL wr L (FLM w) ∧ OFF PGM u w ∧ KPT c u w ∧ (∀ j, j < c 4 → gi u 58 j = gi w 58 j) ∧ (∀ k j, 55 ≤ k → k ≤ 57 → (∀ p, p0 ≤ p → p < p1 → gi fM 23 j ≠ Int32.ofNat p) → gi u k j = gi w k j) ∧ (∀ p, ¬ (p0 ≤ p ∧ p < p1) → gi u 36 p = gi w 36 p ∧ gi u 35 p = gi w 35 p) ∧ (∀ i, i < 5 → c i ≤ c' i) ∧ (c' 0 ≤ c 0 + 4 * T ∧ 2 * c' 1 ≤ 2 * c 1 + T ∧ 2 * c' 2 ≤ 2 * c 2 + T ∧ 2 * c' 3 ≤ 2 * c 3 + T ∧ c' 4 ≤ c 4 + T) ∧ ∀ g, SAT fM p0 p1 c c' g u → P g
/-- a procedure, as it lies -/
def PPR (fM : Wd) (p ff nf q0 : Nat) (PM : Nat → Nat → Nat → Nat → Wd → Prop) (g : Wd) : Prop := ∃ b b1 b2 q', gi g 36 p = Int32.ofNat b ∧ vfP fM ff nf 0 b b1 g ∧ PM b1 q0 b2 q' g ∧ opW g b2 16 0 0 0 ∧ gi g 35 p = Int32.ofNat q' ∧ b2 < 60000
section EX
variable {kd wr nm : Nat → Nat} {vv : Nat → Int64} {m lev cur : Nat} {fA fM : Wd} {c c1 c2 c' d C TK : Nat → Nat} {SL : Nat → List Nat} {w u v' : Wd} {L L1 L2 : List (Nat × Int32)} {PM : Nat → Nat → Nat → Nat → Wd → Prop} {i i0 i1 i2 i3 v : Nat}
theorem vf_loop {p ff nf : Nat} {k56 : Int32 → Wd → Option Wd} (hp : p < 1200) (h31 : gi fM 31 p = Int32.ofNat nf) (h32 : gi fM 32 p = Int32.ofNat ff) (hff : ff + nf ≤ 5000) : ∀ (n a fo : Nat) (c : Nat → Nat) (w : Wd), a + n = nf → GST kd wr m fM lev cur c w → c 0 + n < 60000 →
    ∃ u c', oX12_codeOf_92 k56 (fo + n + 1) (Int32.ofNat p) (Int32.ofNat a) w = (if inb (Int32.ofNat p) 1200 = true then bn2 (RX12_row 200 1 (gi u 33 (Int32.toNatClampNeg (Int32.ofNat p))) 0 0 u) fun _ w5 => bn2 (fX12_op 16 0 0 0 w5) fun _ w7 => lt (Int32.ofNat p + 1) fun x8 => k56 x8 w7 else none) ∧ EST kd wr m fM lev cur i i c c' w u [] (fun b q b' q' g => vfP fM ff n a b b' g ∧ q' = q) n 0 0 0 0 0 := by
  intro n
  induction n with
  | zero =>
    intro a fo c w ha hG hc
    refine ⟨w, c, ?_, (EST.no hG (i := i)).wk (fun b q b' q' g hg => hg) (by omega)⟩
    show fX12_codeOf_92 k56 (oX12_codeOf_92 k56 fo) (Int32.ofNat p) (Int32.ofNat a) w = _
    generalize oX12_codeOf_92 k56 fo = kk
    unfold fX12_codeOf_92
    have e31 : gi w 31 (Int32.ofNat p).toNatClampNeg = Int32.ofNat nf := by
      rw [tc_iN (by omega)]
      exact (hG.fx (k := 31) (by unfold PGM PGX; omega)).trans h31
    rw [if_pos (inb_iN hp (by omega)), e31, if_pos ((le_iN (by omega) (by omega)).mpr (by omega))]
  | succ n ih =>
    intro a fo c w ha hG hc
    have e31 : ∀ {c w}, GST kd wr m fM lev cur c w → gi w 31 (Int32.ofNat p).toNatClampNeg = Int32.ofNat nf := fun h => by
      rw [tc_iN (by omega)]
      exact (h.fx (k := 31) (by unfold PGM PGX; omega)).trans h31
    have e32 : gi w 32 (Int32.ofNat p).toNatClampNeg = Int32.ofNat ff := by
      rw [tc_iN (by omega)]
      exact (hG.fx (k := 32) (by unfold PGM PGX; omega)).trans h32
    have hrun : oX12_codeOf_92 k56 (fo + (n + 1) + 1) (Int32.ofNat p) (Int32.ofNat a) w = fX12_codeOf_92 k56 (oX12_codeOf_92 k56 (fo + n + 1)) (Int32.ofNat p) (Int32.ofNat a) w := rfl
    rw [hrun]
    by_cases q : gi fM 28 (ff + a) = 0
    · obtain ⟨u, c', o, E⟩ := ih (a + 1) fo c w (by omega) hG (by omega)
      refine ⟨u, c', ?_, E.wk (fun b q' b' q'' g hg => ⟨Or.inl ⟨q, hg.1⟩, hg.2⟩) (by omega)⟩
      rw [← o]
      generalize oX12_codeOf_92 k56 (fo + n + 1) = kk
      unfold fX12_codeOf_92
      rw [if_pos (inb_iN hp (by omega)), e31 hG, if_neg (nle_iN (by omega) (by omega)), if_pos (inb_iN hp (by omega)), e32, add_iN, if_pos (inb_iN (by omega) (by omega)), tc_iN (show ff + a < 2147483648 by omega), hG.fx (k := 28) (by unfold PGM PGX; omega), if_pos q, ad1_iN, ltq]
    · obtain ⟨u1, c1, o1, q1, _, d1, E1⟩ := EST.opA hG (by omega) 18 (gi fM 26 (ff + a)) 0 0
      obtain ⟨u, c', o, E⟩ := ih (a + 1) fo c1 u1 (by omega) (E1 i).1 (by omega)
      refine ⟨u, c', ?_, (((E1 i).seq E).fls rfl).wk (fun b q' b' q'' g hg => ?_) (by omega)⟩
      · rw [← o]
        generalize oX12_codeOf_92 k56 (fo + n + 1) = kk
        unfold fX12_codeOf_92
        rw [if_pos (inb_iN hp (by omega)), e31 hG, if_neg (nle_iN (by omega) (by omega)), if_pos (inb_iN hp (by omega)), e32, add_iN, if_pos (inb_iN (by omega) (by omega)), tc_iN (show ff + a < 2147483648 by omega), hG.fx (k := 28) (by unfold PGM PGX; omega), if_neg q, if_pos (inb_iN hp (by omega)), if_pos (inb_iN (by omega) (by omega)), hG.fx (k := 26) (by unfold PGM PGX; omega), o1, bn2_so, ad1_iN, ltq]
      · obtain ⟨b1, qa, ⟨⟨g1, g2⟩, g3⟩, g4, g5⟩ := hg
        subst g2 g3
        exact ⟨Or.inr ⟨q, g1, g4⟩, g5⟩
/-- one procedure -/
theorem pr_codes {p ff nf nb q0 Tb T : Nat} {k56 : Int32 → Wd → Option Wd} (hp : p < 1200) (h30 : gi fM 30 p = Int32.ofNat lev) (h31 : gi fM 31 p = Int32.ofNat nf) (h32 : gi fM 32 p = Int32.ofNat ff) (hff : ff + nf ≤ 5000) (h33 : gi fM 33 p = Int32.ofNat nb) (hS : STS kd wr m fM lev p 200 i0 i1 nb Tb L PM) (hi : i0 ≤ i1) (hG : TGW kd wr m fM c w) (h35 : gi w 35 p = Int32.ofNat q0) (hpn : gi w 0 53 = gi fM 0 53) (hlt : (gi fM 0 53 ≤ Int32.ofNat p) = False) (hf : FITS c T) (hq0 : q0 ≤ 90000) (hT : Tb + 2 * nf + 2 ≤ T) (h42 : ∃ c1 : Nat, gi fM 0 42 = Int32.ofNat c1 ∧ i1 ≤ c1 ∧ c1 ≤ 9000) :
    ∃ u c', fX12_codeOf_56 k56 (Int32.ofNat p) w = k56 (Int32.ofNat (p + 1)) u ∧ TST kd wr m fM p (p + 1) c c' w u L (PPR fM p ff nf q0 PM) T := by
  obtain ⟨c42, hc1, hc2, hc3⟩ := h42
  unfold FITS at hf
  obtain ⟨h1, h2, ⟨h3, h4, h5, h6⟩, h7, h8⟩ := hG
  have hO : OFF (fun k j => k = 0 ∧ (j = 65 ∨ j = 66) ∨ k = 36 ∧ j = p) (si (si (si w 0 66 (Int32.ofNat p)) 0 65 (Int32.ofNat lev)) 36 p (Int32.ofNat (c 0))) w := OFF.tr (OFF.si (by omega)) (OFF.tr (OFF.si (by omega)) (OFF.si (by omega)))
  have x66 : gi (si (si (si w 0 66 (Int32.ofNat p)) 0 65 (Int32.ofNat lev)) 36 p (Int32.ofNat (c 0))) 0 66 = Int32.ofNat p := by rw [gi_si1 (by omega), gi_si1 (by omega), gi_si0]
  have x65 : gi (si (si (si w 0 66 (Int32.ofNat p)) 0 65 (Int32.ofNat lev)) 36 p (Int32.ofNat (c 0))) 0 65 = Int32.ofNat lev := by rw [gi_si1 (by omega), gi_si0]
  have x36 : gi (si (si (si w 0 66 (Int32.ofNat p)) 0 65 (Int32.ofNat lev)) 36 p (Int32.ofNat (c 0))) 36 p = Int32.ofNat (c 0) := gi_si0 _ _ _ _
  obtain ⟨fo, hfo⟩ := FU_ge (k := nf + 1) (by omega)
  have hrun : fX12_codeOf_56 k56 (Int32.ofNat p) w = oX12_codeOf_92 k56 (fo + nf + 1) (Int32.ofNat p) (Int32.ofNat 0) (si (si (si w 0 66 (Int32.ofNat p)) 0 65 (Int32.ofNat lev)) 36 p (Int32.ofNat (c 0))) := by
    have e30 : gi w 30 p = Int32.ofNat lev := ((h2 30 p (by unfold PGM PGX; omega)).1).trans h30
    unfold fX12_codeOf_56
    rw [hpn, if_neg (fun h => by rw [hlt] at h; exact h), ltq, if_pos (inb_iN hp (by omega)), tc_iN (by omega), gi_si1 (by omega), e30, ltq, if_pos (inb_iN hp (by omega)), gi_si1 (by omega), gi_si1 (by omega), h3, ltq, hfo, ← Nat.add_assoc]
    rfl
  generalize hw1 : si (si (si w 0 66 (Int32.ofNat p)) 0 65 (Int32.ofNat lev)) 36 p (Int32.ofNat (c 0)) = w1 at hO x66 x65 x36 hrun
  have f0 : ∀ k j, ¬ (k = 0 ∧ (j = 65 ∨ j = 66) ∨ k = 36 ∧ j = p) → gi w1 k j = gi w k j := fun k j hk => (hO k j hk).1
  have k5 : upC c 5 q0 5 = q0 := upC_s
  have kn : ∀ j, j ≠ 5 → upC c 5 q0 j = c j := fun j hj => upC_n hj
  have hG1 : GST kd wr m fM lev p (upC c 5 q0) w1 := by
    refine ⟨⟨?_, OFF.tr (hO.mono fun k j hk => by unfold PGM; omega) h2, ⟨by rw [kn 0 (by omega), f0 0 64 (by omega)]; exact h3, by rw [kn 1 (by omega), f0 0 69 (by omega)]; exact h4, by rw [kn 2 (by omega), f0 0 73 (by omega)]; exact h5, by rw [kn 3 (by omega), f0 0 77 (by omega)]; exact h6⟩, x65, x66, by rw [f0 0 84 (by omega)]; exact h7⟩, by rw [kn 4 (by omega), f0 0 82 (by omega)]; exact h8, by rw [k5, f0 35 p (by omega)]; exact h35⟩
    obtain ⟨⟨a1, a2, a3, a4, a5⟩, a6, a7, a8, a9⟩ := h1
    exact ⟨⟨a1, a2, a3, a4, fun i hi => by rw [f0 2 i (by omega), f0 3 i (by omega)]; exact a5 i hi⟩, a6, a7, by rw [f0 0 7 (by omega)]; exact a8, by rw [f0 0 8 (by omega)]; exact a9⟩
  have k0 := kn 0 (by omega)
  have k1 := kn 1 (by omega)
  have k2 := kn 2 (by omega)
  have k3 := kn 3 (by omega)
  have k4 := kn 4 (by omega)
  generalize upC c 5 q0 = d at hG1 k0 k1 k2 k3 k4 k5
  obtain ⟨u1, d1, o1, E1⟩ := vf_loop (i := i0) (k56 := k56) hp h31 h32 hff nf 0 fo d w1 (by omega) hG1 (by omega)
  have hb1 := E1.2.2.2.2.2.2.2.1
  obtain ⟨u2, d2, o2, E2⟩ := hS d1 u1 E1.1 (by unfold FITS; omega)
  have hb2 := E2.2.2.2.2.2.2.2.1
  obtain ⟨u3, d3, o3, q3, _, _, E3⟩ := EST.opA E2.1 (by omega) 16 0 0 0
  obtain ⟨g1, g2, g3, g4, g5, g6, g7, g8, g9⟩ := E1.seq (E2.seq (E3 i1))
  have l0 := g7 0
  have l1 := g7 1
  have l2 := g7 2
  have l3 := g7 3
  have l4 := g7 4
  have hPG : ∀ k j, PGS p k j → PGM k j := fun k j hk => by
    unfold PGS at hk
    unfold PGM
    rcases hk with hk | hk | hk | hk
    · exact Or.inl hk
    · omega
    · omega
    · omega
  refine ⟨u3, d3, ?_, ⟨g1.1.1, g1.1.2.1, g1.1.2.2.1, g1.1.2.2.2.2.2, g1.2.1⟩, ?_, OFF.tr (g3.mono fun k j hk => hPG k j hk) (hO.mono fun k j hk => by unfold PGM; omega), fun k j hk => ?_, fun j hj => ?_, fun k j q1 q2 hq => ?_, fun q hq => ⟨?_, ?_⟩, fun j hj => ?_, ?_, fun g hg => ?_⟩
  · rw [hrun, o1]
    rw [if_pos (inb_iN hp (by omega)), tc_iN (by omega), E1.1.fx (k := 33) (by unfold PGM PGX; omega), h33, o2, bn2_so, o3, bn2_so, ad1_iN, ltq]
  · rw [g2]
    have : FLM w1 = FLM w := by
      unfold FLM
      rw [f0 0 10 (by omega), f0 0 11 (by omega)]
    rw [this]
    simp
  · exact (g4 k j (by rw [k0, k1, k2, k3]; exact hk)).trans (f0 k j (by omega))
  · exact (g5 j (by omega)).trans (f0 58 j (by omega))
  · exact (g6 k j q1 q2 (fun h => hq p (Nat.le_refl _) (by omega) h.2.2)).trans (f0 k j (by omega))
  · exact (g3 36 q (fun h => by unfold PGS PGX at h; omega)).1.trans (f0 36 q (by omega))
  · exact (g3 35 q (fun h => by unfold PGS PGX at h; omega)).1.trans (f0 35 q (by omega))
  · rcases (show j = 0 ∨ j = 1 ∨ j = 2 ∨ j = 3 ∨ j = 4 by omega) with h | h | h | h | h <;> subst h <;> omega
  · omega
  · obtain ⟨b1, qa, ⟨m1, m2⟩, b2, qb, m3, ⟨m4, m5⟩, m6⟩ := g9 g ⟨fun k j hk => hg.1 k j (by rw [k0, k1, k2, k3] at hk; exact hk), fun j j1 j2 => hg.2.1 j (by omega) j2, fun k j q1 q2 q3 q4 q5 => hg.2.2.1 k j p q1 q2 (Nat.le_refl _) (by omega) q5 ⟨c42, hc1, by omega, hc3⟩⟩
    subst m2
    rw [k5] at m3
    refine ⟨d 0, b1, b2, qb, ?_, m1, m3, m4, by rw [(hg.2.2.2 p (Nat.le_refl _) (by omega)).2, g1.2.2, m6], by omega⟩
    rw [(hg.2.2.2 p (Nat.le_refl _) (by omega)).1, (g3 36 p (fun h => by unfold PGS PGX at h; omega)).1, x36, k0]
end EX
