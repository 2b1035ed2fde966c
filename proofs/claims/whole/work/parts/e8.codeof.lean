/-! PASS 2, THE REFERENCE: codeOf, whole -/
section EX
variable {kd wr nm : Nat → Nat} {vv : Nat → Int64} {m lev cur : Nat} {fA fM : Wd} {c c1 c2 c' d C TK : Nat → Nat} {SL : Nat → List Nat} {w u v : Wd} {L L1 L2 : List (Nat × Int32)} {i i0 i1 i2 i3 p0 p1 p2 T1 T2 : Nat} {P1 P2 : Wd → Prop} {P : Nat → Nat → Nat → Nat → Wd → Prop}
theorem EST.tst {p a0 a1 a2 a3 a4 a5 T : Nat} (h : EST kd wr m fM lev p i0 i1 c c1 w u L P a0 a1 a2 a3 a4 a5) (hT : a0 ≤ 4 * T ∧ 2 * a1 ≤ T ∧ 2 * a2 ≤ T ∧ 2 * a3 ≤ T ∧ a4 ≤ T) (h42 : ∃ c1 : Nat, gi fM 0 42 = Int32.ofNat c1 ∧ i1 ≤ c1 ∧ c1 ≤ 9000) : TST kd wr m fM p (p + 1) c c1 w u L (fun g => P (c 0) (c 5) (c1 0) (c1 5) g ∧ gi g 35 p = Int32.ofNat (c1 5)) T := by
  obtain ⟨c42, hc1, hc2, hc3⟩ := h42
  obtain ⟨g1, g2, g3, g4, g5, g6, g7, g8, g9⟩ := h
  have hPG : ∀ k j, PGS p k j → PGM k j := fun k j hk => by
    unfold PGS at hk
    unfold PGM
    rcases hk with hk | hk | hk | hk
    · exact Or.inl hk
    · omega
    · omega
    · omega
  refine ⟨⟨g1.1.1, g1.1.2.1, g1.1.2.2.1, g1.1.2.2.2.2.2, g1.2.1⟩, g2, g3.mono fun k j hk => hPG k j hk, g4, g5, fun k j q1 q2 hq => g6 k j q1 q2 (fun h => hq p (Nat.le_refl _) (by omega) h.2.2), fun q hq => ⟨(g3 36 q (fun h => by unfold PGS PGX at h; omega)).1, (g3 35 q (fun h => by unfold PGS PGX at h; omega)).1⟩, fun j _ => g7 j, by omega, fun g hg => ⟨g9 g ⟨hg.1, hg.2.1, fun k j q1 q2 q3 q4 q5 => hg.2.2.1 k j p q1 q2 (Nat.le_refl _) (by omega) q5 ⟨c42, hc1, by omega, hc3⟩⟩, by rw [(hg.2.2.2 p (Nat.le_refl _) (by omega)).2, g1.2.2]⟩⟩
theorem code_all {a1 blk Tm q0 : Nat} {Lm : List (Nat × Int32)} {l : List PRE8} (hsm : SM kd wr m fM m 0) (h84 : gi fM 0 84 = 0) (ha : a1 < 24000) (h8 : gi fM 8 a1 = Int32.ofNat blk) (h35 : gi fM 35 0 = Int32.ofNat q0) (hq0 : q0 ≤ 90000)
    (hB : ∀ c w, GST kd wr m fM 0 0 c w → FITS c Tm → ∃ u c', RX12_row 200 3 (Int32.ofNat blk) 0 0 w = some (0, u) ∧ EST kd wr m fM 0 0 i0 i1 c c' w u Lm P (4 * Tm) (Tm / 2) (Tm / 2) (Tm / 2) Tm Tm) (hi : i0 ≤ i1) (hl : prsS kd wr m fM l 1) (hln : 1 + l.length ≤ 1200) (hT : Tm + 1 + prsT l ≤ 8500) (h42 : ∃ c1 : Nat, gi fM 0 42 = Int32.ofNat c1 ∧ i1 ≤ c1 ∧ c1 ≤ 9000) :
    ∃ u c', fX12_codeOf (Int32.ofNat a1) fM = some u ∧ TGW kd wr m fM c' u ∧ FLM u = FNL wr (Lm ++ prsL l) (FLM fM) ∧ OFF PGM u fM ∧ (c' 0 < 60000 ∧ c' 1 < 6000 ∧ c' 2 < 4300 ∧ c' 3 < 6000 ∧ c' 4 < 24000) ∧ ∀ g, SAT fM 0 (1 + l.length) (fun _ => 0) c' g u → (∃ b q', P 0 q0 b q' g ∧ opW g b 0 0 0 0 ∧ gi g 35 0 = Int32.ofNat q' ∧ b < 60000) ∧ prsP l g := by
  have hO : OFF (fun k j => k = 0 ∧ (j = 64 ∨ j = 69 ∨ j = 73 ∨ j = 77 ∨ j = 82 ∨ j = 66 ∨ j = 65)) (si (si (si (si (si (si (si fM 0 64 0) 0 69 0) 0 73 0) 0 77 0) 0 82 0) 0 66 0) 0 65 0) fM := OFF.tr (OFF.si (by omega)) (OFF.tr (OFF.si (by omega)) (OFF.tr (OFF.si (by omega)) (OFF.tr (OFF.si (by omega)) (OFF.tr (OFF.si (by omega)) (OFF.tr (OFF.si (by omega)) (OFF.si (by omega)))))))
  have hrun : fX12_codeOf (Int32.ofNat a1) fM = bn2 (RX12_row 200 3 (Int32.ofNat blk) 0 0 (si (si (si (si (si (si (si fM 0 64 0) 0 69 0) 0 73 0) 0 77 0) 0 82 0) 0 66 0) 0 65 0)) fun _ w10 => bn2 (fX12_op 0 0 0 0 w10) fun _ w12 => oX12_codeOf_56 FU 1 w12 := by
    have e8 : gi (si (si (si (si (si (si (si fM 0 64 0) 0 69 0) 0 73 0) 0 77 0) 0 82 0) 0 66 0) 0 65 0) 8 a1 = Int32.ofNat blk := ((hO 8 a1 (by omega)).1).trans h8
    unfold fX12_codeOf
    rw [ltq, ltq, ltq, ltq, ltq, ltq, ltq, if_pos (inb_iN ha (by omega)), tc_iN (by omega), e8]
  have y64 : gi (si (si (si (si (si (si (si fM 0 64 0) 0 69 0) 0 73 0) 0 77 0) 0 82 0) 0 66 0) 0 65 0) 0 64 = 0 := by rw [gi_si1 (by omega), gi_si1 (by omega), gi_si1 (by omega), gi_si1 (by omega), gi_si1 (by omega), gi_si1 (by omega), gi_si0]
  have y69 : gi (si (si (si (si (si (si (si fM 0 64 0) 0 69 0) 0 73 0) 0 77 0) 0 82 0) 0 66 0) 0 65 0) 0 69 = 0 := by rw [gi_si1 (by omega), gi_si1 (by omega), gi_si1 (by omega), gi_si1 (by omega), gi_si1 (by omega), gi_si0]
  have y73 : gi (si (si (si (si (si (si (si fM 0 64 0) 0 69 0) 0 73 0) 0 77 0) 0 82 0) 0 66 0) 0 65 0) 0 73 = 0 := by rw [gi_si1 (by omega), gi_si1 (by omega), gi_si1 (by omega), gi_si1 (by omega), gi_si0]
  have y77 : gi (si (si (si (si (si (si (si fM 0 64 0) 0 69 0) 0 73 0) 0 77 0) 0 82 0) 0 66 0) 0 65 0) 0 77 = 0 := by rw [gi_si1 (by omega), gi_si1 (by omega), gi_si1 (by omega), gi_si0]
  have y82 : gi (si (si (si (si (si (si (si fM 0 64 0) 0 69 0) 0 73 0) 0 77 0) 0 82 0) 0 66 0) 0 65 0) 0 82 = 0 := by rw [gi_si1 (by omega), gi_si1 (by omega), gi_si0]
  have y66 : gi (si (si (si (si (si (si (si fM 0 64 0) 0 69 0) 0 73 0) 0 77 0) 0 82 0) 0 66 0) 0 65 0) 0 66 = 0 := by rw [gi_si1 (by omega), gi_si0]
  have y65 : gi (si (si (si (si (si (si (si fM 0 64 0) 0 69 0) 0 73 0) 0 77 0) 0 82 0) 0 66 0) 0 65 0) 0 65 = 0 := gi_si0 _ _ _ _
  generalize si (si (si (si (si (si (si fM 0 64 0) 0 69 0) 0 73 0) 0 77 0) 0 82 0) 0 66 0) 0 65 0 = w at hO hrun y64 y69 y73 y77 y82 y66 y65
  have k5 : upC (fun _ => 0) 5 q0 5 = q0 := upC_s
  have kn : ∀ j, j ≠ 5 → upC (fun _ => 0) 5 q0 j = 0 := fun j hj => upC_n hj
  have hG : GST kd wr m fM 0 0 (upC (fun _ => 0) 5 q0) w := by
    refine ⟨⟨?_, hO.mono fun k j hk => by unfold PGM PGX; omega, ⟨by rw [kn 0 (by omega)]; exact y64, by rw [kn 1 (by omega)]; exact y69, by rw [kn 2 (by omega)]; exact y73, by rw [kn 3 (by omega)]; exact y77⟩, y65, y66, ((hO 0 84 (by omega)).1).trans h84⟩, by rw [kn 4 (by omega)]; exact y82, by rw [k5, (hO 35 0 (by omega)).1]; exact h35⟩
    obtain ⟨⟨b1, b2, b3, b4, b5⟩, b6, b7, b8, b9⟩ := hsm
    exact ⟨⟨b1, b2, b3, b4, fun i hi => by rw [(hO 2 i (by omega)).1, (hO 3 i (by omega)).1]; exact b5 i hi⟩, b6, b7, by rw [(hO 0 7 (by omega)).1]; exact b8, by rw [(hO 0 8 (by omega)).1]; exact b9⟩
  have k0 := kn 0 (by omega)
  have k1 := kn 1 (by omega)
  have k2 := kn 2 (by omega)
  have k3 := kn 3 (by omega)
  have k4 := kn 4 (by omega)
  generalize upC (fun _ => 0) 5 q0 = c at hG k0 k1 k2 k3 k4 k5
  obtain ⟨u1, c1, o1, E1⟩ := hB c w hG (by unfold FITS; omega)
  have hb1 := E1.2.2.2.2.2.2.2.1
  obtain ⟨u2, c2, o2, q2, _, _, E2⟩ := EST.opA E1.1 (by omega) 0 0 0 0
  have hM := (E1.seq (E2 i1)).tst (T := Tm + 1) (by omega) h42
  have hb2 := hM.2.2.2.2.2.2.2.2.1
  obtain ⟨fo, hfo⟩ := FU_ge (k := l.length + 1) (by omega)
  have n5 : upC c2 5 0 5 = 0 := upC_s
  have nn : ∀ j, j ≠ 5 → upC c2 5 0 j = c2 j := fun j hj => upC_n hj
  have hM' : TST kd wr m fM 0 (0 + 1) c (upC c2 5 0) w u2 (Lm ++ []) (fun g => (∃ b1 q1, P (c 0) (c 5) b1 q1 g ∧ (opW g b1 0 0 0 0 ∧ c2 0 = b1 + 1) ∧ c2 5 = q1) ∧ gi g 35 0 = Int32.ofNat (c2 5)) (Tm + 1) := by
    obtain ⟨h1, h2, h3, h4, h5, h6, h7, h8, h9, ha⟩ := hM
    have n0 := nn 0 (by omega)
    have n1 := nn 1 (by omega)
    have n2 := nn 2 (by omega)
    have n3 := nn 3 (by omega)
    have n4 := nn 4 (by omega)
    refine ⟨⟨h1.1, h1.2.1, by
      obtain ⟨a, b, e, f⟩ := h1.2.2.1
      exact ⟨by rw [n0]; exact a, by rw [n1]; exact b, by rw [n2]; exact e, by rw [n3]; exact f⟩, h1.2.2.2.1, by rw [n4]; exact h1.2.2.2.2⟩, h2, h3, h4, h5, h6, h7, fun j hj => by rw [nn j (by omega)]; exact h8 j hj, by rw [n0, n1, n2, n3, n4]; exact h9, fun g hg => ha g ⟨fun k j hk => hg.1 k j (by rw [n0, n1, n2, n3]; exact hk), fun j j1 j2 => hg.2.1 j j1 (by rw [n4]; exact j2), hg.2.2.1, hg.2.2.2⟩⟩
  have m0 := nn 0 (by omega)
  have m1 := nn 1 (by omega)
  have m2 := nn 2 (by omega)
  have m3 := nn 3 (by omega)
  have m4 := nn 4 (by omega)
  generalize upC c2 5 0 = d at hM' n5 m0 m1 m2 m3 m4
  have h35' : ∀ q, 1 ≤ q → q < 1200 → gi u2 35 q = gi fM 35 q := fun q q1 q2' => (hM'.2.2.2.2.2.2.1 q (by omega)).2.trans (hO 35 q (by omega)).1
  obtain ⟨u3, c3, o3, E3⟩ := pr_loop l 1 fo d u2 hl hln hM'.1 h35' (by unfold FITS; omega)
  have hAll := hM'.seq E3 (by omega)
  obtain ⟨t1, t2, t3, t4, t5, t6, t7, t8, t9, ta⟩ := hAll
  refine ⟨u3, c3, ?_, t1, ?_, OFF.tr t3 (hO.mono fun k j hk => by unfold PGM PGX; omega), by omega, fun g hg => ?_⟩
  · rw [hrun, o1, bn2_so, o2, bn2_so, hfo, ← Nat.add_assoc]
    exact o3
  · rw [t2, List.append_nil]
    have : FLM w = FLM fM := by
      unfold FLM
      rw [(hO 0 10 (by omega)).1, (hO 0 11 (by omega)).1]
    rw [this]
  · have hd0 := E3.2.2.2.2.2.2.2.1 0 (by omega)
    obtain ⟨⟨⟨b, q', z1, ⟨z2, z6⟩, z4⟩, z5⟩, z3⟩ := ta g (by
      obtain ⟨s1, s2, s3, s4⟩ := hg
      exact ⟨fun k j hk => s1 k j (by rw [k0, k1, k2, k3] at hk; exact hk), fun j a b => s2 j (Nat.zero_le _) b, s3, s4⟩)
    exact ⟨⟨b, q', by rw [k0, k5] at z1; exact z1, z2, by rw [z5, z4], by omega⟩, z3⟩
end EX
