/-! PASS 2, THE REFERENCE: ELEMENTS of a for -/
section EX
variable {kd wr nm : Nat → Nat} {vv : Nat → Int64} {m lev cur : Nat} {fA fM : Wd} {c c1 c2 c' C TK : Nat → Nat} {SL : Nat → List Nat} {w u : Wd} {L L1 L2 LT LR : List (Nat × Int32)} {P P1 P2 : Nat → Nat → Nat → Nat → Wd → Prop} {PT PR : Nat → Nat → Wd → Prop} {i i0 i1 i2 i3 v : Nat} {lu : Nat → Nat} {R X ty : Int32}
theorem fe_0 {K n tv s x4 : Nat} {x : FEL} {rc : TX12_row} {k : Int32 → Int32 → Int32 → Int32 → Wd → Option (Int32 × Wd)} (hT : FVT kd wr m fM lev cur v R X ty LT PT) (hv : v < 24000) (hv12 : gi fM 12 v = Int32.ofNat tv) (htv : tv ≤ m) (hn : n < 24000) (h8 : gi fM 8 n = Int32.ofNat v) (hx : x.1 < 24000) (hx8 : gi fM 8 x.1 = Int32.ofNat x.2.2.1.1) (hp : feV kd wr m fM lu lev cur K x.2.2.1) (hk0 : x.2.1 = 0) (h7 : gi fM 7 x.1 = 30) (hG : GST kd wr m fM lev cur c w) (hR : gi w 0 85 = R) (hX : gi w 0 86 = X) (hf : FITS c (feT x)) :
    ∃ u c', fX12_forCode_144 rc k (Int32.ofNat n) (Int32.ofNat s) (Int32.ofNat x4) (Int32.ofNat x.1) w = k (Int32.ofNat n) (Int32.ofNat s) (Int32.ofNat x4) (gi fM 11 x.1) u ∧ (gi u 0 85 = R ∧ gi u 0 86 = X) ∧ ∀ i, EST kd wr m fM lev cur i i c c' w u (feL fM lu cur K v ty LT LR x) (fun b q b' q' g => feP fM lu cur lev K PT PR s x4 x b b' g ∧ q' = q) (4 * feT x) (feT x / 2) (feT x / 2) (feT x / 2) 0 0 := by
  have hft : feT x = x.2.2.1.2 + 1 := by unfold feT; rw [if_pos hk0]
  rw [hft] at hf ⊢
  have hfl : feL fM lu cur K v ty LT LR x = stL fM lu cur K v x.2.2.1.1 ty LT := by unfold feL; rw [if_pos hk0]
  rw [hfl]
  obtain ⟨u1, c1, o1, ⟨r1, r2⟩, E1⟩ := set_to hT hv hv12 htv hp hG hR hX hf
  unfold FITS at hf
  have hb1 := (E1 0).2.2.2.2.2.2.2.1
  obtain ⟨u2, o2, E2, r3, r4⟩ := EST.op (E1 0).1 (by omega) (a := 30) (x := Int32.ofNat s) (y := Int32.ofNat (c1 0 + 2)) (z := 0)
  have e0 : upC c1 0 (c1 0 + 1) 0 = c1 0 + 1 := upC_s
  obtain ⟨u3, o3, E3, r5, r6⟩ := EST.op (E2 0).1 (by omega) (a := 10) (x := Int32.ofNat x4) (y := 0) (z := 0)
  refine ⟨u3, _, ?_, ⟨r5.trans (r3.trans r1), r6.trans (r4.trans r2)⟩, fun i => (((E1 i).pos.seq ((E2 i).seq (E3 i))).fls (by simp)).wk (fun b q b' q' g hg => ?_) (by omega)⟩
  · unfold fX12_forCode_144
    rw [if_neg (nlt0 (by omega)), if_pos (inb_iN hx (by omega)), tc_iN (show x.1 < 2147483648 by omega), hG.fx (k := 7) (by unfold PGM PGX; omega), h7, if_pos rfl, if_pos (inb_iN hn (by omega)), if_pos (inb_iN hx (by omega)), tc_iN (show n < 2147483648 by omega), hG.fx (k := 8) (j := n) (by unfold PGM PGX; omega), hG.fx (k := 8) (j := x.1) (by unfold PGM PGX; omega), h8, hx8, o1, bn_so, (E1 0).1.1.2.2.1.1, show Int32.ofNat (c1 0) + 2 = Int32.ofNat (c1 0 + 2) from add_iN _ 2, o2, bn2_so, o3, bn2_so, if_pos (inb_iN hx (by omega)), (E3 0).1.fx (k := 11) (by unfold PGM PGX; omega), ltq]
  · obtain ⟨b1, q1, ⟨⟨z1, z2⟩, g1, g2⟩, b2, q2, ⟨⟨g3, g4⟩, g5⟩, ⟨g6, g7⟩, g8⟩ := hg
    subst g2 g4 g5
    rw [← z2] at g3
    exact ⟨Or.inl ⟨hk0, b1, g1, g3, g6, g7⟩, g8⟩
theorem fe_1 {K n tv s x4 : Nat} {x : FEL} {rc : TX12_row} {k : Int32 → Int32 → Int32 → Int32 → Wd → Option (Int32 × Wd)} (hT : FVT kd wr m fM lev cur v R X ty LT PT) (hv : v < 24000) (hv12 : gi fM 12 v = Int32.ofNat tv) (htv : tv ≤ m) (hn : n < 24000) (h8 : gi fM 8 n = Int32.ofNat v) (hx : x.1 < 24000) (hx8 : gi fM 8 x.1 = Int32.ofNat x.2.2.1.1) (hp : feV kd wr m fM lu lev cur K x.2.2.1) (hk0 : x.2.1 = 1) (h7 : gi fM 7 x.1 = 32) (hx9 : gi fM 9 x.1 = Int32.ofNat x.2.2.2.1.1) (hp2 : feV kd wr m fM lu lev cur K x.2.2.2.1) (hG : GST kd wr m fM lev cur c w) (hR : gi w 0 85 = R) (hX : gi w 0 86 = X) (hf : FITS c (feT x)) :
    ∃ u c', fX12_forCode_144 rc k (Int32.ofNat n) (Int32.ofNat s) (Int32.ofNat x4) (Int32.ofNat x.1) w = k (Int32.ofNat n) (Int32.ofNat s) (Int32.ofNat x4) (gi fM 11 x.1) u ∧ (gi u 0 85 = R ∧ gi u 0 86 = X) ∧ ∀ i, EST kd wr m fM lev cur i i c c' w u (feL fM lu cur K v ty LT LR x) (fun b q b' q' g => feP fM lu cur lev K PT PR s x4 x b b' g ∧ q' = q) (4 * feT x) (feT x / 2) (feT x / 2) (feT x / 2) 0 0 := by
  have hft : feT x = x.2.2.1.2 + x.2.2.2.1.2 + 2 := by unfold feT; rw [if_neg (by omega), if_pos hk0]
  rw [hft] at hf ⊢
  have hfl : feL fM lu cur K v ty LT LR x = stL fM lu cur K v x.2.2.1.1 ty LT ++ mbL fM lu cur K x.2.2.2.1.1 2 := by unfold feL; rw [if_neg (by omega), if_pos hk0]
  rw [hfl]
  obtain ⟨hp24, hV, ⟨tx, hx12, htx⟩, hT1⟩ := hp2
  unfold FITS at hf
  obtain ⟨u1, c1, o1, ⟨r1, r2⟩, E1⟩ := set_to hT hv hv12 htv hp hG hR hX (by unfold FITS; omega)
  have hb1 := (E1 0).2.2.2.2.2.2.2.1
  have hT0 := hp.2.2.2
  obtain ⟨u2, c2, o2, ⟨r3, r4⟩, E2⟩ := EST.mb (t := 2) (E1 0).1 hp24 hx12 htx hV (by unfold FIT; omega)
  have hb2 := (E2 0).2.2.2.2.2.2.2.1
  obtain ⟨u3, o3, E3, r5, r6⟩ := EST.op (E2 0).1 (by omega) (a := 11) (x := 0) (y := 0) (z := 0)
  have e3 : upC c2 0 (c2 0 + 1) 0 = c2 0 + 1 := upC_s
  obtain ⟨u4, o4, E4, r7, r8⟩ := EST.op (E3 0).1 (by omega) (a := 30) (x := Int32.ofNat s) (y := Int32.ofNat (c 0)) (z := 0)
  have e4 : upC (upC c2 0 (c2 0 + 1)) 0 (upC c2 0 (c2 0 + 1) 0 + 1) 0 = upC c2 0 (c2 0 + 1) 0 + 1 := upC_s
  obtain ⟨u5, o5, E5, r9, r10⟩ := EST.op (E4 0).1 (by omega) (a := 10) (x := Int32.ofNat x4) (y := 0) (z := 0)
  have hj : ∀ i, EST kd wr m fM lev cur i i _ _ _ _ _ _ _ _ _ _ _ _ := fun i => (E4 i).seq (E5 i)
  obtain ⟨u6, o6, _, r11, r12⟩ := EST.jmp (E3 0) (hj 0) (by omega)
  have E6 : ∀ i, EST kd wr m fM lev cur i i _ _ _ u6 _ _ _ _ _ _ _ _ := fun i => by
    obtain ⟨u6', o6', E6', _⟩ := EST.jmp (E3 i) (hj i) (by omega)
    rw [o6] at o6'
    have := Option.some.inj o6'
    rw [this]
    exact E6'
  refine ⟨u6, _, ?_, ⟨r11.trans (r9.trans (r7.trans (r5.trans (r3.trans r1)))), r12.trans (r10.trans (r8.trans (r6.trans (r4.trans r2))))⟩, fun i => ((((E1 i).seq ((E2 i).seq (E6 i))).pos).fls (by simp)).wk (fun b q b' q' g hg => ?_) (by omega)⟩
  · have e64 : gi w 0 64 = Int32.ofNat (c 0) := hG.1.2.2.1.1
    unfold fX12_forCode_144
    rw [if_neg (nlt0 (by omega)), if_pos (inb_iN hx (by omega)), tc_iN (show x.1 < 2147483648 by omega), hG.fx (k := 7) (by unfold PGM PGX; omega), h7, if_neg (by decide), if_pos (inb_iN hx (by omega)), if_pos rfl, e64, ltq, if_pos (inb_iN hn (by omega)), if_pos (inb_iN hx (by omega)), tc_iN (show n < 2147483648 by omega), hG.fx (k := 8) (j := n) (by unfold PGM PGX; omega), hG.fx (k := 8) (j := x.1) (by unfold PGM PGX; omega), h8, hx8, o1, bn_so, if_pos (inb_iN hx (by omega)), (E1 0).1.fx (k := 9) (by unfold PGM PGX; omega), hx9, o2, bn2_so, o3, bn2_so, o4, bn2_so, o5, bn2_so, o6, bn_so, if_pos (inb_iN hx (by omega)), (E6 0).1.fx (k := 11) (by unfold PGM PGX; omega), ltq]
  · obtain ⟨⟨z1, z2⟩, b1, q1, ⟨g1, g2⟩, b2, q2, ⟨g3, g4⟩, g5, b3, q3, ⟨⟨g6, g7⟩, g8⟩, ⟨g9, g10⟩, g11⟩ := hg
    subst g2 g4 g7 g8
    rw [← z1] at g6
    exact ⟨Or.inr (Or.inl ⟨hk0, b1, b2, g1, g3, g5, g6, g9, g10⟩), g11⟩
end EX
