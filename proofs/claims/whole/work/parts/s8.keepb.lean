/-! THE REFERENCE KEEPS WHAT IT MADE: all copies -/
section SF8
variable {w u : Wd}
theorem keep_lp {mt : Nat} (hm : mt ≤ 8194) : ∀ (n i fo : Nat) (w : Wd), i + n = mt → gi w 0 6 = Int32.ofNat mt → ∃ u, oX12_keep_153 (fo + n + 1) (Int32.ofNat i) w = oX12_keep_153 (fo + 1) (Int32.ofNat mt) u ∧ (∀ j, i ≤ j → j < mt → gl u 69 j = gl w 4 j) ∧ OFF (fun k j => k = 69 ∧ i ≤ j ∧ j < mt) u w := by
  intro n
  induction n with
  | zero =>
    intro i fo w h _
    have : i = mt := by omega
    subst this
    exact ⟨w, rfl, fun j a b => absurd b (by omega), OFF.rf⟩
  | succ n ih =>
    intro i fo w h h6
    obtain ⟨u, h1, h2, h3⟩ := ih (i + 1) fo (sl w 69 i (gl w 4 i)) (by omega) h6
    refine ⟨u, ?_, fun j a b => ?_, ?_⟩
    · show fX12_keep_153 (oX12_keep_153 (fo + n + 1)) _ w = _
      unfold fX12_keep_153
      rw [h6, if_neg (fun q => by have := (le_iN (by omega) (by omega)).mp q; omega), if_pos (inb_iN (by omega) (by omega)), if_pos (inb_iN (by omega) (by omega)), tc_iN (by omega), ltq, ad1_iN, ltq]
      exact h1
    · by_cases q : j = i
      · subst q
        rw [(h3 69 j (by omega)).2, gl_sl0]
      · rw [h2 j (by omega) b, gl_sl1 (by omega)]
    · exact OFF.tr (h3.mono fun k j hk => by omega) (OFF.sl (by omega))
/-- how much was made -/
def KNT (w : Wd) (n0 n1 n2 n3 n4 mt c1 c2 c3 c4 : Nat) : Prop := gi w 0 64 = Int32.ofNat n0 ∧ gi w 0 69 = Int32.ofNat n1 ∧ gi w 0 73 = Int32.ofNat n2 ∧ gi w 0 77 = Int32.ofNat n3 ∧ gi w 0 82 = Int32.ofNat n4 ∧ gi w 0 6 = Int32.ofNat mt ∧ gi w 0 42 = Int32.ofNat c1 ∧ gi w 0 28 = Int32.ofNat c2 ∧ gi w 0 59 = Int32.ofNat c3 ∧ gi w 0 53 = Int32.ofNat c4
theorem KNT.off {Q : Nat → Nat → Prop} {n0 n1 n2 n3 n4 mt c1 c2 c3 c4 : Nat} (h : KNT w n0 n1 n2 n3 n4 mt c1 c2 c3 c4) (hO : OFF Q u w) (hQ : ∀ k j, Q k j → k = 0 → j = 87 ∨ j = 111) : KNT u n0 n1 n2 n3 n4 mt c1 c2 c3 c4 := by
  have e : ∀ j, j ≠ 87 ∧ j ≠ 111 → gi u 0 j = gi w 0 j := fun j hj => (hO 0 j (fun q => by have := hQ 0 j q rfl; omega)).1
  obtain ⟨h1, h2, h3, h4, h5, h6, h7, h8, h9, h10⟩ := h
  exact ⟨by rw [e 64 (by omega)]; exact h1, by rw [e 69 (by omega)]; exact h2, by rw [e 73 (by omega)]; exact h3, by rw [e 77 (by omega)]; exact h4, by rw [e 82 (by omega)]; exact h5, by rw [e 6 (by omega)]; exact h6, by rw [e 42 (by omega)]; exact h7, by rw [e 28 (by omega)]; exact h8, by rw [e 59 (by omega)]; exact h9, by rw [e 53 (by omega)]; exact h10⟩
/-- the first copies -/
def KPD1 (w u : Wd) (n0 n1 n2 n3 mt : Nat) : Prop := (∀ j, j < 4 * n0 → gi u 60 j = gi w 46 j) ∧ (∀ j, j < n1 → gi u 61 j = gi w 47 j ∧ gi u 62 j = gi w 48 j) ∧ (∀ j, j < n2 → gi u 63 j = gi w 49 j ∧ gi u 64 j = gi w 50 j ∧ gi u 65 j = gi w 51 j) ∧ (∀ j, j < n3 → gi u 66 j = gi w 52 j ∧ gi u 67 j = gi w 53 j ∧ gi u 68 j = gi w 54 j) ∧ (∀ j, j < mt → gl u 69 j = gl w 4 j) ∧ gi u 0 87 = 1
theorem keep_c1 {n0 n1 n2 n3 n4 mt c1 c2 c3 c4 : Nat} (h : KNT w n0 n1 n2 n3 n4 mt c1 c2 c3 c4) (hb : n0 < 60000 ∧ n1 ≤ 6000 ∧ n2 ≤ 4300 ∧ n3 ≤ 6000 ∧ mt ≤ 8194) : ∃ u fo, fX12_keep w = fX12_keep_153 (oX12_keep_153 fo) (Int32.ofNat mt) u ∧ KPD1 w u n0 n1 n2 n3 mt ∧ KNT u n0 n1 n2 n3 n4 mt c1 c2 c3 c4 ∧ OFF (fun k j => (k = 0 ∧ j = 87) ∨ (60 ≤ k ∧ k ≤ 69)) u w := by
  have O0 : OFF (fun k j => k = 0 ∧ j = 87) (si w 0 87 1) w := OFF.si ⟨rfl, rfl⟩
  have K0 := h.off O0 (fun k j q _ => by omega)
  have a87 : gi (si w 0 87 1) 0 87 = 1 := gi_si0 _ _ _ _
  unfold fX12_keep
  rw [ltq]
  generalize si w 0 87 1 = w0 at O0 K0 a87 ⊢
  rw [K0.1, show (4 : Int32) * Int32.ofNat n0 = Int32.ofNat (4 * n0) from four_op]
  obtain ⟨w1, x1, y1, O1⟩ := copy_ok (w := w0) (k1 := 46) (n1 := 240000) (k2 := 60) (n2 := 240000) (c := 4 * n0) (by decide) (by omega)
  have K1 := K0.off O1 (fun k j q _ => by omega)
  rw [x1, bn_so, K1.2.1]
  obtain ⟨w2, x2, y2, O2⟩ := copy_ok (w := w1) (k1 := 47) (n1 := 6000) (k2 := 61) (n2 := 6000) (c := n1) (by decide) (by omega)
  have K2 := K1.off O2 (fun k j q _ => by omega)
  rw [x2, bn_so, K2.2.1]
  obtain ⟨w3, x3, y3, O3⟩ := copy_ok (w := w2) (k1 := 48) (n1 := 6000) (k2 := 62) (n2 := 6000) (c := n1) (by decide) (by omega)
  have K3 := K2.off O3 (fun k j q _ => by omega)
  rw [x3, bn_so, K3.2.2.1]
  obtain ⟨w4, x4, y4, O4⟩ := copy_ok (w := w3) (k1 := 49) (n1 := 4300) (k2 := 63) (n2 := 4300) (c := n2) (by decide) (by omega)
  have K4 := K3.off O4 (fun k j q _ => by omega)
  rw [x4, bn_so, K4.2.2.1]
  obtain ⟨w5, x5, y5, O5⟩ := copy_ok (w := w4) (k1 := 50) (n1 := 4300) (k2 := 64) (n2 := 4300) (c := n2) (by decide) (by omega)
  have K5 := K4.off O5 (fun k j q _ => by omega)
  rw [x5, bn_so, K5.2.2.1]
  obtain ⟨w6, x6, y6, O6⟩ := copy_ok (w := w5) (k1 := 51) (n1 := 4300) (k2 := 65) (n2 := 4300) (c := n2) (by decide) (by omega)
  have K6 := K5.off O6 (fun k j q _ => by omega)
  rw [x6, bn_so, K6.2.2.2.1]
  obtain ⟨w7, x7, y7, O7⟩ := copy_ok (w := w6) (k1 := 52) (n1 := 6000) (k2 := 66) (n2 := 6000) (c := n3) (by decide) (by omega)
  have K7 := K6.off O7 (fun k j q _ => by omega)
  rw [x7, bn_so, K7.2.2.2.1]
  obtain ⟨w8, x8, y8, O8⟩ := copy_ok (w := w7) (k1 := 53) (n1 := 6000) (k2 := 67) (n2 := 6000) (c := n3) (by decide) (by omega)
  have K8 := K7.off O8 (fun k j q _ => by omega)
  rw [x8, bn_so, K8.2.2.2.1]
  obtain ⟨w9, x9, y9, O9⟩ := copy_ok (w := w8) (k1 := 54) (n1 := 6000) (k2 := 68) (n2 := 6000) (c := n3) (by decide) (by omega)
  have K9 := K8.off O9 (fun k j q _ => by omega)
  rw [x9, bn_so]
  obtain ⟨fo, hfo⟩ := FU_ge (k := mt + 1) (by omega)
  obtain ⟨wa, xa, ya, Oa⟩ := keep_lp hb.2.2.2.2 mt 0 fo w9 (by omega) K9.2.2.2.2.2.1
  have Ka := K9.off Oa (fun k j q _ => by omega)
  have hrun : oX12_keep_153 FU 0 w9 = oX12_keep_153 (fo + 1) (Int32.ofNat mt) wa := by
    rw [hfo, ← Nat.add_assoc]
    exact xa
  rw [hrun]
  have A0 : OFF (fun k j => (k = 0 ∧ j = 87) ∨ (60 ≤ k ∧ k ≤ 69)) w0 w := O0.mono fun k j q => by omega
  have A1 : OFF (fun k j => (k = 0 ∧ j = 87) ∨ (60 ≤ k ∧ k ≤ 69)) w1 w := OFF.tr (O1.mono fun k j q => by omega) A0
  have A2 : OFF (fun k j => (k = 0 ∧ j = 87) ∨ (60 ≤ k ∧ k ≤ 69)) w2 w := OFF.tr (O2.mono fun k j q => by omega) A1
  have A3 : OFF (fun k j => (k = 0 ∧ j = 87) ∨ (60 ≤ k ∧ k ≤ 69)) w3 w := OFF.tr (O3.mono fun k j q => by omega) A2
  have A4 : OFF (fun k j => (k = 0 ∧ j = 87) ∨ (60 ≤ k ∧ k ≤ 69)) w4 w := OFF.tr (O4.mono fun k j q => by omega) A3
  have A5 : OFF (fun k j => (k = 0 ∧ j = 87) ∨ (60 ≤ k ∧ k ≤ 69)) w5 w := OFF.tr (O5.mono fun k j q => by omega) A4
  have A6 : OFF (fun k j => (k = 0 ∧ j = 87) ∨ (60 ≤ k ∧ k ≤ 69)) w6 w := OFF.tr (O6.mono fun k j q => by omega) A5
  have A7 : OFF (fun k j => (k = 0 ∧ j = 87) ∨ (60 ≤ k ∧ k ≤ 69)) w7 w := OFF.tr (O7.mono fun k j q => by omega) A6
  have A8 : OFF (fun k j => (k = 0 ∧ j = 87) ∨ (60 ≤ k ∧ k ≤ 69)) w8 w := OFF.tr (O8.mono fun k j q => by omega) A7
  have A9 : OFF (fun k j => (k = 0 ∧ j = 87) ∨ (60 ≤ k ∧ k ≤ 69)) w9 w := OFF.tr (O9.mono fun k j q => by omega) A8
  have Aa : OFF (fun k j => (k = 0 ∧ j = 87) ∨ (60 ≤ k ∧ k ≤ 69)) wa w := OFF.tr (Oa.mono fun k j q => by omega) A9
  have Za : OFF (fun k j => 69 < k) wa wa := OFF.rf
  have Z9 : OFF (fun k j => 68 < k) wa w9 := OFF.tr (Za.mono fun k j q => by omega) (Oa.mono fun k j q => by omega)
  have Z8 : OFF (fun k j => 67 < k) wa w8 := OFF.tr (Z9.mono fun k j q => by omega) (O9.mono fun k j q => by omega)
  have Z7 : OFF (fun k j => 66 < k) wa w7 := OFF.tr (Z8.mono fun k j q => by omega) (O8.mono fun k j q => by omega)
  have Z6 : OFF (fun k j => 65 < k) wa w6 := OFF.tr (Z7.mono fun k j q => by omega) (O7.mono fun k j q => by omega)
  have Z5 : OFF (fun k j => 64 < k) wa w5 := OFF.tr (Z6.mono fun k j q => by omega) (O6.mono fun k j q => by omega)
  have Z4 : OFF (fun k j => 63 < k) wa w4 := OFF.tr (Z5.mono fun k j q => by omega) (O5.mono fun k j q => by omega)
  have Z3 : OFF (fun k j => 62 < k) wa w3 := OFF.tr (Z4.mono fun k j q => by omega) (O4.mono fun k j q => by omega)
  have Z2 : OFF (fun k j => 61 < k) wa w2 := OFF.tr (Z3.mono fun k j q => by omega) (O3.mono fun k j q => by omega)
  have Z1 : OFF (fun k j => 60 < k) wa w1 := OFF.tr (Z2.mono fun k j q => by omega) (O2.mono fun k j q => by omega)
  have Z0 : OFF (fun k j => 60 ≤ k) wa w0 := OFF.tr (Z1.mono fun k j q => by omega) (O1.mono fun k j q => by omega)
  refine ⟨wa, fo, rfl, ⟨fun j hj => ((Z1 60 j (by omega)).1.trans (y1 j hj)).trans (A0 46 j (by omega)).1, fun j hj => ⟨((Z2 61 j (by omega)).1.trans (y2 j hj)).trans (A1 47 j (by omega)).1, ((Z3 62 j (by omega)).1.trans (y3 j hj)).trans (A2 48 j (by omega)).1⟩, fun j hj => ⟨((Z4 63 j (by omega)).1.trans (y4 j hj)).trans (A3 49 j (by omega)).1, ((Z5 64 j (by omega)).1.trans (y5 j hj)).trans (A4 50 j (by omega)).1, ((Z6 65 j (by omega)).1.trans (y6 j hj)).trans (A5 51 j (by omega)).1⟩, fun j hj => ⟨((Z7 66 j (by omega)).1.trans (y7 j hj)).trans (A6 52 j (by omega)).1, ((Z8 67 j (by omega)).1.trans (y8 j hj)).trans (A7 53 j (by omega)).1, ((Z9 68 j (by omega)).1.trans (y9 j hj)).trans (A8 54 j (by omega)).1⟩, fun j hj => (ya j (Nat.zero_le _) hj).trans (A9 4 j (by omega)).2, ?_⟩, Ka, Aa⟩
  rw [(Z0 0 87 (by omega)).1]; exact a87
/-- the others -/
def KPD2 (w u : Wd) (n4 c1 c3 c4 : Nat) : Prop := (∀ j, j < c4 → gi u 70 j = gi w 36 j ∧ gi u 71 j = gi w 35 j ∧ gi u 72 j = gi w 32 j ∧ gi u 73 j = gi w 31 j) ∧ (∀ j, j < c1 → gi u 74 j = gi w 26 j ∧ gi u 75 j = gi w 55 j ∧ gi u 77 j = gi w 56 j ∧ gi u 78 j = gi w 57 j) ∧ (∀ j, j < n4 → gi u 79 j = gi w 58 j) ∧ (∀ j, j < c3 → gi u 80 j = gi w 41 j) ∧ gi u 0 111 = gi w 0 54
theorem keep_c2 {wa : Wd} {fo n0 n1 n2 n3 n4 mt c1 c2 c3 c4 : Nat} (Ka : KNT wa n0 n1 n2 n3 n4 mt c1 c2 c3 c4) (hb : n4 ≤ 24000 ∧ mt ≤ 8194 ∧ c1 ≤ 5000 ∧ c3 ≤ 9000 ∧ c4 ≤ 1200) : ∃ u, fX12_keep_153 (oX12_keep_153 fo) (Int32.ofNat mt) wa = oX12_keep_349 FU 0 u ∧ KPD2 wa u n4 c1 c3 c4 ∧ OFF (fun k j => (k = 0 ∧ j = 111) ∨ (70 ≤ k ∧ k ≤ 80 ∧ k ≠ 76)) u wa := by
  unfold fX12_keep_153
  rw [Ka.2.2.2.2.2.1, if_pos ((le_iN (by omega) (by omega)).mpr (Nat.le_refl _)), Ka.2.2.2.2.2.2.2.2.2]
  obtain ⟨wb, xb, yb, Ob⟩ := copy_ok (w := wa) (k1 := 36) (n1 := 1200) (k2 := 70) (n2 := 1200) (c := c4) (by decide) (by omega)
  have Kb := Ka.off Ob (fun k j q _ => by omega)
  rw [xb, bn_so, Kb.2.2.2.2.2.2.2.2.2]
  obtain ⟨wc, xc, yc, Oc⟩ := copy_ok (w := wb) (k1 := 35) (n1 := 1200) (k2 := 71) (n2 := 1200) (c := c4) (by decide) (by omega)
  have Kc := Kb.off Oc (fun k j q _ => by omega)
  rw [xc, bn_so, Kc.2.2.2.2.2.2.2.2.2]
  obtain ⟨wd, xd, yd, Od⟩ := copy_ok (w := wc) (k1 := 32) (n1 := 1200) (k2 := 72) (n2 := 1200) (c := c4) (by decide) (by omega)
  have Kd := Kc.off Od (fun k j q _ => by omega)
  rw [xd, bn_so, Kd.2.2.2.2.2.2.2.2.2]
  obtain ⟨we, xe, ye, Oe⟩ := copy_ok (w := wd) (k1 := 31) (n1 := 1200) (k2 := 73) (n2 := 1200) (c := c4) (by decide) (by omega)
  have Ke := Kd.off Oe (fun k j q _ => by omega)
  rw [xe, bn_so, Ke.2.2.2.2.2.2.1]
  obtain ⟨wf, xf, yf, Of⟩ := copy_ok (w := we) (k1 := 26) (n1 := 5000) (k2 := 74) (n2 := 5000) (c := c1) (by decide) (by omega)
  have Kf := Ke.off Of (fun k j q _ => by omega)
  rw [xf, bn_so, Kf.2.2.2.2.2.2.1]
  obtain ⟨wg, xg, yg, Og⟩ := copy_ok (w := wf) (k1 := 55) (n1 := 5000) (k2 := 75) (n2 := 5000) (c := c1) (by decide) (by omega)
  have Kg := Kf.off Og (fun k j q _ => by omega)
  rw [xg, bn_so, Kg.2.2.2.2.2.2.1]
  obtain ⟨wh, xh, yh, Oh⟩ := copy_ok (w := wg) (k1 := 56) (n1 := 5000) (k2 := 77) (n2 := 5000) (c := c1) (by decide) (by omega)
  have Kh := Kg.off Oh (fun k j q _ => by omega)
  rw [xh, bn_so, Kh.2.2.2.2.2.2.1]
  obtain ⟨wi, xi, yi, Oi⟩ := copy_ok (w := wh) (k1 := 57) (n1 := 5000) (k2 := 78) (n2 := 5000) (c := c1) (by decide) (by omega)
  have Ki := Kh.off Oi (fun k j q _ => by omega)
  rw [xi, bn_so, Ki.2.2.2.2.1]
  obtain ⟨wj, xj, yj, Oj⟩ := copy_ok (w := wi) (k1 := 58) (n1 := 24000) (k2 := 79) (n2 := 24000) (c := n4) (by decide) (by omega)
  have Kj := Ki.off Oj (fun k j q _ => by omega)
  rw [xj, bn_so, Kj.2.2.2.2.2.2.2.2.1]
  obtain ⟨wk, xk, yk, Ok⟩ := copy_ok (w := wj) (k1 := 41) (n1 := 9000) (k2 := 80) (n2 := 9000) (c := c3) (by decide) (by omega)
  rw [xk, bn_so, ltq]
  have Ol : OFF (fun k j => k = 0 ∧ j = 111) (si wk 0 111 (gi wk 0 54)) wk := OFF.si ⟨rfl, rfl⟩
  have Aa : OFF (fun k j => 70 ≤ k ∧ k ≤ 80 ∧ k ≠ 76) wa wa := OFF.rf
  have Ab : OFF (fun k j => 70 ≤ k ∧ k ≤ 80 ∧ k ≠ 76) wb wa := OFF.tr (Ob.mono fun k j q => by omega) Aa
  have Ac : OFF (fun k j => 70 ≤ k ∧ k ≤ 80 ∧ k ≠ 76) wc wa := OFF.tr (Oc.mono fun k j q => by omega) Ab
  have Ad : OFF (fun k j => 70 ≤ k ∧ k ≤ 80 ∧ k ≠ 76) wd wa := OFF.tr (Od.mono fun k j q => by omega) Ac
  have Ae : OFF (fun k j => 70 ≤ k ∧ k ≤ 80 ∧ k ≠ 76) we wa := OFF.tr (Oe.mono fun k j q => by omega) Ad
  have Af : OFF (fun k j => 70 ≤ k ∧ k ≤ 80 ∧ k ≠ 76) wf wa := OFF.tr (Of.mono fun k j q => by omega) Ae
  have Ag : OFF (fun k j => 70 ≤ k ∧ k ≤ 80 ∧ k ≠ 76) wg wa := OFF.tr (Og.mono fun k j q => by omega) Af
  have Ah : OFF (fun k j => 70 ≤ k ∧ k ≤ 80 ∧ k ≠ 76) wh wa := OFF.tr (Oh.mono fun k j q => by omega) Ag
  have Ai : OFF (fun k j => 70 ≤ k ∧ k ≤ 80 ∧ k ≠ 76) wi wa := OFF.tr (Oi.mono fun k j q => by omega) Ah
  have Aj : OFF (fun k j => 70 ≤ k ∧ k ≤ 80 ∧ k ≠ 76) wj wa := OFF.tr (Oj.mono fun k j q => by omega) Ai
  have Ak : OFF (fun k j => 70 ≤ k ∧ k ≤ 80 ∧ k ≠ 76) wk wa := OFF.tr (Ok.mono fun k j q => by omega) Aj
  generalize hz : si wk 0 111 (gi wk 0 54) = zz at Ol ⊢
  have Zk : OFF (fun k j => k = 0 ∨ 80 < k) zz wk := Ol.mono fun k j q => by omega
  have Zj : OFF (fun k j => k = 0 ∨ 79 < k) zz wj := OFF.tr (Zk.mono fun k j q => by omega) (Ok.mono fun k j q => by omega)
  have Zi : OFF (fun k j => k = 0 ∨ 78 < k) zz wi := OFF.tr (Zj.mono fun k j q => by omega) (Oj.mono fun k j q => by omega)
  have Zh : OFF (fun k j => k = 0 ∨ 77 < k) zz wh := OFF.tr (Zi.mono fun k j q => by omega) (Oi.mono fun k j q => by omega)
  have Zg : OFF (fun k j => k = 0 ∨ 75 < k) zz wg := OFF.tr (Zh.mono fun k j q => by omega) (Oh.mono fun k j q => by omega)
  have Zf : OFF (fun k j => k = 0 ∨ 74 < k) zz wf := OFF.tr (Zg.mono fun k j q => by omega) (Og.mono fun k j q => by omega)
  have Ze : OFF (fun k j => k = 0 ∨ 73 < k) zz we := OFF.tr (Zf.mono fun k j q => by omega) (Of.mono fun k j q => by omega)
  have Zd : OFF (fun k j => k = 0 ∨ 72 < k) zz wd := OFF.tr (Ze.mono fun k j q => by omega) (Oe.mono fun k j q => by omega)
  have Zc : OFF (fun k j => k = 0 ∨ 71 < k) zz wc := OFF.tr (Zd.mono fun k j q => by omega) (Od.mono fun k j q => by omega)
  have Zb : OFF (fun k j => k = 0 ∨ 70 < k) zz wb := OFF.tr (Zc.mono fun k j q => by omega) (Oc.mono fun k j q => by omega)
  refine ⟨zz, rfl, ⟨fun j hj => ⟨((Zb 70 j (by omega)).1.trans (yb j hj)).trans (Aa 36 j (by omega)).1, ((Zc 71 j (by omega)).1.trans (yc j hj)).trans (Ab 35 j (by omega)).1, ((Zd 72 j (by omega)).1.trans (yd j hj)).trans (Ac 32 j (by omega)).1, ((Ze 73 j (by omega)).1.trans (ye j hj)).trans (Ad 31 j (by omega)).1⟩, fun j hj => ⟨((Zf 74 j (by omega)).1.trans (yf j hj)).trans (Ae 26 j (by omega)).1, ((Zg 75 j (by omega)).1.trans (yg j hj)).trans (Af 55 j (by omega)).1, ((Zh 77 j (by omega)).1.trans (yh j hj)).trans (Ag 56 j (by omega)).1, ((Zi 78 j (by omega)).1.trans (yi j hj)).trans (Ah 57 j (by omega)).1⟩, fun j hj => ((Zj 79 j (by omega)).1.trans (yj j hj)).trans (Ai 58 j (by omega)).1, fun j hj => ((Zk 80 j (by omega)).1.trans (yk j hj)).trans (Aj 41 j (by omega)).1, ?_⟩, OFF.tr (Ol.mono fun k j q => by omega) (Ak.mono fun k j q => by omega)⟩
  rw [← hz, gi_si0]; exact (Ak 0 54 (by omega)).1
/-- what's copied -/
def KPD (w u : Wd) (n0 n1 n2 n3 n4 mt c1 c3 c4 : Nat) : Prop :=
  (∀ j, j < 4 * n0 → gi u 60 j = gi w 46 j) ∧ (∀ j, j < n1 → gi u 61 j = gi w 47 j ∧ gi u 62 j = gi w 48 j) ∧ (∀ j, j < n2 → gi u 63 j = gi w 49 j ∧ gi u 64 j = gi w 50 j ∧ gi u 65 j = gi w 51 j) ∧ (∀ j, j < n3 → gi u 66 j = gi w 52 j ∧ gi u 67 j = gi w 53 j ∧ gi u 68 j = gi w 54 j) ∧ (∀ j, j < mt → gl u 69 j = gl w 4 j) ∧
  (∀ j, j < c4 → gi u 70 j = gi w 36 j ∧ gi u 71 j = gi w 35 j ∧ gi u 72 j = gi w 32 j ∧ gi u 73 j = gi w 31 j) ∧ (∀ j, j < c1 → gi u 74 j = gi w 26 j ∧ gi u 75 j = gi w 55 j ∧ gi u 77 j = gi w 56 j ∧ gi u 78 j = gi w 57 j) ∧ (∀ j, j < n4 → gi u 79 j = gi w 58 j) ∧ (∀ j, j < c3 → gi u 80 j = gi w 41 j) ∧ gi u 0 111 = gi w 0 54 ∧ gi u 0 87 = 1
theorem keep_cp {n0 n1 n2 n3 n4 mt c1 c2 c3 c4 : Nat} (h : KNT w n0 n1 n2 n3 n4 mt c1 c2 c3 c4) (hb : n0 < 60000 ∧ n1 ≤ 6000 ∧ n2 ≤ 4300 ∧ n3 ≤ 6000 ∧ n4 ≤ 24000 ∧ mt ≤ 8194 ∧ c1 ≤ 5000 ∧ c3 ≤ 9000 ∧ c4 ≤ 1200) : ∃ u, fX12_keep w = oX12_keep_349 FU 0 u ∧ KPD w u n0 n1 n2 n3 n4 mt c1 c3 c4 ∧ OFF (fun k j => (k = 0 ∧ (j = 87 ∨ j = 111)) ∨ (60 ≤ k ∧ k ≤ 80 ∧ k ≠ 76)) u w := by
  obtain ⟨wa, fo, x1, ⟨y1, y2, y3, y4, y5, y6⟩, Ka, O1⟩ := keep_c1 h (by omega)
  obtain ⟨u, x2, ⟨z1, z2, z3, z4, z5⟩, O2⟩ := keep_c2 (fo := fo) Ka (by omega)
  have e : ∀ k j, k < 60 → ¬ (k = 0 ∧ j = 87) → gi wa k j = gi w k j := fun k j h1 h2 => (O1 k j (by omega)).1
  have f : ∀ k j, 60 ≤ k → k < 70 → gi u k j = gi wa k j ∧ gl u k j = gl wa k j := fun k j h1 h2 => O2 k j (by omega)
  refine ⟨u, x1.trans x2, ⟨fun j hj => ((f 60 j (by omega) (by omega)).1).trans (y1 j hj), fun j hj => ⟨((f 61 j (by omega) (by omega)).1).trans (y2 j hj).1, ((f 62 j (by omega) (by omega)).1).trans (y2 j hj).2⟩, fun j hj => ⟨((f 63 j (by omega) (by omega)).1).trans (y3 j hj).1, ((f 64 j (by omega) (by omega)).1).trans (y3 j hj).2.1, ((f 65 j (by omega) (by omega)).1).trans (y3 j hj).2.2⟩, fun j hj => ⟨((f 66 j (by omega) (by omega)).1).trans (y4 j hj).1, ((f 67 j (by omega) (by omega)).1).trans (y4 j hj).2.1, ((f 68 j (by omega) (by omega)).1).trans (y4 j hj).2.2⟩, fun j hj => ((f 69 j (by omega) (by omega)).2).trans (y5 j hj), fun j hj => ?_, fun j hj => ?_, fun j hj => (z3 j hj).trans (e 58 j (by omega) (by omega)), fun j hj => (z4 j hj).trans (e 41 j (by omega) (by omega)), z5.trans (e 0 54 (by omega) (by omega)), ((O2 0 87 (by omega)).1).trans y6⟩, OFF.tr (O2.mono fun k j q => by omega) (O1.mono fun k j q => by omega)⟩
  · obtain ⟨a1, a2, a3, a4⟩ := z1 j hj
    exact ⟨a1.trans (e 36 j (by omega) (by omega)), a2.trans (e 35 j (by omega) (by omega)), a3.trans (e 32 j (by omega) (by omega)), a4.trans (e 31 j (by omega) (by omega))⟩
  · obtain ⟨a1, a2, a3, a4⟩ := z2 j hj
    exact ⟨a1.trans (e 26 j (by omega) (by omega)), a2.trans (e 55 j (by omega) (by omega)), a3.trans (e 56 j (by omega) (by omega)), a4.trans (e 57 j (by omega) (by omega))⟩
end SF8
