/-! PASS 2, THE REFERENCE: for, whole -/
/-- behind the VARIABLE: the STATEMENT, ELEMENTS; s: the slot -/
def P75 (fM : Wd) (lu : Nat → Nat) (cur lev K : Nat) (PT PR : Nat → Nat → Wd → Prop) (P1 : Nat → Nat → Nat → Nat → Wd → Prop) (l : List FEL) (s b q b' q' : Nat) (g : Wd) : Prop :=
  ∃ b1, opW g b 10 (Int32.ofNat (b1 + 1)) 0 0 ∧ P1 (b + 1) q b1 q' g ∧ opW g b1 29 (Int32.ofNat s) 0 0 ∧ fesP fM lu cur lev K PT PR s (b + 1) l (b1 + 1) b' g
/-- for a NAME -/
def PTN (fM : Wd) (lu : Nat → Nat) (cur lev K v b b' : Nat) (g : Wd) : Prop := FLX fM lu cur K 1 v 1 = [] → CDM fM lu lev K 1 v 1 0 b b' g
/-- for an ELEMENT, whose codes begin at r -/
def PTE (r b b' : Nat) (g : Wd) : Prop := opW g b 31 (Int32.ofNat r) 0 0 ∧ b' = b + 1
def PRE9 (r b b' : Nat) (g : Wd) : Prop := opW g b 31 (Int32.ofNat r) 0 0 ∧ opW g (b + 1) 6 0 0 0 ∧ b' = b + 2
def PFN (fM : Wd) (lu : Nat → Nat) (cur lev K v tk : Nat) (P1 : Nat → Nat → Nat → Nat → Wd → Prop) (l : List FEL) (b q b' q' : Nat) (g : Wd) : Prop :=
  opW g b 12 0 0 0 ∧ P75 fM lu cur lev K (PTN fM lu cur lev K v) (cdY fM lev (lu tk)) P1 l q (b + 1) (q + 1) b' q' g
def PFE (fM : Wd) (lu : Nat → Nat) (cur lev K v : Nat) (P1 : Nat → Nat → Nat → Nat → Wd → Prop) (l : List FEL) (b q b' q' : Nat) (g : Wd) : Prop :=
  opW g b 12 0 0 0 ∧ ∃ b1, opW g (b + 1) 10 (Int32.ofNat (b1 + 1)) 0 0 ∧ (elF fM lu cur K v = [] → elCM fM lu lev K v (b + 2) b1 g) ∧ opW g b1 32 0 0 0 ∧ P75 fM lu cur lev K (PTE (b + 2)) (PRE9 (b + 2)) P1 l q (b1 + 1) (q + 1) b' q' g
section EX
variable {kd wr nm : Nat → Nat} {vv : Nat → Int64} {m lev cur : Nat} {fA fM : Wd} {c c1 c2 c' d C TK : Nat → Nat} {SL : Nat → List Nat} {w u v' : Wd} {L L1 L2 LT LR : List (Nat × Int32)} {P P1 P2 : Nat → Nat → Nat → Nat → Wd → Prop} {PT PR : Nat → Nat → Wd → Prop} {i i0 i1 i2 i3 v : Nat} {lu : Nat → Nat} {R X ty : Int32}
theorem EST.posq {a0 a1 a2 a3 a4 a5 : Nat} (h : EST kd wr m fM lev cur i0 i1 c c1 w u L P a0 a1 a2 a3 a4 a5) : EST kd wr m fM lev cur i0 i1 c c1 w u L (fun b q b' q' g => (b = c 0 ∧ q = c 5) ∧ P b q b' q' g) a0 a1 a2 a3 a4 a5 := by
  obtain ⟨h1, h2, h3, h4, h5, h6, h7, h8, h9⟩ := h
  exact ⟨h1, h2, h3, h4, h5, h6, h7, h8, fun g hg => ⟨⟨rfl, rfl⟩, h9 g hg⟩⟩
theorem fv_name (hT : TBM kd wr nm vv m C TK SL fA fM) (hcu : CUR fM cur) {stk : List Nat} (hU : UPM (C 2) fM stk) (hl : stk.length < 9000) {K tk : Nat} (hv : v < 24000) (h7 : gi fM 7 v = 3) (h12 : gi fM 12 v = Int32.ofNat tk) (h13 : gi fM 13 v = hdM stk) (ht : tk < m) (hk : kd tk = 2) : FVT kd wr m fM lev cur v (-1) X (plT fM cur 1 (luN nm TK SL stk tk)) (FLX fM (luN nm TK SL stk) cur (K + 1) 1 v 1) (PTN fM (luN nm TK SL stk) cur lev (K + 1) v) ∧ FVR kd wr m fM lev cur v (-1) X (flY fM (luN nm TK SL stk tk) tk) (cdY fM lev (luN nm TK SL stk tk)) := by
  have hm := hT.2.1.1.1
  have hnd : nd fM 12 v = tk := by
    unfold nd
    rw [h12, tc_iN (by omega)]
  have n4 : ¬ gi fM 7 v = 4 := by rw [h7]; decide
  refine ⟨fun c w hG hR hX hc hf => ?_, fun c w hG hR hX hc hf => ?_⟩
  · obtain ⟨u, c', o, E⟩ := ps_name0 (k := K) (N := 1699) (f := 1) hT hU hl hv h7 h12 h13 ht hk (by omega) hcu.1 hcu.2 c 0 w hG.1 hf
    rw [if_neg n4, hnd] at o
    refine ⟨u, cM c c', ?_, ⟨(E.2.2.1 0 85 (by unfold PGX; omega)).1.trans hR, (E.2.2.1 0 86 (by unfold PGX; omega)).1.trans hX⟩, fun i => (EST.em (i := i) hG E).wk (fun b q b' q' g hg => hg) (by omega)⟩
    unfold fX12_target
    rw [hR, if_neg (by decide), show RX12_mustBe 1700 5 (Int32.ofNat v) 1 0 w = _ from o, bn2_so]
  · obtain ⟨u, c', o, E⟩ := g_named hT hG.1 hU hl hv h12 h13 ht hk (by omega) (by unfold FIT at hf; omega)
    refine ⟨tyY fM (luN nm TK SL stk tk), u, cM c c', ?_, ⟨(E.2.2.1 0 85 (by unfold PGX; omega)).1.trans hR, (E.2.2.1 0 86 (by unfold PGX; omega)).1.trans hX⟩, fun i => (EST.em (i := i) hG E).wk (fun b q b' q' g hg => hg) (by omega)⟩
    unfold fX12_read
    rw [hR, if_neg (by decide), o, bn2_so]
theorem fv_elem {r : Nat} (hr : r < 2147483648) : FVT kd wr m fM lev cur v (Int32.ofNat r) X X [] (PTE r) ∧ FVR kd wr m fM lev cur v (Int32.ofNat r) X [] (PRE9 r) := by
  have hT : FVT kd wr m fM lev cur v (Int32.ofNat r) X X [] (PTE r) := fun c w hG hR hX hc hf => by
    obtain ⟨u, d, o, q, ⟨r1, r2⟩, _, E⟩ := EST.opA hG (by omega) 31 (Int32.ofNat r) 0 0
    refine ⟨u, d, ?_, ⟨r1.trans hR, r2.trans hX⟩, fun i => (E i).wk (fun b q b' q' g hg => hg) (by omega)⟩
    unfold fX12_target
    rw [hR, if_pos (zl_iN hr), o, bn2_so, r2, hX]
  refine ⟨hT, fun c w hG hR hX hc hf => ?_⟩
  obtain ⟨u, d, o, ⟨r1, r2⟩, E⟩ := hT c w hG hR hX hc hf
  have hb := (E 0).2.2.2.2.2.2.2.1
  obtain ⟨u2, d2, o2, q2, ⟨r3, r4⟩, _, E2⟩ := EST.opA (E 0).1 (by omega) 6 0 0 0
  refine ⟨X, u2, d2, ?_, ⟨r3.trans r1, r4.trans r2⟩, fun i => (((E i).seq (E2 i)).fls rfl).wk (fun b q b' q' g hg => ?_) (by omega)⟩
  · unfold fX12_read
    rw [hR, if_pos (zl_iN hr), o, bn2_so, o2, bn2_so]
  · obtain ⟨b1, q1, ⟨⟨g1, g2⟩, g3⟩, ⟨g4, g5⟩, g6⟩ := hg
    subst g2 g3
    exact ⟨⟨g1, g4, g5⟩, g6⟩
theorem for_75 {K N n tv s y Ty : Nat} {l : List FEL} (hT : FVT kd wr m fM lev cur v R X ty LT PT) (hRd : FVR kd wr m fM lev cur v R X LR PR) (hv : v < 24000) (hv12 : gi fM 12 v = Int32.ofNat tv) (htv : tv ≤ m) (hn : n < 24000) (h8 : gi fM 8 n = Int32.ofNat v) (h10 : gi fM 10 n = Int32.ofNat y) (hS : STS kd wr m fM lev cur N i0 i1 y Ty L1 P1) (hi : i0 ≤ i1) (hl : nxC fM (l.map Prod.fst) (gi fM 9 n)) (hE : ∀ x ∈ l, feS kd wr m fM lu lev cur K x) (hll : l.length ≤ 9000) (hG : GST kd wr m fM lev cur c w) (hX : gi w 0 86 = X) (hf : FITS c (Ty + fesT l + 1)) :
    ∃ u c', fX12_forCode_75 (RX12_row N) (Int32.ofNat n) (Int32.ofNat s) R w = some (0, u) ∧ EST kd wr m fM lev cur i0 i1 c c' w u (L1 ++ fesL fM lu cur K v ty LT LR l) (P75 fM lu cur lev K PT PR P1 l s) (4 * Ty + 4 * fesT l + 2) (Ty / 2 + fesT l / 2) ((Ty + 1) / 2 + fesT l / 2) (Ty / 2 + fesT l / 2) Ty Ty := by
  unfold FITS at hf
  obtain ⟨u1, c1, o1, q1, ⟨r1, r1'⟩, d1, E1⟩ := EST.opA hG (by omega) 10 0 0 0
  obtain ⟨u2, c2, o2, E2⟩ := hS c1 u1 (E1 0).1 (by unfold FITS; omega)
  have hb2 := E2.2.2.2.2.2.2.2.1
  obtain ⟨u3, c3, o3, q3, _, d3, E3⟩ := EST.opA E2.1 (by omega) 29 (Int32.ofNat s) 0 0
  have hj : EST kd wr m fM lev cur i0 i1 c1 c3 u1 u3 _ _ _ _ _ _ _ _ := (E2.seq (E3 i1))
  subst d1
  obtain ⟨u4, o4, E4, _⟩ := EST.jmp (E1 i0) hj (by omega)
  have E5 := EST.reg (i := i1) E4.1 (j := 85) (x := R) (Or.inl rfl)
  have E6 := EST.reg (i := i1) E5.1 (j := 86) (x := X) (Or.inr rfl)
  obtain ⟨fo, hfo⟩ := FU_ge (k := l.length + 1) (by omega)
  obtain ⟨u7, c7, o7, E7⟩ := fe_loop (s := s) (x4 := upC c 0 (c 0 + 1) 0) (rc := RX12_row N) hT hRd hv hv12 htv hn h8 l hE _ fo c3 _ hl E6.1 (by rw [gi_si1 (by omega), gi_si0]) (gi_si0 _ _ _ _) (by unfold FITS; omega)
  refine ⟨u7, c7, ?_, (((E4.seq (E5.seq (E6.seq (E7 i1)))).posq).fls (by simp)).wk (fun b q b' q' g hg => ?_) (by omega)⟩
  · have e64 : gi u1 0 64 = Int32.ofNat (upC c 0 (c 0 + 1) 0) := (E1 0).1.1.2.2.1.1
    unfold fX12_forCode_75
    rw [hX, ltq, o1, bn2_so, e64, ltq, if_pos (inb_iN hn (by omega)), tc_iN (by omega), (E1 0).1.fx (k := 10) (by unfold PGM PGX; omega), h10, o2, bn2_so, o3, bn2_so, o4, bn_so, ltq, ltq, if_pos (inb_iN hn (by omega)), E6.1.fx (k := 9) (by unfold PGM PGX; omega), ltq, hfo, ← Nat.add_assoc]
    exact o7
  · obtain ⟨⟨z1, z2⟩, b1, qa, ⟨g1, b2, q2', g2, ⟨g3, g4⟩, g5⟩, b3, qb, ⟨g6, g7⟩, b4, qc, ⟨g8, g9⟩, g10, g11⟩ := hg
    subst g4 g5 g6 g7 g8 g9 g11
    rw [q1.1, ← z1] at g10
    exact ⟨b2, g1, g2, g3, g10⟩
theorem stp_forn (hT : TBM kd wr nm vv m C TK SL fA fM) (hcu : CUR fM cur) {stk : List Nat} (hU : UPM (C 2) fM stk) (hsl : stk.length < 9000) {K N n tk y Ty T : Nat} {l : List FEL} (hn : n < 24000) (hn7 : gi fM 7 n = 26) (h8 : gi fM 8 n = Int32.ofNat v) (hv : v < 24000) (h7 : gi fM 7 v = 3) (h12 : gi fM 12 v = Int32.ofNat tk) (h13 : gi fM 13 v = hdM stk) (ht : tk < m) (hk : kd tk = 2) (h10 : gi fM 10 n = Int32.ofNat y) (hS : STS kd wr m fM lev cur N i0 i1 y Ty L1 P1) (hi : i0 ≤ i1) (hl : nxC fM (l.map Prod.fst) (gi fM 9 n)) (hE : ∀ x ∈ l, feS kd wr m fM (luN nm TK SL stk) lev cur (K + 1) x) (hll : l.length ≤ 9000) (hTT : Ty + fesT l + 3 ≤ T) :
    STP kd wr m fM lev cur (N + 1) i0 i1 n T (L1 ++ fesL fM (luN nm TK SL stk) cur (K + 1) v (plT fM cur 1 (luN nm TK SL stk tk)) (FLX fM (luN nm TK SL stk) cur (K + 1) 1 v 1) (flY fM (luN nm TK SL stk tk) tk) l) (PFN fM (luN nm TK SL stk) cur lev (K + 1) v tk P1 l) := by
  intro c w k hG hf
  unfold FITS at hf
  obtain ⟨u1, c1, o1, q1, _, d1, E1⟩ := EST.opA hG (by omega) 12 0 0 0
  have G1 := (E1 0).1
  have E2 := EST.slot (i := i0) G1
  have e0 : ∀ j, j ≠ 5 → upC c1 5 (c1 5 + 1) j = c1 j := fun j hj => upC_n hj
  have e5 : upC c1 5 (c1 5 + 1) 5 = c1 5 + 1 := upC_s
  generalize upC c1 5 (c1 5 + 1) = c2 at E2 e0 e5
  have E3 := EST.reg (i := i0) E2.1 (j := 85) (x := -1) (Or.inl rfl)
  obtain ⟨hVT, hVR⟩ := fv_name (lev := lev) (X := gi (si (si u1 35 cur (Int32.ofNat (c1 5 + 1))) 0 85 (-1)) 0 86) (K := K) hT hcu hU hsl hv h7 h12 h13 ht hk
  obtain ⟨u4, c4, o4, E4⟩ := for_75 (s := c1 5) hVT hVR hv h12 (by omega) hn h8 h10 hS hi hl hE hll E3.1 rfl (by unfold FITS; rw [e0 0 (by omega), e0 1 (by omega), e0 2 (by omega), e0 3 (by omega), e0 4 (by omega), e5]; omega)
  refine ⟨u4, c4, ?_, (((E1 i0).seq ((E2.seq (E3.seq E4)).posq)).fls (by simp)).wk (fun b q b' q' g hg => ?_) (by omega)⟩
  · have hcur := hcu.1
    have hn4 : ¬ gi fM 7 v = 4 := by rw [h7]; decide
    have h2 : RX12_row (N + 1) 2 (Int32.ofNat n) 0 0 u1 = some (0, u4) := by
      rw [rr2]
      unfold fX12_forCode fX12_forSlot
      have e66 : gi u1 0 66 = Int32.ofNat cur := G1.1.2.2.2.2.1
      rw [e66, if_pos (inb_iN hcur (by omega)), if_pos (inb_iN hcur (by omega)), tc_iN (by omega), G1.2.2, ad1_iN, ltq, bn2_so, ltq, if_pos (inb_iN hn (by omega)), tc_iN (show n < 2147483648 by omega), E3.1.fx (k := 8) (by unfold PGM PGX; omega), h8, if_pos (inb_iN hv (by omega)), tc_iN (show v < 2147483648 by omega), E3.1.fx (k := 7) (by unfold PGM PGX; omega), if_neg hn4]
      exact o4
    unfold fX12_statementCode_7
    rw [if_pos (by decide), if_pos (inb_iN hn (by omega)), tc_iN (by omega), hG.fx (k := 7) (by unfold PGM PGX; omega), hn7, if_neg (by decide), o1, bn2_so, if_pos (inb_iN hn (by omega)), G1.fx (k := 7) (by unfold PGM PGX; omega), hn7, ltq, if_neg (by decide), if_neg (by decide), if_neg (by decide), if_neg (by decide), if_neg (by decide), if_pos rfl, h2, bn2_so]
  · obtain ⟨b1, qa, ⟨⟨g1, g2⟩, g3⟩, ⟨z1, z2⟩, b2, q2, ⟨g4, g5⟩, b3, q3, ⟨g6, g7⟩, g8⟩ := hg
    subst g2 g3 g4 g5 g6 g7
    rw [← z2] at g8
    exact ⟨g1, g8⟩
theorem stp_fore (hT : TBM kd wr nm vv m C TK SL fA fM) (hcu : CUR fM cur) {stk : List Nat} (hU : UPM (C 2) fM stk) (hsl : stk.length < 9000) {K N n tk y Ty T : Nat} {l : List FEL} {ps : List (Nat × Nat)} (hn : n < 24000) (hn7 : gi fM 7 n = 26) (h8 : gi fM 8 n = Int32.ofNat v) (hv : v < 24000) (h7 : gi fM 7 v = 4) (h12 : gi fM 12 v = Int32.ofNat tk) (h13 : gi fM 13 v = hdM stk) (ht : tk < m) (hk : kd tk = 2) (hx : nxC fM (ps.map Prod.fst) (gi fM 8 v)) (hps : ∀ p ∈ ps, RWN kd wr m fM (luN nm TK SL stk) lev cur K 1698 p) (hlen : ps.length ≤ K) (h10 : gi fM 10 n = Int32.ofNat y) (hS : STS kd wr m fM lev cur N i0 i1 y Ty L1 P1) (hi : i0 ≤ i1) (hl : nxC fM (l.map Prod.fst) (gi fM 9 n)) (hE : ∀ x ∈ l, feS kd wr m fM (luN nm TK SL stk) lev cur K x) (hll : l.length ≤ 9000) (hTT : smT ps + Ty + fesT l + 4 ≤ T) :
    STP kd wr m fM lev cur (N + 1) i0 i1 n T (elF fM (luN nm TK SL stk) cur K v ++ L1 ++ fesL fM (luN nm TK SL stk) cur K v (tyE fM (luN nm TK SL stk (nd fM 12 v))) [] [] l) (PFE fM (luN nm TK SL stk) cur lev K v P1 l) := by
  intro c w k hG hf
  unfold FITS at hf
  obtain ⟨u1, c1, o1, q1, _, d1, E1⟩ := EST.opA hG (by omega) 12 0 0 0
  have G1 := (E1 0).1
  have E2 := EST.slot (i := i0) G1
  have e0 : ∀ j, j ≠ 5 → upC c1 5 (c1 5 + 1) j = c1 j := fun j hj => upC_n hj
  have e5 : upC c1 5 (c1 5 + 1) 5 = c1 5 + 1 := upC_s
  generalize upC c1 5 (c1 5 + 1) = c2 at E2 e0 e5
  have E3 := EST.reg (i := i0) E2.1 (j := 85) (x := -1) (Or.inl rfl)
  have g0 := e0 0 (by omega)
  have g1' := e0 1 (by omega)
  have g2' := e0 2 (by omega)
  have g3' := e0 3 (by omega)
  have g4' := e0 4 (by omega)
  obtain ⟨u4, c4, o4, q4, _, d4, E4⟩ := EST.opA E3.1 (by omega) 10 0 0 0
  obtain ⟨u5, c5, o5, E5⟩ := g_elem (k := K) (N := 1698) hT (E4 0).1.1 hU hsl hv h12 h13 ht hk hx hps hlen (by unfold FIT; omega)
  have E5' := EST.em (i := i0) (E4 0).1 E5
  have hb5 := E5'.2.2.2.2.2.2.2.1
  generalize cM c4 c5 = c5' at E5' hb5
  have E6 := EST.reg (i := i0) E5'.1 (j := 86) (x := tyE fM (luN nm TK SL stk (nd fM 12 v))) (Or.inr rfl)
  obtain ⟨u7, c7, o7, q7, ⟨r7, r7'⟩, d7, E7⟩ := EST.opA E6.1 (by omega) 32 0 0 0
  subst d4
  obtain ⟨u8, o8, E8, r8, r8'⟩ := EST.jmp (E4 i0) (E5'.seq (E6.seq (E7 i0))) (by omega)
  have hX8 : gi u8 0 86 = tyE fM (luN nm TK SL stk (nd fM 12 v)) := r8'.trans (r7'.trans (gi_si0 _ _ _ _))
  generalize hc4 : upC c2 0 (c2 0 + 1) = c4 at *
  obtain ⟨hVT, hVR⟩ := fv_elem (kd := kd) (wr := wr) (m := m) (fM := fM) (lev := lev) (cur := cur) (v := v) (X := tyE fM (luN nm TK SL stk (nd fM 12 v))) (r := c4 0) (by omega)
  obtain ⟨u9, c9, o9, E9⟩ := for_75 (s := c1 5) hVT hVR hv h12 (by omega) hn h8 h10 hS hi hl hE hll E8.1 hX8 (by unfold FITS; omega)
  refine ⟨u9, c9, ?_, (((E1 i0).seq ((E2.seq (E3.seq (E8.pos.seq E9))).posq)).fls (by simp)).wk (fun b q b' q' g hg => ?_) (by omega)⟩
  · have hcur := hcu.1
    have h2 : RX12_row (N + 1) 2 (Int32.ofNat n) 0 0 u1 = some (0, u9) := by
      rw [rr2]
      unfold fX12_forCode fX12_forSlot
      have e66 : gi u1 0 66 = Int32.ofNat cur := G1.1.2.2.2.2.1
      have o5' : RX12_mustBe 1700 4 (Int32.ofNat v) 0 0 u4 = some (tyE fM (luN nm TK SL stk (nd fM 12 v)), u5) := o5
      have e64 : gi u4 0 64 = Int32.ofNat (c4 0) := (E4 0).1.1.2.2.1.1
      have hi : inb (Int32.ofNat n) 24000 = true := inb_iN hn (by omega)
      have ht : (Int32.ofNat n).toNatClampNeg = n := tc_iN (by omega)
      rw [e66, if_pos (inb_iN hcur (by omega)), if_pos (inb_iN hcur (by omega)), tc_iN (by omega), G1.2.2, ad1_iN, ltq, bn2_so, ltq, if_pos hi, ht, E3.1.fx (k := 8) (by unfold PGM PGX; omega), h8, if_pos (inb_iN hv (by omega)), tc_iN (show v < 2147483648 by omega), E3.1.fx (k := 7) (by unfold PGM PGX; omega), if_pos h7, o4, bn2_so, e64, ltq, if_pos hi, (E4 0).1.fx (k := 8) (by unfold PGM PGX; omega), h8, o5', bn2_so, ltq, o7, bn2_so, o8, bn_so]
      exact o9
    unfold fX12_statementCode_7
    rw [if_pos (by decide), if_pos (inb_iN hn (by omega)), tc_iN (by omega), hG.fx (k := 7) (by unfold PGM PGX; omega), hn7, if_neg (by decide), o1, bn2_so, if_pos (inb_iN hn (by omega)), G1.fx (k := 7) (by unfold PGM PGX; omega), hn7, ltq, if_neg (by decide), if_neg (by decide), if_neg (by decide), if_neg (by decide), if_neg (by decide), if_pos rfl, h2, bn2_so]
  · obtain ⟨b1, qa, ⟨⟨g1, g2⟩, g3⟩, ⟨z1, z2⟩, b2, q2, ⟨g4, g5⟩, b3, q3, ⟨g6, g7⟩, b4, q4', ⟨⟨z3, z4⟩, g8, b5, q5, ⟨g9, g10⟩, b6, q6, ⟨g11, g12⟩, ⟨g13, g14⟩, g15⟩, g16⟩ := hg
    subst g2 g3 g4 g5 g6 g7 g10 g11 g12 g14 g15
    have hr : c4 0 = b + 1 + 1 := by omega
    rw [← z2, hr] at g16
    exact ⟨g1, b6, g8, g9, g13, g16⟩
end EX
