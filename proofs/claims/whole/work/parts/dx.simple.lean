/-! PASS 2, THE REFERENCE: places, calls and AIMS of STATEMENTS; LABELS; the plainest STATEMENTS -/
section EX
variable {kd wr nm : Nat → Nat} {vv : Nat → Int64} {m lev cur : Nat} {fA fM : Wd} {c c1 c2 c' C TK : Nat → Nat} {SL : Nat → List Nat} {w u v : Wd} {L L1 L2 : List (Nat × Int32)} {P P1 P2 : Nat → Nat → Nat → Nat → Wd → Prop} {i i0 i1 i2 i3 : Nat}
theorem rwc_row (hT : TBM kd wr nm vv m C TK SL fA fM) (hFM : PFM fM (C 1)) (hcu : CUR fM cur) (hk9 : ∀ i, 9000 ≤ i → kd i = 0) {stk : List Nat} (hU : UPM (C 2) fM stk) (hl : stk.length < 9000) {so : Int32} {cc lo n d s e : Nat} (h : RWC kd (hdM stk) so cc lo n d s e fA fM) (hn : n < 24000) (he : e ≤ m) :
    ∃ ps : List (Nat × Nat), nxC fM (ps.map Prod.fst) (gi fM 8 n) ∧ gi fM 9 n = Int32.ofNat ps.length ∧ smT ps + 2 = e - s ∧ s + 3 < e ∧ ps.length ≤ n ∧ 1 ≤ ps.length ∧ 2 * ps.length ≤ smT ps ∧ ∀ p ∈ ps, p.1 < n ∧ ∃ cn, ALN kd wr m fM (luN nm TK SL stk) lev cur p.1 p.2 cn (40 * (40 - d) + 36) := by
  obtain ⟨hd, h7, xs, e1, c1, c2, c3, c4, c5, c6, _⟩ := h
  obtain ⟨ps, p1, p2, p3, p4, p5, p6⟩ := row_ps (bnd := n) (by omega) (fun lo x s e cn hw hx he => by
    have := pwr_all (lev := lev) hT hFM hcu hk9 hU hl 41 lo x (d + 1) s e cn hw (by omega) he
    rw [show 41 - (d + 1) = 40 - d by omega] at this
    exact this) xs lo (s + 2) e1 (gi fM 8 n) c3 c4 (by omega) c1
  have hlen : ps.length = xs.length := by rw [← p1, List.length_map]
  rw [← p1] at p2
  refine ⟨ps, p2, by rw [hlen]; exact c2, by omega, by omega, by omega, ?_, ?_, p6⟩
  · cases ps with
    | nil => exact absurd p3 (by show ¬ (0 = e1 - (s + 2) + 1); omega)
    | cons p r => exact Nat.succ_le_succ (Nat.zero_le _)
  · have : ∀ ps : List (Nat × Nat), (∀ p ∈ ps, 1 ≤ p.2) → 2 * ps.length ≤ smT ps := by
      intro ps
      induction ps with
      | nil => exact fun _ => Nat.le_refl _
      | cons q r ih =>
        intro h
        have h1 := h q List.mem_cons_self
        have h2 := ih (fun q hq => h q (List.mem_cons_of_mem _ hq))
        show 2 * (r.length + 1) ≤ q.2 + 1 + smT r
        omega
    exact this ps (fun p hp => by
      obtain ⟨_, _, a⟩ := p6 p hp
      exact a.2.1)
/-- a place -/
theorem plc_ps (hT : TBM kd wr nm vv m C TK SL fA fM) (hFM : PFM fM (C 1)) (hcu : CUR fM cur) (hk9 : ∀ i, 9000 ≤ i → kd i = 0) {stk : List Nat} (hU : UPM (C 2) fM stk) (hl : stk.length < 9000) {lo n d s e : Nat} (h : PLC kd (hdM stk) lo n d s e fA fM) (hn : n < 24000) (he : e ≤ m) (hd : d ≤ 40) :
    s < e ∧ ∀ K N f, f ≤ 1 → 4 * n + 1 ≤ K → 40 * (41 - d) ≤ N → PS kd wr m fM (luN nm TK SL stk) lev cur K N n f (e - s) := by
  obtain ⟨hk, h12, h13, ⟨q1, q2, q3⟩ | ⟨q1, q2⟩⟩ := h
  · refine ⟨by omega, fun K N f hf hK hN => ?_⟩
    obtain ⟨k, rfl⟩ : ∃ k, K = k + 1 := ⟨K - 1, by omega⟩
    obtain ⟨N1, rfl⟩ : ∃ N1, N = N1 + 1 := ⟨N - 1, by omega⟩
    rw [show e - s = 1 by omega]
    exact ps_name hT hU hl hn q2 h12 h13 (by omega) hk hf hcu.1 hcu.2
  · obtain ⟨ps, p1, p2, p3, p4, p5, p6, p7, p8⟩ := rwc_row (lev := lev) hT hFM hcu hk9 hU hl q2 hn he
    refine ⟨by omega, fun K N f hf hK hN => ?_⟩
    have hd39 := q2.1
    obtain ⟨k, rfl⟩ : ∃ k, K = k + 1 := ⟨K - 1, by omega⟩
    obtain ⟨N1, rfl⟩ : ∃ N1, N = N1 + 3 := ⟨N - 3, by omega⟩
    rw [← p3]
    refine ps_index hT hU hl hn q2.2.1 h12 h13 (by omega) hk p1 (fun p hp => ?_) (by omega)
    obtain ⟨hp0, cp, a1, a2, ⟨tx, a31, a32⟩, a4, _⟩ := p8 p hp
    exact ⟨a4 k N1 (by omega) (by omega), ⟨tx, a31, by omega⟩, a2⟩
/-- a call that stands alone -/
theorem clc_cls (hT : TBM kd wr nm vv m C TK SL fA fM) (hFM : PFM fM (C 1)) (hcu : CUR fM cur) (hk9 : ∀ i, 9000 ≤ i → kd i = 0) {stk : List Nat} (hU : UPM (C 2) fM stk) (hl : stk.length < 9000) {lo n d s e : Nat} (hk : kd s = 2) (h12 : gi fM 12 n = Int32.ofNat s) (h13 : gi fM 13 n = hdM stk) (h : RWC kd (hdM stk) 5 44 lo n d s e fA fM) (hn : n < 24000) (he : e ≤ m) :
    s < e ∧ ∀ K N, 4 * n + 2 ≤ K → 40 * (41 - d) + 1 ≤ N → CLS kd wr m fM (luN nm TK SL stk) lev cur K N n 1 (e - s) := by
  have hm := hT.2.1.1.1
  obtain ⟨ps, p1, p2, p3, p4, p5, p6, p7, p8⟩ := rwc_row (lev := lev) hT hFM hcu hk9 hU hl h hn he
  refine ⟨by omega, fun K N hK hN => ?_⟩
  have hd39 := h.1
  obtain ⟨k, rfl⟩ : ∃ k, K = k + 2 := ⟨K - 2, by omega⟩
  obtain ⟨N1, rfl⟩ : ∃ N1, N = N1 + 1 := ⟨N - 1, by omega⟩
  rw [← p3]
  refine cl_all hT hFM hU hl hn h.2.1 h12 h13 (by omega) hk p1 p2 (fun p hp => ?_) (by omega) (by omega)
  obtain ⟨hp0, cp, a1, a2, _, a4, a5, a6, a7, a8, a9⟩ := p8 p hp
  exact ⟨fun f hf hx => a7 _ _ f (by omega) (by omega) hf hx, a5 _ _ (by omega) (by omega), a2⟩
/-- ranges the other way round -/
theorem EST.seqd {a0 a1 a2 a3 a4 a5 b0 b1 b2 b3 b4 b5 : Nat} (h : EST kd wr m fM lev cur i1 i2 c c1 w u L1 P1 a0 a1 a2 a3 a4 a5) (h' : EST kd wr m fM lev cur i0 i1 c1 c2 u v L2 P2 b0 b1 b2 b3 b4 b5) (hi : i0 ≤ i1 ∧ i1 ≤ i2 := by omega) : EST kd wr m fM lev cur i0 i2 c c2 w v (L1 ++ L2) (fun b q b' q' g => ∃ b1 q1, P1 b q b1 q1 g ∧ P2 b1 q1 b' q' g) (a0 + b0) (a1 + b1) (a2 + b2) (a3 + b3) (a4 + b4) (a5 + b5) := by
  obtain ⟨h1, h2, h3, h4, h5, h6, h7, h8, h9⟩ := h
  obtain ⟨g1, g2, g3, g4, g5, g6, g7, g8, g9⟩ := h'
  have k4 := h7 4
  have l4 := g7 4
  refine ⟨g1, by rw [g2, h2, FNL_app], OFF.tr g3 h3, g4.tr h4 h7, fun j hj => (g5 j (by omega)).trans (h5 j hj), fun k j q1 q2 hj => (g6 k j q1 q2 (fun q => hj ⟨by omega, by omega, q.2.2⟩)).trans (h6 k j q1 q2 (fun q => hj ⟨by omega, by omega, q.2.2⟩)), fun i => Nat.le_trans (h7 i) (g7 i), by omega, fun g hg => ⟨c1 0, c1 5, h9 g ⟨?_, ?_, ?_⟩, g9 g ⟨?_, ?_, ?_⟩⟩⟩
  · exact (hg.1.sub (fun i => Nat.le_refl _) g7).tr g4.sam
  · exact fun j q1 q2 => (hg.2.1 j q1 (by omega)).trans (g5 j q2)
  · exact fun k j q1 q2 q3 q4 q5 => (hg.2.2 k j q1 q2 (by omega) (by omega) q5).trans (g6 k j q1 q2 (fun q => by omega))
  · exact hg.1.sub h7 (fun i => Nat.le_refl _)
  · exact fun j q1 q2 => hg.2.1 j (by omega) q2
  · exact fun k j q1 q2 q3 q4 q5 => hg.2.2 k j q1 q2 (by omega) (by omega) q5
/-- what a STATEMENT comes to behind its LABELS -/
def STP (kd wr : Nat → Nat) (m : Nat) (fM : Wd) (lev cur N i0 i1 n T : Nat) (L : List (Nat × Int32)) (P : Nat → Nat → Nat → Nat → Wd → Prop) : Prop :=
  ∀ c w k, GST kd wr m fM lev cur c w → FITS c T → ∃ u c', fX12_statementCode_7 (RX12_row N) k (Int32.ofNat n) (-1) w = some (0, u) ∧ EST kd wr m fM lev cur i0 i1 c c' w u L P (4 * T) (T / 2) ((T + 1) / 2) (T / 2) T T
theorem lab_loop {N n i0 : Nat} (hi9 : i0 < 5000) : ∀ (j : Nat), i0 + j ≤ 5000 → (∀ x, x < j → gi fM 43 (i0 + x) = (if x = 0 then -1 else Int32.ofNat (i0 + x - 1)) ∧ gi fM 23 (i0 + x) = Int32.ofNat cur) → ∀ (fo : Nat) (c : Nat → Nat) (w : Wd), GST kd wr m fM lev cur c w →
    ∃ u, oX12_statementCode_7 (RX12_row N) (fo + j + 1) (Int32.ofNat n) (if j = 0 then -1 else Int32.ofNat (i0 + j - 1)) w = fX12_statementCode_7 (RX12_row N) (oX12_statementCode_7 (RX12_row N) fo) (Int32.ofNat n) (-1) u ∧ EST kd wr m fM lev cur i0 (i0 + j) c c w u [] (fun b q b' q' g => (b' = b ∧ q' = q) ∧ ∀ x, x < j → gi g 55 (i0 + x) = Int32.ofNat b) 0 0 0 0 0 0 := by
  intro j
  induction j with
  | zero =>
    intro _ _ fo c w h
    exact ⟨w, rfl, (EST.no h (i := i0)).wk (fun b q b' q' g hg => ⟨hg, fun x hx => absurd hx (by omega)⟩) (by omega)⟩
  | succ j ih =>
    intro hj hL fo c w h
    have hlast := hL j (by omega)
    have he := EST.lab h hlast.2
    obtain ⟨u, u1, u2⟩ := ih (by omega) (fun x hx => hL x (by omega)) fo c _ he.1
    refine ⟨u, ?_, (he.seqd u2).wk (fun b q b' q' g hg => ?_) (by omega)⟩
    · rw [← u1, if_neg (by omega), show i0 + (j + 1) - 1 = i0 + j by omega]
      show fX12_statementCode_7 (RX12_row N) (oX12_statementCode_7 (RX12_row N) (fo + j + 1)) (Int32.ofNat n) (Int32.ofNat (i0 + j)) w = _
      generalize fo + j + 1 = ff
      unfold fX12_statementCode_7
      have e43 : ∀ v, gi (si w 55 (i0 + j) v) 43 (i0 + j) = (if j = 0 then -1 else Int32.ofNat (i0 + j - 1)) := fun v => by
        rw [gi_si1 (by omega), h.fx (by unfold PGM PGX; omega)]
        exact hlast.1
      rw [if_neg (nlt0 (by omega)), if_pos (inb_iN (by omega) (by omega)), tc_iN (by omega), h.1.2.2.1.1, ltq, if_pos (inb_iN (by omega) (by omega)), ltq, e43]
    · obtain ⟨b1, q1, g1, g2⟩ := hg
      obtain ⟨g11, g12, g13⟩ := g1
      subst g11 g12
      refine ⟨g2.1, fun x hx => ?_⟩
      by_cases q : x = j
      · rw [q]; exact g13
      · exact g2.2 x (by omega)
/-- a STATEMENT out of what it comes to behind its LABELS -/
theorem sts_lab {N n T j s i1 : Nat} (hn : n < 24000) (hi9 : i0 < 5000) (hj : i0 + j ≤ 5000) (hL : LBS kd fM n s j i0) (hD : ∀ x, x < j → gi fM 23 (i0 + x) = Int32.ofNat cur) (h : STP kd wr m fM lev cur N (i0 + j) i1 n T L P) (hi1 : i0 + j ≤ i1) : STS kd wr m fM lev cur (N + 1) i0 i1 n T L (fun b q b' q' g => (∀ x, x < j → gi g 55 (i0 + x) = Int32.ofNat b) ∧ P b q b' q' g) := by
  intro c w hG hf
  obtain ⟨fo, hfo⟩ := FU_ge (k := j + 1) (by omega)
  obtain ⟨u, u1, u2⟩ := lab_loop (kd := kd) (wr := wr) (m := m) (lev := lev) (N := N) (n := n) hi9 j hj (fun x hx => ⟨(hL.2 x hx).2.2.1, hD x hx⟩) fo c w hG
  obtain ⟨u', c', v1, v2⟩ := h c u _ u2.1 hf
  refine ⟨u', c', ?_, ((u2.seq v2).fls rfl).wk (fun b q b' q' g hg => ?_) (by omega)⟩
  · show fX12_statementCode (RX12_row N) (Int32.ofNat n) w = _
    unfold fX12_statementCode
    rw [if_pos (inb_iN hn (by omega)), tc_iN (by omega), hG.fx (k := 44) (by unfold PGM PGX; omega), hL.1, ltq, hfo, ← Nat.add_assoc, u1]
    exact v1
  · obtain ⟨b1, q1, ⟨⟨g1, g2⟩, g3⟩, g4⟩ := hg
    subst g1 g2
    exact ⟨g3, g4⟩
/-- DUMMY -/
theorem stp_none {N n : Nat} (hn : n < 24000) (h7 : gi fM 7 n = 20) : STP kd wr m fM lev cur N i i n 0 [] (fun b q b' q' _ => b' = b ∧ q' = q) := by
  intro c w k hG hf
  refine ⟨w, c, ?_, EST.no hG⟩
  unfold fX12_statementCode_7
  rw [if_pos (by decide), if_pos (inb_iN hn (by omega)), tc_iN (by omega), hG.fx (k := 7) (by unfold PGM PGX; omega), h7, if_pos rfl]
/-- print -/
def PRP (fM : Wd) (lu : Nat → Nat) (cur lev K x b q b' q' : Nat) (g : Wd) : Prop := ∃ b2, opW g b 12 0 0 0 ∧ (FLX fM lu cur K 0 x 0 = [] → CDM fM lu lev K 0 x 0 0 (b + 1) b2 g) ∧ opW g b2 13 0 0 0 ∧ b' = b2 + 1 ∧ q' = q
theorem stp_print {N n x K Tx T : Nat} {lu : Nat → Nat} (hn : n < 24000) (h7 : gi fM 7 n = 23) (h8 : gi fM 8 n = Int32.ofNat x) (hx : x < 24000) (hV : VS kd wr m fM lu lev cur K 1700 x Tx) (hTx : 1 ≤ Tx) (hTT : Tx + 1 ≤ T) : STP kd wr m fM lev cur N i i n T (FLX fM lu cur K 0 x 0) (PRP fM lu cur lev K x) := by
  intro c w k hG hf
  unfold FITS at hf
  obtain ⟨u1, o1, E1, _⟩ := EST.op hG (by omega) (a := 12) (x := 0) (y := 0) (z := 0)
  have G1 := (E1 0).1
  have e0 : upC c 0 (c 0 + 1) 0 = c 0 + 1 := upC_s
  have en : ∀ i, i ≠ 0 → upC c 0 (c 0 + 1) i = c i := fun i hi => upC_n hi
  obtain ⟨u2, c2, o2, E2⟩ := hV _ 0 u1 G1.1 (by unfold FIT; rw [e0, en 1 (by omega), en 2 (by omega), en 3 (by omega)]; omega)
  have E2' := EST.em (i := i) G1 E2
  have hb2 := E2'.2.2.2.2.2.2.2.1
  rw [e0] at hb2
  obtain ⟨u3, o3, E3, _⟩ := EST.op E2'.1 (by omega) (a := 13) (x := 0) (y := 0) (z := 0)
  refine ⟨u3, _, ?_, (((E1 i).seq (E2'.seq (E3 i))).fls (by simp)).wk (fun b q b' q' g hg => ?_) (by omega)⟩
  · unfold fX12_statementCode_7
    rw [if_pos (by decide), if_pos (inb_iN hn (by omega)), tc_iN (by omega), hG.fx (k := 7) (by unfold PGM PGX; omega), h7, if_neg (by decide), o1, bn2_so, if_pos (inb_iN hn (by omega)), G1.fx (k := 7) (by unfold PGM PGX; omega), h7, ltq, if_neg (by decide), if_neg (by decide), if_pos rfl, if_pos (inb_iN hn (by omega)), G1.fx (k := 8) (by unfold PGM PGX; omega), h8, o2, bn2_so, o3]
    rfl
  · obtain ⟨b1, q1, ⟨⟨g1, g2⟩, g3⟩, b2, q2, ⟨g4, g5⟩, ⟨g6, g7⟩, g8⟩ := hg
    subst g2 g3 g5
    exact ⟨b2, g1, g4, g6, g7, g8⟩
/-- go to -/
def PGO (fM : Wd) (lu : Nat → Nat) (cur lev K x b q b' q' : Nat) (g : Wd) : Prop := ∃ b2, opW g b 12 0 0 0 ∧ (FLX fM lu cur K 2 x 0 = [] → CDM fM lu lev K 2 x 0 0 (b + 1) b2 g) ∧ opW g b2 19 0 0 0 ∧ b' = b2 + 1 ∧ q' = q
theorem stp_goto {N n x K Tx T : Nat} {lu : Nat → Nat} (hn : n < 24000) (h7 : gi fM 7 n = 24) (h8 : gi fM 8 n = Int32.ofNat x) (hx : x < 24000) (hV : AIS kd wr m fM lu lev cur K 1700 x Tx) (hTx : 1 ≤ Tx) (hTT : Tx + 1 ≤ T) : STP kd wr m fM lev cur N i i n T (FLX fM lu cur K 2 x 0) (PGO fM lu cur lev K x) := by
  intro c w k hG hf
  unfold FITS at hf
  obtain ⟨u1, o1, E1, _⟩ := EST.op hG (by omega) (a := 12) (x := 0) (y := 0) (z := 0)
  have G1 := (E1 0).1
  have e0 : upC c 0 (c 0 + 1) 0 = c 0 + 1 := upC_s
  have en : ∀ i, i ≠ 0 → upC c 0 (c 0 + 1) i = c i := fun i hi => upC_n hi
  obtain ⟨u2, c2, o2, E2⟩ := hV _ 0 u1 G1.1 (by unfold FIT; rw [e0, en 1 (by omega), en 2 (by omega), en 3 (by omega)]; omega)
  have E2' := EST.em (i := i) G1 E2
  have hb2 := E2'.2.2.2.2.2.2.2.1
  rw [e0] at hb2
  obtain ⟨u3, o3, E3, _⟩ := EST.op E2'.1 (by omega) (a := 19) (x := 0) (y := 0) (z := 0)
  refine ⟨u3, _, ?_, (((E1 i).seq (E2'.seq (E3 i))).fls (by simp)).wk (fun b q b' q' g hg => ?_) (by omega)⟩
  · unfold fX12_statementCode_7
    rw [if_pos (by decide), if_pos (inb_iN hn (by omega)), tc_iN (by omega), hG.fx (k := 7) (by unfold PGM PGX; omega), h7, if_neg (by decide), o1, bn2_so, if_pos (inb_iN hn (by omega)), G1.fx (k := 7) (by unfold PGM PGX; omega), h7, ltq, if_neg (by decide), if_neg (by decide), if_neg (by decide), if_pos rfl, if_pos (inb_iN hn (by omega)), G1.fx (k := 8) (by unfold PGM PGX; omega), h8, o2, bn2_so, o3]
    rfl
  · obtain ⟨b1, q1, ⟨⟨g1, g2⟩, g3⟩, b2, q2, ⟨g4, g5⟩, ⟨g6, g7⟩, g8⟩ := hg
    subst g2 g3 g5
    exact ⟨b2, g1, g4, g6, g7, g8⟩
end EX
