/-! PASS 2, THE REFERENCE: ACTUALS in a row -/
/-- as EM, but that the ACTUALS lo .. hi - 1 are noted too -/
def EMR (kd wr : Nat → Nat) (m : Nat) (fM : Wd) (lev cur sp lo hi : Nat) (c c' : Nat → Nat) (w u : Wd) (L : List (Nat × Int32)) (P : Nat → Nat → Wd → Prop) (a0 a1 a2 a3 : Nat) : Prop :=
  GCS kd wr m fM lev cur c' sp u ∧ FLM u = FNL wr L (FLM w) ∧ OFF PGX u w ∧ (∀ k j, (k = 46 ∧ j < 4 * c 0 ∨ (k = 47 ∨ k = 48) ∧ j < c 1 ∨ (49 ≤ k ∧ k ≤ 51) ∧ j < c 2 ∨ (52 ≤ k ∧ k ≤ 54) ∧ j < c 3) → ¬ (52 ≤ k ∧ k ≤ 54 ∧ lo ≤ j ∧ j < hi) → gi u k j = gi w k j) ∧ (∀ j, j < sp → gi u 59 j = gi w 59 j) ∧ LEC c c' ∧ (c' 0 ≤ c 0 + a0 ∧ c' 1 ≤ c 1 + a1 ∧ c' 2 ≤ c 2 + a2 ∧ c' 3 ≤ c 3 + a3) ∧ ∀ g, SAM c c' g u → (∀ k j, 52 ≤ k ∧ k ≤ 54 → lo ≤ j → j < hi → gi g k j = gi u k j) → P (c 0) (c' 0) g
section SG
variable {kd wr nm : Nat → Nat} {vv : Nat → Int64} {m lev cur sp ac lo hi : Nat} {fA fM : Wd} {c c1 c2 C TK : Nat → Nat} {SL : Nat → List Nat} {w u v v' : Wd} {L L1 L2 : List (Nat × Int32)} {P P1 P2 : Nat → Nat → Wd → Prop} {a0 a1 a2 a3 b0 b1 b2 b3 : Nat} {lu : Nat → Nat}
theorem EMR.wk (h : EMR kd wr m fM lev cur sp lo hi c c1 w u L P a0 a1 a2 a3) (hP : ∀ b b' g, P b b' g → P1 b b' g) (hb : a0 ≤ b0 ∧ a1 ≤ b1 ∧ a2 ≤ b2 ∧ a3 ≤ b3) : EMR kd wr m fM lev cur sp lo hi c c1 w u L P1 b0 b1 b2 b3 := by
  obtain ⟨h1, h2, h3, h4, h5, h6, h7, h8⟩ := h
  exact ⟨h1, h2, h3, h4, h5, h6, by omega, fun g hg hk => hP _ _ _ (h8 g hg hk)⟩
theorem EMR.fls (h : EMR kd wr m fM lev cur sp lo hi c c1 w u L1 P a0 a1 a2 a3) (hL : L1 = L2) : EMR kd wr m fM lev cur sp lo hi c c1 w u L2 P a0 a1 a2 a3 := hL ▸ h
theorem EMR.no (h : GCS kd wr m fM lev cur c sp w) : EMR kd wr m fM lev cur sp lo lo c c w w [] (fun b b' _ => b' = b) 0 0 0 0 :=
  ⟨h, rfl, OFF.rf, fun _ _ _ _ => rfl, fun _ _ => rfl, LEC.rf, by omega, fun _ _ _ => rfl⟩
theorem EMA.row (h : EMA kd wr m fM lev cur sp lo c c1 w u L1 P1 a0 a1 a2 a3) (h' : EMR kd wr m fM lev cur sp (lo + 1) hi c1 c2 u v L2 P2 b0 b1 b2 b3) (hlo : lo < hi) (hhi : hi ≤ c 3) : EMR kd wr m fM lev cur sp lo hi c c2 w v (L1 ++ L2) (fun b b' g => ∃ b1, P1 b b1 g ∧ P2 b1 b' g) (a0 + b0) (a1 + b1) (a2 + b2) (a3 + b3) := by
  obtain ⟨h1, h2, h3, h4, h5, h6, h7, h8⟩ := h
  obtain ⟨g1, g2, g3, g4, g5, g6, g7, g8⟩ := h'
  have i0 := h6 0
  have i1 := h6 1
  have i2 := h6 2
  have i3 := h6 3
  refine ⟨g1, by rw [g2, h2, FNL_app], OFF.tr g3 h3, fun k j hk hn => ?_, fun j hj => (g5 j hj).trans (h5 j hj), fun i => Nat.le_trans (h6 i) (g6 i), by omega, fun g hg hk => ⟨c1 0, h8 g ?_ ?_, g8 g ?_ ?_⟩⟩
  · exact (g4 k j (by omega) (by omega)).trans (h4 k j hk (by omega))
  · intro k j hkj
    have j0 := g6 0
    have j1 := g6 1
    have j2 := g6 2
    have j3 := g6 3
    exact (hg k j (by omega)).trans (g4 k j (by omega) (by omega))
  · intro k hkk
    exact (hk k lo hkk (Nat.le_refl _) hlo).trans (g4 k lo (by omega) (by omega))
  · exact hg.sub h6 (fun i => Nat.le_refl _)
  · exact fun k j hkk q1 q2 => hk k j hkk (by omega) q2
/-- counters that are set -/
theorem GCS.acts (h : GCS kd wr m fM lev cur c sp w) (v : Nat) : GCS kd wr m fM lev cur (upC c 3 v) sp (si w 0 77 (Int32.ofNat v)) := by
  obtain ⟨⟨⟨a1, a2, a3, a4, a5⟩, a6, a7, a8, a9⟩, h2, ⟨h3, h4, h5, h6⟩, h7, h8, h9⟩ := h
  refine ⟨⟨⟨a1, a2, a3, a4, fun i hi => by rw [gi_si1 (by omega), gi_si1 (by omega)]; exact a5 i hi⟩, a6, a7, by rw [gi_si1 (by omega)]; exact a8, by rw [gi_si1 (by omega)]; exact a9⟩, OFF.tr (OFF.si (by unfold PGM PGX; omega)) h2, ⟨?_, ?_, ?_, ?_⟩, ?_, ?_, ?_⟩
  · rw [upC_n (by omega), gi_si1 (by omega)]; exact h3
  · rw [upC_n (by omega), gi_si1 (by omega)]; exact h4
  · rw [upC_n (by omega), gi_si1 (by omega)]; exact h5
  · rw [upC_s]; exact gi_si0 _ _ _ _
  · rw [gi_si1 (by omega)]; exact h7
  · rw [gi_si1 (by omega)]; exact h8
  · rw [gi_si1 (by omega)]; exact h9
theorem GCS.sites (h : GCS kd wr m fM lev cur c sp w) (v : Nat) : GCS kd wr m fM lev cur (upC c 2 v) sp (si w 0 73 (Int32.ofNat v)) := by
  obtain ⟨⟨⟨a1, a2, a3, a4, a5⟩, a6, a7, a8, a9⟩, h2, ⟨h3, h4, h5, h6⟩, h7, h8, h9⟩ := h
  refine ⟨⟨⟨a1, a2, a3, a4, fun i hi => by rw [gi_si1 (by omega), gi_si1 (by omega)]; exact a5 i hi⟩, a6, a7, by rw [gi_si1 (by omega)]; exact a8, by rw [gi_si1 (by omega)]; exact a9⟩, OFF.tr (OFF.si (by unfold PGM PGX; omega)) h2, ⟨?_, ?_, ?_, ?_⟩, ?_, ?_, ?_⟩
  · rw [upC_n (by omega), gi_si1 (by omega)]; exact h3
  · rw [upC_n (by omega), gi_si1 (by omega)]; exact h4
  · rw [upC_s]; exact gi_si0 _ _ _ _
  · rw [upC_n (by omega), gi_si1 (by omega)]; exact h6
  · rw [gi_si1 (by omega)]; exact h7
  · rw [gi_si1 (by omega)]; exact h8
  · rw [gi_si1 (by omega)]; exact h9
/-- room for ACTUALS, then their row -/
theorem EMR.em {b : Nat} (h : EMR kd wr m fM lev cur sp (c 3) (c 3 + b) (upC c 3 (c 3 + b)) c1 (si w 0 77 (Int32.ofNat (c 3 + b))) u L P a0 a1 a2 a3) : EM kd wr m fM lev cur sp c c1 w u L P a0 a1 a2 (b + a3) := by
  obtain ⟨h1, h2, h3, h4, h5, h6, h7, h8⟩ := h
  have e3 : upC c 3 (c 3 + b) 3 = c 3 + b := upC_s
  have en : ∀ i, i ≠ 3 → upC c 3 (c 3 + b) i = c i := fun i hi => upC_n hi
  have i3 := h6 3
  rw [e3] at i3 h7 h4
  rw [en 0 (by omega), en 1 (by omega), en 2 (by omega)] at h7 h4
  rw [en 0 (by omega)] at h8
  have hO : OFF (fun k j => k = 0 ∧ j = 77) (si w 0 77 (Int32.ofNat (c 3 + b))) w := OFF.si ⟨rfl, rfl⟩
  have hle : LEC c c1 := fun i => Nat.le_trans (LEC.up (c := c) (i := 3) (v := c 3 + b) (by omega) i) (h6 i)
  refine ⟨h1, ?_, OFF.tr h3 (hO.mono fun k j hk => by unfold PGX; omega), fun k j hk => (h4 k j (by omega) (by omega)).trans (hO k j (by omega)).1, fun j hj => (h5 j hj).trans (hO 59 j (by omega)).1, hle, by omega, fun g hg => h8 g (hg.sub (LEC.up (by omega)) (fun i => Nat.le_refl _)) (fun k j hk q1 q2 => hg k j (by omega))⟩
  rw [h2]
  unfold FLM
  rw [(hO 0 10 (by omega)).1, (hO 0 11 (by omega)).1]
/-- a site -/
theorem EM.site (h : GCS kd wr m fM lev cur c sp w) {p x y : Int32} : EM kd wr m fM lev cur sp c (upC c 2 (c 2 + 1)) w (si (si (si (si w 49 (c 2) p) 50 (c 2) x) 51 (c 2) y) 0 73 (Int32.ofNat (c 2 + 1))) [] (fun b b' g => b' = b ∧ gi g 49 (c 2) = p ∧ gi g 50 (c 2) = x ∧ gi g 51 (c 2) = y) 0 0 1 0 := by
  have hO : OFF (fun k j => (49 ≤ k ∧ k ≤ 51) ∧ j = c 2) (si (si (si w 49 (c 2) p) 50 (c 2) x) 51 (c 2) y) w := OFF.tr (OFF.si (by omega)) (OFF.tr (OFF.si (by omega)) (OFF.si (by omega)))
  have e49 : gi (si (si (si w 49 (c 2) p) 50 (c 2) x) 51 (c 2) y) 49 (c 2) = p := by rw [gi_si1 (by omega), gi_si1 (by omega), gi_si0]
  have e50 : gi (si (si (si w 49 (c 2) p) 50 (c 2) x) 51 (c 2) y) 50 (c 2) = x := by rw [gi_si1 (by omega), gi_si0]
  have e51 : gi (si (si (si w 49 (c 2) p) 50 (c 2) x) 51 (c 2) y) 51 (c 2) = y := gi_si0 _ _ _ _
  have h1 := h.off hO (fun k j hk => by unfold PGM PGX; omega)
  generalize si (si (si w 49 (c 2) p) 50 (c 2) x) 51 (c 2) y = w3 at hO e49 e50 e51 h1 ⊢
  have h2 := h1.sites (c 2 + 1)
  have hO2 : OFF (fun k j => (k = 0 ∧ j = 73) ∨ ((49 ≤ k ∧ k ≤ 51) ∧ j = c 2)) (si w3 0 73 (Int32.ofNat (c 2 + 1))) w := OFF.tr (OFF.si (by omega)) (hO.mono fun k j hk => by omega)
  have u2 : upC c 2 (c 2 + 1) 2 = c 2 + 1 := upC_s
  have un : ∀ i, i ≠ 2 → upC c 2 (c 2 + 1) i = c i := fun i hi => upC_n hi
  refine ⟨h2, ?_, hO2.mono fun k j hk => by unfold PGX; omega, fun k j hk => (hO2 k j (by omega)).1, fun j _ => (hO2 59 j (by omega)).1, LEC.up (by omega), by rw [u2, un 0 (by omega), un 1 (by omega), un 3 (by omega)]; omega, fun g hg => ⟨un 0 (by omega), ?_, ?_, ?_⟩⟩
  · show (gi _ 0 10, gi _ 0 11) = (gi w 0 10, gi w 0 11)
    rw [(hO2 0 10 (by omega)).1, (hO2 0 11 (by omega)).1]
  · rw [hg 49 (c 2) (by rw [u2]; omega), gi_si1 (by omega)]; exact e49
  · rw [hg 50 (c 2) (by rw [u2]; omega), gi_si1 (by omega)]; exact e50
  · rw [hg 51 (c 2) (by rw [u2]; omega), gi_si1 (by omega)]; exact e51
/-- looked at only, in a row -/
def RWL (kd wr : Nat → Nat) (m : Nat) (fM : Wd) (lu : Nat → Nat) (lev cur k N : Nat) (p : Nat × Nat) : Prop := LOS kd wr m fM lu lev cur k N p.1 p.2 ∧ 1 ≤ p.2
theorem lo_row {k N n : Nat} {x2 x3 : Int32} : ∀ (ps : List (Nat × Nat)), (∀ p ∈ ps, RWL kd wr m fM lu lev cur (k + 1) N p) → ∀ (x : Int32) (c : Nat → Nat) (w : Wd) (fo i : Nat), nxC fM (ps.map Prod.fst) x → GCS kd wr m fM lev cur c sp w → FIT c sp (smT ps) →
    ∃ u c', oX12_called_28 (RX12_mustBe N) (fo + ps.length + 1) (Int32.ofNat n) x2 x3 x w = oX12_called_28 (RX12_mustBe N) (fo + 1) (Int32.ofNat n) x2 x3 (-1) u ∧ EM kd wr m fM lev cur sp c c' w u ((ps.map Prod.fst).flatMap (fun x => FLX fM lu cur (k + 1) 4 x 0)) (fun b b' g => rwM (fun x _ b b' => CDM fM lu lev (k + 1) 4 x 0 0 b b' g) (ps.map Prod.fst) i b b') (2 * smT ps) (smT ps / 2) (smT ps / 2) (smT ps / 2) := by
  intro ps
  induction ps with
  | nil =>
    intro _ x c w fo i hx h hf
    have hx : x = -1 := hx
    exact ⟨w, c, by rw [hx]; rfl, (EM.no h).wk (fun b b' g hg => hg) (by omega)⟩
  | cons p r ih =>
    intro hp x c w fo i hx h hf
    obtain ⟨hx1, hx2, hx3⟩ : x = Int32.ofNat p.1 ∧ p.1 < 24000 ∧ nxC fM (r.map Prod.fst) (gi fM 11 p.1) := hx
    obtain ⟨hV, hT1⟩ := hp p List.mem_cons_self
    have hsm : smT (p :: r) = p.2 + 1 + smT r := rfl
    have hlen : (p :: r).length = r.length + 1 := rfl
    unfold FIT at hf
    rw [hsm] at hf
    obtain ⟨u1, d1, z1, z2⟩ := hV c sp w h (by unfold FIT; omega)
    have hb := z2.2.2.2.2.2.2.1
    obtain ⟨u, c', y1, y2⟩ := ih (fun q hq => hp q (List.mem_cons_of_mem _ hq)) (gi fM 11 p.1) d1 u1 fo (i + 1) hx3 z2.1 (by unfold FIT; omega)
    refine ⟨u, c', ?_, ((z2.seq y2).fls (by simp only [List.map_cons, List.flatMap_cons])).wk (fun b b' g hg => ?_) (by rw [hsm]; omega)⟩
    · rw [hx1, hlen, show fo + (r.length + 1) + 1 = (fo + r.length + 1) + 1 by omega]
      show fX12_called_28 (RX12_mustBe N) (oX12_called_28 (RX12_mustBe N) (fo + r.length + 1)) (Int32.ofNat n) x2 x3 (Int32.ofNat p.1) w = _
      unfold fX12_called_28
      rw [if_neg (nlt0 (by omega)), z1, bn2_so, if_pos (inb_iN hx2 (by omega)), tc_iN (by omega), (z2.1.fx (k := 11) (by unfold PGM PGX; omega)).1, ltq]
      exact y1
    · obtain ⟨b1, _, g2⟩ := hg
      refine ⟨b1, ?_, g2⟩
      show CDM fM lu lev (k + 1) 4 p.1 0 0 b b1 g
      rw [CDM]
      dsimp only
      rw [if_neg (by omega), if_neg (by omega), if_neg (by omega), if_neg (by omega)]
      trivial
/-- ACTUALS in a row: node, TOKENS; for formals from ff on -/
def RWA (kd wr : Nat → Nat) (m : Nat) (fM : Wd) (lu : Nat → Nat) (lev cur k N : Nat) (p : Nat × Nat) : Prop := (∀ f, f < 5000 → (∃ x, x ≤ 5 ∧ gi fM 24 f = Int32.ofNat x) → ACS kd wr m fM lu lev cur k N p.1 f p.2) ∧ RWL kd wr m fM lu lev cur k N p
theorem ac_row {k N pn nf ff : Nat} {x2 x3 : Int32} (hpn : pn < 1200) (h31 : gi fM 31 pn = Int32.ofNat nf) (hnf : nf < 5000) (hff : ff + nf ≤ 5000) (hF : ∀ i, i < nf → ∃ x, x ≤ 5 ∧ gi fM 24 (ff + i) = Int32.ofNat x) : ∀ (ps : List (Nat × Nat)), (∀ p ∈ ps, RWA kd wr m fM lu lev cur k N p) → ∀ (x : Int32) (c : Nat → Nat) (w : Wd) (fo i a : Nat), nxC fM (ps.map Prod.fst) x → GCS kd wr m fM lev cur c sp w → a + i + ps.length ≤ c 3 → a + i + ps.length ≤ 6000 → i < 10000 → (c 0 + 2 * smT ps + 4 ≤ 60000 ∧ 2 * c 1 + smT ps + 2 ≤ 12000 ∧ 2 * c 2 + smT ps + 2 ≤ 8598 ∧ 2 * c 3 + smT ps + 2 ≤ 12000 + 2 * ps.length ∧ sp + smT ps + 2 ≤ 24000) →
    ∃ u c', oX12_called_230 (RX12_mustBe N) (fo + ps.length + 1) x2 x3 (Int32.ofNat pn) (Int32.ofNat ff) (Int32.ofNat a) (Int32.ofNat i) x w = oX12_called_230 (RX12_mustBe N) (fo + 1) x2 x3 (Int32.ofNat pn) (Int32.ofNat ff) (Int32.ofNat a) (Int32.ofNat (i + ps.length)) (-1) u ∧ EMR kd wr m fM lev cur sp (a + i) (a + i + ps.length) c c' w u (((ps.map Prod.fst).zipIdx i).flatMap (fun xi => if xi.2 < nf then FLX fM lu cur k 5 xi.1 (ff + xi.2) else FLX fM lu cur k 4 xi.1 0)) (fun b b' g => i + ps.length ≤ nf → ((ps.map Prod.fst).zipIdx i).flatMap (fun xi => if xi.2 < nf then FLX fM lu cur k 5 xi.1 (ff + xi.2) else FLX fM lu cur k 4 xi.1 0) = [] → rwM (fun x i b b' => CDM fM lu lev k 5 x (ff + i) (a + i) b b' g) (ps.map Prod.fst) i b b') (2 * smT ps) (smT ps / 2) (smT ps / 2) (smT ps / 2 - ps.length) := by
  intro ps
  induction ps with
  | nil =>
    intro _ x c w fo i a hx h _ _ _ hf
    have hx : x = -1 := hx
    exact ⟨w, c, by rw [hx]; rfl, (EMR.no h).wk (fun b b' g hg _ _ => hg) (by omega)⟩
  | cons p r ih =>
    intro hp x c w fo i a hx h hc hc6 hi hf
    obtain ⟨hx1, hx2, hx3⟩ : x = Int32.ofNat p.1 ∧ p.1 < 24000 ∧ nxC fM (r.map Prod.fst) (gi fM 11 p.1) := hx
    obtain ⟨hA, hV, hT1⟩ := hp p List.mem_cons_self
    have hsm : smT (p :: r) = p.2 + 1 + smT r := rfl
    have hlen : (p :: r).length = r.length + 1 := rfl
    have hr2 : 2 * r.length ≤ smT r := by
      have : ∀ ps : List (Nat × Nat), (∀ p ∈ ps, RWA kd wr m fM lu lev cur k N p) → 2 * ps.length ≤ smT ps := by
        intro ps
        induction ps with
        | nil => exact fun _ => Nat.le_refl _
        | cons q r ih =>
          intro h
          have h1 := (h q List.mem_cons_self).2.2
          have h2 := ih (fun q hq => h q (List.mem_cons_of_mem _ hq))
          show 2 * (r.length + 1) ≤ q.2 + 1 + smT r
          omega
      exact this r (fun q hq => hp q (List.mem_cons_of_mem _ hq))
    rw [hsm, hlen] at hf
    rw [hlen] at hc hc6
    have e31 : gi w 31 pn = Int32.ofNat nf := ((h.fx (k := 31) (by unfold PGM PGX; omega)).1).trans h31
    have hst : oX12_called_230 (RX12_mustBe N) (fo + (p :: r).length + 1) x2 x3 (Int32.ofNat pn) (Int32.ofNat ff) (Int32.ofNat a) (Int32.ofNat i) x w = fX12_called_230 (RX12_mustBe N) (oX12_called_230 (RX12_mustBe N) (fo + r.length + 1)) x2 x3 (Int32.ofNat pn) (Int32.ofNat ff) (Int32.ofNat a) (Int32.ofNat i) (Int32.ofNat p.1) w := by
      rw [hx1]
      rfl
    rw [hst]
    unfold fX12_called_230
    rw [if_neg (nlt0 (by omega)), if_pos (inb_iN hpn (by omega)), tc_iN (by omega), e31]
    -- the rest
    have go : ∀ (u1 : Wd) (d1 : Nat → Nat) (L1 : List (Nat × Int32)) (P1 : Nat → Nat → Wd → Prop), EMA kd wr m fM lev cur sp (a + i) c d1 w u1 L1 P1 (2 * p.2 + 2) ((p.2 + 1) / 2) ((p.2 + 1) / 2) ((p.2 - 1) / 2) → (if i < nf then FLX fM lu cur k 5 p.1 (ff + i) else FLX fM lu cur k 4 p.1 0) = L1 → (∀ b b' g, P1 b b' g → i < nf → L1 = [] → CDM fM lu lev k 5 p.1 (ff + i) (a + i) b b' g) →
        ∃ u c', (lt (Int32.ofNat i + 1) fun x22 => if inb (Int32.ofNat p.1) 24000 = true then lt (gi u1 11 (Int32.ofNat p.1).toNatClampNeg) fun x24 => oX12_called_230 (RX12_mustBe N) (fo + r.length + 1) x2 x3 (Int32.ofNat pn) (Int32.ofNat ff) (Int32.ofNat a) x22 x24 u1 else none) = oX12_called_230 (RX12_mustBe N) (fo + 1) x2 x3 (Int32.ofNat pn) (Int32.ofNat ff) (Int32.ofNat a) (Int32.ofNat (i + (p :: r).length)) (-1) u ∧ EMR kd wr m fM lev cur sp (a + i) (a + i + (p :: r).length) c c' w u ((((p :: r).map Prod.fst).zipIdx i).flatMap (fun xi => if xi.2 < nf then FLX fM lu cur k 5 xi.1 (ff + xi.2) else FLX fM lu cur k 4 xi.1 0)) (fun b b' g => i + (p :: r).length ≤ nf → (((p :: r).map Prod.fst).zipIdx i).flatMap (fun xi => if xi.2 < nf then FLX fM lu cur k 5 xi.1 (ff + xi.2) else FLX fM lu cur k 4 xi.1 0) = [] → rwM (fun x i b b' => CDM fM lu lev k 5 x (ff + i) (a + i) b b' g) ((p :: r).map Prod.fst) i b b') (2 * smT (p :: r)) (smT (p :: r) / 2) (smT (p :: r) / 2) (smT (p :: r) / 2 - (p :: r).length) := fun u1 d1 L1 P1 z2 hL1 hP1 => by
      have hb := z2.2.2.2.2.2.2.1
      have hle := z2.2.2.2.2.2.1
      have l3 := hle 3
      obtain ⟨u, c', y1, y2⟩ := ih (fun q hq => hp q (List.mem_cons_of_mem _ hq)) (gi fM 11 p.1) d1 u1 fo (i + 1) a hx3 z2.1 (by omega) (by omega) (by omega) (by omega)
      have hrow := EMA.row z2 (by rw [show a + i + 1 = a + (i + 1) by omega]; exact y2) (by omega) (show a + (i + 1) + r.length ≤ c 3 by omega)
      have ezi : (((p :: r).map Prod.fst).zipIdx i).flatMap (fun xi => if xi.2 < nf then FLX fM lu cur k 5 xi.1 (ff + xi.2) else FLX fM lu cur k 4 xi.1 0) = (if i < nf then FLX fM lu cur k 5 p.1 (ff + i) else FLX fM lu cur k 4 p.1 0) ++ ((r.map Prod.fst).zipIdx (i + 1)).flatMap (fun xi => if xi.2 < nf then FLX fM lu cur k 5 xi.1 (ff + xi.2) else FLX fM lu cur k 4 xi.1 0) := by
        simp only [List.map_cons, List.zipIdx_cons, List.flatMap_cons]
      rw [ezi, hL1]
      refine ⟨u, c', ?_, ?_⟩
      · rw [ltq, if_pos (inb_iN hx2 (by omega)), tc_iN (by omega), (z2.1.fx (k := 11) (by unfold PGM PGX; omega)).1, ltq, ad1_iN, y1, hlen, show i + 1 + r.length = i + (r.length + 1) by omega]
      · rw [hlen, show a + i + (r.length + 1) = a + (i + 1) + r.length by omega]
        refine hrow.wk (fun b b' g hg hln hnil => ?_) (by rw [hsm]; omega)
        obtain ⟨m1, m2⟩ := List.append_eq_nil_iff.mp hnil
        obtain ⟨b1, g1, g2⟩ := hg
        exact ⟨b1, hP1 _ _ _ g1 (by omega) m1, g2 (by omega) m2⟩
    by_cases q : nf ≤ i
    · rw [if_pos (ofle q (by omega))]
      obtain ⟨u1, d1, z1, z2⟩ := hV c sp w h (by unfold FIT; omega)
      rw [z1, bn2_so]
      have z3 : EM kd wr m fM lev cur sp c d1 w u1 (FLX fM lu cur k 4 p.1 0) (fun _ _ _ => True) (2 * p.2 + 2) ((p.2 + 1) / 2) ((p.2 + 1) / 2) ((p.2 - 1) / 2) := z2.wk (fun _ _ _ _ => trivial) (by omega)
      exact go u1 d1 _ _ z3.ema (if_neg (by omega)) (fun _ _ _ _ hq => by omega)
    · rw [if_neg (nle_iN (by omega) (by omega)), add_iN, add_iN]
      obtain ⟨u1, d1, z1, z2⟩ := hA (ff + i) (by omega) (hF i (by omega)) c sp (a + i) w h (by unfold FTA; omega) (by omega) (by omega)
      rw [z1, bn2_so]
      exact go u1 d1 _ _ z2 (if_pos (by omega)) (fun _ _ _ hg _ hn => hg hn)
end SG
