/-! PASS 2, THE REFERENCE: AIMS -/
section SG
variable {kd wr nm : Nat → Nat} {vv : Nat → Int64} {m lev cur sp : Nat} {fA fM : Wd} {c c1 c2 C TK : Nat → Nat} {SL : Nat → List Nat} {w u v : Wd} {L L1 L2 : List (Nat × Int32)} {P P1 P2 : Nat → Nat → Wd → Prop} {a0 a1 a2 a3 b0 b1 b2 b3 : Nat} {lu : Nat → Nat}
/-- what 'aimCode' does with node n -/
def AIS (kd wr : Nat → Nat) (m : Nat) (fM : Wd) (lu : Nat → Nat) (lev cur k N n T : Nat) : Prop :=
  ∀ c sp w, GCS kd wr m fM lev cur c sp w → FIT c sp (T + 1) → ∃ u c', RX12_mustBe N 6 (Int32.ofNat n) 0 0 w = some (0, u) ∧ EM kd wr m fM lev cur sp c c' w u (FLX fM lu cur k 2 n 0) (fun b b' g => FLX fM lu cur k 2 n 0 = [] → CDM fM lu lev k 2 n 0 0 b b' g) (2 * T) ((T - 1) / 2) ((T + 1) / 2) ((T - 1) / 2)
theorem x_eq {N n s : Nat} (h : GCS kd wr m fM lev cur c sp w) (hn : n < 24000) (h7 : gi fM 7 n = Int32.ofNat s) (hs : s < 10) : RX12_mustBe (N + 1) 6 (Int32.ofNat n) 0 0 w = fX12_aimCode (RX12_mustBe N) (Int32.ofNat n) w ∧ gi w 7 n = Int32.ofNat s ∧ inb (Int32.ofNat n) 24000 = true ∧ (Int32.ofNat n).toNatClampNeg = n := ⟨rfl, ((h.fx (k := 7) (by unfold PGM PGX; omega)).1).trans h7, inb_iN hn (by omega), tc_iN (by omega)⟩
theorem as_group {k N n x T : Nat} (hn : n < 24000) (hx : x < 24000) (h7 : gi fM 7 n = 9) (h8 : gi fM 8 n = Int32.ofNat x) (hV : AIS kd wr m fM lu lev cur k N x T) : AIS kd wr m fM lu lev cur (k + 1) (N + 1) n (T + 2) := by
  intro c sp w h hf
  unfold FIT at hf
  obtain ⟨e1, e2, e3, e4⟩ := x_eq (N := N) (s := 9) h hn h7 (by omega)
  obtain ⟨u, c', u1, u2⟩ := hV c sp w h (by unfold FIT; omega)
  have e8 : nd fM 8 n = x := by
    unfold nd
    rw [h8, tc_iN (by omega)]
  have hfl : FLX fM lu cur (k + 1) 2 n 0 = FLX fM lu cur k 2 x 0 := by
    rw [FLX]
    dsimp only
    rw [if_neg (by omega), if_neg (by omega), if_pos rfl, if_pos h7, e8]
  refine ⟨u, c', ?_, ?_⟩
  · rw [e1]
    unfold fX12_aimCode
    rw [if_pos e3, e4, e2, if_pos (show Int32.ofNat 9 = 9 from rfl), if_pos e3, (h.fx (k := 8) (by unfold PGM PGX; omega)).1, h8, u1]
    rfl
  · rw [hfl]
    refine u2.wk (fun b b' g hg hnil => ?_) (by omega)
    rw [CDM]
    dsimp only
    rw [if_neg (by omega), if_neg (by omega), if_pos rfl, if_pos h7, e8]
    exact hg hnil
theorem as_if {k N n x y z tx Tx Ty Tz : Nat} (hn : n < 24000) (hx : x < 24000) (hy : y < 24000) (hz : z < 24000) (h7 : gi fM 7 n = 8) (h8 : gi fM 8 n = Int32.ofNat x) (h9 : gi fM 9 n = Int32.ofNat y) (h10 : gi fM 10 n = Int32.ofNat z) (hxt : gi fM 12 x = Int32.ofNat tx) (htx : tx ≤ m) (hTx : 1 ≤ Tx) (hTy : 1 ≤ Ty) (hTz : 1 ≤ Tz)
    (hX : VS kd wr m fM lu lev cur k N x Tx) (hY : AIS kd wr m fM lu lev cur k (N + 1) y Ty) (hZ : AIS kd wr m fM lu lev cur k (N + 1) z Tz) : AIS kd wr m fM lu lev cur (k + 1) (N + 2) n (Tx + Ty + Tz + 3) := by
  intro c sp w h hf
  unfold FIT at hf
  obtain ⟨e1, e2, e3, e4⟩ := x_eq (N := N + 1) (s := 8) h hn h7 (by omega)
  have n9 : ¬ gi fM 7 n = 9 := by rw [h7]; decide
  have e8 : nd fM 8 n = x := by
    unfold nd
    rw [h8, tc_iN (by omega)]
  have e9 : nd fM 9 n = y := by
    unfold nd
    rw [h9, tc_iN (by omega)]
  have e10 : nd fM 10 n = z := by
    unfold nd
    rw [h10, tc_iN (by omega)]
  have hfl : FLX fM lu cur (k + 1) 2 n 0 = FLX fM lu cur k 0 x 0 ++ misT (TYX fM lu k x) 2 (nd fM 12 x) ++ FLX fM lu cur k 2 y 0 ++ FLX fM lu cur k 2 z 0 := by
    rw [FLX]
    dsimp only
    rw [if_neg (by omega), if_neg (by omega), if_pos rfl, if_neg n9, if_pos h7, e8, e9, e10]
  have hcd : ∀ b b' g, (CDM fM lu lev (k + 1) 2 n 0 0 b b' g ↔ ∃ b1 b2, CDM fM lu lev k 0 x 0 0 b b1 g ∧ opW g b1 11 (Int32.ofNat (b2 + 1)) 0 0 ∧ CDM fM lu lev k 2 y 0 0 (b1 + 1) b2 g ∧ opW g b2 10 (Int32.ofNat b') 0 0 ∧ CDM fM lu lev k 2 z 0 0 (b2 + 1) b' g) := fun b b' g => by
    rw [CDM]
    dsimp only
    rw [if_neg (by omega), if_neg (by omega), if_pos rfl, if_neg n9, if_pos h7, e8, e9, e10]
  obtain ⟨w1, c1, x1, x2⟩ := g_mb hX h (by unfold FIT; omega) hx hxt htx (ty := 2)
  have hb1 := x2.2.2.2.2.2.2.1
  obtain ⟨w2, y1, y2⟩ := EM.op x2.1 (by omega) (a := 11) (x := 0) (y := 0) (z := 0)
  have u0 : upC c1 0 (c1 0 + 1) 0 = c1 0 + 1 := upC_s
  have un : ∀ i, i ≠ 0 → upC c1 0 (c1 0 + 1) i = c1 i := fun i hi => upC_n hi
  obtain ⟨w3, c3, z1, z2⟩ := hY _ sp w2 y2.1 (by unfold FIT; rw [u0, un 1 (by omega), un 2 (by omega), un 3 (by omega)]; omega)
  have hb3 := z2.2.2.2.2.2.2.1
  rw [u0, un 1 (by omega), un 2 (by omega), un 3 (by omega)] at hb3
  have q0 : upC c3 0 (c3 0 + 1) 0 = c3 0 + 1 := upC_s
  have qn : ∀ i, i ≠ 0 → upC c3 0 (c3 0 + 1) i = c3 i := fun i hi => upC_n hi
  obtain ⟨w4, s1, s2, s3, s4⟩ := EM.two (L2 := FLX fM lu cur k 2 z 0) (P2 := fun b b' g => FLX fM lu cur k 2 z 0 = [] → CDM fM lu lev k 2 z 0 0 b b' g) (b0 := 2 * Tz) (b1 := (Tz - 1) / 2) (b2 := (Tz + 1) / 2) (b3 := (Tz - 1) / 2) rfl y2 z2 rfl (by omega) (by omega)
  obtain ⟨w6, c6, t1, t2⟩ := hZ _ sp _ s3 (by unfold FIT; rw [q0, qn 1 (by omega), qn 2 (by omega), qn 3 (by omega)]; omega)
  obtain ⟨w7, r1, r2⟩ := s4 t2
  have f10 : gi (si w4 46 (4 * c1 0 + 1) (Int32.ofNat (c3 0 + 1))) 10 n = gi fM 10 n := (s3.fx (k := 10) (by unfold PGM PGX; omega)).1
  refine ⟨w7, c6, ?_, ((x2.seq r2).fls (by rw [hfl]; simp only [List.append_assoc])).wk (fun b b' g hg hnil => ?_) (by omega)⟩
  · rw [show N + 2 = N + 1 + 1 by omega, e1]
    unfold fX12_aimCode
    rw [if_pos e3, e4, e2, if_neg (show ¬ (Int32.ofNat 8 = 9) by decide), if_pos e3, if_pos (show Int32.ofNat 8 = 8 from rfl), if_pos e3, (h.fx (k := 8) (by unfold PGM PGX; omega)).1, h8, x1, bn2_so, y1, bn2_so, if_pos e3, (y2.1.fx (k := 9) (by unfold PGM PGX; omega)).1, h9, z1, bn2_so, s1, bn2_so, s2, bn_so, if_pos e3, f10, h10, t1, bn2_so, r1]
    rfl
  · rw [hfl] at hnil
    obtain ⟨m1, m2⟩ := List.append_eq_nil_iff.mp hnil
    obtain ⟨m3, m4⟩ := List.append_eq_nil_iff.mp m1
    obtain ⟨b1, g1, b2, g2, g3, g4, g5⟩ := hg
    exact (hcd b b' g).mpr ⟨b1, b2, g1 (List.append_eq_nil_iff.mp m3).1, g2, g3 m4, g4, g5 m2⟩
theorem as_other {k N n T s tk : Nat} (hn : n < 24000) (h7 : gi fM 7 n = Int32.ofNat s) (hs : s < 10) (h9 : s ≠ 9) (h8 : s ≠ 8) (h3 : s ≠ 3) (h4 : s = 4 → gi fM 9 n ≠ 1) (h12 : gi fM 12 n = Int32.ofNat tk) (ht : tk ≤ m) (hV : LOS kd wr m fM lu lev cur k N n T) : AIS kd wr m fM lu lev cur (k + 1) (N + 1) n T := by
  intro c sp w h hf
  have hm := h.1.1.1
  obtain ⟨e1, e2, e3, e4⟩ := x_eq (N := N) (s := s) h hn h7 hs
  have hne : ∀ i : Nat, i < 10 → s ≠ i → ¬ (Int32.ofNat s = Int32.ofNat i) := fun i hi hsi => of_ne (by omega) (by omega) hsi
  have et : nd fM 12 n = tk := by
    unfold nd
    rw [h12, tc_iN (by omega)]
  have hfl : FLX fM lu cur (k + 1) 2 n 0 = [(tk, 4)] ++ FLX fM lu cur k 4 n 0 := by
    rw [FLX]
    dsimp only
    rw [if_neg (by omega), if_neg (by omega), if_pos rfl, if_neg (show ¬ gi fM 7 n = 9 by rw [h7]; exact hne 9 (by omega) h9), if_neg (show ¬ gi fM 7 n = 8 by rw [h7]; exact hne 8 (by omega) h8), if_neg (show ¬ gi fM 7 n = 3 by rw [h7]; exact hne 3 (by omega) h3), if_neg (show ¬ (gi fM 7 n = 4 ∧ gi fM 9 n = 1) from fun g => by
      rw [h7] at g
      have : s = 4 := (eq_iN (a := s) (b := 4) (by omega) (by omega)).mp g.1
      exact h4 this g.2), et]
  obtain ⟨w1, v1, v2, v3, v4⟩ := g_found h ht (num := 4)
  obtain ⟨u, c', u1, u2⟩ := hV c sp w1 v2 hf
  have h127 : fX12_aimCode_127 (RX12_mustBe N) (Int32.ofNat n) w = some (0, u) := by
    unfold fX12_aimCode_127
    rw [if_pos e3, e4, (h.fx (k := 12) (by unfold PGM PGX; omega)).1, h12, v1, bn_so, u1]
    rfl
  refine ⟨u, c', ?_, ((EM.after (L1 := [(tk, 4)]) v3 v4 u2).fls hfl.symm).wk (fun b b' g _ hnil => ?_) (by omega)⟩
  · rw [e1]
    unfold fX12_aimCode
    rw [if_pos e3, e4, e2, if_neg (show ¬ (Int32.ofNat s = 9) from hne 9 (by omega) h9), if_pos e3, if_neg (show ¬ (Int32.ofNat s = 8) from hne 8 (by omega) h8), if_pos e3, if_neg (show ¬ (Int32.ofNat s = 3) from hne 3 (by omega) h3), if_pos e3, (h.fx (k := 9) (by unfold PGM PGX; omega)).1]
    by_cases q : s = 4
    · rw [if_pos (show Int32.ofNat s = 4 by rw [q]; rfl), if_pos e3, if_neg (h4 q), h127]
    · rw [if_neg (show ¬ (Int32.ofNat s = 4) from hne 4 (by omega) q), h127]
  · rw [hfl] at hnil
    exact absurd hnil (by simp)
end SG
