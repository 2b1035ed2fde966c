/-! PASS 2, THE CLASS: choices, AIMS -/
section EC
variable {kd wr : Nat → Nat} {z : Nat} {fA fM : Wd} {lu : Nat → Nat} {lev cur : Nat} {pn : Nat → Int32} {base ob t t1 t2 t3 a a1 a2 a3 n s e d f l m : Nat} {w w1 w2 w3 w4 u v : Wd} {L L1 L2 L3 : List (Nat × Int32)} {P P1 P2 P3 : Nat → Nat → Wd → Prop} {B B1 B2 B3 : Nat} {C TK : Nat → Nat}
/-- a choice: the test, what's for true, what's for false -/
theorem c_if {rc1 : TX2_typed} {X1 X2 X3 : Int32} {e1 e2 : Nat} {r2 r3 : Wd → Option (Int32 × Wd)} (hk : kd s = 15) (hd : d < 40) (hk1 : kd e1 = 16) (hk2 : kd e2 = 17)
    (h1 : SPE kd wr z fA lu lev pn (d + 1) (s + 1) e1 X1 L1 P1 B1 (fun w => rc1 0 (Int32.ofNat (d + 1)) 2 0 w))
    (h2 : SPE kd wr z fA lu lev pn (d + 1) (e1 + 1) e2 X2 L2 P2 B2 r2) (h3 : SPE kd wr z fA lu lev pn (d + 1) (e2 + 1) e X3 L3 P3 B3 r3)
    (hw : GC2 kd wr z fA lu lev pn s a base ob w) (hb : base ≤ 10 * d) (ho : ob ≤ 9 * d) (ha : a + (B1 + B2 + B3 + 2) ≤ 36872) :
    ∃ a1 a2 w2 w3 w5 w6 y w7 a3, fX2_test rc1 (Int32.ofNat d) w = some (Int32.ofNat a1, w2) ∧ fX9_at w2 = Int32.ofNat (e1 + 1) ∧ r2 w2 = some (X2, w3) ∧ (∀ {α : Type} (K : Int32 → Wd → α), lt2 (fX2_otherwise (Int32.ofNat a1) w3) K = K (Int32.ofNat a2) w5) ∧ fX9_at w5 = Int32.ofNat (e2 + 1) ∧ r3 w5 = some (X3, w6) ∧ fX0_patch (Int32.ofNat a2) w6 = (y, w7) ∧
      EC kd wr z fA lu lev pn base ob e a a3 w w7 (L1 ++ L2 ++ L3) (fun b b' g => ∃ b1 b2, P1 b b1 g ∧ gl g 41 b1 = jwC 34 (b2 + 1) ∧ P2 (b1 + 1) b2 g ∧ gl g 41 b2 = jwC 33 b' ∧ P3 (b2 + 1) b' g) (B1 + B2 + B3 + 2) := by
  obtain ⟨o1, o2⟩ := EC.opn hw (d := d) (by omega) (by omega) hd
  obtain ⟨x1, a1, u1, u2⟩ := h1 _ a base ob o2.1 (by omega) (by omega) (by omega)
  have hb1 := u2.b
  obtain ⟨n1, n2⟩ := EC.need u2.1 hk1 (by omega)
  have E1 := o2.fl' (u2.seq n2)
  obtain ⟨w2, j1, j2⟩ := EC.put1 (x := 34) E1.1 (by omega)
  obtain ⟨w3, a2, v1, v2⟩ := h2 w2 (a1 + 1) base ob j2.1 (by omega) (by omega) (by omega)
  have hb2 := v2.b
  obtain ⟨n3, n4⟩ := EC.need v2.1 hk2 (by omega)
  have E2 := v2.seq n4
  obtain ⟨w4, j3, j4⟩ := EC.put1 (x := 33) E2.1 (by omega)
  obtain ⟨y5, w5, p1, p2, p3⟩ := EC.ift E1 j2 E2 j4 (by omega)
  obtain ⟨w6, a3, q1, q2⟩ := h3 w5 (a2 + 1) base ob p2 (by omega) (by omega) (by omega)
  have hb3 := q2.b
  obtain ⟨y7, w7, r1, r2'⟩ := p3 q2
  refine ⟨a1, a2, w2, w3, w5, w6, y7, w7, a3, ?_, a_at j2.1.1, v1, fun K => ?_, a_at p2.1, q1, r1, (r2'.wk (fun b b' g hg => ?_) (by omega)).cL ?_⟩
  · have u1' : rc1 0 (Int32.ofNat (d + 1)) 2 0 (si w 4 9 (Int32.ofNat (s + 1))) = some (X1, x1) := u1
    unfold fX2_test
    rw [o1, lt2q, u1', bn2_so, ltq, show (16 : Int32) = Int32.ofNat 16 from rfl, n1, j1, lt2q]
  · rw [ot_eq, ltq, show (17 : Int32) = Int32.ofNat 17 from rfl, n3, j3, p1]
  · obtain ⟨b1, b2, ⟨b9, k1, k2⟩, c2, ⟨b8, k3, k4⟩, c4, c5⟩ := hg
    rw [k2] at c2 k3
    rw [k4] at c2 c4 c5
    exact ⟨b9, b8, k1, c2, k3, c4, c5⟩
  · simp
/-- AIMS: a choice -/
theorem c_aimI {N st : Nat} {X1 : Int32} {e1 e2 : Nat} (hk : kd s = 15) (hd : d < 40) (hk1 : kd e1 = 16) (hk2 : kd e2 = 17)
    (h1 : SPE kd wr z fA lu lev pn (d + 1) (s + 1) e1 X1 L1 P1 B1 (fun w => RX2_typed N 0 (Int32.ofNat (d + 1)) 2 0 w))
    (h2 : SPE kd wr z fA lu lev pn (d + 1) (e1 + 1) e2 0 L2 P2 B2 (fun w => RX2_typed (N + 1) 11 (Int32.ofNat (d + 1)) (Int32.ofNat st) 0 w)) (h3 : SPE kd wr z fA lu lev pn (d + 1) (e2 + 1) e 0 L3 P3 B3 (fun w => RX2_typed (N + 1) 11 (Int32.ofNat (d + 1)) (Int32.ofNat st) 0 w)) :
    SPE kd wr z fA lu lev pn d s e 0 (L1 ++ L2 ++ L3) (fun b b' g => ∃ b1 b2, P1 b b1 g ∧ gl g 41 b1 = jwC 34 (b2 + 1) ∧ P2 (b1 + 1) b2 g ∧ gl g 41 b2 = jwC 33 b' ∧ P3 (b2 + 1) b' g) (B1 + B2 + B3 + 2) (fun w => RX2_typed (N + 2) 11 (Int32.ofNat d) (Int32.ofNat st) 0 w) := by
  intro w a base ob hw hb ho ha
  obtain ⟨a1, a2, w2, w3, w5, w6, y, w7, a3, q1, q2, q3, q4, q5, q6, q7, q8⟩ := c_if hk hd hk1 hk2 h1 h2 h3 hw hb ho ha
  refine ⟨w7, a3, ?_, q8⟩
  show fX2_aim (RX2_typed (N + 1)) (Int32.ofNat d) (Int32.ofNat st) w = _
  have r1 : RX2_typed (N + 1) 1 (Int32.ofNat d) 0 0 w = some (Int32.ofNat a1, w2) := q1
  have r2 : RX2_typed (N + 1) 11 (Int32.ofNat (d + 1)) (Int32.ofNat st) 0 w2 = some (0, w3) := q3
  have r3 : RX2_typed (N + 1) 11 (Int32.ofNat (d + 1)) (Int32.ofNat st) 0 w5 = some (0, w6) := q6
  unfold fX2_aim
  rw [ltq, ltq, ltq, a_kind hw.1, if_pos (show Int32.ofNat (kd s) = 15 by rw [hk]; rfl), r1, bn2_so, ad1_iN, r2, bn2_so, q4, r3, bn2_so, q7, lt2q]
/-- AIMS: ( AIM ) -/
theorem c_aimG {N st : Nat} {e1 : Nat} (hk : kd s = 43) (hf : gi fA 8 s ≠ 6) (hd : d < 40) (hk1 : kd e1 = 44) (he : e1 < z) (h1 : SPE kd wr z fA lu lev pn (d + 1) (s + 1) e1 0 L P B (fun w => RX2_typed N 11 (Int32.ofNat (d + 1)) (Int32.ofNat st) 0 w)) :
    SPE kd wr z fA lu lev pn d s (e1 + 1) 0 L P B (fun w => RX2_typed (N + 1) 11 (Int32.ofNat d) (Int32.ofNat st) 0 w) := by
  intro w a base ob hw hb ho ha
  have hz := hw.a_lt
  obtain ⟨o1, o2⟩ := EC.opn hw (d := d) (by omega) (by omega) hd
  obtain ⟨u, a1, u1, u2⟩ := h1 _ a base ob o2.1 (by omega) (by omega) (by omega)
  obtain ⟨n1, n2⟩ := EC.need u2.1 hk1 (by omega)
  refine ⟨_, a1, ?_, ((o2.fl' (u2.seq n2)).wk (fun b b' g ⟨b1, g1, g2⟩ => by rw [g2]; exact g1) (by omega)).cL (by simp)⟩
  show fX2_aim (RX2_typed N) (Int32.ofNat d) (Int32.ofNat st) w = _
  have r1 : RX2_typed N 11 (Int32.ofNat (d + 1)) (Int32.ofNat st) 0 (si w 4 9 (Int32.ofNat (s + 1))) = some (0, u) := u1
  unfold fX2_aim
  rw [ltq, ltq, ltq, a_kind hw.1, a_at hw.1, c_fm hw (by omega), if_neg (show ¬ (Int32.ofNat (kd s) = 15) by rw [hk]; decide), if_pos (show Int32.ofNat (kd s) = 43 by rw [hk]; rfl), if_neg hf, o1, lt2q, r1, bn2_so, ltq, show (44 : Int32) = Int32.ofNat 44 from rfl, n1]
/-- AIMS: a NAME -/
theorem c_aimD {N st : Nat} (hk : kd s = 2) (h6 : gi fA 8 s ≠ 6) (h3 : gi fA 8 s ≠ 3) (h1 : SPE kd wr z fA lu lev pn d s e 0 L P B (fun w => fX2_designated (RX2_typed N) (Int32.ofNat d) (Int32.ofNat st) w)) :
    SPE kd wr z fA lu lev pn d s e 0 L P B (fun w => RX2_typed (N + 2) 11 (Int32.ofNat d) (Int32.ofNat st) 0 w) := by
  intro w a base ob hw hb ho ha
  have hz := hw.a_lt
  obtain ⟨u, a1, u1, u2⟩ := h1 w a base ob hw hb ho ha
  refine ⟨u, a1, ?_, u2⟩
  show fX2_aim (RX2_typed (N + 1)) (Int32.ofNat d) (Int32.ofNat st) w = _
  have r1 : RX2_typed (N + 1) 12 (Int32.ofNat d) (Int32.ofNat st) 0 w = some (0, u) := u1
  unfold fX2_aim
  rw [ltq, ltq, ltq, a_kind hw.1, a_at hw.1, c_fm hw (by omega), if_neg (show ¬ (Int32.ofNat (kd s) = 15) by rw [hk]; decide), if_neg (show ¬ (Int32.ofNat (kd s) = 43) by rw [hk]; decide)]
  unfold fX2_aim_121
  rw [if_pos (show Int32.ofNat (kd s) = 2 by rw [hk]; rfl), if_neg h6, if_neg h3, r1, bn2_so]
/-- AIMS: what is none -/
theorem c_aimM {N st : Nat} (hwr : ∀ i, wr i ≤ 8192) (hW : ∀ i, i < m → wr i + 1 ≤ wr (i + 1)) (he : e ≤ m) (hsz : e < z) (hse : s < e) (h10 : gi fA 10 s = Int32.ofNat e) (hM : MSF kd lu s e L) (h15 : kd s ≠ 15) (h43 : kd s = 43 → gi fA 8 s = 6) (h2 : kd s = 2 → gi fA 8 s = 6 ∨ gi fA 8 s = 3) (h0 : gi fA 8 s ≠ 0) :
    SPE kd wr z fA lu lev pn d s e 0 ([(s, 4)] ++ L) (fun b b' _ => b' = b) 0 (fun w => RX2_typed (N + 1) 11 (Int32.ofNat d) (Int32.ofNat st) 0 w) := by
  intro w a base ob hw hb ho ha
  have hz := hw.a_lt
  have hk50 := hw.1.2.2.1 s
  refine ⟨_, a, ?_, c_misfit hwr hW he hsz hse h10 hM hw⟩
  show fX2_aim (RX2_typed N) (Int32.ofNat d) (Int32.ofNat st) w = _
  have h149 : fX2_aim_149 (RX2_typed N) (Int32.ofNat s) (gi fA 8 s) w = some (0, fX2_misfit (Int32.ofNat s) w) := by
    unfold fX2_aim_149
    rw [if_neg h0, ltq]
  have h121 : fX2_aim_121 (RX2_typed N) (Int32.ofNat d) (Int32.ofNat st) (Int32.ofNat s) (gi fA 8 s) (Int32.ofNat (kd s)) w = some (0, fX2_misfit (Int32.ofNat s) w) := by
    unfold fX2_aim_121
    by_cases q : kd s = 2
    · rw [if_pos (show Int32.ofNat (kd s) = 2 by rw [q]; rfl), h149]
      rcases h2 q with g | g
      · rw [if_pos g]
      · rw [if_neg (by rw [g]; decide), if_pos g]
    · rw [if_neg (show ¬ (Int32.ofNat (kd s) = 2) from of_ne (k := 2) (by omega) (by omega) q), h149]
  unfold fX2_aim
  rw [ltq, ltq, ltq, a_kind hw.1, a_at hw.1, c_fm hw (by omega), if_neg (show ¬ (Int32.ofNat (kd s) = 15) from of_ne (k := 15) (by omega) (by omega) h15), h121]
  by_cases q : kd s = 43
  · rw [if_pos (show Int32.ofNat (kd s) = 43 by rw [q]; rfl), if_pos (h43 q)]
  · rw [if_neg (show ¬ (Int32.ofNat (kd s) = 43) from of_ne (k := 43) (by omega) (by omega) q)]
end EC
