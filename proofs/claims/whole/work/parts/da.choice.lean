/-! PASS 2, THE REFERENCE: a choice -/
section SG
variable {kd wr nm : Nat → Nat} {vv : Nat → Int64} {m lev cur sp : Nat} {fA fM : Wd} {c c1 c2 C TK : Nat → Nat} {SL : Nat → List Nat} {w u v : Wd} {L L1 L2 : List (Nat × Int32)} {P P1 P2 : Nat → Nat → Wd → Prop} {a0 a1 a2 a3 b0 b1 b2 b3 : Nat} {lu : Nat → Nat}
/-- UNLESS, what's for true, JUMP, what's for false: with their jumps set -/
theorem EM.two {i j : Nat} {v1 w2 : Wd} {d1 : Nat → Nat} (hi : i = c 0) (h0 : EM kd wr m fM lev cur sp c (upC c 0 (c 0 + 1)) w v1 [] (fun b b' g => opW g b 11 0 0 0 ∧ b' = b + 1) 1 0 0 0) (h1 : EM kd wr m fM lev cur sp (upC c 0 (c 0 + 1)) d1 v1 w2 L1 P1 a0 a1 a2 a3) (hj : j = d1 0) (hj6 : d1 0 < 60000) (hc6 : c 0 < 60000) :
    ∃ w4, fX12_op 10 0 0 0 w2 = some (Int32.ofNat j, w4) ∧ fX12_patch (Int32.ofNat i) w4 = some (si w4 46 (4 * i + 1) (Int32.ofNat (j + 1))) ∧ GCS kd wr m fM lev cur (upC d1 0 (d1 0 + 1)) sp (si w4 46 (4 * i + 1) (Int32.ofNat (j + 1))) ∧
      ∀ {d3 w6}, EM kd wr m fM lev cur sp (upC d1 0 (d1 0 + 1)) d3 (si w4 46 (4 * i + 1) (Int32.ofNat (j + 1))) w6 L2 P2 b0 b1 b2 b3 → ∃ w7, fX12_patch (Int32.ofNat j) w6 = some w7 ∧ EM kd wr m fM lev cur sp c d3 w w7 (L1 ++ L2) (fun b b' g => ∃ q, opW g b 11 (Int32.ofNat (q + 1)) 0 0 ∧ P1 (b + 1) q g ∧ opW g q 10 (Int32.ofNat b') 0 0 ∧ P2 (q + 1) b' g) (a0 + 1 + (b0 + 1)) (a1 + b1) (a2 + b2) (a3 + b3) := by
  subst hi hj
  have hle := h1.2.2.2.2.2.1 0
  rw [upC_s] at hle
  have e64 : gi w2 0 64 = Int32.ofNat (d1 0) := h1.1.2.2.1.1
  have hset := EM.set (fun b' => Int32.ofNat (b' + 1)) h0 h1
  obtain ⟨u, u1, u2⟩ := EM.op hset.1 hj6 (a := 10) (x := 0) (y := 0) (z := 0)
  have e64' : gi (si w2 46 (4 * c 0 + 1) (Int32.ofNat (d1 0 + 1))) 0 64 = Int32.ofNat (d1 0) := by rw [gi_si1 (by omega)]; exact e64
  have hu := op_eq (a := 10) (x := 0) (y := 0) (z := 0) e64' hj6
  have huu : u = si (opU w2 (d1 0) 10 0 0 0) 46 (4 * c 0 + 1) (Int32.ofNat (d1 0 + 1)) := by
    rw [u1] at hu
    have h3 := (Prod.mk.inj (Option.some.inj hu)).2
    rw [h3]
    exact opU_comm (by omega)
  have hw4 := op_eq (a := 10) (x := 0) (y := 0) (z := 0) e64 hj6
  have e64o : gi (opU w2 (d1 0) 10 0 0 0) 0 64 = Int32.ofNat (d1 0 + 1) := gi_si0 _ _ _ _
  refine ⟨opU w2 (d1 0) 10 0 0 0, hw4, ?_, ?_, fun {d3 w6} h3 => ?_⟩
  · unfold fX12_patch
    rw [four_op, ad1_iN, if_pos (inb_iN (by omega) (by omega)), tc_iN (by omega), e64o]
    rfl
  · rw [← huu]
    exact u2.1
  · rw [← huu] at h3
    obtain ⟨p1, p2⟩ := EM.jmp u2 h3 hj6
    refine ⟨_, p1, (hset.seq p2).wk (fun b b' g hg => ?_) (by omega)⟩
    obtain ⟨q, g1, g2⟩ := hg
    exact ⟨q, g1.1, g1.2, g2.1, g2.2⟩
theorem vs_if {k N n x y z tx tz Tx Ty Tz : Nat} (hn : n < 24000) (hx : x < 24000) (hz : z < 24000) (h7 : gi fM 7 n = 8) (h8 : gi fM 8 n = Int32.ofNat x) (h9 : gi fM 9 n = Int32.ofNat y) (h10 : gi fM 10 n = Int32.ofNat z) (hy : y < 24000) (hxt : gi fM 12 x = Int32.ofNat tx) (htx : tx ≤ m) (hzt : gi fM 12 z = Int32.ofNat tz) (htz : tz ≤ m) (hTx : 1 ≤ Tx) (hTy : 1 ≤ Ty) (hTz : 1 ≤ Tz)
    (hX : VS kd wr m fM lu lev cur k N x Tx) (hY : VS kd wr m fM lu lev cur k (N + 1) y Ty) (hZ : VS kd wr m fM lu lev cur k (N + 1) z Tz) : VS kd wr m fM lu lev cur (k + 1) (N + 2) n (Tx + Ty + Tz + 3) := by
  intro c sp w h hf
  unfold FIT at hf
  obtain ⟨e1, e2, e3, e4⟩ := v_eq (N := N + 1) (s := 8) h hn h7 (by omega)
  have n1 : ¬ gi fM 7 n = 1 := by rw [h7]; decide
  have n2 : ¬ gi fM 7 n = 2 := by rw [h7]; decide
  have n3 : ¬ gi fM 7 n = 3 := by rw [h7]; decide
  have n4 : ¬ gi fM 7 n = 4 := by rw [h7]; decide
  have n5 : ¬ gi fM 7 n = 5 := by rw [h7]; decide
  have n9 : ¬ gi fM 7 n = 9 := by rw [h7]; decide
  have e8 : nd fM 8 n = x := by
    unfold nd
    rw [h8, tc_iN (by omega)]
  have e9 : nd fM 9 n = y := by
    unfold nd
    rw [h9, tc_iN (by omega)]
  have e10 : nd fM 10 n = z := by
    unfold nd
    rw [h10, tc_iN (by omega)]
  have hm := h.1.1.1
  have ez : nd fM 12 z = tz := by
    unfold nd
    rw [hzt, tc_iN (by omega)]
  have hty : TYX fM lu (k + 1) n = if TYX fM lu k y ≠ 0 ∧ TYX fM lu k z ≠ 0 ∧ TYX fM lu k y ≠ TYX fM lu k z then 0 else if TYX fM lu k y ≠ 0 then TYX fM lu k y else TYX fM lu k z := by
    rw [TYX, if_neg n1, if_neg n2, if_neg n9, if_neg n3, if_neg n4, if_neg n5, if_pos h7, e9, e10]
  have hfl : FLX fM lu cur (k + 1) 0 n 0 = FLX fM lu cur k 0 x 0 ++ misT (TYX fM lu k x) 2 (nd fM 12 x) ++ FLX fM lu cur k 0 y 0 ++ FLX fM lu cur k 0 z 0 ++ (if TYX fM lu k y ≠ 0 then misT (TYX fM lu k z) (TYX fM lu k y) (nd fM 12 z) else []) := by
    rw [FLX]
    dsimp only
    rw [if_pos rfl, if_neg (fun g => g.elim n1 n2), if_neg n9, if_neg n3, if_neg n4, if_neg n5, if_pos h7, e8, e9, e10]
  have hcd : ∀ b b' g, (CDM fM lu lev (k + 1) 0 n 0 0 b b' g ↔ ∃ b1 b2, CDM fM lu lev k 0 x 0 0 b b1 g ∧ opW g b1 11 (Int32.ofNat (b2 + 1)) 0 0 ∧ CDM fM lu lev k 0 y 0 0 (b1 + 1) b2 g ∧ opW g b2 10 (Int32.ofNat b') 0 0 ∧ CDM fM lu lev k 0 z 0 0 (b2 + 1) b' g) := fun b b' g => by
    rw [CDM]
    dsimp only
    rw [if_pos rfl, if_neg n1, if_neg n2, if_neg n9, if_neg n3, if_neg n4, if_neg n5, if_pos h7, e8, e9, e10]
  obtain ⟨w1, c1, x1, x2⟩ := g_mb hX h (by unfold FIT; omega) hx hxt htx (ty := 2)
  have hb1 := x2.2.2.2.2.2.2.1
  obtain ⟨w2, y1, y2⟩ := EM.op x2.1 (by omega) (a := 11) (x := 0) (y := 0) (z := 0)
  have u0 : upC c1 0 (c1 0 + 1) 0 = c1 0 + 1 := upC_s
  have un : ∀ i, i ≠ 0 → upC c1 0 (c1 0 + 1) i = c1 i := fun i hi => upC_n hi
  obtain ⟨w3, c3, z1, z2⟩ := hY _ sp w2 y2.1 (by unfold FIT; rw [u0, un 1 (by omega), un 2 (by omega), un 3 (by omega)]; omega)
  have hb3 := z2.2.2.2.2.2.2.1
  rw [u0, un 1 (by omega), un 2 (by omega), un 3 (by omega)] at hb3
  have q0 : upC c3 0 (c3 0 + 1) 0 = c3 0 + 1 := upC_s
  have qn : ∀ i, i ≠ 0 → upC c3 0 (c3 0 + 1) i = c3 i := fun i hi => upC_n hi
  obtain ⟨w4, s1, s2, s3, s4⟩ := EM.two (L2 := FLX fM lu cur k 0 z 0) (P2 := fun b b' g => FLX fM lu cur k 0 z 0 = [] → CDM fM lu lev k 0 z 0 0 b b' g) (b0 := 2 * Tz - 1) (b1 := (Tz - 1) / 2) (b2 := (Tz + 1) / 2) (b3 := (Tz - 1) / 2) rfl y2 z2 rfl (by omega) (by omega)
  obtain ⟨w6, c6, t1, t2⟩ := hZ _ sp _ s3 (by unfold FIT; rw [q0, qn 1 (by omega), qn 2 (by omega), qn 3 (by omega)]; omega)
  obtain ⟨w7, r1, r2⟩ := s4 t2
  have hall : EM kd wr m fM lev cur sp c c6 w w7 (FLX fM lu cur k 0 x 0 ++ misT (TYX fM lu k x) 2 (nd fM 12 x) ++ FLX fM lu cur k 0 y 0 ++ FLX fM lu cur k 0 z 0) (fun b b' g => FLX fM lu cur k 0 x 0 = [] → FLX fM lu cur k 0 y 0 = [] → FLX fM lu cur k 0 z 0 = [] → CDM fM lu lev (k + 1) 0 n 0 0 b b' g) (2 * (Tx + Ty + Tz + 3) - 1) ((Tx + Ty + Tz + 3 - 1) / 2) ((Tx + Ty + Tz + 3 + 1) / 2) ((Tx + Ty + Tz + 3 - 1) / 2) := by
    refine ((x2.seq r2).fls (by simp only [List.append_assoc])).wk (fun b b' g hg n1 n2 n3 => ?_) (by omega)
    obtain ⟨b1, g1, b2, g2, g3, g4, g5⟩ := hg
    exact (hcd b b' g).mpr ⟨b1, b2, g1 n1, g2, g3 n2, g4, g5 n3⟩
  rw [show N + 2 = N + 1 + 1 by omega, e1]
  unfold fX12_value
  have f8 := (h.fx (k := 8) (j := n) (by unfold PGM PGX; omega)).1
  have f9 := (y2.1.fx (k := 9) (j := n) (by unfold PGM PGX; omega)).1
  have f10 : gi (si w4 46 (4 * c1 0 + 1) (Int32.ofNat (c3 0 + 1))) 10 n = gi fM 10 n := (s3.fx (k := 10) (by unfold PGM PGX; omega)).1
  have g10 := (r2.1.fx (k := 10) (j := n) (by unfold PGM PGX; omega)).1
  rw [if_pos e3, e4, e2, ltq, if_neg (show ¬ (Int32.ofNat 8 = 1) by decide), if_neg (show ¬ (Int32.ofNat 8 = 2) by decide), if_neg (show ¬ (Int32.ofNat 8 = 3) by decide), if_neg (show ¬ (Int32.ofNat 8 = 4) by decide), if_neg (show ¬ (Int32.ofNat 8 = 5) by decide), if_neg (show ¬ (Int32.ofNat 8 = 7) by decide), if_pos (show Int32.ofNat 8 = 8 from rfl), if_pos e3, f8, h8, x1, bn2_so, y1, bn2_so, if_pos e3, f9, h9, z1, bn2_so, s1, bn2_so, s2, bn_so, if_pos e3, f10, h10, t1, bn2_so, r1, bn_so]
  have hok : ∀ t, (TYX fM lu k y = 0 ∧ t = TYX fM lu k z ∨ TYX fM lu k y ≠ 0 ∧ t = TYX fM lu k y) → ¬ (TYX fM lu k y ≠ 0 ∧ TYX fM lu k z ≠ 0 ∧ TYX fM lu k y ≠ TYX fM lu k z) → ∃ u c', (some (t, w7) : Option (Int32 × Wd)) = some (TYX fM lu (k + 1) n, u) ∧ EM kd wr m fM lev cur sp c c' w u (FLX fM lu cur (k + 1) 0 n 0) (fun b b' g => FLX fM lu cur (k + 1) 0 n 0 = [] → CDM fM lu lev (k + 1) 0 n 0 0 b b' g) (2 * (Tx + Ty + Tz + 3) - 1) ((Tx + Ty + Tz + 3 - 1) / 2) ((Tx + Ty + Tz + 3 + 1) / 2) ((Tx + Ty + Tz + 3 - 1) / 2) := fun t ht hno => by
    have ht' : TYX fM lu (k + 1) n = t := by
      rw [hty, if_neg hno]
      rcases ht with ⟨p1, p2⟩ | ⟨p1, p2⟩
      · rw [if_neg (fun g => g p1), p2]
      · rw [if_pos p1, p2]
    have hf0 : (if TYX fM lu k y ≠ 0 then misT (TYX fM lu k z) (TYX fM lu k y) (nd fM 12 z) else []) = [] := by
      by_cases p : TYX fM lu k y = 0
      · exact if_neg (fun g => g p)
      · rw [if_pos p]
        unfold misT
        exact if_neg (fun g => hno ⟨p, g.1, fun e => g.2 e.symm⟩)
    refine ⟨w7, c6, by rw [ht'], (hall.fls (by rw [hfl, hf0, List.append_nil])).wk (fun b b' g hg hnil => ?_) (by omega)⟩
    rw [hfl, hf0, List.append_nil] at hnil
    obtain ⟨m1, m2⟩ := List.append_eq_nil_iff.mp hnil
    obtain ⟨m3, m4⟩ := List.append_eq_nil_iff.mp m1
    exact hg (List.append_eq_nil_iff.mp m3).1 m4 m2
  by_cases p1 : TYX fM lu k y = 0
  · rw [if_pos p1, if_pos p1]
    exact hok _ (Or.inl ⟨p1, rfl⟩) (fun g => g.1 p1)
  · rw [if_neg p1]
    by_cases p2 : TYX fM lu k z = 0
    · rw [if_pos p2, if_neg p1]
      exact hok _ (Or.inr ⟨p1, rfl⟩) (fun g => g.2.1 p2)
    · rw [if_neg p2]
      by_cases p3 : TYX fM lu k y = TYX fM lu k z
      · rw [if_pos p3, if_neg p1]
        exact hok _ (Or.inr ⟨p1, rfl⟩) (fun g => g.2.2 p3)
      · obtain ⟨u, v1, v2, v3, v4⟩ := g_found r2.1 htz (num := 4)
        rw [if_neg p3, if_pos e3, g10, h10, if_pos (inb_iN hz (by omega)), tc_iN (by omega), (r2.1.fx (k := 12) (by unfold PGM PGX; omega)).1, hzt, v1, bn_so]
        have hf0 : (if TYX fM lu k y ≠ 0 then misT (TYX fM lu k z) (TYX fM lu k y) (nd fM 12 z) else []) = [(tz, 4)] := by
          rw [if_pos p1]
          unfold misT
          rw [if_pos ⟨p2, fun e => p3 e.symm⟩, ez]
        refine ⟨u, c6, by rw [hty, if_pos ⟨p1, p2, p3⟩], ((hall.seq (EM.fl v2 (L := [(tz, 4)]) v3 v4)).fls (by rw [hfl, hf0])).wk (fun b b' g hg hnil => ?_) (by omega)⟩
        rw [hfl, hf0] at hnil
        exact absurd (List.append_eq_nil_iff.mp hnil).2 (by simp)
end SG
