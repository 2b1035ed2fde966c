/-! PASS 2, THE REFERENCE: an ACTUAL for a LABEL -/
section SG
variable {kd wr nm : Nat → Nat} {vv : Nat → Int64} {m lev cur sp ac : Nat} {fA fM : Wd} {c c1 c2 C TK : Nat → Nat} {SL : Nat → List Nat} {w u v : Wd} {L L1 L2 : List (Nat × Int32)} {P P1 P2 : Nat → Nat → Wd → Prop} {a0 a1 a2 a3 b0 b1 b2 b3 : Nat} {lu : Nat → Nat}
theorem ac_label {k N n f T : Nat} (h : GCS kd wr m fM lev cur c sp w) (hf : FTA c sp T) (hac : ac < c 3) (hac6 : ac < 6000) (hf5 : f < 5000) (h24 : gi fM 24 f = 4) (hT1 : 1 ≤ T) (hV : AIS kd wr m fM lu lev cur k N n T) :
    ∃ u c', RX12_mustBe (N + 1) 10 (Int32.ofNat n) (Int32.ofNat f) (Int32.ofNat ac) w = some (0, u) ∧ EMA kd wr m fM lev cur sp ac c c' w u (FLX fM lu cur k 2 n 0) (fun b b' g => thP (c 1) 0 (fun b b' g => FLX fM lu cur k 2 n 0 = [] → CDM fM lu lev k 2 n 0 0 b b' g) b b' g ∧ gi g 52 ac = 4 ∧ gi g 53 ac = Int32.ofNat (c 1)) (2 * T + 2) ((T - 1) / 2 + 1) ((T + 1) / 2) ((T - 1) / 2) := by
  unfold FTA at hf
  have e24 : gi w 24 f = 4 := ((h.fx (k := 24) (by unfold PGM PGX; omega)).1).trans h24
  have hc : c 0 < 60000 := by omega
  obtain ⟨v1, x1, x2⟩ := EM.op h hc (a := 10) (x := 0) (y := 0) (z := 0)
  have u0 : upC c 0 (c 0 + 1) 0 = c 0 + 1 := upC_s
  have un : ∀ i, i ≠ 0 → upC c 0 (c 0 + 1) i = c i := fun i hi => upC_n hi
  obtain ⟨v2, y1, y2⟩ := EM.thk x2.1 (by rw [un 1 (by omega)]; omega) (a := 0)
  rw [un 1 (by omega)] at y1 y2
  generalize hd : upC (upC c 0 (c 0 + 1)) 1 (c 1 + 1) = d at y2
  have d0 : d 0 = c 0 + 1 := by rw [← hd, upC_n (by omega), u0]
  have d1 : d 1 = c 1 + 1 := by rw [← hd, upC_s]
  have d2 : d 2 = c 2 := by rw [← hd, upC_n (by omega), un 2 (by omega)]
  have d3 : d 3 = c 3 := by rw [← hd, upC_n (by omega), un 3 (by omega)]
  obtain ⟨v3, d4, z1, z2⟩ := hV d sp v2 y2.1 (by unfold FIT; omega)
  have hb := z2.2.2.2.2.2.2.1
  obtain ⟨v4, s1, s2⟩ := EM.op z2.1 (by omega) (a := 17) (x := 0) (y := 0) (z := 0)
  have h3 := (y2.seq z2).seq s2
  rw [List.append_nil, List.nil_append] at h3
  obtain ⟨p1, p2⟩ := EM.jmp x2 h3 hc
  generalize hv5 : si v4 46 (4 * c 0 + 1) (Int32.ofNat (upC d4 0 (d4 0 + 1) 0)) = v5 at p1 p2
  have hO : OFF (fun k j => 52 ≤ k ∧ k ≤ 54 ∧ j = ac) (si (si v5 52 ac 4) 53 ac (Int32.ofNat (c 1))) v5 := OFF.tr (OFF.si (by omega)) (OFF.si (by omega))
  refine ⟨_, _, ?_, (p2.act hac hO).wk (fun b b' g hg => ?_) (by omega)⟩
  · show fX12_actual (RX12_mustBe N) (Int32.ofNat n) (Int32.ofNat f) (Int32.ofNat ac) w = _
    unfold fX12_actual
    rw [if_pos (inb_iN hf5 (by omega)), tc_iN (by omega), e24, ltq, if_neg (show ¬ ((4 : Int32) = 0) by decide), if_neg (show ¬ ((4 : Int32) = 1) by decide), if_pos rfl, x1, bn2_so, y1, bn2_so, z1, bn2_so, s1, bn2_so, p1, bn_so, if_pos (inb_iN hac6 (by omega)), tc_iN (by omega), ltq, if_pos (inb_iN hac6 (by omega)), ltq]
  · obtain ⟨⟨g1, q, ⟨b1, ⟨g2, g3, g4⟩, g5⟩, g6, g7⟩, g8⟩ := hg
    rw [g2] at g5
    refine ⟨⟨g1, g3, g4, q, g5, g6, g7⟩, ?_, ?_⟩
    · rw [g8 52 (by omega), gi_si1 (by omega), gi_si0]
    · rw [g8 53 (by omega), gi_si0]
end SG
