/-! PASS 2, THE REFERENCE: an ACTUAL by name, an ACTUAL without a use -/
section SG
variable {kd wr nm : Nat → Nat} {vv : Nat → Int64} {m lev cur sp ac : Nat} {fA fM : Wd} {c c1 c2 C TK : Nat → Nat} {SL : Nat → List Nat} {w u v v' : Wd} {L L1 L2 : List (Nat × Int32)} {P P1 P2 : Nat → Nat → Wd → Prop} {a0 a1 a2 a3 b0 b1 b2 b3 : Nat} {lu : Nat → Nat}
theorem EM.both (hO1 : OFF (fun k j => 52 ≤ k ∧ k ≤ 54 ∧ j = ac) u w) (h : EM kd wr m fM lev cur sp c c1 u v L P a0 a1 a2 a3) (hac : ac < c 3) (hO : OFF (fun k j => 52 ≤ k ∧ k ≤ 54 ∧ j = ac) v' v) : EMA kd wr m fM lev cur sp ac c c1 w v' L (fun b b' g => P b b' g ∧ ∀ k, 52 ≤ k ∧ k ≤ 54 → gi g k ac = gi v' k ac) a0 a1 a2 a3 := by
  obtain ⟨h1, h2, h3, h4, h5, h6, h7, h8⟩ := h.act hac hO
  refine ⟨h1, ?_, OFF.tr h3 (hO1.mono fun k j hk => by unfold PGX; omega), fun k j hk hn => (h4 k j hk hn).trans (hO1 k j hn).1, fun j hj => (h5 j hj).trans (hO1 59 j (by omega)).1, h6, h7, h8⟩
  rw [h2]
  unfold FLM
  rw [(hO1 0 10 (by omega)).1, (hO1 0 11 (by omega)).1]
theorem ac_thunk {N n f : Nat} (h : GCS kd wr m fM lev cur c sp w) (hac : ac < c 3) (hac6 : ac < 6000) (hf5 : f < 5000) (h24 : gi fM 24 f = 1)
    (hV : ∀ w, GCS kd wr m fM lev cur c sp w → ∃ u c', RX12_mustBe N 11 (Int32.ofNat n) (gi fM 20 f) 0 w = some (Int32.ofNat (c 1), u) ∧ EM kd wr m fM lev cur sp c c' w u L P a0 a1 a2 a3) :
    ∃ u c', RX12_mustBe (N + 1) 10 (Int32.ofNat n) (Int32.ofNat f) (Int32.ofNat ac) w = some (0, u) ∧ EMA kd wr m fM lev cur sp ac c c' w u L (fun b b' g => P b b' g ∧ gi g 52 ac = 1 ∧ gi g 53 ac = Int32.ofNat (c 1)) a0 a1 a2 a3 := by
  have e24 : gi w 24 f = 1 := ((h.fx (k := 24) (by unfold PGM PGX; omega)).1).trans h24
  have hO1 : OFF (fun k j => 52 ≤ k ∧ k ≤ 54 ∧ j = ac) (si w 52 ac 1) w := OFF.si (by omega)
  have h1 := h.off hO1 (fun k j hk => by unfold PGM PGX; omega)
  obtain ⟨u, c', u1, u2⟩ := hV _ h1
  have hO2 : OFF (fun k j => 52 ≤ k ∧ k ≤ 54 ∧ j = ac) (si u 53 ac (Int32.ofNat (c 1))) u := OFF.si (by omega)
  have e20 : gi (si w 52 ac 1) 20 f = gi fM 20 f := (h1.fx (k := 20) (by unfold PGM PGX; omega)).1
  refine ⟨_, c', ?_, (EM.both hO1 u2 hac hO2).wk (fun b b' g hg => ⟨hg.1, ?_, ?_⟩) (by omega)⟩
  · show fX12_actual (RX12_mustBe N) (Int32.ofNat n) (Int32.ofNat f) (Int32.ofNat ac) w = _
    unfold fX12_actual
    rw [if_pos (inb_iN hf5 (by omega)), tc_iN (by omega), e24, ltq, if_neg (show ¬ ((1 : Int32) = 0) by decide), if_pos rfl, if_pos (inb_iN hac6 (by omega)), tc_iN (by omega), ltq, if_pos (inb_iN hf5 (by omega)), e20, u1, bn2_so, if_pos (inb_iN hac6 (by omega)), ltq]
  · rw [hg.2 52 (by omega), gi_si1 (by omega), u2.2.2.2.1 52 ac (by omega), gi_si0]
  · rw [hg.2 53 (by omega), gi_si0]
/-- an ACTUAL for a formal without SPEC -/
theorem ac_none {k N n f T : Nat} (h : GCS kd wr m fM lev cur c sp w) (hf : FTA c sp T) (hf5 : f < 5000) (h24 : gi fM 24 f = 0) (hV : LOS kd wr m fM lu lev cur k N n T) :
    ∃ u c', RX12_mustBe (N + 1) 10 (Int32.ofNat n) (Int32.ofNat f) (Int32.ofNat ac) w = some (0, u) ∧ EM kd wr m fM lev cur sp c c' w u (FLX fM lu cur k 4 n 0) (fun _ _ _ => True) (2 * T) ((T - 1) / 2) ((T + 1) / 2) ((T - 1) / 2) := by
  have e24 : gi w 24 f = 0 := ((h.fx (k := 24) (by unfold PGM PGX; omega)).1).trans h24
  obtain ⟨u, c', u1, u2⟩ := hV c sp w h (by unfold FTA at hf; unfold FIT; omega)
  refine ⟨u, c', ?_, u2⟩
  show fX12_actual (RX12_mustBe N) (Int32.ofNat n) (Int32.ofNat f) (Int32.ofNat ac) w = _
  unfold fX12_actual
  rw [if_pos (inb_iN hf5 (by omega)), tc_iN (by omega), e24, ltq, if_pos rfl, u1]
  rfl
end SG
