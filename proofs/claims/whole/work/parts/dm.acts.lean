/-! PASS 2, THE REFERENCE: an ACTUAL is noted where there is room for it already -/
/-- as EM, but that the ACTUAL ac is noted too -/
def EMA (kd wr : Nat → Nat) (m : Nat) (fM : Wd) (lev cur sp ac : Nat) (c c' : Nat → Nat) (w u : Wd) (L : List (Nat × Int32)) (P : Nat → Nat → Wd → Prop) (a0 a1 a2 a3 : Nat) : Prop :=
  GCS kd wr m fM lev cur c' sp u ∧ FLM u = FNL wr L (FLM w) ∧ OFF PGX u w ∧ (∀ k j, (k = 46 ∧ j < 4 * c 0 ∨ (k = 47 ∨ k = 48) ∧ j < c 1 ∨ (49 ≤ k ∧ k ≤ 51) ∧ j < c 2 ∨ (52 ≤ k ∧ k ≤ 54) ∧ j < c 3) → ¬ (52 ≤ k ∧ k ≤ 54 ∧ j = ac) → gi u k j = gi w k j) ∧ (∀ j, j < sp → gi u 59 j = gi w 59 j) ∧ LEC c c' ∧ (c' 0 ≤ c 0 + a0 ∧ c' 1 ≤ c 1 + a1 ∧ c' 2 ≤ c 2 + a2 ∧ c' 3 ≤ c 3 + a3) ∧ ∀ g, SAM c c' g u → (∀ k, 52 ≤ k ∧ k ≤ 54 → gi g k ac = gi u k ac) → P (c 0) (c' 0) g
section SG
variable {kd wr nm : Nat → Nat} {vv : Nat → Int64} {m lev cur sp ac : Nat} {fA fM : Wd} {c c1 c2 C TK : Nat → Nat} {SL : Nat → List Nat} {w u v : Wd} {L L1 L2 : List (Nat × Int32)} {P P1 P2 : Nat → Nat → Wd → Prop} {a0 a1 a2 a3 b0 b1 b2 b3 : Nat} {lu : Nat → Nat}
theorem EMA.wk (h : EMA kd wr m fM lev cur sp ac c c1 w u L P a0 a1 a2 a3) (hP : ∀ b b' g, P b b' g → P1 b b' g) (hb : a0 ≤ b0 ∧ a1 ≤ b1 ∧ a2 ≤ b2 ∧ a3 ≤ b3) : EMA kd wr m fM lev cur sp ac c c1 w u L P1 b0 b1 b2 b3 := by
  obtain ⟨h1, h2, h3, h4, h5, h6, h7, h8⟩ := h
  exact ⟨h1, h2, h3, h4, h5, h6, by omega, fun g hg hk => hP _ _ _ (h8 g hg hk)⟩
theorem EMA.fls (h : EMA kd wr m fM lev cur sp ac c c1 w u L1 P a0 a1 a2 a3) (hL : L1 = L2) : EMA kd wr m fM lev cur sp ac c c1 w u L2 P a0 a1 a2 a3 := hL ▸ h
/-- what's made, then the ACTUAL -/
theorem EM.act (h : EM kd wr m fM lev cur sp c c1 w u L P a0 a1 a2 a3) (hac : ac < c 3) (hO : OFF (fun k j => 52 ≤ k ∧ k ≤ 54 ∧ j = ac) v u) : EMA kd wr m fM lev cur sp ac c c1 w v L (fun b b' g => P b b' g ∧ ∀ k, 52 ≤ k ∧ k ≤ 54 → gi g k ac = gi v k ac) a0 a1 a2 a3 := by
  obtain ⟨h1, h2, h3, h4, h5, h6, h7, h8⟩ := h
  refine ⟨h1.off hO (fun k j hk => by unfold PGM PGX; omega), ?_, OFF.tr (hO.mono fun k j hk => by unfold PGX; omega) h3, fun k j hk hn => (hO k j hn).1.trans (h4 k j hk), fun j hj => (hO 59 j (by omega)).1.trans (h5 j hj), h6, h7, fun g hg hk => ⟨h8 g (fun k j hkj => (hg k j hkj).trans (hO k j (by omega)).1), hk⟩⟩
  show (gi v 0 10, gi v 0 11) = _
  rw [(hO 0 10 (by omega)).1, (hO 0 11 (by omega)).1]
  exact h2
/-- the ACTUAL before something else is made -/
theorem EM.pre (hO : OFF (fun k j => 52 ≤ k ∧ k ≤ 54 ∧ j = ac) u w) (hac : ac < c 3) (h : EM kd wr m fM lev cur sp c c1 u v L P a0 a1 a2 a3) : EMA kd wr m fM lev cur sp ac c c1 w v L (fun b b' g => P b b' g ∧ ∀ k, 52 ≤ k ∧ k ≤ 54 → gi g k ac = gi u k ac) a0 a1 a2 a3 := by
  obtain ⟨h1, h2, h3, h4, h5, h6, h7, h8⟩ := h
  refine ⟨h1, ?_, OFF.tr h3 (hO.mono fun k j hk => by unfold PGX; omega), fun k j hk hn => (h4 k j hk).trans (hO k j hn).1, fun j hj => (h5 j hj).trans (hO 59 j (by omega)).1, h6, h7, fun g hg hk => ⟨h8 g hg, fun k hkk => (hk k hkk).trans (h4 k ac (by omega))⟩⟩
  rw [h2]
  unfold FLM
  rw [(hO 0 10 (by omega)).1, (hO 0 11 (by omega)).1]
end SG
