/-! PASS 2, THE REFERENCE: EXPRS with signs for two -/
section SG
variable {kd wr nm : Nat → Nat} {vv : Nat → Int64} {m lev cur sp : Nat} {fA fM : Wd} {c c1 c2 C TK : Nat → Nat} {SL : Nat → List Nat} {w u v : Wd} {L L1 L2 : List (Nat × Int32)} {P P1 P2 : Nat → Nat → Wd → Prop} {a0 a1 a2 a3 b0 b1 b2 b3 : Nat} {lu : Nat → Nat}
/-- there's room for T TOKENS more -/
def FIT (c : Nat → Nat) (sp T : Nat) : Prop := c 0 + 2 * T ≤ 60000 ∧ 2 * c 1 + T ≤ 12000 ∧ 2 * c 2 + T ≤ 8598 ∧ 2 * c 3 + T ≤ 12000 ∧ sp + T ≤ 24000
/-- what 'value' does with node n, which has T TOKENS -/
def VS (kd wr : Nat → Nat) (m : Nat) (fM : Wd) (lu : Nat → Nat) (lev cur k N n T : Nat) : Prop :=
  ∀ c sp w, GCS kd wr m fM lev cur c sp w → FIT c sp T → ∃ u c', RX12_mustBe N 1 (Int32.ofNat n) 0 0 w = some (TYX fM lu k n, u) ∧ EM kd wr m fM lev cur sp c c' w u (FLX fM lu cur k 0 n 0) (fun b b' g => FLX fM lu cur k 0 n 0 = [] → CDM fM lu lev k 0 n 0 0 b b' g) (2 * T - 1) ((T - 1) / 2) ((T + 1) / 2) ((T - 1) / 2)
/-- and 'mustBe' -/
theorem g_mb {k N n T tk : Nat} {ty : Int32} (hV : VS kd wr m fM lu lev cur k N n T) (h : GCS kd wr m fM lev cur c sp w) (hf : FIT c sp T) (hn : n < 24000) (h12 : gi fM 12 n = Int32.ofNat tk) (ht : tk ≤ m) :
    ∃ u c', RX12_mustBe (N + 1) 0 (Int32.ofNat n) ty 0 w = some (0, u) ∧ EM kd wr m fM lev cur sp c c' w u (FLX fM lu cur k 0 n 0 ++ misT (TYX fM lu k n) ty (nd fM 12 n)) (fun b b' g => FLX fM lu cur k 0 n 0 = [] → CDM fM lu lev k 0 n 0 0 b b' g) (2 * T - 1) ((T - 1) / 2) ((T + 1) / 2) ((T - 1) / 2) := by
  obtain ⟨u, c', u1, u2⟩ := hV c sp w h hf
  have hm := h.1.1.1
  have e : ∀ w, RX12_mustBe (N + 1) 0 (Int32.ofNat n) ty 0 w = fX12_mustBe (RX12_mustBe N) (Int32.ofNat n) ty w := fun w => rfl
  have hnd : nd fM 12 n = tk := by
    unfold nd
    rw [h12, tc_iN (by omega)]
  rw [e]
  unfold fX12_mustBe
  rw [u1, bn2_so, hnd]
  unfold misT
  by_cases q0 : TYX fM lu k n = 0
  · rw [if_pos q0, if_neg (fun g => g.1 q0), List.append_nil]
    exact ⟨u, c', rfl, u2⟩
  · rw [if_neg q0]
    by_cases q1 : TYX fM lu k n = ty
    · rw [if_pos q1, if_neg (fun g => g.2 q1), List.append_nil]
      exact ⟨u, c', rfl, u2⟩
    · obtain ⟨u', v1, v2, v3, v4⟩ := g_found u2.1 ht (num := 4)
      rw [if_neg q1, if_pos (inb_iN hn (by omega)), tc_iN (by omega), (u2.1.fx (k := 12) (by unfold PGM PGX; omega)).1, h12, v1, if_pos (show TYX fM lu k n ≠ 0 ∧ TYX fM lu k n ≠ ty from ⟨q0, q1⟩)]
      refine ⟨u', c', rfl, ?_⟩
      exact (u2.seq (EM.fl v2 (L := [(tk, 4)]) v3 v4)).wk (fun b b' g hg => by
        obtain ⟨b1, g1, g2⟩ := hg
        rw [g2]
        exact g1) (by omega)
def lvI (s : Int32) : Int32 := if s = 42 ∨ s = 282 ∨ s = 283 then (8) else if s = 43 ∨ s = 45 then (7) else if s = 60 ∨ s = 61 ∨ s = 62 ∨ s = 287 ∨ s = 288 ∨ s = 289 then (6) else if s = 94 then (9) else if s = 277 then (4) else if s = 278 then (3) else if s = 279 then (2) else if s = 280 then (1) else (0)
theorem two_sg : ∀ sg, sg < 51 → stb sg ≠ 0 → (¬ (4 : Int32) < lvI (Int32.ofNat (kM sg)) ↔ (Int32.ofNat (kM sg) = 280 ∨ Int32.ofNat (kM sg) = 279 ∨ Int32.ofNat (kM sg) = 278 ∨ Int32.ofNat (kM sg) = 277)) ∧ ((6 : Int32) < lvI (Int32.ofNat (kM sg)) ↔ sgY (Int32.ofNat (kM sg)) = 1) ∧ (sgY (Int32.ofNat (kM sg)) = 1 ∨ sgY (Int32.ofNat (kM sg)) = 2) := by decide +kernel
/-- one sign for two, its left operand done -/
theorem g_joined {k N n x y Ty tx ty sg : Nat} (hV : ∀ N', N ≤ N' → VS kd wr m fM lu lev cur k N' y Ty) (h : GCS kd wr m fM lev cur c sp w) (hfy : FIT c sp Ty) (hc1 : c 0 + 2 * Ty < 60000) (hy1 : 1 ≤ Ty) (hn : n < 24000) (hx : x < 24000) (hy : y < 24000) (h10 : gi fM 10 n = Int32.ofNat y) (h9 : gi fM 9 n = Int32.ofNat (kM sg)) (hs : stb sg ≠ 0) (hs5 : sg < 51) (hxt : gi fM 12 x = Int32.ofNat tx) (hyt : gi fM 12 y = Int32.ofNat ty) (htx : tx ≤ m) (hty : ty ≤ m) {first : Int32} :
    ∃ u c', RX12_mustBe (N + 2) 3 (Int32.ofNat n) (Int32.ofNat x) first w = some (sgY (gi fM 9 n), u) ∧ EM kd wr m fM lev cur sp c c' w u
      (if gi fM 9 n = 61 ∨ gi fM 9 n = 289 then FLX fM lu cur k 0 y 0 ++ (if first ≠ 0 then misT (TYX fM lu k y) first (nd fM 12 y) else [])
        else misT first (if gi fM 9 n = 280 ∨ gi fM 9 n = 279 ∨ gi fM 9 n = 278 ∨ gi fM 9 n = 277 then 2 else 1) (nd fM 12 x) ++ (FLX fM lu cur k 0 y 0 ++ misT (TYX fM lu k y) (if gi fM 9 n = 280 ∨ gi fM 9 n = 279 ∨ gi fM 9 n = 278 ∨ gi fM 9 n = 277 then 2 else 1) (nd fM 12 y)))
      (fun b b' g => ∃ b2, (FLX fM lu cur k 0 y 0 = [] → CDM fM lu lev k 0 y 0 0 b b2 g) ∧ opW g b2 8 (gi fM 9 n) 0 0 ∧ b' = b2 + 1) (2 * Ty) ((Ty - 1) / 2) ((Ty + 1) / 2) ((Ty - 1) / 2) := by
  have hm := h.1.1.1
  obtain ⟨k1, k2, k3⟩ := two_sg sg hs5 hs
  rw [← h9] at k1 k2 k3
  have ndx : nd fM 12 x = tx := by
    unfold nd
    rw [hxt, tc_iN (by omega)]
  have ndy : nd fM 12 y = ty := by
    unfold nd
    rw [hyt, tc_iN (by omega)]
  have e9 : ∀ v {c'}, GCS kd wr m fM lev cur c' sp v → ∀ k j, (7 ≤ k ∧ k ≤ 13) → gi v k j = gi fM k j := fun v c' hv k j hk => (hv.fx (by unfold PGM PGX; omega)).1
  have e : ∀ w, RX12_mustBe (N + 2) 3 (Int32.ofNat n) (Int32.ofNat x) first w = fX12_joined (RX12_mustBe (N + 1)) (Int32.ofNat n) (Int32.ofNat x) first w := fun w => rfl
  have hi : ∀ {a b : Nat}, a < b → b < 2147483648 → inb (Int32.ofNat a) b = true := fun h1 h2 => inb_iN h1 h2
  -- the sign itself
  have hop : ∀ {c1 v}, GCS kd wr m fM lev cur c1 sp v → c1 0 < 60000 → ∃ u c', fX12_joined_122 (RX12_mustBe (N + 1)) (gi fM 9 n) (lvI (gi fM 9 n)) v = some (sgY (gi fM 9 n), u) ∧ EM kd wr m fM lev cur sp c1 c' v u [] (fun b b' g => opW g b 8 (gi fM 9 n) 0 0 ∧ b' = b + 1) 1 0 0 0 := fun hv hc => by
    obtain ⟨u, u1, u2⟩ := EM.op hv hc (a := 8) (x := gi fM 9 n) (y := 0) (z := 0)
    refine ⟨u, _, ?_, u2⟩
    unfold fX12_joined_122
    rw [u1, bn2_so]
    by_cases q : (6 : Int32) < lvI (gi fM 9 n)
    · rw [if_pos q, k2.mp q]
    · rw [if_neg q]
      rcases k3 with g | g
      · exact absurd (k2.mpr g) q
      · rw [g]
  have hlv : ∀ s w, fX12_levelOf s w = lvI s := fun _ _ => rfl
  rw [e]
  unfold fX12_joined
  rw [if_pos (hi hn (by omega)), tc_iN (by omega), e9 w h 9 n (by omega), ltq, hlv, ltq]
  have go : ∀ {c1 v L P}, EM kd wr m fM lev cur sp c c1 w v L P (2 * Ty - 1) ((Ty - 1) / 2) ((Ty + 1) / 2) ((Ty - 1) / 2) → (∀ b b' g, P b b' g → FLX fM lu cur k 0 y 0 = [] → CDM fM lu lev k 0 y 0 0 b b' g) → ∃ u c', fX12_joined_122 (RX12_mustBe (N + 1)) (gi fM 9 n) (lvI (gi fM 9 n)) v = some (sgY (gi fM 9 n), u) ∧ EM kd wr m fM lev cur sp c c' w u L (fun b b' g => ∃ b2, (FLX fM lu cur k 0 y 0 = [] → CDM fM lu lev k 0 y 0 0 b b2 g) ∧ opW g b2 8 (gi fM 9 n) 0 0 ∧ b' = b2 + 1) (2 * Ty) ((Ty - 1) / 2) ((Ty + 1) / 2) ((Ty - 1) / 2) := fun hv hP => by
    have hb := hv.2.2.2.2.2.2.1
    obtain ⟨u, c', v1, v2⟩ := hop hv.1 (by omega)
    refine ⟨u, c', v1, ?_⟩
    have h2 := hv.seq v2
    rw [List.append_nil] at h2
    exact h2.wk (fun b b' g hg => by
      obtain ⟨b2, g1, g2⟩ := hg
      exact ⟨b2, hP _ _ _ g1, g2⟩) (by omega)
  -- = and unlike
  have h30 : ∃ u c', fX12_joined_30 (RX12_mustBe (N + 1)) (Int32.ofNat n) first (gi fM 9 n) (lvI (gi fM 9 n)) w = some (sgY (gi fM 9 n), u) ∧ EM kd wr m fM lev cur sp c c' w u (FLX fM lu cur k 0 y 0 ++ (if first ≠ 0 then misT (TYX fM lu k y) first (nd fM 12 y) else [])) (fun b b' g => ∃ b2, (FLX fM lu cur k 0 y 0 = [] → CDM fM lu lev k 0 y 0 0 b b2 g) ∧ opW g b2 8 (gi fM 9 n) 0 0 ∧ b' = b2 + 1) (2 * Ty) ((Ty - 1) / 2) ((Ty + 1) / 2) ((Ty - 1) / 2) := by
    obtain ⟨u1, c1, v1, v2⟩ := hV (N + 1) (by omega) c sp w h hfy
    unfold fX12_joined_30
    rw [if_pos (hi hn (by omega)), tc_iN (by omega), e9 w h 10 n (by omega), h10, v1, bn2_so]
    have hid := go v2 (fun _ _ _ hp => hp)
    by_cases q0 : first = 0
    · rw [if_pos q0, if_neg (fun g => g q0), List.append_nil]
      exact hid
    · rw [if_neg q0, if_pos q0]
      unfold misT
      by_cases q1 : TYX fM lu k y = 0
      · rw [if_pos q1, if_neg (fun g => g.1 q1), List.append_nil]
        exact hid
      · rw [if_neg q1]
        by_cases q2 : first = TYX fM lu k y
        · rw [if_pos q2, if_neg (fun g => g.2 q2.symm), List.append_nil]
          exact hid
        · obtain ⟨u', w1, w2, w3, w4⟩ := g_found v2.1 hty (num := 4)
          rw [if_neg q2, if_pos (hi hn (by omega)), e9 u1 v2.1 10 n (by omega), h10, if_pos (hi hy (by omega)), tc_iN (by omega), e9 u1 v2.1 12 y (by omega), hyt, w1, bn_so, if_pos (show TYX fM lu k y ≠ 0 ∧ TYX fM lu k y ≠ first from ⟨q1, fun g => q2 g.symm⟩), ndy]
          exact go ((v2.seq (EM.fl w2 (L := [(ty, 4)]) w3 w4)).wk (P1 := fun b b' g => FLX fM lu cur k 0 y 0 = [] → CDM fM lu lev k 0 y 0 0 b b' g) (fun b b' g hg => by
            obtain ⟨b1, g1, g2⟩ := hg
            rw [g2]
            exact g1) (by omega)) (fun _ _ _ hp => hp)
  -- all the others
  have h87 : ∀ s0, ∃ u c', fX12_joined_87 (RX12_mustBe (N + 1)) s0 (Int32.ofNat n) (Int32.ofNat x) first (gi fM 9 n) (lvI (gi fM 9 n)) w = some (sgY (gi fM 9 n), u) ∧ EM kd wr m fM lev cur sp c c' w u (misT first s0 (nd fM 12 x) ++ (FLX fM lu cur k 0 y 0 ++ misT (TYX fM lu k y) s0 (nd fM 12 y))) (fun b b' g => ∃ b2, (FLX fM lu cur k 0 y 0 = [] → CDM fM lu lev k 0 y 0 0 b b2 g) ∧ opW g b2 8 (gi fM 9 n) 0 0 ∧ b' = b2 + 1) (2 * Ty) ((Ty - 1) / 2) ((Ty + 1) / 2) ((Ty - 1) / 2) := fun s0 => by
    have hgo : ∃ u c', (bn2 (RX12_mustBe (N + 1) 0 (Int32.ofNat y) s0 0 w) fun _ w4 => fX12_joined_122 (RX12_mustBe (N + 1)) (gi fM 9 n) (lvI (gi fM 9 n)) w4) = some (sgY (gi fM 9 n), u) ∧ EM kd wr m fM lev cur sp c c' w u (FLX fM lu cur k 0 y 0 ++ misT (TYX fM lu k y) s0 (nd fM 12 y)) (fun b b' g => ∃ b2, (FLX fM lu cur k 0 y 0 = [] → CDM fM lu lev k 0 y 0 0 b b2 g) ∧ opW g b2 8 (gi fM 9 n) 0 0 ∧ b' = b2 + 1) (2 * Ty) ((Ty - 1) / 2) ((Ty + 1) / 2) ((Ty - 1) / 2) := by
      obtain ⟨u1, c1, v1, v2⟩ := g_mb (hV N (Nat.le_refl _)) h hfy hy hyt hty (ty := s0)
      rw [v1, bn2_so]
      exact go v2 (fun _ _ _ hp => hp)
    unfold fX12_joined_87
    unfold misT at hgo ⊢
    by_cases q0 : first = 0
    · rw [if_pos q0, if_neg (show ¬ (first ≠ 0 ∧ first ≠ s0) from fun g => g.1 q0), List.nil_append, if_pos (hi hn (by omega)), tc_iN (by omega), e9 w h 10 n (by omega), h10]
      exact hgo
    · rw [if_neg q0]
      by_cases q1 : first = s0
      · rw [if_pos q1, if_neg (show ¬ (first ≠ 0 ∧ first ≠ s0) from fun g => g.2 q1), List.nil_append, if_pos (hi hn (by omega)), tc_iN (by omega), e9 w h 10 n (by omega), h10]
        exact hgo
      · obtain ⟨u', w1, w2, w3, w4⟩ := g_found h htx (num := 4)
        rw [if_neg q1, if_pos (show first ≠ 0 ∧ first ≠ s0 from ⟨q0, q1⟩), if_pos (hi hx (by omega)), tc_iN (by omega), e9 w h 12 x (by omega), hxt, w1, bn_so, if_pos (hi hn (by omega)), tc_iN (by omega), e9 u' w2 10 n (by omega), h10, ndx]
        obtain ⟨u1, c1, v1, v2⟩ := g_mb (hV N (Nat.le_refl _)) w2 hfy hy hyt hty (ty := s0)
        rw [v1, bn2_so]
        unfold misT at v2
        have h3 := EM.after (L1 := [(tx, 4)]) w3 w4 v2
        exact go h3 (fun _ _ _ hp => hp)
  by_cases q1 : gi fM 9 n = 61
  · rw [if_pos q1, if_pos (Or.inl q1)]
    exact h30
  · rw [if_neg q1]
    by_cases q2 : gi fM 9 n = 289
    · rw [if_pos q2, if_pos (Or.inr q2)]
      exact h30
    · rw [if_neg q2, if_neg (show ¬ (gi fM 9 n = 61 ∨ gi fM 9 n = 289) from fun g => g.elim q1 q2)]
      by_cases q3 : (4 : Int32) < lvI (gi fM 9 n)
      · rw [if_pos q3, if_neg (show ¬ (gi fM 9 n = 280 ∨ gi fM 9 n = 279 ∨ gi fM 9 n = 278 ∨ gi fM 9 n = 277) from fun g => (k1.mpr g) q3)]
        exact h87 1
      · rw [if_neg q3, if_pos (k1.mp q3)]
        exact h87 2
end SG
