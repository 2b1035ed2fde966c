/-! PASS 2, THE REFERENCE: what's just looked at -/
section SG
variable {kd wr nm : Nat → Nat} {vv : Nat → Int64} {m lev cur sp : Nat} {fA fM : Wd} {c c1 c2 C TK : Nat → Nat} {SL : Nat → List Nat} {w u v : Wd} {L L1 L2 : List (Nat × Int32)} {P P1 P2 : Nat → Nat → Wd → Prop} {a0 a1 a2 a3 b0 b1 b2 b3 : Nat} {lu : Nat → Nat}
/-- what 'names' does with node n -/
def NS (kd wr : Nat → Nat) (m : Nat) (fM : Wd) (lu : Nat → Nat) (lev cur k N n T : Nat) : Prop :=
  ∀ c sp w, GCS kd wr m fM lev cur c sp w → FIT c sp T → ∃ u c', RX12_mustBe N 9 (Int32.ofNat n) 0 0 w = some (0, u) ∧ EM kd wr m fM lev cur sp c c' w u (FLX fM lu cur k 3 n 0) (fun _ _ _ => True) (2 * T - 1) ((T - 1) / 2) ((T + 1) / 2) ((T - 1) / 2)
/-- and 'loose' -/
def LOS (kd wr : Nat → Nat) (m : Nat) (fM : Wd) (lu : Nat → Nat) (lev cur k N n T : Nat) : Prop :=
  ∀ c sp w, GCS kd wr m fM lev cur c sp w → FIT c sp (T + 1) → ∃ u c', RX12_mustBe N 8 (Int32.ofNat n) 0 0 w = some (0, u) ∧ EM kd wr m fM lev cur sp c c' w u (FLX fM lu cur k 4 n 0) (fun _ _ _ => True) (2 * T) ((T - 1) / 2) ((T + 1) / 2) ((T - 1) / 2)
theorem n_eq {N n s : Nat} (h : GCS kd wr m fM lev cur c sp w) (hn : n < 24000) (h7 : gi fM 7 n = Int32.ofNat s) (hs : s < 10) : RX12_mustBe (N + 1) 9 (Int32.ofNat n) 0 0 w = fX12_names (RX12_mustBe N) (Int32.ofNat n) w ∧ gi w 7 n = Int32.ofNat s ∧ inb (Int32.ofNat n) 24000 = true ∧ (Int32.ofNat n).toNatClampNeg = n := ⟨rfl, ((h.fx (k := 7) (by unfold PGM PGX; omega)).1).trans h7, inb_iN hn (by omega), tc_iN (by omega)⟩
theorem ns_group {k N n x T : Nat} (hn : n < 24000) (hx : x < 24000) (h7 : gi fM 7 n = 9) (h8 : gi fM 8 n = Int32.ofNat x) (hV : NS kd wr m fM lu lev cur k N x T) : NS kd wr m fM lu lev cur (k + 1) (N + 1) n (T + 2) := by
  intro c sp w h hf
  unfold FIT at hf
  obtain ⟨e1, e2, e3, e4⟩ := n_eq (N := N) (s := 9) h hn h7 (by omega)
  obtain ⟨u, c', u1, u2⟩ := hV c sp w h (by unfold FIT; omega)
  have e8 : nd fM 8 n = x := by
    unfold nd
    rw [h8, tc_iN (by omega)]
  have hfl : FLX fM lu cur (k + 1) 3 n 0 = FLX fM lu cur k 3 x 0 := by
    rw [FLX]
    dsimp only
    rw [if_neg (by omega), if_neg (by omega), if_neg (by omega), if_pos rfl, if_pos h7, e8]
  refine ⟨u, c', ?_, ?_⟩
  · rw [e1]
    unfold fX12_names
    rw [if_pos e3, e4, e2, if_pos (show Int32.ofNat 9 = 9 from rfl), if_pos e3, (h.fx (k := 8) (by unfold PGM PGX; omega)).1, h8, u1]
    rfl
  · rw [hfl]
    exact u2.wk (fun _ _ _ _ => trivial) (by omega)
theorem ns_if {k N n x y z tx Tx Ty Tz : Nat} (hn : n < 24000) (hx : x < 24000) (hy : y < 24000) (hz : z < 24000) (h7 : gi fM 7 n = 8) (h8 : gi fM 8 n = Int32.ofNat x) (h9 : gi fM 9 n = Int32.ofNat y) (h10 : gi fM 10 n = Int32.ofNat z) (hxt : gi fM 12 x = Int32.ofNat tx) (htx : tx ≤ m) (hTx : 1 ≤ Tx) (hTy : 1 ≤ Ty) (hTz : 1 ≤ Tz)
    (hX : VS kd wr m fM lu lev cur k N x Tx) (hY : NS kd wr m fM lu lev cur k (N + 1) y Ty) (hZ : NS kd wr m fM lu lev cur k (N + 1) z Tz) : NS kd wr m fM lu lev cur (k + 1) (N + 2) n (Tx + Ty + Tz + 3) := by
  intro c sp w h hf
  unfold FIT at hf
  obtain ⟨e1, e2, e3, e4⟩ := n_eq (N := N + 1) (s := 8) h hn h7 (by omega)
  have n9 : ¬ gi fM 7 n = 9 := by rw [h7]; decide
  have e8 : nd fM 8 n = x := by
    unfold nd
    rw [h8, tc_iN (by omega)]
  have e9 : nd fM 9 n = y := by
    unfold nd
    rw [h9, tc_iN (by omega)]
  have e10 : nd fM 10 n = z := by
    unfold nd
    rw [h10, tc_iN (by omega)]
  have hfl : FLX fM lu cur (k + 1) 3 n 0 = FLX fM lu cur k 0 x 0 ++ misT (TYX fM lu k x) 2 (nd fM 12 x) ++ FLX fM lu cur k 3 y 0 ++ FLX fM lu cur k 3 z 0 := by
    rw [FLX]
    dsimp only
    rw [if_neg (by omega), if_neg (by omega), if_neg (by omega), if_pos rfl, if_neg n9, if_pos h7, e8, e9, e10]
  obtain ⟨w1, d1, x1, x2⟩ := g_mb hX h (by unfold FIT; omega) hx hxt htx (ty := 2)
  have hb1 := x2.2.2.2.2.2.2.1
  obtain ⟨w2, d2, y1, y2⟩ := hY d1 sp w1 x2.1 (by unfold FIT; omega)
  have hb2 := y2.2.2.2.2.2.2.1
  obtain ⟨w3, d3, z1, z2⟩ := hZ d2 sp w2 y2.1 (by unfold FIT; omega)
  refine ⟨w3, d3, ?_, ?_⟩
  · rw [show N + 2 = N + 1 + 1 by omega, e1]
    unfold fX12_names
    rw [if_pos e3, e4, e2, if_neg (show ¬ (Int32.ofNat 8 = 9) by decide), if_pos e3, if_pos (show Int32.ofNat 8 = 8 from rfl), if_pos e3, (h.fx (k := 8) (by unfold PGM PGX; omega)).1, h8, x1, bn2_so, if_pos e3, (x2.1.fx (k := 9) (by unfold PGM PGX; omega)).1, h9, y1, bn2_so, if_pos e3, (y2.1.fx (k := 10) (by unfold PGM PGX; omega)).1, h10, z1]
    rfl
  · rw [hfl]
    exact ((x2.seq y2).seq z2).wk (fun _ _ _ _ => trivial) (by omega)
theorem ns_name (hT : TBM kd wr nm vv m C TK SL fA fM) {k N n tk : Nat} {stk : List Nat} (hU : UPM (C 2) fM stk) (hl : stk.length < 9000) (hn : n < 24000) (h7 : gi fM 7 n = 3) (h12 : gi fM 12 n = Int32.ofNat tk) (h13 : gi fM 13 n = hdM stk) (ht : tk < m) (hk : kd tk = 2) : NS kd wr m fM (luN nm TK SL stk) lev cur (k + 1) (N + 1) n 1 := by
  intro c sp w h hf
  have hm := h.1.1.1
  obtain ⟨e1, e2, e3, e4⟩ := n_eq (N := N) (s := 3) h hn h7 (by omega)
  have n8 : ¬ gi fM 7 n = 8 := by rw [h7]; decide
  have n9 : ¬ gi fM 7 n = 9 := by rw [h7]; decide
  have n4 : ¬ gi fM 7 n = 4 := by rw [h7]; decide
  have et : nd fM 12 n = tk := by
    unfold nd
    rw [h12, tc_iN (by omega)]
  obtain ⟨w2, s1, s2, s3, s4⟩ := g_seen hT h hU hl hn h12 h13 ht hk
  have hfl : FLX fM (luN nm TK SL stk) cur (k + 1) 3 n 0 = notD (luN nm TK SL stk tk) tk := by
    rw [FLX]
    dsimp only
    rw [if_neg (by omega), if_neg (by omega), if_neg (by omega), if_pos rfl, if_neg n9, if_neg n8, if_neg n4, List.append_nil, et]
  refine ⟨w2, c, ?_, ?_⟩
  · rw [e1]
    unfold fX12_names
    rw [if_pos e3, e4, e2, if_neg (show ¬ (Int32.ofNat 3 = 9) by decide), if_pos e3, if_neg (show ¬ (Int32.ofNat 3 = 8) by decide), s1, bn2_so, if_pos e3, ((s2.fx (k := 7) (by unfold PGM PGX; omega)).1).trans h7, if_neg (by decide)]
  · rw [hfl]
    exact (EM.fl s2 (L := notD (luN nm TK SL stk tk) tk) (by
      unfold notD
      exact s3) s4).wk (fun _ _ _ _ => trivial) (by omega)
theorem ns_index (hT : TBM kd wr nm vv m C TK SL fA fM) {k N n x tk tx T : Nat} {stk : List Nat} (hU : UPM (C 2) fM stk) (hl : stk.length < 9000) (hn : n < 24000) (hx : x < 24000) (h7 : gi fM 7 n = 4) (h8 : gi fM 8 n = Int32.ofNat x) (h12 : gi fM 12 n = Int32.ofNat tk) (h13 : gi fM 13 n = hdM stk) (ht : tk < m) (hk : kd tk = 2) (hxt : gi fM 12 x = Int32.ofNat tx) (htx : tx ≤ m) (hT1 : 1 ≤ T) (hV : VS kd wr m fM (luN nm TK SL stk) lev cur k N x T) : NS kd wr m fM (luN nm TK SL stk) lev cur (k + 1) (N + 2) n (T + 3) := by
  intro c sp w h hf
  unfold FIT at hf
  have hm := h.1.1.1
  obtain ⟨e1, e2, e3, e4⟩ := n_eq (N := N + 1) (s := 4) h hn h7 (by omega)
  have n8 : ¬ gi fM 7 n = 8 := by rw [h7]; decide
  have n9 : ¬ gi fM 7 n = 9 := by rw [h7]; decide
  have et : nd fM 12 n = tk := by
    unfold nd
    rw [h12, tc_iN (by omega)]
  have e8 : nd fM 8 n = x := by
    unfold nd
    rw [h8, tc_iN (by omega)]
  obtain ⟨w2, s1, s2, s3, s4⟩ := g_seen hT h hU hl hn h12 h13 ht hk
  obtain ⟨w1, d1, x1, x2⟩ := g_mb hV s2 (by unfold FIT; omega) hx hxt htx (ty := 1)
  have hfl : FLX fM (luN nm TK SL stk) cur (k + 1) 3 n 0 = notD (luN nm TK SL stk tk) tk ++ (FLX fM (luN nm TK SL stk) cur k 0 x 0 ++ misT (TYX fM (luN nm TK SL stk) k x) 1 (nd fM 12 x)) := by
    rw [FLX]
    dsimp only
    rw [if_neg (by omega), if_neg (by omega), if_neg (by omega), if_pos rfl, if_neg n9, if_neg n8, if_pos h7, et, e8]
  refine ⟨w1, d1, ?_, ?_⟩
  · rw [show N + 2 = N + 1 + 1 by omega, e1]
    unfold fX12_names
    rw [if_pos e3, e4, e2, if_neg (show ¬ (Int32.ofNat 4 = 9) by decide), if_pos e3, if_neg (show ¬ (Int32.ofNat 4 = 8) by decide), s1, bn2_so, if_pos e3, ((s2.fx (k := 7) (by unfold PGM PGX; omega)).1).trans h7, if_pos rfl, if_pos e3, (s2.fx (k := 8) (by unfold PGM PGX; omega)).1, h8, x1]
    rfl
  · rw [hfl]
    exact (EM.after (L1 := notD (luN nm TK SL stk tk) tk) (by
      unfold notD
      exact s3) s4 x2).wk (fun _ _ _ _ => trivial) (by omega)
theorem ls_all {k N n T : Nat} (hn : n < 24000) (hT : 1 ≤ T) (hV : gi fM 45 n = 1 → VS kd wr m fM lu lev cur k N n T) (hN : gi fM 45 n ≠ 1 → NS kd wr m fM lu lev cur k N n T) : LOS kd wr m fM lu lev cur (k + 1) (N + 1) n T := by
  intro c sp w h hf
  unfold FIT at hf
  have e3 : inb (Int32.ofNat n) 24000 = true := inb_iN hn (by omega)
  have e4 : (Int32.ofNat n).toNatClampNeg = n := tc_iN (by omega)
  have e1 : RX12_mustBe (N + 1) 8 (Int32.ofNat n) 0 0 w = fX12_loose (RX12_mustBe N) (Int32.ofNat n) w := rfl
  have hc : c 0 < 60000 := by omega
  obtain ⟨w1, y1, y2⟩ := EM.op h hc (a := 10) (x := 0) (y := 0) (z := 0)
  have u0 : upC c 0 (c 0 + 1) 0 = c 0 + 1 := upC_s
  have un : ∀ i, i ≠ 0 → upC c 0 (c 0 + 1) i = c i := fun i hi => upC_n hi
  have hfit : FIT (upC c 0 (c 0 + 1)) sp T := by
    unfold FIT
    rw [u0, un 1 (by omega), un 2 (by omega), un 3 (by omega)]
    omega
  have e45 : gi w1 45 n = gi fM 45 n := (y2.1.fx (k := 45) (by unfold PGM PGX; omega)).1
  have hfl : FLX fM lu cur (k + 1) 4 n 0 = if gi fM 45 n = 1 then FLX fM lu cur k 0 n 0 else FLX fM lu cur k 3 n 0 := by
    rw [FLX]
    dsimp only
    rw [if_neg (by omega), if_neg (by omega), if_neg (by omega), if_neg (by omega), if_pos rfl]
  rw [e1]
  unfold fX12_loose
  rw [y1, bn2_so, if_pos e3, e4, e45, hfl]
  by_cases q : gi fM 45 n = 1
  · obtain ⟨w2, d2, x1, x2⟩ := hV q _ sp w1 y2.1 hfit
    obtain ⟨p1, p2⟩ := EM.jmp y2 x2 hc
    rw [if_pos q, if_pos q, x1, bn2_so, p1]
    exact ⟨_, d2, rfl, p2.wk (fun _ _ _ _ => trivial) (by omega)⟩
  · obtain ⟨w2, d2, x1, x2⟩ := hN q _ sp w1 y2.1 hfit
    obtain ⟨p1, p2⟩ := EM.jmp y2 x2 hc
    rw [if_neg q, if_neg q, x1, bn2_so, p1]
    exact ⟨_, d2, rfl, p2.wk (fun _ _ _ _ => trivial) (by omega)⟩
end SG
