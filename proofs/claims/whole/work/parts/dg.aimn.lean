/-! PASS 2, THE REFERENCE: AIMS that are NAMES -/
section SG
variable {kd wr nm : Nat → Nat} {vv : Nat → Int64} {m lev cur sp : Nat} {fA fM : Wd} {c c1 c2 C TK : Nat → Nat} {SL : Nat → List Nat} {w u v : Wd} {L L1 L2 : List (Nat × Int32)} {P P1 P2 : Nat → Nat → Wd → Prop} {a0 a1 a2 a3 b0 b1 b2 b3 : Nat} {lu : Nat → Nat}
/-- of another SORT -/
theorem g_mis (h : GCS kd wr m fM lev cur c sp w) {n y tk : Nat} (hn : n < 24000) (hy : y < 5000) (h12 : gi fM 12 n = Int32.ofNat tk) (ht : tk ≤ m) :
    ∃ u, (if inb (Int32.ofNat y) 5000 = true then (if gi w 19 y = 6 then (if inb (Int32.ofNat y) 5000 = true then (if gi w 24 y = 0 then some ((0 : Int32), w) else (bn2 (fX12_wrongName (Int32.ofNat n) w) fun _ w19 => some (0, w19))) else none) else (bn2 (fX12_wrongName (Int32.ofNat n) w) fun _ w21 => some (0, w21))) else none) = some (0, u) ∧ EM kd wr m fM lev cur sp c c w u (misS fM (y + 1) tk) (fun b b' _ => misS fM (y + 1) tk = [] → FO fM y 0 ∧ b' = b) 0 0 0 0 := by
  have e : ∀ k j, (7 ≤ k ∧ k ≤ 32) → gi w k j = gi fM k j := fun k j hk => (h.fx (by unfold PGM PGX; omega)).1
  have hy5 : inb (Int32.ofNat y) 5000 = true := inb_iN hy (by omega)
  have ey : y + 1 - 1 = y := by omega
  unfold misS
  rw [ey, if_pos hy5, e 19 y (by omega)]
  have hwr : ¬ FO fM y 0 → ∃ u, (bn2 (fX12_wrongName (Int32.ofNat n) w) fun _ w21 => some ((0 : Int32), w21)) = some (0, u) ∧ EM kd wr m fM lev cur sp c c w u (if FO fM y 0 then [] else [(tk, 4)]) (fun b b' _ => (if FO fM y 0 then [] else [(tk, 4)]) = ([] : List (Nat × Int32)) → FO fM y 0 ∧ b' = b) 0 0 0 0 := fun k5 => by
    obtain ⟨u, v1, v2, v3, v4⟩ := g_wrong h hn h12 ht
    rw [v1, if_neg k5]
    exact ⟨u, rfl, (EM.fl v2 (L := [(tk, 4)]) v3 v4).wk (fun b b' g _ hh => absurd hh (by simp)) (by omega)⟩
  by_cases k5 : gi fM 19 y = 6
  · rw [if_pos k5, if_pos hy5, e 24 y (by omega)]
    by_cases k6 : gi fM 24 y = 0
    · rw [if_pos k6, if_pos (show FO fM y 0 from ⟨k5, k6⟩)]
      exact ⟨w, rfl, (EM.no h).wk (fun b b' g hg _ => ⟨⟨k5, k6⟩, hg⟩) (by omega)⟩
    · rw [if_neg k6]
      exact hwr (fun g => k6 g.2)
  · rw [if_neg k5]
    exact hwr (fun g => k5 g.1)
theorem as_name (hT : TBM kd wr nm vv m C TK SL fA fM) {k N n tk : Nat} {stk : List Nat} (hU : UPM (C 2) fM stk) (hl : stk.length < 9000) (hn : n < 24000) (h7 : gi fM 7 n = 3) (h12 : gi fM 12 n = Int32.ofNat tk) (h13 : gi fM 13 n = hdM stk) (ht : tk < m) (hk : kd tk = 2) : AIS kd wr m fM (luN nm TK SL stk) lev cur (k + 1) (N + 1) n 1 := by
  intro c sp w h hf
  unfold FIT at hf
  have hm := h.1.1.1
  have hC := hT.2.2.2.1
  obtain ⟨e1, e2, e3, e4⟩ := x_eq (N := N) (s := 3) h hn h7 (by omega)
  have n8 : ¬ gi fM 7 n = 8 := by rw [h7]; decide
  have n9 : ¬ gi fM 7 n = 9 := by rw [h7]; decide
  have et : nd fM 12 n = tk := by
    unfold nd
    rw [h12, tc_iN (by omega)]
  obtain ⟨w2, s1, s2, s3, s4⟩ := g_seen hT h hU hl hn h12 h13 ht hk
  have hle := luN_le hT hU (tk := tk)
  have hfl : FLX fM (luN nm TK SL stk) cur (k + 1) 2 n 0 = notD (luN nm TK SL stk tk) tk ++ (if luN nm TK SL stk tk = 0 ∨ gi fM 19 (luN nm TK SL stk tk - 1) = 4 ∨ FO fM (luN nm TK SL stk tk - 1) 4 then [] else misS fM (luN nm TK SL stk tk) tk) := by
    rw [FLX]
    dsimp only
    rw [if_neg (by omega), if_neg (by omega), if_pos rfl, if_neg n9, if_neg n8, if_pos h7, et]
  have hcd : ∀ b b' g, CDM fM (luN nm TK SL stk) lev (k + 1) 2 n 0 0 b b' g ↔ (gi fM 19 (luN nm TK SL stk tk - 1) = 4 ∧ opW g b 20 (Int32.ofNat (luN nm TK SL stk tk - 1)) (upI fM lev (luN nm TK SL stk tk - 1)) 0 ∧ b' = b + 1) ∨ (FO fM (luN nm TK SL stk tk - 1) 4 ∧ opW g b 22 (upI fM lev (luN nm TK SL stk tk - 1)) (gi fM 26 (luN nm TK SL stk tk - 1)) 0 ∧ b' = b + 1) ∨ (FO fM (luN nm TK SL stk tk - 1) 0 ∧ b' = b) := fun b b' g => by
    rw [CDM]
    dsimp only
    rw [if_neg (by omega), if_neg (by omega), if_pos rfl, if_neg n9, if_neg n8, if_pos h7, et]
  have h2 : fX12_aimCode (RX12_mustBe N) (Int32.ofNat n) w = fX12_aimCode_144 (RX12_mustBe N) (Int32.ofNat n) w := by
    conv => lhs; unfold fX12_aimCode
    rw [if_pos e3, e4, e2, if_neg (show ¬ (Int32.ofNat 3 = 9) by decide), if_pos e3, if_neg (show ¬ (Int32.ofNat 3 = 8) by decide), if_pos e3, if_pos (show Int32.ofNat 3 = 3 from rfl)]
  have e : ∀ v {c'}, GCS kd wr m fM lev cur c' sp v → ∀ k j, (7 ≤ k ∧ k ≤ 32) → gi v k j = gi fM k j := fun v c' hv k j hk => (hv.fx (by unfold PGM PGX; omega)).1
  rw [e1, h2]
  unfold fX12_aimCode_144
  rw [s1, bn2_so, if_pos e3, e4, e w2 s2 7 n (by omega), h7, if_neg (by decide), hfl]
  generalize luN nm TK SL stk tk = l at hle s3 hcd ⊢
  by_cases q0 : l = 0
  · rw [if_pos q0, if_neg (by decide), if_pos (Or.inl q0), List.append_nil]
    refine ⟨w2, c, rfl, (EM.fl s2 (L := notD l tk) (by unfold notD; exact s3) s4).wk (fun b b' g _ hnil => ?_) (by omega)⟩
    unfold notD at hnil
    rw [if_pos q0] at hnil
    exact absurd hnil (by simp)
  · obtain ⟨y, rfl⟩ : ∃ y, l = y + 1 := ⟨l - 1, by omega⟩
    have ey : y + 1 - 1 = y := by omega
    have hnD : notD (y + 1) tk = [] := by
      unfold notD
      exact if_neg (by omega)
    rw [if_neg q0] at s3
    rw [ey] at hcd
    obtain ⟨t1, t2, t3, t4, t5, t6, t7, ⟨p, lp, q1, q2, q3, q4⟩, t9⟩ := hT.2.2.2.2.2.2 y (by omega)
    have hy5 : inb (Int32.ofNat y) 5000 = true := inb_iN (by omega) (by omega)
    have hyc : (Int32.ofNat y).toNatClampNeg = y := tc_iN (by omega)
    have hup' := g_up s2 (k := y) (by omega) q1 (by omega)
    rw [if_neg q0, ey, if_pos (zl_iN (by omega)), if_pos hy5, hyc, e w2 s2 19 y (by omega), hnD, List.nil_append]
    by_cases k1 : gi fM 19 y = 4
    · obtain ⟨u, v1, v2⟩ := EM.op s2 (by omega) (a := 20) (x := Int32.ofNat y) (y := upI fM lev y) (z := 0)
      rw [if_pos k1, hup', bn2_so, v1, if_pos (show y + 1 = 0 ∨ gi fM 19 y = 4 ∨ FO fM y 4 from Or.inr (Or.inl k1))]
      exact ⟨u, upC c 0 (c 0 + 1), rfl, (EM.after s3 s4 v2).wk (fun b b' g hg _ => (hcd b b' g).mpr (Or.inl ⟨k1, hg.1, hg.2⟩)) (by omega)⟩
    · rw [if_neg k1, g_isFormal s2 (by omega), bn2_so]
      by_cases k2 : FO fM y 4
      · obtain ⟨u, v1, v2⟩ := EM.op s2 (by omega) (a := 22) (x := upI fM lev y) (y := gi fM 26 y) (z := 0)
        rw [decide_eq_true (show gi fM 19 y = 6 ∧ gi fM 24 y = 4 from k2), if_pos rfl, hup', bn2_so, if_pos hy5, e w2 s2 26 y (by omega), v1, if_pos (show y + 1 = 0 ∨ gi fM 19 y = 4 ∨ FO fM y 4 from Or.inr (Or.inr k2))]
        exact ⟨u, upC c 0 (c 0 + 1), rfl, (EM.after s3 s4 v2).wk (fun b b' g hg _ => (hcd b b' g).mpr (Or.inr (Or.inl ⟨k2, hg.1, hg.2⟩))) (by omega)⟩
      · rw [decide_eq_false (show ¬ (gi fM 19 y = 6 ∧ gi fM 24 y = 4) from k2), if_neg (show ¬ (false = true) by decide), if_neg (show ¬ (y + 1 = 0 ∨ gi fM 19 y = 4 ∨ FO fM y 4) from fun g => by
          rcases g with g | g | g
          · exact q0 g
          · exact k1 g
          · exact k2 g)]
        obtain ⟨u, v1, v2⟩ := g_mis s2 hn (y := y) (by omega) h12 (by omega)
        rw [v1]
        exact ⟨u, c, rfl, ((EM.after (L1 := []) s3 s4 v2).fls rfl).wk (fun b b' g hg hnil => (hcd b b' g).mpr (Or.inr (Or.inr (hg hnil)))) (by omega)⟩
theorem as_index (hT : TBM kd wr nm vv m C TK SL fA fM) {k N n x tk tx T : Nat} {stk : List Nat} (hU : UPM (C 2) fM stk) (hl : stk.length < 9000) (hn : n < 24000) (hx : x < 24000) (h7 : gi fM 7 n = 4) (h9 : gi fM 9 n = 1) (h8 : gi fM 8 n = Int32.ofNat x) (h12 : gi fM 12 n = Int32.ofNat tk) (h13 : gi fM 13 n = hdM stk) (ht : tk < m) (hk : kd tk = 2) (hxt : gi fM 12 x = Int32.ofNat tx) (htx : tx ≤ m) (hT1 : 1 ≤ T) (hV : VS kd wr m fM (luN nm TK SL stk) lev cur k N x T) : AIS kd wr m fM (luN nm TK SL stk) lev cur (k + 1) (N + 2) n (T + 3) := by
  intro c sp w h hf
  unfold FIT at hf
  have hm := h.1.1.1
  have hC := hT.2.2.2.1
  obtain ⟨e1, e2, e3, e4⟩ := x_eq (N := N + 1) (s := 4) h hn h7 (by omega)
  have n8 : ¬ gi fM 7 n = 8 := by rw [h7]; decide
  have n9 : ¬ gi fM 7 n = 9 := by rw [h7]; decide
  have n3 : ¬ gi fM 7 n = 3 := by rw [h7]; decide
  have et : nd fM 12 n = tk := by
    unfold nd
    rw [h12, tc_iN (by omega)]
  have e8 : nd fM 8 n = x := by
    unfold nd
    rw [h8, tc_iN (by omega)]
  obtain ⟨w2, s1, s2, s3, s4⟩ := g_seen hT h hU hl hn h12 h13 ht hk
  have hle := luN_le hT hU (tk := tk)
  obtain ⟨w3, d3, x1, x2⟩ := g_mb hV s2 (by unfold FIT; omega) hx hxt htx (ty := 1)
  have hb := x2.2.2.2.2.2.2.1
  have hfl : FLX fM (luN nm TK SL stk) cur (k + 1) 2 n 0 = notD (luN nm TK SL stk tk) tk ++ (FLX fM (luN nm TK SL stk) cur k 0 x 0 ++ misT (TYX fM (luN nm TK SL stk) k x) 1 (nd fM 12 x)) ++ (if luN nm TK SL stk tk = 0 ∨ gi fM 19 (luN nm TK SL stk tk - 1) = 5 ∨ FO fM (luN nm TK SL stk tk - 1) 5 then [] else misS fM (luN nm TK SL stk tk) tk) := by
    rw [FLX]
    dsimp only
    rw [if_neg (by omega), if_neg (by omega), if_pos rfl, if_neg n9, if_neg n8, if_neg n3, if_pos (show gi fM 7 n = 4 ∧ gi fM 9 n = 1 from ⟨h7, h9⟩), et, e8]
  have hcd : ∀ b b' g, CDM fM (luN nm TK SL stk) lev (k + 1) 2 n 0 0 b b' g ↔ ∃ b1, CDM fM (luN nm TK SL stk) lev k 0 x 0 0 b b1 g ∧ ((gi fM 19 (luN nm TK SL stk tk - 1) = 5 ∧ opW g b1 21 (upI fM lev (luN nm TK SL stk tk - 1)) (Int32.ofNat (luN nm TK SL stk tk - 1)) 0 ∧ b' = b1 + 1) ∨ (FO fM (luN nm TK SL stk tk - 1) 5 ∧ opW g b1 21 (upI fM lev (luN nm TK SL stk tk - 1)) (-1 - gi fM 26 (luN nm TK SL stk tk - 1)) 0 ∧ b' = b1 + 1) ∨ (FO fM (luN nm TK SL stk tk - 1) 0 ∧ b' = b1)) := fun b b' g => by
    rw [CDM]
    dsimp only
    rw [if_neg (by omega), if_neg (by omega), if_pos rfl, if_neg n9, if_neg n8, if_neg n3, et, e8]
  have h2 : fX12_aimCode (RX12_mustBe (N + 1)) (Int32.ofNat n) w = fX12_aimCode_144 (RX12_mustBe (N + 1)) (Int32.ofNat n) w := by
    conv => lhs; unfold fX12_aimCode
    rw [if_pos e3, e4, e2, if_neg (show ¬ (Int32.ofNat 4 = 9) by decide), if_pos e3, if_neg (show ¬ (Int32.ofNat 4 = 8) by decide), if_pos e3, if_neg (show ¬ (Int32.ofNat 4 = 3) by decide), if_pos e3, if_pos (show Int32.ofNat 4 = 4 from rfl), if_pos e3, (h.fx (k := 9) (by unfold PGM PGX; omega)).1, if_pos h9]
  have e : ∀ v {c'}, GCS kd wr m fM lev cur c' sp v → ∀ k j, (7 ≤ k ∧ k ≤ 32) → gi v k j = gi fM k j := fun v c' hv k j hk => (hv.fx (by unfold PGM PGX; omega)).1
  rw [show N + 2 = N + 1 + 1 by omega, e1, h2]
  unfold fX12_aimCode_144
  rw [s1, bn2_so, if_pos e3, e4, e w2 s2 7 n (by omega), h7, if_pos (show (4 : Int32) = 4 from rfl), if_pos e3, e w2 s2 8 n (by omega), h8, x1, bn2_so, hfl]
  -- all together
  have hall : ∀ {u c' L3} {Q : Nat → Nat → Wd → Prop}, EM kd wr m fM lev cur sp d3 c' w3 u L3 Q 1 0 0 0 → (∀ b b1 b' g, L3 = [] → CDM fM (luN nm TK SL stk) lev k 0 x 0 0 b b1 g → Q b1 b' g → luN nm TK SL stk tk ≠ 0 → CDM fM (luN nm TK SL stk) lev (k + 1) 2 n 0 0 b b' g) → EM kd wr m fM lev cur sp c c' w u (notD (luN nm TK SL stk tk) tk ++ (FLX fM (luN nm TK SL stk) cur k 0 x 0 ++ misT (TYX fM (luN nm TK SL stk) k x) 1 (nd fM 12 x)) ++ L3) (fun b b' g => notD (luN nm TK SL stk tk) tk ++ (FLX fM (luN nm TK SL stk) cur k 0 x 0 ++ misT (TYX fM (luN nm TK SL stk) k x) 1 (nd fM 12 x)) ++ L3 = [] → CDM fM (luN nm TK SL stk) lev (k + 1) 2 n 0 0 b b' g) (2 * (T + 3)) ((T + 3 - 1) / 2) ((T + 3 + 1) / 2) ((T + 3 - 1) / 2) := fun {u c' L3 Q} h3 hQ => by
    have hA := EM.after (L1 := notD (luN nm TK SL stk tk) tk) (by
      unfold notD
      exact s3) s4 (x2.seq h3)
    refine (hA.fls (by simp only [List.append_assoc])).wk (fun b b' g hg hnil => ?_) (by omega)
    obtain ⟨b1, g1, g2⟩ := hg
    obtain ⟨m1, m2⟩ := List.append_eq_nil_iff.mp hnil
    obtain ⟨m3, m4⟩ := List.append_eq_nil_iff.mp m1
    refine hQ b b1 b' g m2 (g1 (List.append_eq_nil_iff.mp m4).1) g2 (fun e0 => ?_)
    unfold notD at m3
    rw [if_pos e0] at m3
    exact absurd m3 (by simp)
  generalize luN nm TK SL stk tk = l at hle s3 hcd hall ⊢
  by_cases q0 : l = 0
  · rw [if_pos q0, if_neg (by decide), if_pos (Or.inl q0)]
    exact ⟨w3, d3, rfl, hall ((EM.no x2.1).wk (P1 := fun _ _ _ => True) (fun _ _ _ _ => trivial) (by omega)) (fun _ _ _ _ _ _ _ hl0 => absurd q0 hl0)⟩
  · obtain ⟨y, rfl⟩ : ∃ y, l = y + 1 := ⟨l - 1, by omega⟩
    have ey : y + 1 - 1 = y := by omega
    rw [ey] at hcd
    obtain ⟨t1, t2, t3, t4, t5, t6, t7, ⟨p, lp, q1, q2, q3, q4⟩, t9⟩ := hT.2.2.2.2.2.2 y (by omega)
    have hy5 : inb (Int32.ofNat y) 5000 = true := inb_iN (by omega) (by omega)
    have hyc : (Int32.ofNat y).toNatClampNeg = y := tc_iN (by omega)
    have hup' := g_up x2.1 (k := y) (by omega) q1 (by omega)
    rw [if_neg q0, ey, if_pos (zl_iN (by omega)), g_isFormal x2.1 (by omega), bn2_so, if_pos hy5, hyc, e w3 x2.1 19 y (by omega)]
    by_cases k1 : gi fM 19 y = 5
    · have k6 : ¬ gi fM 19 y = 6 := by rw [k1]; decide
      obtain ⟨u, v1, v2⟩ := EM.op x2.1 (by omega) (a := 21) (x := upI fM lev y) (y := Int32.ofNat y) (z := 0)
      rw [if_pos k1, decide_eq_false (show ¬ (gi fM 19 y = 6 ∧ gi fM 24 y = 5) from fun g => k6 g.1), if_pos (show y + 1 = 0 ∨ gi fM 19 y = 5 ∨ FO fM y 5 from Or.inr (Or.inl k1))]
      unfold fX12_aimCode_226
      rw [hup', bn2_so, if_neg (show ¬ (false = true) by decide), v1]
      exact ⟨u, upC d3 0 (d3 0 + 1), rfl, hall v2 (fun b b1 b' g _ g1 g2 _ => (hcd b b' g).mpr ⟨b1, g1, Or.inl ⟨k1, g2.1, g2.2⟩⟩)⟩
    · rw [if_neg k1]
      by_cases k2 : FO fM y 5
      · obtain ⟨u, v1, v2⟩ := EM.op x2.1 (by omega) (a := 21) (x := upI fM lev y) (y := -1 - gi fM 26 y) (z := 0)
        rw [decide_eq_true (show gi fM 19 y = 6 ∧ gi fM 24 y = 5 from k2), if_pos rfl, if_pos (show y + 1 = 0 ∨ gi fM 19 y = 5 ∨ FO fM y 5 from Or.inr (Or.inr k2))]
        unfold fX12_aimCode_226
        rw [hup', bn2_so, if_pos rfl, if_pos hy5, hyc, e w3 x2.1 26 y (by omega), v1]
        exact ⟨u, upC d3 0 (d3 0 + 1), rfl, hall v2 (fun b b1 b' g _ g1 g2 _ => (hcd b b' g).mpr ⟨b1, g1, Or.inr (Or.inl ⟨k2, g2.1, g2.2⟩)⟩)⟩
      · rw [decide_eq_false (show ¬ (gi fM 19 y = 6 ∧ gi fM 24 y = 5) from k2), if_neg (show ¬ (false = true) by decide), if_neg (show ¬ (y + 1 = 0 ∨ gi fM 19 y = 5 ∨ FO fM y 5) from fun g => by
          rcases g with g | g | g
          · exact q0 g
          · exact k1 g
          · exact k2 g)]
        obtain ⟨u, v1, v2⟩ := g_mis x2.1 hn (y := y) (by omega) h12 (by omega)
        rw [e w3 x2.1 19 y (by omega)] at v1
        rw [v1]
        exact ⟨u, d3, rfl, hall (v2.wk (fun _ _ _ hg => hg) (by omega)) (fun b b1 b' g hL g1 g2 _ => (hcd b b' g).mpr ⟨b1, g1, Or.inr (Or.inr (g2 hL))⟩)⟩
end SG
