/-! PASS 2, THE REFERENCE: a NAME as an EXPR -/
section SG
variable {kd wr nm : Nat → Nat} {vv : Nat → Int64} {m lev cur sp : Nat} {fA fM : Wd} {c c1 c2 C TK : Nat → Nat} {SL : Nat → List Nat} {w u v : Wd} {L L1 L2 : List (Nat × Int32)} {P P1 P2 : Nat → Nat → Wd → Prop} {a0 a1 a2 a3 b0 b1 b2 b3 : Nat}
/-- faults first, then codes -/
theorem EM.after (h1 : FLM u = FNL wr L1 (FLM w)) (hO : OFF (fun k j => k = 0 ∧ (j = 10 ∨ j = 11)) u w) (h : EM kd wr m fM lev cur sp c c1 u v L2 P a0 a1 a2 a3) : EM kd wr m fM lev cur sp c c1 w v (L1 ++ L2) P a0 a1 a2 a3 := by
  obtain ⟨g1, g2, g3, g4, g5, g6, g7, g8⟩ := h
  exact ⟨g1, by rw [g2, h1, FNL_app], OFF.tr g3 (hO.mono fun k j hk => by unfold PGX; omega), fun k j hk => (g4 k j hk).trans (hO k j (by omega)).1, fun j hj => (g5 j hj).trans (hO 59 j (by omega)).1, g6, g7, g8⟩
theorem EM.fls (h : EM kd wr m fM lev cur sp c c1 w u L1 P a0 a1 a2 a3) (hL : L1 = L2) : EM kd wr m fM lev cur sp c c1 w u L2 P a0 a1 a2 a3 := hL ▸ h
theorem g_named (hT : TBM kd wr nm vv m C TK SL fA fM) (h : GCS kd wr m fM lev cur c sp w) {n tk : Nat} {stk : List Nat} (hU : UPM (C 2) fM stk) (hl : stk.length < 9000) (hn : n < 24000) (h12 : gi fM 12 n = Int32.ofNat tk) (h13 : gi fM 13 n = hdM stk) (ht : tk < m) (hk : kd tk = 2) (hc0 : c 0 < 60000) (hc2 : c 2 < 4300) :
    ∃ u c', fX12_named (Int32.ofNat n) w = some (tyY fM (luN nm TK SL stk tk), u) ∧ EM kd wr m fM lev cur sp c c' w u (flY fM (luN nm TK SL stk tk) tk) (fun b b' g => cdY fM lev (luN nm TK SL stk tk) b b' g) 1 0 1 0 := by
  have hC := hT.2.2.2.1
  have hm := hT.2.1.1.1
  have hle := luN_le hT hU (tk := tk)
  obtain ⟨w2, u1, u2, u3, u4⟩ := g_seen hT h hU hl hn h12 h13 ht hk
  unfold fX12_named
  rw [u1, bn2_so]
  generalize luN nm TK SL stk tk = l at hle u3 ⊢
  by_cases q0 : l = 0
  · rw [if_pos q0, if_neg (by decide)]
    rw [if_pos q0] at u3
    refine ⟨w2, c, ?_, ?_⟩
    · unfold tyY
      rw [if_pos q0]
    · unfold flY
      rw [if_pos q0]
      exact (EM.fl u2 u3 u4).wk (fun b b' g hg => Or.inl ⟨q0, hg⟩) (by omega)
  · rw [if_neg q0] at u3 ⊢
    obtain ⟨y, rfl⟩ : ∃ y, l = y + 1 := ⟨l - 1, by omega⟩
    rw [show y + 1 - 1 = y by omega] at *
    have ey : y + 1 - 1 = y := by omega
    have hy : y < C 1 := by omega
    obtain ⟨s1, s2, s3, s4, s5, s6, s7, ⟨p, lp, q1, q2, q3, q4⟩, s9⟩ := hT.2.2.2.2.2.2 y hy
    have hp12 : p < 1200 := by omega
    have e : ∀ v, GCS kd wr m fM lev cur c sp v → ∀ k j, (12 ≤ k ∧ k ≤ 32) → gi v k j = gi fM k j := fun v hv k j hk => (hv.fx (by unfold PGM PGX; omega)).1
    have hup := g_up u2 (k := y) (by omega) q1 hp12
    have hy5 : inb (Int32.ofNat y) 5000 = true := inb_iN (by omega) (by omega)
    have hyc : (Int32.ofNat y).toNatClampNeg = y := tc_iN (by omega)
    rw [if_pos (zl_iN (by omega)), if_pos hy5, hyc, e w2 u2 19 y (by omega)]
    -- one code, then the TYPE
    have hop : ∀ (a x z : Int32), ∃ u, fX12_op a x (gi fM 26 y) z w2 = some (Int32.ofNat (c 0), u) ∧ EM kd wr m fM lev cur sp c (upC c 0 (c 0 + 1)) w u [] (fun b b' g => opW g b a x (gi fM 26 y) z ∧ b' = b + 1) 1 0 0 0 ∧ gi u 20 y = gi fM 20 y := fun a x z => by
      obtain ⟨u, v1, v2⟩ := EM.op u2 hc0 (a := a) (x := x) (y := gi fM 26 y) (z := z)
      refine ⟨u, v1, (EM.after u3 u4 v2), ?_⟩
      exact (v2.1.fx (by unfold PGM PGX; omega)).1
    by_cases k1 : gi fM 19 y = 1
    · rw [if_pos k1, if_pos hy5, e w2 u2 27 y (by omega)]
      have hty : tyY fM (y + 1) = gi fM 20 y := by
        unfold tyY
        rw [if_neg (by omega), ey, if_pos (Or.inl k1)]
      have hfl : flY fM (y + 1) tk = [] := by
        unfold flY
        rw [if_neg (by omega), ey, if_pos (Or.inl k1)]
      have h42 : ∀ x, fX12_named_42 2 x (Int32.ofNat y) w2 = bn2 (fX12_op 2 x (gi fM 26 y) 0 w2) fun x2 w3 => if inb (Int32.ofNat y) 5000 = true then some (gi w3 20 y, w3) else none := fun x => by
        unfold fX12_named_42
        rw [if_pos hy5, hyc, e w2 u2 26 y (by omega)]
      rw [hty, hfl]
      by_cases k2 : gi fM 27 y = 0
      · obtain ⟨u, v1, v2, v3⟩ := hop 2 (upI fM lev y) 0
        rw [if_pos k2, hup, bn2_so, h42, v1, bn2_so, if_pos hy5, v3]
        refine ⟨u, upC c 0 (c 0 + 1), rfl, v2.wk (fun b b' g hg => Or.inr ⟨by omega, ?_⟩) (by omega)⟩
        rw [ey, if_pos k2]
        exact Or.inl ⟨k1, hg.1, hg.2⟩
      · obtain ⟨u, v1, v2, v3⟩ := hop 2 (-1) 0
        rw [if_neg k2, h42, v1, bn2_so, if_pos hy5, v3]
        refine ⟨u, upC c 0 (c 0 + 1), rfl, v2.wk (fun b b' g hg => Or.inr ⟨by omega, ?_⟩) (by omega)⟩
        rw [ey, if_neg k2]
        exact Or.inl ⟨k1, hg.1, hg.2⟩
    · rw [if_neg k1, g_isFormal u2 (by omega), bn2_so]
      by_cases k2 : FO fM y 1
      · rw [decide_eq_true (show gi fM 19 y = 6 ∧ gi fM 24 y = 1 from k2), if_pos rfl, if_pos hy5, e w2 u2 28 y (by omega), hup]
        have hty : tyY fM (y + 1) = gi fM 20 y := by
          unfold tyY
          rw [if_neg (by omega), ey, if_pos (Or.inr (Or.inl k2))]
        have hfl : flY fM (y + 1) tk = [] := by
          unfold flY
          rw [if_neg (by omega), ey, if_pos (Or.inr k2)]
        rw [hty, hfl]
        by_cases k3 : gi fM 28 y = 0
        · obtain ⟨u, v1, v2, v3⟩ := hop 4 (upI fM lev y) 0
          rw [if_pos k3, bn2_so, if_pos hy5, e w2 u2 26 y (by omega), v1, bn2_so, if_pos hy5, v3]
          refine ⟨u, upC c 0 (c 0 + 1), rfl, v2.wk (fun b b' g hg => Or.inr ⟨by omega, ?_⟩) (by omega)⟩
          rw [ey, if_pos k3]
          exact Or.inr (Or.inl ⟨k2, hg.1, hg.2⟩)
        · obtain ⟨u, v1, v2, v3⟩ := hop 2 (upI fM lev y) 0
          rw [if_neg k3, bn2_so, if_pos hy5, e w2 u2 26 y (by omega), v1, bn2_so, if_pos hy5, v3]
          refine ⟨u, upC c 0 (c 0 + 1), rfl, v2.wk (fun b b' g hg => Or.inr ⟨by omega, ?_⟩) (by omega)⟩
          rw [ey, if_neg k3]
          exact Or.inr (Or.inl ⟨k2, hg.1, hg.2⟩)
      · have k12 : ¬ (gi fM 19 y = 1 ∨ FO fM y 1) := fun g => g.elim k1 k2
        rw [decide_eq_false (show ¬ (gi fM 19 y = 6 ∧ gi fM 24 y = 1) from k2), if_neg (show ¬ (false = true) by decide), if_pos hy5, e w2 u2 19 y (by omega)]
        -- a procedure, or a formal one
        have hpr : (gi fM 19 y = 3 ∨ FO fM y 3) → ∃ u c', fX12_named_143 (Int32.ofNat n) (Int32.ofNat y) w2 = some (tyY fM (y + 1), u) ∧ EM kd wr m fM lev cur sp c c' w u (flY fM (y + 1) tk) (fun b b' g => cdY fM lev (y + 1) b b' g) 1 0 1 0 := fun k3 => by
          have hty : tyY fM (y + 1) = gi fM 20 y := by
            unfold tyY
            rw [if_neg (by omega), ey, if_pos (Or.inr (Or.inr k3))]
          unfold fX12_named_143 flY
          rw [hty, if_neg (show ¬ (y + 1 = 0) by omega), ey, if_neg k12, if_pos k3, if_pos hy5, hyc, e w2 u2 20 y (by omega)]
          by_cases k4 : gi fM 20 y = 0
          · obtain ⟨u, v1, v2, v3, v4⟩ := g_wrong u2 hn h12 (by omega)
            rw [if_pos k4, if_pos k4, v1, bn2_so, k4]
            refine ⟨u, c, rfl, (EM.after u3 u4 (EM.fl v2 (L := [(tk, 4)]) v3 v4)).wk (fun b b' g hg => Or.inr ⟨by omega, ?_⟩) (by omega)⟩
            rw [ey]
            exact Or.inr (Or.inr (Or.inl ⟨k3, Or.inl ⟨k4, hg⟩⟩))
          · obtain ⟨u, c', v1, v2⟩ := g_alone hT u2 (want := 1) hy k3 hn h12 (by omega) hc0 hc2
            rw [if_neg k4, if_neg k4, v1, bn_so, if_pos hy5, (v2.1.fx (k := 20) (by unfold PGM PGX; omega)).1]
            refine ⟨u, c', rfl, (EM.after u3 u4 v2).wk (fun b b' g hg => Or.inr ⟨by omega, ?_⟩) (by omega)⟩
            rw [ey]
            exact Or.inr (Or.inr (Or.inl ⟨k3, Or.inr ⟨k4, hg.1, hg.2⟩⟩))
        by_cases k3 : gi fM 19 y = 3
        · rw [if_pos k3]
          exact hpr (Or.inl k3)
        · rw [if_neg k3, g_isFormal u2 (by omega), bn2_so]
          by_cases k4 : FO fM y 3
          · rw [decide_eq_true (show gi fM 19 y = 6 ∧ gi fM 24 y = 3 from k4), if_pos rfl]
            exact hpr (Or.inr k4)
          · have k34 : ¬ (gi fM 19 y = 3 ∨ FO fM y 3) := fun g => g.elim k3 k4
            have kall : ¬ (gi fM 19 y = 1 ∨ FO fM y 1 ∨ gi fM 19 y = 3 ∨ FO fM y 3) := fun g => by
              rcases g with g | g | g | g
              · exact k1 g
              · exact k2 g
              · exact k3 g
              · exact k4 g
            have hty : tyY fM (y + 1) = 0 := by
              unfold tyY
              rw [if_neg (by omega), ey, if_neg kall]
            have hcd : ∀ b b' g, b' = b → cdY fM lev (y + 1) b b' g := fun b b' g hb => Or.inr ⟨by omega, by
              rw [ey]
              exact Or.inr (Or.inr (Or.inr ⟨kall, hb⟩))⟩
            rw [decide_eq_false (show ¬ (gi fM 19 y = 6 ∧ gi fM 24 y = 3) from k4), if_neg (show ¬ (false = true) by decide), if_pos hy5, e w2 u2 19 y (by omega), hty]
            unfold flY
            rw [if_neg (show ¬ (y + 1 = 0) by omega), ey, if_neg k12, if_neg k34]
            have hwr : ¬ FO fM y 0 → ∃ u c', (bn2 (fX12_wrongName (Int32.ofNat n) w2) fun x38 w39 => some (x38, w39)) = some ((0 : Int32), u) ∧ EM kd wr m fM lev cur sp c c' w u (if FO fM y 0 then [] else [(tk, 4)]) (fun b b' g => cdY fM lev (y + 1) b b' g) 1 0 1 0 := fun k5 => by
              obtain ⟨u, v1, v2, v3, v4⟩ := g_wrong u2 hn h12 (by omega)
              rw [v1, if_neg k5]
              exact ⟨u, c, rfl, (EM.after u3 u4 (EM.fl v2 (L := [(tk, 4)]) v3 v4)).wk (fun b b' g hg => hcd b b' g hg) (by omega)⟩
            by_cases k5 : gi fM 19 y = 6
            · rw [if_pos k5, if_pos hy5, e w2 u2 24 y (by omega)]
              by_cases k6 : gi fM 24 y = 0
              · rw [if_pos k6, if_pos (show FO fM y 0 from ⟨k5, k6⟩)]
                exact ⟨w2, c, rfl, (EM.fl u2 (L := []) u3 u4).wk (fun b b' g hg => hcd b b' g hg) (by omega)⟩
              · rw [if_neg k6]
                exact hwr (fun g => k6 g.2)
            · rw [if_neg k5]
              exact hwr (fun g => k5 g.1)
end SG
