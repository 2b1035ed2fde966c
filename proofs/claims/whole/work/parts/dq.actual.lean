/-! PASS 2, THE REFERENCE: an ACTUAL, whole -/
section SG
variable {kd wr nm : Nat → Nat} {vv : Nat → Int64} {m lev cur sp ac : Nat} {fA fM : Wd} {c c1 c2 C TK : Nat → Nat} {SL : Nat → List Nat} {w u v v' : Wd} {L L1 L2 : List (Nat × Int32)} {P P1 P2 : Nat → Nat → Wd → Prop} {a0 a1 a2 a3 b0 b1 b2 b3 : Nat} {lu : Nat → Nat}
/-- what 'actual' does with node n for formal f -/
def ACS (kd wr : Nat → Nat) (m : Nat) (fM : Wd) (lu : Nat → Nat) (lev cur k N n f T : Nat) : Prop :=
  ∀ c sp ac w, GCS kd wr m fM lev cur c sp w → FTA c sp T → ac < c 3 → ac < 6000 → ∃ u c', RX12_mustBe N 10 (Int32.ofNat n) (Int32.ofNat f) (Int32.ofNat ac) w = some (0, u) ∧ EMA kd wr m fM lev cur sp ac c c' w u (FLX fM lu cur k 5 n f) (fun b b' g => FLX fM lu cur k 5 n f = [] → CDM fM lu lev k 5 n f ac b b' g) (2 * T + 2) ((T + 1) / 2) ((T + 1) / 2) ((T - 1) / 2)
/-- for a formal with a TYPE: the thunk -/
theorem ac_ty (hT : TBM kd wr nm vv m C TK SL fA fM) {k N n tk f T : Nat} {stk : List Nat} (hU : UPM (C 2) fM stk) (hl : stk.length < 9000) (hn : n < 24000) (h12 : gi fM 12 n = Int32.ofNat tk) (ht : tk < m) (h3 : gi fM 7 n = 3 → gi fM 13 n = hdM stk ∧ kd tk = 2) (hT1 : 1 ≤ T) (hf5 : f < 5000) (h24 : gi fM 24 f = 1)
    (hV : VS kd wr m fM (luN nm TK SL stk) lev cur (k + 1) N n T) (hP : gi fM 7 n = 3 ∨ gi fM 7 n = 4 → PS kd wr m fM (luN nm TK SL stk) lev cur (k + 1) N n 0 T) : ACS kd wr m fM (luN nm TK SL stk) lev cur (k + 2) (N + 2) n f T := by
  intro c sp ac w h hf hac hac6
  have hm := h.1.1.1
  have hC := hT.2.2.2.1
  have et : nd fM 12 n = tk := by
    unfold nd
    rw [h12, tc_iN (by omega)]
  have hc : c 0 < 60000 := by
    unfold FTA at hf
    omega
  have hc1 : c 1 < 6000 := by
    unfold FTA at hf
    omega
  -- the end of it
  have fin : ∀ (L : List (Nat × Int32)) (is : Int32) (kind : Nat) (Q : Nat → Nat → Wd → Prop) (a0 a1 a2 a3 : Nat), a0 ≤ 2 * T + 2 → a1 ≤ (T + 1) / 2 → a2 ≤ (T + 1) / 2 → a3 ≤ (T - 1) / 2 →
      FLX fM (luN nm TK SL stk) cur (k + 2) 5 n f = L ++ misT is (gi fM 20 f) tk →
      (∀ b b' g, thP (c 1) (Int32.ofNat kind) Q b b' g → gi g 52 ac = 1 → gi g 53 ac = Int32.ofNat (c 1) → FLX fM (luN nm TK SL stk) cur (k + 2) 5 n f = [] → CDM fM (luN nm TK SL stk) lev (k + 2) 5 n f ac b b' g) →
      (∀ w, GCS kd wr m fM lev cur c sp w → ∃ u c', RX12_mustBe (N + 1) 11 (Int32.ofNat n) (gi fM 20 f) 0 w = some (Int32.ofNat (c 1), u) ∧ EM kd wr m fM lev cur sp c c' w u (L ++ (if is ≠ 0 ∧ is ≠ gi fM 20 f then [(tk, 4)] else [])) (thP (c 1) (Int32.ofNat kind) Q) a0 a1 a2 a3) →
      ∃ u c', RX12_mustBe (N + 2) 10 (Int32.ofNat n) (Int32.ofNat f) (Int32.ofNat ac) w = some (0, u) ∧ EMA kd wr m fM lev cur sp ac c c' w u (FLX fM (luN nm TK SL stk) cur (k + 2) 5 n f) (fun b b' g => FLX fM (luN nm TK SL stk) cur (k + 2) 5 n f = [] → CDM fM (luN nm TK SL stk) lev (k + 2) 5 n f ac b b' g) (2 * T + 2) ((T + 1) / 2) ((T + 1) / 2) ((T - 1) / 2) := fun L is kind Q a0 a1 a2 a3 i0 i1 i2 i3 j1 j2 j3 => by
    obtain ⟨u, c', u1, u2⟩ := ac_thunk h hac hac6 hf5 h24 j3
    refine ⟨u, c', u1, (u2.fls ?_).wk (fun b b' g hg hnil => j2 b b' g hg.1 hg.2.1 hg.2.2 hnil) ⟨i0, i1, i2, i3⟩⟩
    rw [j1]
    rfl
  have hfl : FLX fM (luN nm TK SL stk) cur (k + 2) 5 n f = (if gi fM 7 n = 3 ∧ luN nm TK SL stk tk ≠ 0 ∧ (FO fM (luN nm TK SL stk tk - 1) 1 ∨ gi fM 19 (luN nm TK SL stk tk - 1) = 1) then [] else if gi fM 7 n = 4 then FLX fM (luN nm TK SL stk) cur (k + 1) 1 n 0 else FLX fM (luN nm TK SL stk) cur (k + 1) 0 n 0) ++ misT (if gi fM 7 n = 3 ∧ luN nm TK SL stk tk ≠ 0 ∧ FO fM (luN nm TK SL stk tk - 1) 1 then gi fM 20 (luN nm TK SL stk tk - 1) else if gi fM 7 n = 4 ∨ gi fM 7 n = 3 ∧ luN nm TK SL stk tk ≠ 0 ∧ gi fM 19 (luN nm TK SL stk tk - 1) = 1 then (if gi fM 7 n = 4 then tyE fM (luN nm TK SL stk tk) else gi fM 20 (luN nm TK SL stk tk - 1)) else TYX fM (luN nm TK SL stk) (k + 1) n) (gi fM 20 f) tk := by
    rw [FLX]
    dsimp only
    rw [if_neg (by omega), if_neg (by omega), if_neg (by omega), if_neg (by omega), if_neg (by omega), if_pos h24, et]
  have hcd : ∀ b b' g, CDM fM (luN nm TK SL stk) lev (k + 2) 5 n f ac b b' g ↔ (gi g 52 ac = 1 ∧ opW g b 10 (Int32.ofNat b') 0 0 ∧ ∃ th b1, th < 6000 ∧ gi g 53 ac = Int32.ofNat th ∧ gi g 47 th = Int32.ofNat (b + 1) ∧ b' = b1 + 1 ∧
          (if gi fM 7 n = 4 ∨ gi fM 7 n = 3 ∧ (gi fM 19 (luN nm TK SL stk tk - 1) = 1 ∨ FO fM (luN nm TK SL stk tk - 1) 1 ∧ gi fM 28 (luN nm TK SL stk tk - 1) ≠ 0) then gi g 48 th = 1 ∧ CDM fM (luN nm TK SL stk) lev (k + 1) 1 n 0 0 (b + 1) b1 g ∧ opW g b1 17 1 0 0
          else if gi fM 7 n = 3 ∧ FO fM (luN nm TK SL stk tk - 1) 1 then gi g 48 th = 2 ∧ opW g (b + 1) 4 (upI fM lev (luN nm TK SL stk tk - 1)) (gi fM 26 (luN nm TK SL stk tk - 1)) 2 ∧ b1 = b + 2 ∧ opW g b1 17 0 0 0
          else gi g 48 th = 0 ∧ CDM fM (luN nm TK SL stk) lev (k + 1) 0 n 0 0 (b + 1) b1 g ∧ opW g b1 17 0 0 0)) := fun b b' g => by
    rw [CDM]
    dsimp only
    rw [if_neg (by omega), if_neg (by omega), if_neg (by omega), if_pos rfl, if_pos h24, et]
  by_cases k4 : gi fM 7 n = 4
  · have k3 : ¬ gi fM 7 n = 3 := by rw [k4]; decide
    have e1 : FLX fM (luN nm TK SL stk) cur (k + 2) 5 n f = FLX fM (luN nm TK SL stk) cur (k + 1) 1 n 0 ++ misT (tyE fM (luN nm TK SL stk (nd fM 12 n))) (gi fM 20 f) tk := by
      rw [hfl, if_neg (fun g => k3 g.1), if_pos k4, if_neg (fun g => k3 g.1), if_pos (Or.inl k4), if_pos k4, et]
    refine fin _ _ 1 (fun b b' g => FLX fM (luN nm TK SL stk) cur (k + 1) 1 n 0 = [] → CDM fM (luN nm TK SL stk) lev (k + 1) 1 n 0 0 b b' g) (2 * T + 1) ((T - 1) / 2 + 1) ((T + 1) / 2) ((T - 1) / 2) (by omega) (by omega) (by omega) (by omega) e1 (fun b b' g hg g1 g2 hnil => ?_) (fun w hw => tk_index hw hn k4 h12 (by omega) hf hT1 (hP (Or.inr k4)))
    rw [e1] at hnil
    obtain ⟨m1, m2⟩ := List.append_eq_nil_iff.mp hnil
    obtain ⟨p1, p2, p3, q, p4, p5, p6⟩ := hg
    refine (hcd b b' g).mpr ⟨g1, p1, c 1, q, hc1, g2, p2, p6, ?_⟩
    rw [if_pos (Or.inl k4)]
    exact ⟨p3, p4 m1, p5⟩
  · by_cases k3 : gi fM 7 n = 3
    · obtain ⟨h13, hk⟩ := h3 k3
      have hx : ∀ w, GCS kd wr m fM lev cur c sp w → ∃ v1, EM kd wr m fM lev cur sp c (upC c 0 (c 0 + 1)) w v1 [] (fun b b' g => opW g b 10 0 0 0 ∧ b' = b + 1) 1 0 0 0 ∧ RX12_mustBe (N + 1) 11 (Int32.ofNat n) (gi fM 20 f) 0 w = fX12_thunk_119 (RX12_mustBe N) (Int32.ofNat n) (gi fM 20 f) (Int32.ofNat (c 0)) (Int32.ofNat (kdY fM (luN nm TK SL stk tk))) v1 := fun w hw => by
        obtain ⟨v1, x1, x2⟩ := thk_eq (N := N) (ty := gi fM 20 f) hw hn hc
        refine ⟨v1, x1, ?_⟩
        rw [x2, if_neg k4]
        exact tk_kind hT x1.1 hU hl hn k3 h12 h13 ht hk
      by_cases q0 : luN nm TK SL stk tk = 0
      · have e1 : FLX fM (luN nm TK SL stk) cur (k + 2) 5 n f = FLX fM (luN nm TK SL stk) cur (k + 1) 0 n 0 ++ misT (TYX fM (luN nm TK SL stk) (k + 1) n) (gi fM 20 f) tk := by
          rw [hfl, if_neg (fun g => g.2.1 q0), if_neg k4, if_neg (fun g => g.2.1 q0), if_neg (fun g => g.elim k4 (fun g => g.2.1 q0))]
        have ek : kdY fM (luN nm TK SL stk tk) = 0 := by
          unfold kdY
          rw [if_pos q0]
        refine fin _ _ 0 (fun b b' g => FLX fM (luN nm TK SL stk) cur (k + 1) 0 n 0 = [] → CDM fM (luN nm TK SL stk) lev (k + 1) 0 n 0 0 b b' g) (2 * T + 1) ((T - 1) / 2 + 1) ((T + 1) / 2) ((T - 1) / 2) (by omega) (by omega) (by omega) (by omega) e1 (fun b b' g hg g1 g2 hnil => ?_) (fun w hw => ?_)
        · exfalso
          rw [e1] at hnil
          have m1 := (List.append_eq_nil_iff.mp hnil).1
          rw [FLX] at m1
          dsimp only at m1
          rw [if_pos rfl, if_neg (show ¬ (gi fM 7 n = 1 ∨ gi fM 7 n = 2) by rw [k3]; decide), if_neg (show ¬ gi fM 7 n = 9 by rw [k3]; decide), if_pos k3, et] at m1
          unfold flY at m1
          rw [if_pos q0] at m1
          exact absurd m1 (by simp)
        · obtain ⟨v1, x1, x2⟩ := hx w hw
          rw [x2, ek, thk_0]
          exact thk_body (N := N) (kind := 0) (F := fun w2 => RX12_mustBe N 1 (Int32.ofNat n) 0 0 w2) hn h12 (by omega) hf hT1 x1 (fun d v hv hfd => hV d sp v hv hfd)
      · by_cases r1 : gi fM 19 (luN nm TK SL stk tk - 1) = 1 ∨ FO fM (luN nm TK SL stk tk - 1) 1
        · have r1' : FO fM (luN nm TK SL stk tk - 1) 1 ∨ gi fM 19 (luN nm TK SL stk tk - 1) = 1 := r1.symm
          have e1 : FLX fM (luN nm TK SL stk) cur (k + 2) 5 n f = [] ++ misT (gi fM 20 (luN nm TK SL stk tk - 1)) (gi fM 20 f) tk := by
            rw [hfl, if_pos ⟨k3, q0, r1'⟩]
            by_cases r2 : FO fM (luN nm TK SL stk tk - 1) 1
            · rw [if_pos ⟨k3, q0, r2⟩]
            · rw [if_neg (fun g => r2 g.2.2), if_pos (Or.inr ⟨k3, q0, r1.resolve_right r2⟩), if_neg k4]
          have hp0 : FLX fM (luN nm TK SL stk) cur (k + 1) 1 n 0 = [] := by
            rw [FLX]
            dsimp only
            rw [if_neg (by omega), if_pos rfl, if_neg k4, et]
            unfold notD
            rw [if_neg q0, if_pos (Or.inr r1)]
            rfl
          have hpl : plT fM cur 0 (luN nm TK SL stk tk) = gi fM 20 (luN nm TK SL stk tk - 1) := by
            unfold plT
            rw [if_neg q0, if_pos r1]
          by_cases r3 : FO fM (luN nm TK SL stk tk - 1) 1 ∧ gi fM 28 (luN nm TK SL stk tk - 1) = 0
          · -- used as it is
            have hn1 : ¬ gi fM 19 (luN nm TK SL stk tk - 1) = 1 := by rw [r3.1.1]; decide
            have ek : kdY fM (luN nm TK SL stk tk) = 2 := by
              unfold kdY
              rw [if_neg q0, if_neg hn1, if_pos r3.1, if_pos r3.2]
            refine fin _ _ 2 (fun b b' g => opW g b 4 (upI fM lev (luN nm TK SL stk tk - 1)) (gi fM 26 (luN nm TK SL stk tk - 1)) 2 ∧ b' = b + 1) 3 1 1 0 (by omega) (by omega) (by omega) (by omega) e1 (fun b b' g hg g1 g2 hnil => ?_) (fun w hw => ?_)
            · obtain ⟨p1, p2, p3, q, p4, p5, p6⟩ := hg
              refine (hcd b b' g).mpr ⟨g1, p1, c 1, q, hc1, g2, p2, p6, ?_⟩
              rw [if_neg (fun g => g.elim k4 (fun g => g.2.elim hn1 (fun g => g.2 r3.2))), if_pos ⟨k3, r3.1⟩]
              exact ⟨p3, p4.1, p4.2, p5⟩
            · obtain ⟨v1, x1, x2⟩ := hx w hw
              rw [x2, ek]
              have hy : luN nm TK SL stk tk = (luN nm TK SL stk tk - 1) + 1 := by omega
              obtain ⟨u, c', u1, u2⟩ := thk_same (N := N) (ty := gi fM 20 f) hT hU hl hn h12 h13 ht hk hy (by unfold FTA at hf ⊢; omega) x1
              exact ⟨u, c', u1, u2.fls (List.nil_append _).symm⟩
          · -- a place
            have ek : kdY fM (luN nm TK SL stk tk) = 1 := by
              unfold kdY
              rw [if_neg q0]
              by_cases r4 : gi fM 19 (luN nm TK SL stk tk - 1) = 1
              · rw [if_pos r4]
              · have r5 := r1.resolve_left r4
                rw [if_neg r4, if_pos r5, if_neg (fun g => r3 ⟨r5, g⟩)]
            have hcond : gi fM 7 n = 4 ∨ gi fM 7 n = 3 ∧ (gi fM 19 (luN nm TK SL stk tk - 1) = 1 ∨ FO fM (luN nm TK SL stk tk - 1) 1 ∧ gi fM 28 (luN nm TK SL stk tk - 1) ≠ 0) := by
              refine Or.inr ⟨k3, ?_⟩
              by_cases r4 : gi fM 19 (luN nm TK SL stk tk - 1) = 1
              · exact Or.inl r4
              · have r5 := r1.resolve_left r4
                exact Or.inr ⟨r5, fun g => r3 ⟨r5, g⟩⟩
            refine fin _ _ 1 (fun b b' g => FLX fM (luN nm TK SL stk) cur (k + 1) 1 n 0 = [] → CDM fM (luN nm TK SL stk) lev (k + 1) 1 n 0 0 b b' g) (2 * T + 1) ((T - 1) / 2 + 1) ((T + 1) / 2) ((T - 1) / 2) (by omega) (by omega) (by omega) (by omega) e1 (fun b b' g hg g1 g2 hnil => ?_) (fun w hw => ?_)
            · obtain ⟨p1, p2, p3, q, p4, p5, p6⟩ := hg
              refine (hcd b b' g).mpr ⟨g1, p1, c 1, q, hc1, g2, p2, p6, ?_⟩
              rw [if_pos hcond]
              exact ⟨p3, p4 hp0, p5⟩
            · obtain ⟨v1, x1, x2⟩ := hx w hw
              have hb := thk_body (N := N) (kind := 1) (F := fun w2 => RX12_mustBe N 5 (Int32.ofNat n) 0 0 w2) (ty := gi fM 20 f) (is := gi fM 20 (luN nm TK SL stk tk - 1)) (L := FLX fM (luN nm TK SL stk) cur (k + 1) 1 n 0) (Q := fun b b' g => FLX fM (luN nm TK SL stk) cur (k + 1) 1 n 0 = [] → CDM fM (luN nm TK SL stk) lev (k + 1) 1 n 0 0 b b' g) hn h12 (by omega) hf hT1 x1 (fun d v hv hfd => by
                obtain ⟨u, c', u1, u2⟩ := hP (Or.inl k3) d sp v hv hfd
                rw [if_neg k4, et, hpl] at u1
                exact ⟨u, c', u1, u2⟩)
              obtain ⟨u, c', u1, u2⟩ := hb
              rw [x2, ek, thk_1]
              exact ⟨u, c', u1, u2.fls (by rw [hp0])⟩
        · have e1 : FLX fM (luN nm TK SL stk) cur (k + 2) 5 n f = FLX fM (luN nm TK SL stk) cur (k + 1) 0 n 0 ++ misT (TYX fM (luN nm TK SL stk) (k + 1) n) (gi fM 20 f) tk := by
            rw [hfl, if_neg (fun g => r1 g.2.2.symm), if_neg k4, if_neg (fun g => r1 (Or.inr g.2.2)), if_neg (fun g => g.elim k4 (fun g => r1 (Or.inl g.2.2)))]
          have r1a : ¬ gi fM 19 (luN nm TK SL stk tk - 1) = 1 := fun g => r1 (Or.inl g)
          have r1b : ¬ FO fM (luN nm TK SL stk tk - 1) 1 := fun g => r1 (Or.inr g)
          have ek : kdY fM (luN nm TK SL stk tk) = 0 := by
            unfold kdY
            rw [if_neg q0, if_neg r1a, if_neg r1b]
          refine fin _ _ 0 (fun b b' g => FLX fM (luN nm TK SL stk) cur (k + 1) 0 n 0 = [] → CDM fM (luN nm TK SL stk) lev (k + 1) 0 n 0 0 b b' g) (2 * T + 1) ((T - 1) / 2 + 1) ((T + 1) / 2) ((T - 1) / 2) (by omega) (by omega) (by omega) (by omega) e1 (fun b b' g hg g1 g2 hnil => ?_) (fun w hw => ?_)
          · rw [e1] at hnil
            obtain ⟨m1, m2⟩ := List.append_eq_nil_iff.mp hnil
            obtain ⟨p1, p2, p3, q, p4, p5, p6⟩ := hg
            refine (hcd b b' g).mpr ⟨g1, p1, c 1, q, hc1, g2, p2, p6, ?_⟩
            rw [if_neg (fun g => g.elim k4 (fun g => g.2.elim r1a (fun g => r1b g.1))), if_neg (fun g => r1b g.2)]
            exact ⟨p3, p4 m1, p5⟩
          · obtain ⟨v1, x1, x2⟩ := hx w hw
            rw [x2, ek, thk_0]
            exact thk_body (N := N) (kind := 0) (F := fun w2 => RX12_mustBe N 1 (Int32.ofNat n) 0 0 w2) hn h12 (by omega) hf hT1 x1 (fun d v hv hfd => hV d sp v hv hfd)
    · have e1 : FLX fM (luN nm TK SL stk) cur (k + 2) 5 n f = FLX fM (luN nm TK SL stk) cur (k + 1) 0 n 0 ++ misT (TYX fM (luN nm TK SL stk) (k + 1) n) (gi fM 20 f) tk := by
        rw [hfl, if_neg (fun g => k3 g.1), if_neg k4, if_neg (fun g => k3 g.1), if_neg (fun g => g.elim k4 (fun g => k3 g.1))]
      refine fin _ _ 0 (fun b b' g => FLX fM (luN nm TK SL stk) cur (k + 1) 0 n 0 = [] → CDM fM (luN nm TK SL stk) lev (k + 1) 0 n 0 0 b b' g) (2 * T + 1) ((T - 1) / 2 + 1) ((T + 1) / 2) ((T - 1) / 2) (by omega) (by omega) (by omega) (by omega) e1 (fun b b' g hg g1 g2 hnil => ?_) (fun w hw => tk_other hw hn k3 k4 h12 (by omega) hf hT1 hV)
      rw [e1] at hnil
      obtain ⟨m1, m2⟩ := List.append_eq_nil_iff.mp hnil
      obtain ⟨p1, p2, p3, q, p4, p5, p6⟩ := hg
      refine (hcd b b' g).mpr ⟨g1, p1, c 1, q, hc1, g2, p2, p6, ?_⟩
      rw [if_neg (fun g => g.elim k4 (fun g => k3 g.1)), if_neg (fun g => k3 g.1)]
      exact ⟨p3, p4 m1, p5⟩
/-- an ACTUAL -/
theorem ac_all (hT : TBM kd wr nm vv m C TK SL fA fM) {k N n tk f T : Nat} {stk : List Nat} (hU : UPM (C 2) fM stk) (hl : stk.length < 9000) (hn : n < 24000) (h12 : gi fM 12 n = Int32.ofNat tk) (ht : tk < m) (h3 : gi fM 7 n = 3 → gi fM 13 n = hdM stk ∧ kd tk = 2) (hT1 : 1 ≤ T) (hf5 : f < 5000) (hx : ∃ x, x ≤ 5 ∧ gi fM 24 f = Int32.ofNat x)
    (hV : VS kd wr m fM (luN nm TK SL stk) lev cur (k + 1) N n T) (hP : gi fM 7 n = 3 ∨ gi fM 7 n = 4 → PS kd wr m fM (luN nm TK SL stk) lev cur (k + 1) N n 0 T) (hA : AIS kd wr m fM (luN nm TK SL stk) lev cur (k + 1) (N + 1) n T) (hL : LOS kd wr m fM (luN nm TK SL stk) lev cur (k + 1) N n T) (hL1 : LOS kd wr m fM (luN nm TK SL stk) lev cur (k + 1) (N + 1) n T) : ACS kd wr m fM (luN nm TK SL stk) lev cur (k + 2) (N + 2) n f T := by
  have hm := hT.2.1.1.1
  have et : nd fM 12 n = tk := by
    unfold nd
    rw [h12, tc_iN (by omega)]
  have r5 : ∀ L : List (Nat × Int32), (if (5 : Nat) = 0 then L else if (5 : Nat) = 1 then L else if (5 : Nat) = 2 then L else if (5 : Nat) = 3 then L else L) = L := fun L => by
    rw [if_neg (by omega), if_neg (by omega), if_neg (by omega), if_neg (by omega)]
  by_cases q1 : gi fM 24 f = 1
  · exact ac_ty hT hU hl hn h12 ht h3 hT1 hf5 q1 hV hP
  · intro c sp ac w h hf hac hac6
    by_cases q4 : gi fM 24 f = 4
    · obtain ⟨u, c', u1, u2⟩ := ac_label (N := N + 1) h hf hac hac6 hf5 q4 hT1 hA
      have e1 : FLX fM (luN nm TK SL stk) cur (k + 2) 5 n f = FLX fM (luN nm TK SL stk) cur (k + 1) 2 n 0 := by
        rw [FLX]
        dsimp only
        rw [if_neg (by omega), if_neg (by omega), if_neg (by omega), if_neg (by omega), if_neg (by omega), if_neg q1, if_pos q4]
      refine ⟨u, c', u1, (u2.fls e1.symm).wk (fun b b' g hg hnil => ?_) (by omega)⟩
      obtain ⟨⟨p1, p2, p3, q, p4, p5, p6⟩, p7, p8⟩ := hg
      rw [CDM]
      dsimp only
      rw [if_neg (by omega), if_neg (by omega), if_neg (by omega), if_pos rfl, if_neg q1, if_pos q4]
      unfold FTA at hf
      exact ⟨p7, p1, c 1, q, by omega, p8, p2, p3, p6, p4 (e1 ▸ hnil), p5⟩
    · by_cases q0 : gi fM 24 f = 0
      · obtain ⟨u, c', u1, u2⟩ := ac_none (N := N + 1) (ac := ac) h hf hf5 q0 hL1
        have e1 : FLX fM (luN nm TK SL stk) cur (k + 2) 5 n f = FLX fM (luN nm TK SL stk) cur (k + 1) 4 n 0 := by
          rw [FLX]
          dsimp only
          rw [if_neg (by omega), if_neg (by omega), if_neg (by omega), if_neg (by omega), if_neg (by omega), if_neg q1, if_neg q4, if_pos q0]
        refine ⟨u, c', u1, (((u2.fls e1.symm).wk (fun b b' g hg => ?_) (by omega) : EM kd wr m fM lev cur sp c c' w u _ _ (2 * T + 2) ((T + 1) / 2) ((T + 1) / 2) ((T - 1) / 2)).ema)⟩
        intro _
        rw [CDM]
        dsimp only
        rw [if_neg (by omega), if_neg (by omega), if_neg (by omega), if_pos rfl, if_neg q1, if_neg q4, if_pos q0]
        trivial
      · have hf3 : gi fM 24 f = 2 ∨ gi fM 24 f = 3 ∨ gi fM 24 f = 5 := by
          obtain ⟨x, hx1, hx2⟩ := hx
          have hx0 : x = 0 ∨ x = 1 ∨ x = 2 ∨ x = 3 ∨ x = 4 ∨ x = 5 := by omega
          rcases hx0 with g | g | g | g | g | g <;> rw [g] at hx2
          · exact absurd hx2 q0
          · exact absurd hx2 q1
          · exact Or.inl hx2
          · exact Or.inr (Or.inl hx2)
          · exact absurd hx2 q4
          · exact Or.inr (Or.inr hx2)
        have hfb : inb (Int32.ofNat f) 5000 = true := inb_iN hf5 (by omega)
        have hfc : (Int32.ofNat f).toNatClampNeg = f := tc_iN (by omega)
        have e24 : gi w 24 f = gi fM 24 f := (h.fx (k := 24) (by unfold PGM PGX; omega)).1
        have hact : RX12_mustBe (N + 2) 10 (Int32.ofNat n) (Int32.ofNat f) (Int32.ofNat ac) w = bn2 (RX12_mustBe (N + 1) 12 (Int32.ofNat n) (Int32.ofNat f) (Int32.ofNat ac) w) fun _ w29 => some (0, w29) := by
          show fX12_actual (RX12_mustBe (N + 1)) (Int32.ofNat n) (Int32.ofNat f) (Int32.ofNat ac) w = _
          unfold fX12_actual
          rw [if_pos hfb, hfc, e24, ltq, if_neg q0, if_neg q1, if_neg q4]
        by_cases k3 : gi fM 7 n = 3
        · obtain ⟨h13, hk⟩ := h3 k3
          obtain ⟨u, u1, u2⟩ := bn_name (N := N) hT h hU hl hn k3 h12 h13 ht hk hac hac6 hf5 hf3
          have e1 : FLX fM (luN nm TK SL stk) cur (k + 2) 5 n f = notD (luN nm TK SL stk tk) tk ++ (if luN nm TK SL stk tk = 0 then [] else bnF fM (luN nm TK SL stk tk - 1) f tk) := by
            rw [FLX]
            dsimp only
            rw [if_neg (by omega), if_neg (by omega), if_neg (by omega), if_neg (by omega), if_neg (by omega), if_neg q1, if_neg q4, if_neg q0, if_neg (fun g => g k3), et]
            by_cases ql : luN nm TK SL stk tk = 0
            · rw [if_pos ql, if_pos ql]
            · rw [if_neg ql, if_neg ql]
              unfold bnF
              rw [Nat.sub_add_cancel (by omega)]
          refine ⟨u, c, by rw [hact, u1]; rfl, (u2.fls e1.symm).wk (fun b b' g hg hnil => ?_) (by omega)⟩
          rw [e1] at hnil
          obtain ⟨m1, m2⟩ := List.append_eq_nil_iff.mp hnil
          have hl0 : luN nm TK SL stk tk ≠ 0 := fun e => by
            unfold notD at m1
            rw [if_pos e] at m1
            exact absurd m1 (by simp)
          rw [if_neg hl0] at m2
          have hb := hg.2 hl0 m2
          rw [CDM]
          dsimp only
          rw [if_neg (by omega), if_neg (by omega), if_neg (by omega), if_pos rfl, if_neg q1, if_neg q4, if_neg q0, et]
          exact ⟨hg.1, hb⟩
        · obtain ⟨u0, v1, v2, v3, v4⟩ := g_found h (a := tk) (by omega) (num := 4)
          have hFf := hf
          unfold FTA at hf
          obtain ⟨u, c', u1, u2⟩ := hL c sp u0 v2 (by unfold FIT; omega)
          have e1 : FLX fM (luN nm TK SL stk) cur (k + 2) 5 n f = [(tk, 4)] ++ FLX fM (luN nm TK SL stk) cur (k + 1) 4 n 0 := by
            rw [FLX]
            dsimp only
            rw [if_neg (by omega), if_neg (by omega), if_neg (by omega), if_neg (by omega), if_neg (by omega), if_neg q1, if_neg q4, if_neg q0, if_pos k3, et]
          have hnb : inb (Int32.ofNat n) 24000 = true := inb_iN hn (by omega)
          have hnc : (Int32.ofNat n).toNatClampNeg = n := tc_iN (by omega)
          have h2 := (EM.fl v2 (L := [(tk, 4)]) v3 v4).seq u2
          refine ⟨u, c', ?_, (((h2.fls e1.symm).wk (fun b b' g hg => ?_) (by omega) : EM kd wr m fM lev cur sp c c' w u _ _ (2 * T + 2) ((T + 1) / 2) ((T + 1) / 2) ((T - 1) / 2)).ema)⟩
          · rw [hact]
            have hby : RX12_mustBe (N + 1) 12 (Int32.ofNat n) (Int32.ofNat f) (Int32.ofNat ac) w = some (0, u) := by
              show fX12_byName (RX12_mustBe N) (Int32.ofNat n) (Int32.ofNat f) (Int32.ofNat ac) w = _
              unfold fX12_byName
              rw [if_pos hnb, hnc, (h.fx (k := 7) (by unfold PGM PGX; omega)).1, if_neg k3, if_pos hnb, (h.fx (k := 12) (by unfold PGM PGX; omega)).1, h12, v1, bn_so, u1]
              rfl
            rw [hby]
            rfl
          · intro hnil
            rw [e1] at hnil
            exact absurd hnil (by simp)
end SG
