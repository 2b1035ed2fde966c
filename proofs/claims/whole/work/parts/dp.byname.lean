/-! PASS 2, THE REFERENCE: an ACTUAL for an ARRAY, procedure or switch -/
section SG
variable {kd wr nm : Nat → Nat} {vv : Nat → Int64} {m lev cur sp ac : Nat} {fA fM : Wd} {c c1 c2 C TK : Nat → Nat} {SL : Nat → List Nat} {w u v v' : Wd} {L L1 L2 : List (Nat × Int32)} {P P1 P2 : Nat → Nat → Wd → Prop} {a0 a1 a2 a3 b0 b1 b2 b3 : Nat} {lu : Nat → Nat}
/-- EMA: nothing is noted -/
theorem EM.ema (h : EM kd wr m fM lev cur sp c c1 w u L P a0 a1 a2 a3) : EMA kd wr m fM lev cur sp ac c c1 w u L P a0 a1 a2 a3 := by
  obtain ⟨h1, h2, h3, h4, h5, h6, h7, h8⟩ := h
  exact ⟨h1, h2, h3, fun k j hk _ => h4 k j hk, h5, h6, h7, fun g hg _ => h8 g hg⟩
/-- what is noted of a NAME for formal f -/
def bnV (fM : Wd) (y f : Nat) (a6 : Bool) : Int32 := if a6 = true then gi fM 26 y else if gi fM 24 f = 3 then gi fM 24 y else if gi fM 24 f = 5 then Int32.ofNat y else gi fM 26 y
theorem bn_216 (h : GCS kd wr m fM lev cur c sp w) {y p f : Nat} {rc : TX12_mustBe} {s2 : Int32} {a6 : Bool} (hy : y < 5000) (h23 : gi fM 23 y = Int32.ofNat p) (hp : p < 1200) (hac : ac < c 3) (hac6 : ac < 6000) (hf : gi fM 24 f = 2 ∨ gi fM 24 f = 3 ∨ gi fM 24 f = 5) :
    ∃ v, fX12_byName_216 rc (Int32.ofNat ac) s2 (Int32.ofNat ac) (Int32.ofNat y) (gi fM 24 f) a6 w = some (0, v) ∧ OFF (fun k j => 52 ≤ k ∧ k ≤ 54 ∧ j = ac) v w ∧ gi v 52 ac = s2 ∧ gi v 53 ac = upI fM lev y ∧ gi v 54 ac = bnV fM y f a6 := by
  have hb : inb (Int32.ofNat ac) 6000 = true := inb_iN hac6 (by omega)
  have hc : (Int32.ofNat ac).toNatClampNeg = ac := tc_iN (by omega)
  have hy5 : inb (Int32.ofNat y) 5000 = true := inb_iN hy (by omega)
  have hyc : (Int32.ofNat y).toNatClampNeg = y := tc_iN (by omega)
  have o1 : OFF (fun k j => 52 ≤ k ∧ k ≤ 54 ∧ j = ac) (si w 52 ac s2) w := OFF.si (by omega)
  have g1 := h.off o1 (fun k j hk => by unfold PGM PGX; omega)
  have o2 : OFF (fun k j => 52 ≤ k ∧ k ≤ 54 ∧ j = ac) (si (si w 52 ac s2) 53 ac (upI fM lev y)) w := OFF.tr (OFF.si (by omega)) o1
  have g2 := h.off o2 (fun k j hk => by unfold PGM PGX; omega)
  have e26 : gi (si (si w 52 ac s2) 53 ac (upI fM lev y)) 26 y = gi fM 26 y := (g2.fx (k := 26) (by unfold PGM PGX; omega)).1
  have e24 : gi (si (si w 52 ac s2) 53 ac (upI fM lev y)) 24 y = gi fM 24 y := (g2.fx (k := 24) (by unfold PGM PGX; omega)).1
  have fin : ∀ x : Int32, x = bnV fM y f a6 → ∃ v, some ((0 : Int32), si (si (si w 52 ac s2) 53 ac (upI fM lev y)) 54 ac x) = some (0, v) ∧ OFF (fun k j => 52 ≤ k ∧ k ≤ 54 ∧ j = ac) v w ∧ gi v 52 ac = s2 ∧ gi v 53 ac = upI fM lev y ∧ gi v 54 ac = bnV fM y f a6 := fun x hx =>
    ⟨_, rfl, OFF.tr (OFF.si (by omega)) o2, by rw [gi_si1 (by omega), gi_si1 (by omega), gi_si0], by rw [gi_si1 (by omega), gi_si0], by rw [gi_si0, hx]⟩
  have h255 : gi fM 24 f ≠ 3 ∨ a6 = true → ∃ v, fX12_byName_255 rc (Int32.ofNat ac) (Int32.ofNat y) (gi fM 24 f) a6 (si (si w 52 ac s2) 53 ac (upI fM lev y)) = some (0, v) ∧ OFF (fun k j => 52 ≤ k ∧ k ≤ 54 ∧ j = ac) v w ∧ gi v 52 ac = s2 ∧ gi v 53 ac = upI fM lev y ∧ gi v 54 ac = bnV fM y f a6 := fun hne => by
    unfold fX12_byName_255
    by_cases q5 : gi fM 24 f = 5
    · rw [if_pos q5]
      by_cases q6 : a6 = true
      · rw [if_pos q6, if_pos hy5, if_pos hb, hc, hyc, e26, ltq]
        exact fin _ (by unfold bnV; rw [if_pos q6])
      · rw [if_neg q6, if_pos hb, hc, ltq]
        refine fin _ ?_
        unfold bnV
        rw [if_neg q6, if_neg (show ¬ gi fM 24 f = 3 from hne.resolve_right q6), if_pos q5]
    · rw [if_neg q5, if_pos hy5, if_pos hb, hc, hyc, e26, ltq]
      refine fin _ ?_
      unfold bnV
      by_cases q6 : a6 = true
      · rw [if_pos q6]
      · rw [if_neg q6, if_neg (show ¬ gi fM 24 f = 3 from hne.resolve_right q6), if_neg q5]
  unfold fX12_byName_216
  rw [if_pos hb, hc, ltq, g_up g1 hy h23 hp, bn2_so, if_pos hb, ltq]
  by_cases q3 : gi fM 24 f = 3
  · rw [if_pos q3]
    by_cases q6 : a6 = true
    · rw [if_pos q6]
      exact h255 (Or.inr q6)
    · rw [if_neg q6, if_pos hy5, if_pos hb, hyc, e24, ltq]
      refine fin _ ?_
      unfold bnV
      rw [if_neg q6, if_pos q3]
  · rw [if_neg q3]
    exact h255 (Or.inl q3)
/-- what's wanted of a NAME for formal f -/
def bnP (fM : Wd) (lev y f ac : Nat) (g : Wd) : Prop := FO fM y 0 ∨ gi g 53 ac = upI fM lev y ∧ (FO fM y (gi fM 24 f) ∧ gi g 52 ac = 10 ∧ gi g 54 ac = gi fM 26 y ∨ gi fM 19 y = gi fM 24 f ∧ gi fM 19 y ≠ 6 ∧ gi g 52 ac = gi fM 24 f ∧ gi g 54 ac = (if gi fM 24 f = 3 then gi fM 24 y else if gi fM 24 f = 5 then Int32.ofNat y else gi fM 26 y))
def bnF (fM : Wd) (y f tk : Nat) : List (Nat × Int32) := if (gi fM 19 y = gi fM 24 f ∨ FO fM y (gi fM 24 f)) ∧ (gi fM 24 f = 5 ∨ gi fM 20 y = gi fM 20 f) then (if gi fM 24 f = 3 ∧ gi fM 19 y = 3 ∧ ¬ gi fM 31 (nd fM 24 y) ≤ 0 then [(tk, 5)] else []) else misS fM (y + 1) tk
theorem bn_name (hT : TBM kd wr nm vv m C TK SL fA fM) (h : GCS kd wr m fM lev cur c sp w) {N n tk f : Nat} {stk : List Nat} (hU : UPM (C 2) fM stk) (hl : stk.length < 9000) (hn : n < 24000) (h7 : gi fM 7 n = 3) (h12 : gi fM 12 n = Int32.ofNat tk) (h13 : gi fM 13 n = hdM stk) (ht : tk < m) (hk : kd tk = 2) (hac : ac < c 3) (hac6 : ac < 6000) (hf5 : f < 5000) (hf : gi fM 24 f = 2 ∨ gi fM 24 f = 3 ∨ gi fM 24 f = 5) :
    ∃ u, RX12_mustBe (N + 1) 12 (Int32.ofNat n) (Int32.ofNat f) (Int32.ofNat ac) w = some (0, u) ∧ EMA kd wr m fM lev cur sp ac c c w u (notD (luN nm TK SL stk tk) tk ++ (if luN nm TK SL stk tk = 0 then [] else bnF fM (luN nm TK SL stk tk - 1) f tk)) (fun b b' g => b' = b ∧ (luN nm TK SL stk tk ≠ 0 → bnF fM (luN nm TK SL stk tk - 1) f tk = [] → bnP fM lev (luN nm TK SL stk tk - 1) f ac g)) 0 0 0 0 := by
  have hC := hT.2.2.2.1
  have hm := h.1.1.1
  have hle := luN_le hT hU (tk := tk)
  have hnb : inb (Int32.ofNat n) 24000 = true := inb_iN hn (by omega)
  have hnc : (Int32.ofNat n).toNatClampNeg = n := tc_iN (by omega)
  have hfb : inb (Int32.ofNat f) 5000 = true := inb_iN hf5 (by omega)
  have hfc : (Int32.ofNat f).toNatClampNeg = f := tc_iN (by omega)
  obtain ⟨w2, s1, s2, s3, s4⟩ := g_seen hT h hU hl hn h12 h13 ht hk
  have e : ∀ v, GCS kd wr m fM lev cur c sp v → ∀ k j, (7 ≤ k ∧ k ≤ 32) → gi v k j = gi fM k j := fun v hv k j hk => (hv.fx (by unfold PGM PGX; omega)).1
  show ∃ u, fX12_byName (RX12_mustBe N) (Int32.ofNat n) (Int32.ofNat f) (Int32.ofNat ac) w = some (0, u) ∧ _
  unfold fX12_byName
  rw [if_pos hnb, hnc, e w h 7 n (by omega), if_pos h7, s1, bn2_so]
  generalize luN nm TK SL stk tk = l at hle s3 ⊢
  by_cases q0 : l = 0
  · rw [if_pos q0, if_neg (by decide), if_pos q0, List.append_nil]
    refine ⟨w2, rfl, ((EM.fl s2 (L := notD l tk) (by unfold notD; exact s3) s4).wk (fun b b' g hg => ⟨hg, fun hn0 => absurd q0 hn0⟩) (by omega)).ema⟩
  · obtain ⟨y, rfl⟩ : ∃ y, l = y + 1 := ⟨l - 1, by omega⟩
    have hnD : notD (y + 1) tk = [] := by
      unfold notD
      exact if_neg (by omega)
    rw [if_neg q0] at s3
    rw [hnD, List.nil_append, if_neg q0, if_neg q0, Nat.add_sub_cancel, if_pos (zl_iN (by omega)), if_pos hfb, hfc, e w2 s2 24 f (by omega)]
    obtain ⟨t1, t2, t3, t4, t5, t6, t7, ⟨p, lp, q1, q2, q3, q4⟩, t9⟩ := hT.2.2.2.2.2.2 y (by omega)
    have hy5 : inb (Int32.ofNat y) 5000 = true := inb_iN (by omega) (by omega)
    have hyc : (Int32.ofNat y).toNatClampNeg = y := tc_iN (by omega)
    have hs0 : EM kd wr m fM lev cur sp c c w w2 [] (fun b b' _ => b' = b) 0 0 0 0 := EM.fl s2 (L := []) s3 s4
    -- not as it must be
    have h128 : ¬ ((gi fM 19 y = gi fM 24 f ∨ FO fM y (gi fM 24 f)) ∧ (gi fM 24 f = 5 ∨ gi fM 20 y = gi fM 20 f)) → ∃ u, fX12_byName_128 (RX12_mustBe N) (Int32.ofNat n) (Int32.ofNat y) w2 = some (0, u) ∧ EMA kd wr m fM lev cur sp ac c c w u (bnF fM y f tk) (fun b b' g => b' = b ∧ (y + 1 ≠ 0 → bnF fM y f tk = [] → bnP fM lev y f ac g)) 0 0 0 0 := fun hno => by
      obtain ⟨u, u1, u2⟩ := g_mis s2 (y := y) hn (by omega) h12 (by omega)
      have hfl : bnF fM y f tk = misS fM (y + 1) tk := by
        unfold bnF
        rw [if_neg hno]
      refine ⟨u, ?_, ?_⟩
      · unfold fX12_byName_128
        rw [hyc]
        exact u1
      · rw [hfl]
        obtain ⟨h1, h2, h3, h4, h5, h6, h7, h8⟩ := hs0.seq u2
        exact ⟨h1, h2, h3, fun k j hk _ => h4 k j hk, h5, h6, by omega, fun g hg _ => by
          obtain ⟨b1, g1, g2⟩ := h8 g hg
          by_cases qm : misS fM (y + 1) tk = []
          · exact ⟨(g2 qm).2.trans g1, fun _ _ => Or.inl (g2 qm).1⟩
          · exact ⟨rfl, fun _ hh => absurd hh qm⟩⟩
    -- as it must be
    have h195 : ∀ (fl : Bool) (v : Wd) (L : List (Nat × Int32)), EM kd wr m fM lev cur sp c c w v L (fun b b' _ => b' = b) 0 0 0 0 → (fl = true → FO fM y (gi fM 24 f)) → (fl = false → gi fM 19 y = gi fM 24 f ∧ gi fM 19 y ≠ 6) → ∃ u, fX12_byName_195 (RX12_mustBe N) (Int32.ofNat f) (Int32.ofNat ac) (Int32.ofNat y) (gi fM 24 f) fl v = some (0, u) ∧ EMA kd wr m fM lev cur sp ac c c w u L (fun b b' g => b' = b ∧ bnP fM lev y f ac g) 0 0 0 0 := fun fl v L hv k1 k2 => by
      unfold fX12_byName_195
      rw [if_pos hfb, hfc, e v hv.1 24 f (by omega)]
      have hgo : ∀ s2, (fl = true → s2 = 10) → (fl = false → s2 = gi fM 24 f) → ∃ u, fX12_byName_216 (RX12_mustBe N) (Int32.ofNat ac) s2 (Int32.ofNat ac) (Int32.ofNat y) (gi fM 24 f) fl v = some (0, u) ∧ EMA kd wr m fM lev cur sp ac c c w u L (fun b b' g => b' = b ∧ bnP fM lev y f ac g) 0 0 0 0 := fun s2 j1 j2 => by
        obtain ⟨u, u1, u2, u3, u4, u5⟩ := bn_216 hv.1 (rc := RX12_mustBe N) (s2 := s2) (a6 := fl) (f := f) (y := y) (by omega) q1 (by omega) hac hac6 hf
        refine ⟨u, u1, (hv.act hac u2).wk (fun b b' g hg => ⟨hg.1, Or.inr ⟨by rw [hg.2 53 (by omega), u4], ?_⟩⟩) (by omega)⟩
        rw [hg.2 52 (by omega), hg.2 54 (by omega), u3, u5]
        unfold bnV
        cases fl
        · obtain ⟨z1, z2⟩ := k2 rfl
          rw [if_neg (by decide)]
          exact Or.inr ⟨z1, z2, j2 rfl, rfl⟩
        · rw [if_pos rfl]
          exact Or.inl ⟨k1 rfl, j1 rfl, rfl⟩
      cases fl
      · rw [if_neg (by decide)]
        exact hgo _ (fun g => absurd g (by decide)) (fun _ => rfl)
      · rw [if_pos rfl]
        exact hgo _ (fun _ => rfl) (fun g => absurd g (by decide))
    have h6n : ¬ (gi fM 24 f = 6) := by
      rcases hf with g | g | g <;> rw [g] <;> decide
    have h158 : ∀ (fl : Bool), (fl = true → FO fM y (gi fM 24 f)) → (fl = false → gi fM 19 y = gi fM 24 f ∧ gi fM 19 y ≠ 6) → (gi fM 24 f = 5 ∨ gi fM 20 y = gi fM 20 f) → ∃ u, fX12_byName_158 (RX12_mustBe N) (Int32.ofNat n) (Int32.ofNat f) (Int32.ofNat ac) (Int32.ofNat y) (gi fM 24 f) fl w2 = some (0, u) ∧ EMA kd wr m fM lev cur sp ac c c w u (bnF fM y f tk) (fun b b' g => b' = b ∧ (y + 1 ≠ 0 → bnF fM y f tk = [] → bnP fM lev y f ac g)) 0 0 0 0 := fun fl k1 k2 k3 => by
      have hyes : (gi fM 19 y = gi fM 24 f ∨ FO fM y (gi fM 24 f)) ∧ (gi fM 24 f = 5 ∨ gi fM 20 y = gi fM 20 f) := ⟨by
        cases fl
        · exact Or.inl (k2 rfl).1
        · exact Or.inr (k1 rfl), k3⟩
      have hfl : bnF fM y f tk = if gi fM 24 f = 3 ∧ gi fM 19 y = 3 ∧ ¬ gi fM 31 (nd fM 24 y) ≤ 0 then [(tk, 5)] else [] := by
        unfold bnF
        rw [if_pos hyes]
      rw [hfl]
      have hcl : (¬ (gi fM 24 f = 3 ∧ gi fM 19 y = 3 ∧ ¬ gi fM 31 (nd fM 24 y) ≤ 0)) → ∃ u, fX12_byName_195 (RX12_mustBe N) (Int32.ofNat f) (Int32.ofNat ac) (Int32.ofNat y) (gi fM 24 f) fl w2 = some (0, u) ∧ EMA kd wr m fM lev cur sp ac c c w u (if gi fM 24 f = 3 ∧ gi fM 19 y = 3 ∧ ¬ gi fM 31 (nd fM 24 y) ≤ 0 then [(tk, 5)] else []) (fun b b' g => b' = b ∧ (y + 1 ≠ 0 → (if gi fM 24 f = 3 ∧ gi fM 19 y = 3 ∧ ¬ gi fM 31 (nd fM 24 y) ≤ 0 then [(tk, 5)] else []) = ([] : List (Nat × Int32)) → bnP fM lev y f ac g)) 0 0 0 0 := fun hno => by
        obtain ⟨u, u1, u2⟩ := h195 fl w2 [] hs0 k1 k2
        rw [if_neg hno]
        exact ⟨u, u1, u2.wk (fun b b' g hg => ⟨hg.1, fun _ _ => hg.2⟩) (by omega)⟩
      unfold fX12_byName_158
      by_cases r3 : gi fM 24 f = 3
      · rw [if_pos r3]
        by_cases r6 : fl = true
        · rw [if_pos r6]
          refine hcl (fun g => ?_)
          have := (k1 r6).1
          rw [g.2.1] at this
          exact absurd this (by decide)
        · rw [if_neg r6, if_pos hy5, hyc, e w2 s2 24 y (by omega)]
          have hfa : fl = false := by
            cases fl
            · rfl
            · exact absurd rfl r6
          have h19 : gi fM 19 y = 3 := (k2 hfa).1.trans r3
          obtain ⟨pn, nf, ff, g1, g2, g3, g4, g5⟩ : ∃ pn nf ff, 1 ≤ pn ∧ pn < C 4 ∧ gi fM 24 y = Int32.ofNat pn ∧ gi fM 31 pn = Int32.ofNat nf ∧ (nf : Nat) ≤ ff := by
            rcases t9 with g | g | g | g | g | g
            · exact absurd (g.1.symm.trans h19) (by decide)
            · exact absurd (g.1.symm.trans h19) (by decide)
            · obtain ⟨_, _, _, pn, nf, ff, g1, g2, g3, g4, g5, g6⟩ := g
              exact ⟨pn, nf, nf, g1, g2, g3, g5, Nat.le_refl _⟩
            · exact absurd (g.1.symm.trans h19) (by decide)
            · exact absurd (g.1.symm.trans h19) (by decide)
            · exact absurd (g.1.symm.trans h19) (by decide)
          have hnd : nd fM 24 y = pn := by
            unfold nd
            rw [g3, tc_iN (by omega)]
          have h31 : gi w2 31 pn = gi fM 31 pn := e w2 s2 31 pn (by omega)
          rw [g3, if_pos (inb_iN (by omega) (by omega)), tc_iN (by omega), h31]
          by_cases r0 : gi fM 31 pn ≤ 0
          · rw [if_pos r0]
            refine hcl (fun g => g.2.2 (by rw [hnd]; exact r0))
          · obtain ⟨u5, v1, v2, v3, v4⟩ := g_found s2 (a := tk) (by omega) (num := 5)
            rw [if_neg r0, if_pos hnb, hnc, e w2 s2 12 n (by omega), h12, v1, bn_so]
            obtain ⟨u, z1, z2⟩ := h195 fl u5 [(tk, 5)] ((hs0.seq (EM.fl v2 (L := [(tk, 5)]) v3 v4)).wk (fun b b' g hg => by
              obtain ⟨b1, g1, g2⟩ := hg
              exact g2.trans g1) (by omega)) k1 k2
            rw [if_pos (show gi fM 24 f = 3 ∧ gi fM 19 y = 3 ∧ ¬ gi fM 31 (nd fM 24 y) ≤ 0 from ⟨r3, h19, by rw [hnd]; exact r0⟩)]
            exact ⟨u, z1, z2.wk (fun b b' g hg => ⟨hg.1, fun _ hh => absurd hh (by simp)⟩) (by omega)⟩
      · rw [if_neg r3]
        exact hcl (fun g => r3 g.1)
    have h102 : ∀ (fl : Bool), (fl = true → FO fM y (gi fM 24 f)) → (fl = false → gi fM 19 y = gi fM 24 f ∧ gi fM 19 y ≠ 6) → ∃ u, fX12_byName_102 (RX12_mustBe N) (Int32.ofNat n) (Int32.ofNat f) (Int32.ofNat ac) (Int32.ofNat y) (gi fM 24 f) fl w2 = some (0, u) ∧ EMA kd wr m fM lev cur sp ac c c w u (bnF fM y f tk) (fun b b' g => b' = b ∧ (y + 1 ≠ 0 → bnF fM y f tk = [] → bnP fM lev y f ac g)) 0 0 0 0 := fun fl k1 k2 => by
      unfold fX12_byName_102
      rw [if_pos hfb, hfc, e w2 s2 24 f (by omega)]
      by_cases r5 : gi fM 24 f = 5
      · rw [if_pos r5]
        exact h158 fl k1 k2 (Or.inl r5)
      · rw [if_neg r5, if_pos hy5, if_pos hfb, hyc, e w2 s2 20 y (by omega), e w2 s2 20 f (by omega)]
        by_cases r6 : gi fM 20 y = gi fM 20 f
        · rw [if_pos r6]
          exact h158 fl k1 k2 (Or.inr r6)
        · rw [if_neg r6]
          exact h128 (fun g => g.2.elim r5 r6)
    have h69 : ∃ u, fX12_byName_69 (RX12_mustBe N) (gi fM 24 f) (Int32.ofNat n) (Int32.ofNat f) (Int32.ofNat ac) (Int32.ofNat y) w2 = some (0, u) ∧ EMA kd wr m fM lev cur sp ac c c w u (bnF fM y f tk) (fun b b' g => b' = b ∧ (y + 1 ≠ 0 → bnF fM y f tk = [] → bnP fM lev y f ac g)) 0 0 0 0 := by
      unfold fX12_byName_69
      rw [if_pos hfb, hfc, e w2 s2 24 f (by omega), g_isFormal s2 (by omega), bn2_so, if_pos hy5, hyc, e w2 s2 19 y (by omega)]
      by_cases r1 : gi fM 19 y = gi fM 24 f
      · have hn6 : gi fM 19 y ≠ 6 := fun g => h6n (r1.symm.trans g)
        rw [if_pos r1, decide_eq_false (show ¬ (gi fM 19 y = 6 ∧ gi fM 24 y = gi fM 24 f) from fun g => hn6 g.1)]
        exact h102 false (fun g => absurd g (by decide)) (fun _ => ⟨r1, hn6⟩)
      · rw [if_neg r1]
        by_cases r2 : FO fM y (gi fM 24 f)
        · rw [decide_eq_true (show gi fM 19 y = 6 ∧ gi fM 24 y = gi fM 24 f from r2), if_pos rfl]
          exact h102 true (fun _ => r2) (fun g => absurd g (by decide))
        · rw [decide_eq_false (show ¬ (gi fM 19 y = 6 ∧ gi fM 24 y = gi fM 24 f) from r2), if_neg (show ¬ (false = true) by decide)]
          exact h128 (fun g => g.1.elim r1 r2)
    rcases hf with g | g | g
    · rw [if_pos g]
      rw [g] at h69
      exact h69
    · rw [if_neg (show ¬ gi fM 24 f = 2 by rw [g]; decide), if_pos hfb, if_pos g]
      rw [g] at h69
      exact h69
    · rw [if_neg (show ¬ gi fM 24 f = 2 by rw [g]; decide), if_pos hfb, if_neg (show ¬ gi fM 24 f = 3 by rw [g]; decide)]
      rw [g] at h69
      exact h69
end SG
