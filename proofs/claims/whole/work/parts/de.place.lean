/-! PASS 2, THE REFERENCE: places -/
/-- the TYPE of a NAME that is set; f: 1 of a for -/
def plT (fM : Wd) (cur f l : Nat) : Int32 := if l = 0 then 0 else if gi fM 19 (l - 1) = 1 ∨ FO fM (l - 1) 1 then gi fM 20 (l - 1) else if f = 0 ∧ gi fM 19 (l - 1) = 3 ∧ gi fM 20 (l - 1) ≠ 0 ∧ inPr fM (gi fM 24 (l - 1)) 9000 (Int32.ofNat cur) = true then gi fM 20 (l - 1) else 0
section SG
variable {kd wr nm : Nat → Nat} {vv : Nat → Int64} {m lev cur sp : Nat} {fA fM : Wd} {c c1 c2 C TK : Nat → Nat} {SL : Nat → List Nat} {w u v : Wd} {L L1 L2 : List (Nat × Int32)} {P P1 P2 : Nat → Nat → Wd → Prop} {a0 a1 a2 a3 b0 b1 b2 b3 : Nat} {lu : Nat → Nat}
/-- what 'place' does with node n -/
def PS (kd wr : Nat → Nat) (m : Nat) (fM : Wd) (lu : Nat → Nat) (lev cur k N n f T : Nat) : Prop :=
  ∀ c sp w, GCS kd wr m fM lev cur c sp w → FIT c sp T → ∃ u c', RX12_mustBe N 5 (Int32.ofNat n) (Int32.ofNat f) 0 w = some (if gi fM 7 n = 4 then tyE fM (lu (nd fM 12 n)) else plT fM cur f (lu (nd fM 12 n)), u) ∧ EM kd wr m fM lev cur sp c c' w u (FLX fM lu cur k 1 n f) (fun b b' g => FLX fM lu cur k 1 n f = [] → CDM fM lu lev k 1 n f 0 b b' g) (2 * T - 1) ((T - 1) / 2) ((T + 1) / 2) ((T - 1) / 2)
theorem g_inPr (h : GCS kd wr m fM lev cur c sp w) {p : Int32} (hup : ∀ j, 1 ≤ j → j < 1200 → j ≤ cur → ∃ j', j' < j ∧ gi fM 37 j = Int32.ofNat j') : ∀ (N M q : Nat), q < N → q < M → q ≤ cur → q < 1200 → oX12_inProcedure_5 N p (Int32.ofNat q) w = some (inPr fM p M (Int32.ofNat q), w) := by
  intro N
  induction N with
  | zero => intro M q hq; omega
  | succ N ih =>
    intro M q hq hM hqc hq12
    obtain ⟨M, rfl⟩ : ∃ M', M = M' + 1 := ⟨M - 1, by omega⟩
    show fX12_inProcedure_5 (oX12_inProcedure_5 N) p (Int32.ofNat q) w = _
    unfold fX12_inProcedure_5 inPr
    by_cases q0 : q = 0
    · have hz : Int32.ofNat q ≤ 0 := by rw [q0]; decide
      rw [if_pos hz, if_pos hz]
    · have hz : ¬ Int32.ofNat q ≤ 0 := fun g => absurd ((le_iN (a := q) (b := 0) (by omega) (by omega)).mp g) (by omega)
      rw [if_neg hz, if_neg hz]
      by_cases q1 : Int32.ofNat q = p
      · rw [if_pos q1, if_pos q1]
      · obtain ⟨j', g1, g2⟩ := hup q (by omega) hq12 hqc
        rw [if_neg q1, if_neg q1, if_pos (inb_iN (by omega) (by omega)), tc_iN (by omega), (h.fx (k := 37) (by unfold PGM PGX; omega)).1, g2, ltq]
        exact ih M j' (by omega) (by omega) (by omega) (by omega)
theorem ps_name0 (hT : TBM kd wr nm vv m C TK SL fA fM) {k N n tk f : Nat} {stk : List Nat} (hU : UPM (C 2) fM stk) (hl : stk.length < 9000) (hn : n < 24000) (h7 : gi fM 7 n = 3) (h12 : gi fM 12 n = Int32.ofNat tk) (h13 : gi fM 13 n = hdM stk) (ht : tk < m) (hk : kd tk = 2) (hf2 : f ≤ 1) (hcur : cur < 1200) (hup : ∀ j, 1 ≤ j → j < 1200 → j ≤ cur → ∃ j', j' < j ∧ gi fM 37 j = Int32.ofNat j') : ∀ c sp w, GCS kd wr m fM lev cur c sp w → FIT c sp 1 → ∃ u c', RX12_mustBe (N + 1) 5 (Int32.ofNat n) (Int32.ofNat f) 0 w = some (if gi fM 7 n = 4 then tyE fM (luN nm TK SL stk (nd fM 12 n)) else plT fM cur f (luN nm TK SL stk (nd fM 12 n)), u) ∧ EM kd wr m fM lev cur sp c c' w u (FLX fM (luN nm TK SL stk) cur (k + 1) 1 n f) (fun b b' g => FLX fM (luN nm TK SL stk) cur (k + 1) 1 n f = [] → CDM fM (luN nm TK SL stk) lev (k + 1) 1 n f 0 b b' g) 1 0 0 0 := by
  intro c sp w h hf
  unfold FIT at hf
  have hm := h.1.1.1
  have hC := hT.2.2.2.1
  have hnb : inb (Int32.ofNat n) 24000 = true := inb_iN hn (by omega)
  have hnc : (Int32.ofNat n).toNatClampNeg = n := tc_iN (by omega)
  have n4 : ¬ gi fM 7 n = 4 := by rw [h7]; decide
  have et : nd fM 12 n = tk := by
    unfold nd
    rw [h12, tc_iN (by omega)]
  have e : ∀ v {c'}, GCS kd wr m fM lev cur c' sp v → ∀ k j, (7 ≤ k ∧ k ≤ 32) → gi v k j = gi fM k j := fun v c' hv k j hk => (hv.fx (by unfold PGM PGX; omega)).1
  obtain ⟨w2, s1, s2, s3, s4⟩ := g_seen hT h hU hl hn h12 h13 ht hk
  have hle := luN_le hT hU (tk := tk)
  have hfl : FLX fM (luN nm TK SL stk) cur (k + 1) 1 n f = notD (luN nm TK SL stk tk) tk ++ (if luN nm TK SL stk tk = 0 ∨ gi fM 19 (luN nm TK SL stk tk - 1) = 1 ∨ FO fM (luN nm TK SL stk tk - 1) 1 then [] else if f = 0 ∧ gi fM 19 (luN nm TK SL stk tk - 1) = 3 ∧ gi fM 20 (luN nm TK SL stk tk - 1) ≠ 0 ∧ inPr fM (gi fM 24 (luN nm TK SL stk tk - 1)) 9000 (Int32.ofNat cur) = true then [] else misS fM (luN nm TK SL stk tk) tk) := by
    rw [FLX]
    dsimp only
    rw [if_neg (by omega), if_pos rfl, if_neg n4, et]
  have hcd : ∀ b b' g, CDM fM (luN nm TK SL stk) lev (k + 1) 1 n f 0 b b' g ↔ cdL fM lev (luN nm TK SL stk tk) b b' g := fun b b' g => by
    rw [CDM]
    dsimp only
    rw [if_neg (by omega), if_pos rfl, if_neg n4, et]
  have e5 : RX12_mustBe (N + 1) 5 (Int32.ofNat n) (Int32.ofNat f) 0 w = fX12_place (RX12_mustBe N) (Int32.ofNat n) (Int32.ofNat f) w := rfl
  rw [e5, if_neg n4, et, hfl]
  unfold fX12_place
  rw [if_pos hnb, hnc, e w h 7 n (by omega), h7, if_neg (by decide), s1, bn2_so]
  generalize luN nm TK SL stk tk = l at hle s3 hfl hcd ⊢
  by_cases q0 : l = 0
  · rw [if_pos q0, if_neg (by decide), if_pos (Or.inl q0), List.append_nil]
    refine ⟨w2, c, ?_, (EM.fl s2 (L := notD l tk) (by unfold notD; exact s3) s4).wk (fun b b' g _ hnil => ?_) (by omega)⟩
    · unfold plT
      rw [if_pos q0]
    · unfold notD at hnil
      rw [if_pos q0] at hnil
      exact absurd hnil (by simp)
  · obtain ⟨y, rfl⟩ : ∃ y, l = y + 1 := ⟨l - 1, by omega⟩
    have ey : y + 1 - 1 = y := by omega
    have hnD : notD (y + 1) tk = [] := by
      unfold notD
      exact if_neg (by omega)
    rw [if_neg q0] at s3
    obtain ⟨t1, t2, t3, t4, t5, t6, t7, ⟨p, lp, q1, q2, q3, q4⟩, t9⟩ := hT.2.2.2.2.2.2 y (by omega)
    have hy5 : inb (Int32.ofNat y) 5000 = true := inb_iN (by omega) (by omega)
    have hyc : (Int32.ofNat y).toNatClampNeg = y := tc_iN (by omega)
    have hup' := g_up s2 (k := y) (by omega) q1 (by omega)
    have hop : ∀ (a x s z : Int32), ∃ u, fX12_op a x s z w2 = some (Int32.ofNat (c 0), u) ∧ EM kd wr m fM lev cur sp c (upC c 0 (c 0 + 1)) w u [] (fun b b' g => opW g b a x s z ∧ b' = b + 1) 1 0 0 0 ∧ gi u 20 y = gi fM 20 y := fun a x s z => by
      obtain ⟨u, v1, v2⟩ := EM.op s2 (by omega) (a := a) (x := x) (y := s) (z := z)
      exact ⟨u, v1, EM.after s3 s4 v2, (v2.1.fx (by unfold PGM PGX; omega)).1⟩
    have hcl : ∀ b b' g, cdL fM lev (y + 1) b b' g → CDM fM (luN nm TK SL stk) lev (k + 1) 1 n f 0 b b' g := fun b b' g hh => (hcd b b' g).mpr hh
    unfold cdL at hcl
    rw [ey] at hcl
    have hplt : plT fM cur f (y + 1) = if gi fM 19 y = 1 ∨ FO fM y 1 then gi fM 20 y else if f = 0 ∧ gi fM 19 y = 3 ∧ gi fM 20 y ≠ 0 ∧ inPr fM (gi fM 24 y) 9000 (Int32.ofNat cur) = true then gi fM 20 y else 0 := by
      unfold plT
      rw [if_neg q0, ey]
    rw [if_neg q0, ey, if_pos (zl_iN (by omega)), if_pos hy5, hyc, e w2 s2 19 y (by omega), hnD, List.nil_append, hplt]
    by_cases k1 : gi fM 19 y = 1
    · rw [if_pos k1, if_pos hy5, e w2 s2 27 y (by omega), if_pos (show gi fM 19 y = 1 ∨ FO fM y 1 from Or.inl k1), if_pos (show y + 1 = 0 ∨ gi fM 19 y = 1 ∨ FO fM y 1 from Or.inr (Or.inl k1))]
      have h58 : ∀ x, fX12_place_58 (RX12_mustBe N) 3 x (Int32.ofNat y) w2 = bn2 (fX12_op 3 x (gi fM 26 y) 0 w2) fun x2 w3 => if inb (Int32.ofNat y) 5000 = true then some (gi w3 20 y, w3) else none := fun x => by
        unfold fX12_place_58
        rw [if_pos hy5, hyc, e w2 s2 26 y (by omega)]
      by_cases k2 : gi fM 27 y = 0
      · obtain ⟨u, v1, v2, v3⟩ := hop 3 (upI fM lev y) (gi fM 26 y) 0
        rw [if_pos k2, hup', bn2_so, h58, v1, bn2_so, if_pos hy5, v3]
        refine ⟨u, upC c 0 (c 0 + 1), rfl, v2.wk (fun b b' g hg _ => hcl b b' g (Or.inl ?_)) (by omega)⟩
        rw [if_pos k2]
        exact ⟨k1, hg.1, hg.2⟩
      · obtain ⟨u, v1, v2, v3⟩ := hop 3 (-1) (gi fM 26 y) 0
        rw [if_neg k2, h58, v1, bn2_so, if_pos hy5, v3]
        refine ⟨u, upC c 0 (c 0 + 1), rfl, v2.wk (fun b b' g hg _ => hcl b b' g (Or.inl ?_)) (by omega)⟩
        rw [if_neg k2]
        exact ⟨k1, hg.1, hg.2⟩
    · rw [if_neg k1, g_isFormal s2 (by omega), bn2_so]
      by_cases k2 : FO fM y 1
      · rw [decide_eq_true (show gi fM 19 y = 6 ∧ gi fM 24 y = 1 from k2), if_pos rfl, if_pos hy5, e w2 s2 28 y (by omega), hup', if_pos (show gi fM 19 y = 1 ∨ FO fM y 1 from Or.inr k2), if_pos (show y + 1 = 0 ∨ gi fM 19 y = 1 ∨ FO fM y 1 from Or.inr (Or.inr k2))]
        by_cases k3 : gi fM 28 y = 0
        · obtain ⟨u, v1, v2, v3⟩ := hop 4 (upI fM lev y) (gi fM 26 y) 1
          rw [if_pos k3, bn2_so, if_pos hy5, e w2 s2 26 y (by omega), v1, bn2_so, if_pos hy5, v3]
          exact ⟨u, upC c 0 (c 0 + 1), rfl, v2.wk (fun b b' g hg _ => hcl b b' g (Or.inr (Or.inr (Or.inl ⟨k2, k3, hg.1, hg.2⟩)))) (by omega)⟩
        · obtain ⟨u, v1, v2, v3⟩ := hop 3 (upI fM lev y) (gi fM 26 y) 0
          rw [if_neg k3, bn2_so, if_pos hy5, e w2 s2 26 y (by omega), v1, bn2_so, if_pos hy5, v3]
          exact ⟨u, upC c 0 (c 0 + 1), rfl, v2.wk (fun b b' g hg _ => hcl b b' g (Or.inr (Or.inl ⟨k2, k3, hg.1, hg.2⟩))) (by omega)⟩
      · have k12 : ¬ (gi fM 19 y = 1 ∨ FO fM y 1) := fun g => g.elim k1 k2
        rw [decide_eq_false (show ¬ (gi fM 19 y = 6 ∧ gi fM 24 y = 1) from k2), if_neg (show ¬ (false = true) by decide), if_pos hy5, e w2 s2 19 y (by omega), if_neg k12, if_neg (show ¬ (y + 1 = 0 ∨ gi fM 19 y = 1 ∨ FO fM y 1) from fun g => g.elim q0 k12)]
        -- of another SORT
        have h211 : ∀ v, GCS kd wr m fM lev cur c sp v → FLM v = FLM w → OFF (fun k j => k = 0 ∧ (j = 10 ∨ j = 11)) v w → ¬ (f = 0 ∧ gi fM 19 y = 3 ∧ gi fM 20 y ≠ 0 ∧ inPr fM (gi fM 24 y) 9000 (Int32.ofNat cur) = true) → ∃ u c', fX12_place_211 (RX12_mustBe N) (Int32.ofNat n) (Int32.ofNat y) v = some (if f = 0 ∧ gi fM 19 y = 3 ∧ gi fM 20 y ≠ 0 ∧ inPr fM (gi fM 24 y) 9000 (Int32.ofNat cur) = true then gi fM 20 y else 0, u) ∧ EM kd wr m fM lev cur sp c c' w u (if f = 0 ∧ gi fM 19 y = 3 ∧ gi fM 20 y ≠ 0 ∧ inPr fM (gi fM 24 y) 9000 (Int32.ofNat cur) = true then [] else misS fM (y + 1) tk) (fun b b' g => (if f = 0 ∧ gi fM 19 y = 3 ∧ gi fM 20 y ≠ 0 ∧ inPr fM (gi fM 24 y) 9000 (Int32.ofNat cur) = true then [] else misS fM (y + 1) tk) = [] → CDM fM (luN nm TK SL stk) lev (k + 1) 1 n f 0 b b' g) 1 0 0 0 := fun v hv hvf hvo hno => by
          rw [if_neg hno, if_neg hno]
          unfold misS
          rw [ey]
          unfold fX12_place_211
          rw [if_pos hy5, hyc, e v hv 19 y (by omega)]
          have hwr : ¬ FO fM y 0 → ∃ u c', (bn2 (fX12_wrongName (Int32.ofNat n) v) fun x14 w15 => some (x14, w15)) = some ((0 : Int32), u) ∧ EM kd wr m fM lev cur sp c c' w u (if FO fM y 0 then [] else [(tk, 4)]) (fun b b' g => (if FO fM y 0 then [] else [(tk, 4)]) = ([] : List (Nat × Int32)) → CDM fM (luN nm TK SL stk) lev (k + 1) 1 n f 0 b b' g) 1 0 0 0 := fun k5 => by
            obtain ⟨u, v1, v2, v3, v4⟩ := g_wrong hv hn h12 (by omega)
            rw [v1, if_neg k5]
            exact ⟨u, c, rfl, ((EM.after (L1 := []) hvf hvo (EM.fl v2 (L := [(tk, 4)]) v3 v4)).fls rfl).wk (fun b b' g _ hh => absurd hh (by simp)) (by omega)⟩
          by_cases k5 : gi fM 19 y = 6
          · rw [if_pos k5, if_pos hy5, e v hv 24 y (by omega)]
            by_cases k6 : gi fM 24 y = 0
            · rw [if_pos k6, if_pos (show FO fM y 0 from ⟨k5, k6⟩)]
              exact ⟨v, c, rfl, (EM.fl hv (L := []) hvf hvo).wk (fun b b' g hg _ => hcl b b' g (Or.inr (Or.inr (Or.inr (Or.inr ⟨⟨k5, k6⟩, hg⟩))))) (by omega)⟩
            · rw [if_neg k6]
              exact hwr (fun g => k6 g.2)
          · rw [if_neg k5]
            exact hwr (fun g => k5 g.1)
        by_cases k3 : gi fM 19 y = 3
        · rw [if_pos k3]
          by_cases k4 : f = 0
          · have hf0 : (Int32.ofNat f = 0) := by rw [k4]; rfl
            rw [if_pos hf0, if_pos hy5, e w2 s2 20 y (by omega)]
            by_cases k5 : gi fM 20 y = 0
            · rw [if_pos k5]
              exact h211 w2 s2 s3 s4 (fun g => g.2.2.1 k5)
            · obtain ⟨pn, w1, w5, w3⟩ : ∃ pn, 1 ≤ pn ∧ pn < C 4 ∧ gi fM 24 y = Int32.ofNat pn := by
                rcases t9 with g | g | g | g | g | g
                · exact absurd (g.1.symm.trans k3) (by decide)
                · exact absurd (g.1.symm.trans k3) (by decide)
                · obtain ⟨_, _, _, pn, nf, ff, g1, g2, g3, g4⟩ := g
                  exact ⟨pn, g1, g2, g3⟩
                · exact absurd (g.1.symm.trans k3) (by decide)
                · exact absurd (g.1.symm.trans k3) (by decide)
                · exact absurd (g.1.symm.trans k3) (by decide)
              have hin : fX12_inProcedure (gi fM 24 y) w2 = some (inPr fM (gi fM 24 y) 9000 (Int32.ofNat cur), w2) := by
                unfold fX12_inProcedure
                obtain ⟨fo, hf⟩ := FU_ge (k := 1200) (by omega)
                rw [ltq, s2.2.2.2.2.1, hf]
                exact g_inPr s2 hup (fo + 1200) 9000 cur (by omega) (by omega) (Nat.le_refl _) hcur
              rw [if_neg k5, if_pos hy5, e w2 s2 24 y (by omega), hin, bn2_so]
              by_cases k6 : inPr fM (gi fM 24 y) 9000 (Int32.ofNat cur) = true
              · obtain ⟨u, v1, v2, v3⟩ := hop 3 (Int32.ofNat lev - gi fM 30 pn) 0 0
                have hyes : f = 0 ∧ gi fM 19 y = 3 ∧ gi fM 20 y ≠ 0 ∧ inPr fM (gi fM 24 y) 9000 (Int32.ofNat cur) = true := ⟨k4, k3, k5, k6⟩
                rw [if_pos k6, if_pos hy5, e w2 s2 24 y (by omega), w3, if_pos (inb_iN (by omega) (by omega)), tc_iN (by omega), s2.2.2.2.1, e w2 s2 30 pn (by omega), v1, bn2_so, if_pos hy5, v3]
                rw [w3] at hyes
                rw [if_pos hyes, if_pos hyes]
                refine ⟨u, upC c 0 (c 0 + 1), rfl, v2.wk (fun b b' g hg _ => hcl b b' g (Or.inr (Or.inr (Or.inr (Or.inl ⟨k3, ?_, hg.2⟩))))) (by omega)⟩
                have : nd fM 24 y = pn := by
                  unfold nd
                  rw [w3, tc_iN (by omega)]
                rw [this]
                exact hg.1
              · rw [if_neg k6]
                exact h211 w2 s2 s3 s4 (fun g => k6 g.2.2.2)
          · have hf0 : ¬ (Int32.ofNat f = 0) := of_ne (n := f) (k := 0) (by omega) (by omega) k4
            rw [if_neg hf0]
            exact h211 w2 s2 s3 s4 (fun g => k4 g.1)
        · rw [if_neg k3]
          exact h211 w2 s2 s3 s4 (fun g => k3 g.2.1)
theorem ps_name (hT : TBM kd wr nm vv m C TK SL fA fM) {k N n tk f : Nat} {stk : List Nat} (hU : UPM (C 2) fM stk) (hl : stk.length < 9000) (hn : n < 24000) (h7 : gi fM 7 n = 3) (h12 : gi fM 12 n = Int32.ofNat tk) (h13 : gi fM 13 n = hdM stk) (ht : tk < m) (hk : kd tk = 2) (hf2 : f ≤ 1) (hcur : cur < 1200) (hup : ∀ j, 1 ≤ j → j < 1200 → j ≤ cur → ∃ j', j' < j ∧ gi fM 37 j = Int32.ofNat j') : PS kd wr m fM (luN nm TK SL stk) lev cur (k + 1) (N + 1) n f 1 := by
  intro c sp w h hf
  obtain ⟨u, c', u1, u2⟩ := ps_name0 (k := k) (N := N) hT hU hl hn h7 h12 h13 ht hk hf2 hcur hup c sp w h hf
  exact ⟨u, c', u1, u2.wk (fun b b' g hg => hg) (by omega)⟩
end SG
