/-! PASS 2, THE REFERENCE: a call with ACTUALS -/
section SG
variable {kd wr nm : Nat → Nat} {vv : Nat → Int64} {m lev cur sp ac lo hi : Nat} {fA fM : Wd} {c c1 c2 C TK : Nat → Nat} {SL : Nat → List Nat} {w u v v' : Wd} {L L1 L2 : List (Nat × Int32)} {P P1 P2 : Nat → Nat → Wd → Prop} {a0 a1 a2 a3 b0 b1 b2 b3 : Nat} {lu : Nat → Nat}
/-- the end of a call of what is no procedure with formals -/
theorem lo_fin (hT : TBM kd wr nm vv m C TK SL fA fM) (h : GCS kd wr m fM lev cur c sp w) {N n tk l f fo : Nat} {x2 : Int32} (hn : n < 24000) (h12 : gi fM 12 n = Int32.ofNat tk) (ht : tk ≤ m) (hl : l ≤ C 1) (h3 : l ≠ 0 → gi fM 19 (l - 1) ≠ 3) (hx : x2 = 0 ↔ f ≠ 0) :
    ∃ u, oX12_called_28 (RX12_mustBe N) (fo + 1) (Int32.ofNat n) x2 (if l = 0 then -1 else Int32.ofNat (l - 1)) (-1) w = some (tyC fM l, u) ∧ EM kd wr m fM lev cur sp c c w u (if l = 0 then [] else if FO fM (l - 1) 3 then [(tk, 5)] ++ (if f = 0 ∧ gi fM 20 (l - 1) = 0 then [(tk, 4)] else []) else misS fM l tk) (fun b b' _ => b' = b) 0 0 0 0 := by
  have hC := hT.2.2.2.1
  have e : ∀ v, GCS kd wr m fM lev cur c sp v → ∀ k j, (7 ≤ k ∧ k ≤ 32) → gi v k j = gi fM k j := fun v hv k j hk => (hv.fx (by unfold PGM PGX; omega)).1
  have hnb : inb (Int32.ofNat n) 24000 = true := inb_iN hn (by omega)
  have hnc : (Int32.ofNat n).toNatClampNeg = n := tc_iN (by omega)
  show ∃ u, fX12_called_28 (RX12_mustBe N) (oX12_called_28 (RX12_mustBe N) fo) (Int32.ofNat n) x2 (if l = 0 then -1 else Int32.ofNat (l - 1)) (-1) w = some (tyC fM l, u) ∧ _
  unfold fX12_called_28
  rw [if_pos (show (-1 : Int32) < 0 by decide)]
  by_cases q0 : l = 0
  · rw [if_pos q0, if_neg (by decide), if_pos q0]
    refine ⟨w, ?_, EM.no h⟩
    unfold tyC
    rw [if_pos q0]
  · obtain ⟨y, rfl⟩ : ∃ y, l = y + 1 := ⟨l - 1, by omega⟩
    have h3' := h3 q0
    rw [Nat.add_sub_cancel] at h3'
    have hy5 : inb (Int32.ofNat y) 5000 = true := inb_iN (by omega) (by omega)
    have hyc : (Int32.ofNat y).toNatClampNeg = y := tc_iN (by omega)
    rw [if_neg q0, if_neg q0, Nat.add_sub_cancel, if_pos (zl_iN (by omega)), g_isFormal h (by omega), bn2_so]
    by_cases k2 : FO fM y 3
    · have hty : tyC fM (y + 1) = gi fM 20 y := by
        unfold tyC
        rw [if_neg (by omega), Nat.add_sub_cancel, if_pos (Or.inr k2)]
      obtain ⟨u5, v1, v2, v3, v4⟩ := g_found h ht (num := 5)
      have hE := EM.fl v2 (L := [(tk, 5)]) v3 v4
      rw [decide_eq_true (show gi fM 19 y = 6 ∧ gi fM 24 y = 3 from k2), if_pos rfl, if_pos hnb, hnc, e w h 12 n (by omega), h12, v1, bn_so, if_pos k2, hty]
      by_cases q2 : x2 = 0
      · rw [if_pos q2, if_pos hy5, hyc, e u5 v2 20 y (by omega), if_neg (fun g => (hx.mp q2) g.1), List.append_nil]
        exact ⟨u5, rfl, hE⟩
      · have hf0 : f = 0 := by
          by_cases q : f = 0
          · exact q
          · exact absurd (hx.mpr q) q2
        rw [if_neg q2, if_pos hy5, hyc, e u5 v2 20 y (by omega)]
        by_cases q3 : gi fM 20 y = 0
        · obtain ⟨u, z1, z2, z3, z4⟩ := g_wrong v2 hn h12 ht
          rw [if_pos q3, z1, bn2_so, if_pos hy5, e u z2 20 y (by omega), if_pos ⟨hf0, q3⟩]
          exact ⟨u, rfl, (hE.seq (EM.fl z2 (L := [(tk, 4)]) z3 z4)).wk (fun b b' g hg => by
            obtain ⟨b1, g1, g2⟩ := hg
            exact g2.trans g1) (by omega)⟩
        · rw [if_neg q3, if_pos hy5, if_neg (fun g => q3 g.2), List.append_nil]
          exact ⟨u5, rfl, hE⟩
    · have hty : tyC fM (y + 1) = 0 := by
        unfold tyC
        rw [if_neg (by omega), Nat.add_sub_cancel, if_neg (fun g => g.elim h3' k2)]
      rw [decide_eq_false (show ¬ (gi fM 19 y = 6 ∧ gi fM 24 y = 3) from k2), if_neg (show ¬ (false = true) by decide), if_neg k2, hty, hyc]
      unfold misS
      rw [Nat.add_sub_cancel, if_pos hy5, e w h 19 y (by omega)]
      have hwr : ¬ FO fM y 0 → ∃ u, (bn2 (fX12_wrongName (Int32.ofNat n) w) fun x14 w15 => some (x14, w15)) = some ((0 : Int32), u) ∧ EM kd wr m fM lev cur sp c c w u (if FO fM y 0 then [] else [(tk, 4)]) (fun b b' _ => b' = b) 0 0 0 0 := fun k5 => by
        obtain ⟨u, v1, v2, v3, v4⟩ := g_wrong h hn h12 ht
        rw [v1, if_neg k5]
        exact ⟨u, rfl, EM.fl v2 (L := [(tk, 4)]) v3 v4⟩
      by_cases k5 : gi fM 19 y = 6
      · rw [if_pos k5, if_pos hy5, e w h 24 y (by omega)]
        by_cases k6 : gi fM 24 y = 0
        · rw [if_pos k6, if_pos (show FO fM y 0 from ⟨k5, k6⟩)]
          exact ⟨w, rfl, EM.no h⟩
        · rw [if_neg k6]
          exact hwr (fun g => k6 g.2)
      · rw [if_neg k5]
        exact hwr (fun g => k5 g.1)
/-- formals are formals -/
def PFM (fM : Wd) (C1 : Nat) : Prop := ∀ y, y < C1 → gi fM 19 y = 3 → ∀ i, i < nd fM 31 (nd fM 24 y) → gi fM 19 (nd fM 32 (nd fM 24 y) + i) = 6
/-- what 'called' does with node n; f: 0 if a value is wanted -/
def CLS (kd wr : Nat → Nat) (m : Nat) (fM : Wd) (lu : Nat → Nat) (lev cur k N n f T : Nat) : Prop :=
  ∀ c sp w, GCS kd wr m fM lev cur c sp w → FIT c sp T → ∃ u c', RX12_mustBe N 7 (Int32.ofNat n) (if f = 0 then 1 else 0) 0 w = some (tyC fM (lu (nd fM 12 n)), u) ∧ EM kd wr m fM lev cur sp c c' w u (FLX fM lu cur k 0 n f) (fun b b' g => FLX fM lu cur k 0 n f = [] → CDM fM lu lev k 0 n f 0 b b' g) (2 * T - 1) ((T - 1) / 2) ((T + 1) / 2) ((T - 1) / 2)
theorem cl_all (hT : TBM kd wr nm vv m C TK SL fA fM) (hFM : PFM fM (C 1)) {k N n tk f : Nat} {stk : List Nat} {ps : List (Nat × Nat)} (hU : UPM (C 2) fM stk) (hl : stk.length < 9000) (hn : n < 24000) (h7 : gi fM 7 n = 5) (h12 : gi fM 12 n = Int32.ofNat tk) (h13 : gi fM 13 n = hdM stk) (ht : tk < m) (hk : kd tk = 2) (hx : nxC fM (ps.map Prod.fst) (gi fM 8 n)) (h9 : gi fM 9 n = Int32.ofNat ps.length) (hps : ∀ p ∈ ps, RWA kd wr m fM (luN nm TK SL stk) lev cur (k + 1) N p) (hlen : ps.length ≤ k + 1) (hlen2 : ps.length ≤ 5000) :
    CLS kd wr m fM (luN nm TK SL stk) lev cur (k + 2) (N + 1) n f (smT ps + 2) := by
  intro c sp w h hf
  have hFIT := hf
  unfold FIT at hf
  have hm := h.1.1.1
  have hC := hT.2.2.2.1
  have hnb : inb (Int32.ofNat n) 24000 = true := inb_iN hn (by omega)
  have hnc : (Int32.ofNat n).toNatClampNeg = n := tc_iN (by omega)
  have et : nd fM 12 n = tk := by
    unfold nd
    rw [h12, tc_iN (by omega)]
  have n1 : ¬ gi fM 7 n = 1 := by rw [h7]; decide
  have n2 : ¬ gi fM 7 n = 2 := by rw [h7]; decide
  have n9 : ¬ gi fM 7 n = 9 := by rw [h7]; decide
  have n3 : ¬ gi fM 7 n = 3 := by rw [h7]; decide
  have n4 : ¬ gi fM 7 n = 4 := by rw [h7]; decide
  have hnx : nxL fM (k + 1) (gi fM 8 n) = ps.map Prod.fst := nxL_eq _ _ _ hx (by rw [List.length_map]; exact hlen)
  have e : ∀ v {c' : Nat → Nat}, GCS kd wr m fM lev cur c' sp v → ∀ k j, (7 ≤ k ∧ k ≤ 32) → gi v k j = gi fM k j := fun v c' hv k j hk => (hv.fx (by unfold PGM PGX; omega)).1
  have hle := luN_le hT hU (tk := tk)
  have h2l : 2 * ps.length ≤ smT ps := by
    have : ∀ ps : List (Nat × Nat), (∀ p ∈ ps, RWA kd wr m fM (luN nm TK SL stk) lev cur (k + 1) N p) → 2 * ps.length ≤ smT ps := by
      intro ps
      induction ps with
      | nil => exact fun _ => Nat.le_refl _
      | cons q r ih =>
        intro h
        have h1 := (h q List.mem_cons_self).2.2
        have h2 := ih (fun q hq => h q (List.mem_cons_of_mem _ hq))
        show 2 * (r.length + 1) ≤ q.2 + 1 + smT r
        omega
    exact this ps hps
  obtain ⟨w2, s1, s2, s3, s4⟩ := g_seen hT h hU hl hn h12 h13 ht hk
  have hx2 : ((if f = 0 then 1 else 0 : Int32) = 0 ↔ f ≠ 0) := by
    by_cases q : f = 0
    · rw [if_pos q]
      exact ⟨fun g => absurd g (by decide), fun g => absurd q g⟩
    · rw [if_neg q]
      exact ⟨fun _ => q, fun _ => rfl⟩
  generalize hx2e : (if f = 0 then 1 else 0 : Int32) = x2 at hx2
  have hfl : FLX fM (luN nm TK SL stk) cur (k + 2) 0 n f = notD (luN nm TK SL stk tk) tk ++ (if luN nm TK SL stk tk = 0 ∨ gi fM 19 (luN nm TK SL stk tk - 1) ≠ 3 then (ps.map Prod.fst).flatMap (fun x => FLX fM (luN nm TK SL stk) cur (k + 1) 4 x 0) ++ (if luN nm TK SL stk tk = 0 then [] else if FO fM (luN nm TK SL stk tk - 1) 3 then [(tk, 5)] ++ (if f = 0 ∧ gi fM 20 (luN nm TK SL stk tk - 1) = 0 then [(tk, 4)] else []) else misS fM (luN nm TK SL stk tk) tk)
        else (if f = 0 ∧ gi fM 20 (luN nm TK SL stk tk - 1) = 0 then [(tk, 4)] else []) ++ (if gi fM 31 (nd fM 24 (luN nm TK SL stk tk - 1)) ≠ gi fM 9 n then [(tk, 5)] else []) ++ ((ps.map Prod.fst).zipIdx 0).flatMap (fun xi => if xi.2 < nd fM 31 (nd fM 24 (luN nm TK SL stk tk - 1)) then FLX fM (luN nm TK SL stk) cur (k + 1) 5 xi.1 (nd fM 32 (nd fM 24 (luN nm TK SL stk tk - 1)) + xi.2) else FLX fM (luN nm TK SL stk) cur (k + 1) 4 xi.1 0)) := by
    rw [FLX]
    dsimp only
    rw [if_pos rfl, if_neg (fun g => g.elim n1 n2), if_neg n9, if_neg n3, if_neg n4, if_pos h7, et, hnx]
  have hcd : ∀ b b' g, CDM fM (luN nm TK SL stk) lev (k + 2) 0 n f 0 b b' g ↔ ((FO fM (luN nm TK SL stk tk - 1) 0 ∧ rwM (fun x _ b b' => CDM fM (luN nm TK SL stk) lev (k + 1) 4 x 0 0 b b' g) (ps.map Prod.fst) 0 b b')
        ∨ (gi fM 19 (luN nm TK SL stk tk - 1) = 3 ∧ ∃ s a0 b1, s < 4300 ∧ a0 + nd fM 9 n ≤ 6000 ∧ rwM (fun x i b b' => CDM fM (luN nm TK SL stk) lev (k + 1) 5 x (nd fM 32 (nd fM 24 (luN nm TK SL stk tk - 1)) + i) (a0 + i) b b' g) (ps.map Prod.fst) 0 b b1 ∧ opW g b1 14 (Int32.ofNat s) (if f = 0 then 1 else 0) 0 ∧ b' = b1 + 1 ∧ gi g 49 s = gi fM 24 (luN nm TK SL stk tk - 1) ∧ gi g 50 s = upI fM lev (luN nm TK SL stk tk - 1) ∧ gi g 51 s = Int32.ofNat a0)) := fun b b' g => by
    rw [CDM]
    dsimp only
    rw [if_pos rfl, if_neg n1, if_neg n2, if_neg n9, if_neg n3, if_neg n4, if_pos h7, et, hnx]
  have h0 : ∀ w, RX12_mustBe (N + 1) 7 (Int32.ofNat n) x2 0 w = fX12_called (RX12_mustBe N) (Int32.ofNat n) x2 w := fun w => rfl
  rw [h0, et, hfl]
  unfold fX12_called
  rw [s1, bn2_so]
  have s3' : FLM w2 = FNL wr (notD (luN nm TK SL stk tk) tk) (FLM w) := by
    unfold notD
    exact s3
  generalize luN nm TK SL stk = lu at hle s3 s3' hfl hcd hps ⊢
  -- what's no procedure
  have hlo : (lu tk = 0 ∨ gi fM 19 (lu tk - 1) ≠ 3) → ∃ u c', (if inb (Int32.ofNat n) 24000 = true then lt (gi w2 8 (Int32.ofNat n).toNatClampNeg) fun x5 => oX12_called_28 (RX12_mustBe N) FU (Int32.ofNat n) x2 (if lu tk = 0 then -1 else Int32.ofNat (lu tk - 1)) x5 w2 else none) = some (tyC fM (lu tk), u) ∧ EM kd wr m fM lev cur sp c c' w u (notD (lu tk) tk ++ ((ps.map Prod.fst).flatMap (fun x => FLX fM lu cur (k + 1) 4 x 0) ++ (if lu tk = 0 then [] else if FO fM (lu tk - 1) 3 then [(tk, 5)] ++ (if f = 0 ∧ gi fM 20 (lu tk - 1) = 0 then [(tk, 4)] else []) else misS fM (lu tk) tk))) (fun b b' g => (notD (lu tk) tk ++ ((ps.map Prod.fst).flatMap (fun x => FLX fM lu cur (k + 1) 4 x 0) ++ (if lu tk = 0 then [] else if FO fM (lu tk - 1) 3 then [(tk, 5)] ++ (if f = 0 ∧ gi fM 20 (lu tk - 1) = 0 then [(tk, 4)] else []) else misS fM (lu tk) tk)) = ([] : List (Nat × Int32)) → CDM fM lu lev (k + 2) 0 n f 0 b b' g)) (2 * (smT ps + 2) - 1) ((smT ps + 2 - 1) / 2) ((smT ps + 2 + 1) / 2) ((smT ps + 2 - 1) / 2) := fun hno => by
    obtain ⟨F, hF⟩ := FU_ge (k := ps.length + 1) (by omega)
    obtain ⟨u1, d1, r1, r2⟩ := lo_row (n := n) (x2 := x2) (x3 := if lu tk = 0 then -1 else Int32.ofNat (lu tk - 1)) ps (fun p hp => (hps p hp).2) (gi fM 8 n) c w2 F 0 hx s2 (by unfold FIT; omega)
    obtain ⟨u, f1, f2⟩ := lo_fin hT r2.1 (N := N) (fo := F) (f := f) (x2 := x2) hn h12 (by omega) hle (fun h0 => hno.resolve_left h0) hx2
    have hb := r2.2.2.2.2.2.2.1
    refine ⟨u, d1, ?_, ((EM.after s3' s4 (r2.seq f2))).wk (fun b b' g hg hnil => (hcd b b' g).mpr (Or.inl ?_)) (by omega)⟩
    · rw [if_pos hnb, hnc, e w2 s2 8 n (by omega), ltq, hF, ← Nat.add_assoc, r1, f1]
    · obtain ⟨m1, m2⟩ := List.append_eq_nil_iff.mp hnil
      obtain ⟨m3, m4⟩ := List.append_eq_nil_iff.mp m2
      have hl0 : lu tk ≠ 0 := fun e => by
        unfold notD at m1
        rw [if_pos e] at m1
        exact absurd m1 (by simp)
      rw [if_neg hl0] at m4
      obtain ⟨b1, g1, g2⟩ := hg
      by_cases q3 : FO fM (lu tk - 1) 3
      · rw [if_pos q3] at m4
        exact absurd m4 (by simp)
      · rw [if_neg q3] at m4
        unfold misS at m4
        by_cases q4 : FO fM (lu tk - 1) 0
        · rw [g2]
          exact ⟨q4, g1⟩
        · rw [if_neg q4] at m4
          exact absurd m4 (by simp)
  by_cases q0 : lu tk = 0
  · have hr := hlo (Or.inl q0)
    rw [if_pos q0] at hr ⊢
    rw [if_pos (show (-1 : Int32) < 0 by decide), if_pos (Or.inl q0)]
    exact hr
  · obtain ⟨y, hy⟩ : ∃ y, lu tk = y + 1 := ⟨lu tk - 1, by omega⟩
    have ey : lu tk - 1 = y := by omega
    have hy5 : inb (Int32.ofNat y) 5000 = true := inb_iN (by omega) (by omega)
    have hyc : (Int32.ofNat y).toNatClampNeg = y := tc_iN (by omega)
    by_cases k3 : gi fM 19 y = 3
    · rw [if_neg q0, ey, if_neg (nlt0 (n := y) (by omega)), if_pos hy5, hyc, e w2 s2 19 y (by omega), if_pos k3, if_pos hy5, e w2 s2 24 y (by omega), ltq, if_neg (show ¬ (lu tk = 0 ∨ gi fM 19 y ≠ 3) from fun g => g.elim q0 (fun g => g k3))]
      obtain ⟨t1, t2, t3, t4, t5, t6, t7, ⟨p, lp, z1, z2, z3, z4⟩, t9⟩ := hT.2.2.2.2.2.2 y (by omega)
      obtain ⟨pn, nf, ff, g1, g2, g3, g4, g5, g6⟩ : ∃ pn nf ff, 1 ≤ pn ∧ pn < C 4 ∧ gi fM 24 y = Int32.ofNat pn ∧ gi fM 31 pn = Int32.ofNat nf ∧ gi fM 32 pn = Int32.ofNat ff ∧ ff + nf ≤ C 1 := by
        rcases t9 with g | g | g | g | g | g
        · exact absurd (g.1.symm.trans k3) (by decide)
        · exact absurd (g.1.symm.trans k3) (by decide)
        · obtain ⟨_, _, _, pn, nf, ff, g1, g2, g3, g4, g5, g6, g7, g8, g9, g10⟩ := g
          exact ⟨pn, nf, ff, g1, g2, g3, g5, g6, g10⟩
        · exact absurd (g.1.symm.trans k3) (by decide)
        · exact absurd (g.1.symm.trans k3) (by decide)
        · exact absurd (g.1.symm.trans k3) (by decide)
      have hpnd : nd fM 24 y = pn := by
        unfold nd
        rw [g3, tc_iN (by omega)]
      have hnfd : nd fM 31 pn = nf := by
        unfold nd
        rw [g4, tc_iN (by omega)]
      have hffd : nd fM 32 pn = ff := by
        unfold nd
        rw [g5, tc_iN (by omega)]
      have hFr : ∀ i, i < nf → ∃ x, x ≤ 5 ∧ gi fM 24 (ff + i) = Int32.ofNat x := fun i hi => by
        have h6 := hFM y (by omega) k3 i (by rw [hpnd, hnfd]; exact hi)
        rw [hpnd, hffd] at h6
        have hs := (hT.2.2.2.2.2.2 (ff + i) (by omega)).2.2.2.2.2.2.2.2
        rcases hs with g | g | g | g | g | g
        · exact absurd (g.1.symm.trans h6) (by decide)
        · exact absurd (g.1.symm.trans h6) (by decide)
        · exact absurd (g.1.symm.trans h6) (by decide)
        · exact absurd (g.1.symm.trans h6) (by decide)
        · exact absurd (g.1.symm.trans h6) (by decide)
        · exact g.2.2.2.1
      have hty : tyC fM (lu tk) = gi fM 20 y := by
        unfold tyC
        rw [if_neg q0, ey, if_pos (Or.inl k3)]
      rw [g3, hpnd, hnfd, hffd, hty]
      have hpb : inb (Int32.ofNat pn) 1200 = true := inb_iN (by omega) (by omega)
      have hpc : (Int32.ofNat pn).toNatClampNeg = pn := tc_iN (by omega)
      -- ACTUALS, site, code
      have h189 : ∀ (v : Wd) (L : List (Nat × Int32)), EM kd wr m fM lev cur sp c c w v L (fun b b' _ => b' = b) 0 0 0 0 → ∃ u c', fX12_called_189 (RX12_mustBe N) (Int32.ofNat n) x2 (Int32.ofNat y) (Int32.ofNat pn) v = some (gi fM 20 y, u) ∧ EM kd wr m fM lev cur sp c c' w u (L ++ ((ps.map Prod.fst).zipIdx 0).flatMap (fun xi => if xi.2 < nf then FLX fM lu cur (k + 1) 5 xi.1 (ff + xi.2) else FLX fM lu cur (k + 1) 4 xi.1 0)) (fun b b' g => ps.length ≤ nf → ((ps.map Prod.fst).zipIdx 0).flatMap (fun xi => if xi.2 < nf then FLX fM lu cur (k + 1) 5 xi.1 (ff + xi.2) else FLX fM lu cur (k + 1) 4 xi.1 0) = [] → CDM fM lu lev (k + 2) 0 n f 0 b b' g) (2 * smT ps + 1) ((smT ps + 1) / 2) (smT ps / 2 + 1) ((smT ps + 1) / 2) := fun v L hv => by
        have hg := hv.1
        have e3 : upC c 3 (c 3 + ps.length) 3 = c 3 + ps.length := upC_s
        have en : ∀ i, i ≠ 3 → upC c 3 (c 3 + ps.length) i = c i := fun i hi => upC_n hi
        have e77 : gi v 0 77 = Int32.ofNat (c 3) := hg.2.2.1.2.2.2
        obtain ⟨F, hF⟩ := FU_ge (k := ps.length + 1) (by omega)
        have hact := hg.acts (c 3 + ps.length)
        obtain ⟨u1, d1, r1, r2⟩ := ac_row (k := k + 1) (N := N) (pn := pn) (nf := nf) (ff := ff) (x2 := x2) (x3 := Int32.ofNat y) (by omega) g4 (by omega) (by omega) hFr ps hps (gi fM 8 n) (upC c 3 (c 3 + ps.length)) (si v 0 77 (Int32.ofNat (c 3 + ps.length))) F 0 (c 3) hx hact (by rw [e3]; omega) (by omega) (by omega) (by rw [e3, en 0 (by omega), en 1 (by omega), en 2 (by omega)]; omega)
        have r3 := EMR.em r2
        have hb := r3.2.2.2.2.2.2.1
        have hS := EM.site r3.1 (p := Int32.ofNat pn) (x := upI fM lev y) (y := Int32.ofNat (c 3))
        generalize hd2 : upC d1 2 (d1 2 + 1) = d2 at hS
        have d20 : d2 0 = d1 0 := by rw [← hd2, upC_n (by omega)]
        generalize hw4 : si (si (si (si u1 49 (d1 2) (Int32.ofNat pn)) 50 (d1 2) (upI fM lev y)) 51 (d1 2) (Int32.ofNat (c 3))) 0 73 (Int32.ofNat (d1 2 + 1)) = w4 at hS
        obtain ⟨u, o1, o2⟩ := EM.op hS.1 (by omega) (a := 14) (x := Int32.ofNat (d1 2)) (y := x2) (z := 0)
        have hall := ((hv.seq r3).seq hS).seq o2
        rw [List.append_nil, List.append_nil] at hall
        refine ⟨u, _, ?_, hall.wk (fun b b' g hgx hln hnil => (hcd b b' g).mpr (Or.inr ?_)) (by omega)⟩
        · unfold fX12_called_189
          have e9 : gi v 9 n = Int32.ofNat ps.length := (e v hg 9 n (by omega)).trans h9
          have e73 : gi u1 0 73 = Int32.ofNat (d1 2) := r2.1.2.2.1.2.2.1
          have o49 : OFF (fun k j => k = 49 ∧ j = d1 2) (si u1 49 (d1 2) (Int32.ofNat pn)) u1 := OFF.si ⟨rfl, rfl⟩
          have hg49 := r2.1.off o49 (fun k j hk => by unfold PGM PGX; omega)
          have hsb : inb (Int32.ofNat (d1 2)) 4300 = true := inb_iN (by omega) (by omega)
          have hsc : (Int32.ofNat (d1 2)).toNatClampNeg = d1 2 := tc_iN (by omega)
          rw [if_pos hpb, hpc, e v hg 32 pn (by omega), g5, ltq, e77, ltq, if_pos hnb, hnc, e9, add_iN, ltq, if_pos hnb, e _ hact 8 n (by omega), ltq, hF, ← Nat.add_assoc]
          have hz : (0 : Int32) = Int32.ofNat 0 := rfl
          rw [hz, r1]
          show fX12_called_230 (RX12_mustBe N) (oX12_called_230 (RX12_mustBe N) F) x2 (Int32.ofNat y) (Int32.ofNat pn) (Int32.ofNat ff) (Int32.ofNat (c 3)) (Int32.ofNat (0 + ps.length)) (-1) u1 = _
          unfold fX12_called_230
          rw [if_pos (show (-1 : Int32) < 0 by decide), e73, if_pos hsb, hsc, ltq, g_up hg49 (by omega) z1 (by omega), bn2_so, show gi (si u1 49 (d1 2) (Int32.ofNat pn)) 0 73 = Int32.ofNat (d1 2) by rw [gi_si1 (by omega)]; exact e73, if_pos hsb, hsc, ltq, show gi (si (si u1 49 (d1 2) (Int32.ofNat pn)) 50 (d1 2) (upI fM lev y)) 0 73 = Int32.ofNat (d1 2) by rw [gi_si1 (by omega), gi_si1 (by omega)]; exact e73, if_pos hsb, hsc, ltq, show gi (si (si (si u1 49 (d1 2) (Int32.ofNat pn)) 50 (d1 2) (upI fM lev y)) 51 (d1 2) (Int32.ofNat (c 3))) 0 73 = Int32.ofNat (d1 2) by rw [gi_si1 (by omega), gi_si1 (by omega), gi_si1 (by omega)]; exact e73, ad1_iN, ltq, gi_si0, sb1_iN (by omega) (by omega), Nat.add_sub_cancel, hw4]
          have e20 : gi u 20 y = gi fM 20 y := (o2.1.fx (k := 20) (by unfold PGM PGX; omega)).1
          by_cases qx : x2 = 0
          · rw [if_pos qx]
            rw [qx] at o1
            have o1' : fX12_op 14 (Int32.ofNat (d1 2)) 0 0 w4 = some (Int32.ofNat (d2 0), u) := o1
            rw [o1', bn2_so, if_pos hy5, hyc, e20]
          · have hx1 : x2 = 1 := by
              by_cases qf : f = 0
              · rw [if_pos qf] at hx2e
                exact hx2e.symm
              · exact absurd (hx2.mpr qf) qx
            rw [if_neg qx]
            rw [hx1] at o1
            have o1' : fX12_op 14 (Int32.ofNat (d1 2)) 1 0 w4 = some (Int32.ofNat (d2 0), u) := o1
            rw [o1', bn2_so, if_pos hy5, hyc, e20]
        · obtain ⟨b3, ⟨b2, ⟨b1, y1, y2⟩, y3, y4, y5, y6⟩, y7, y8⟩ := hgx
          rw [ey, hpnd, hffd]
          have e9d : nd fM 9 n = ps.length := by
            unfold nd
            rw [h9, tc_iN (by omega)]
          rw [hx2e]
          refine ⟨k3, d1 2, c 3, b2, by omega, by rw [e9d]; omega, ?_, ?_, ?_, by rw [y4, g3], y5, y6⟩
          · rw [y1] at y2
            exact y2 (by omega) hnil
          · rw [← y3]
            exact y7
          · rw [← y3]
            exact y8
      -- the number of ACTUALS
      have h162 : ∀ (v : Wd) (L : List (Nat × Int32)), EM kd wr m fM lev cur sp c c w v L (fun b b' _ => b' = b) 0 0 0 0 → ∃ u c', fX12_called_162 (RX12_mustBe N) (Int32.ofNat n) x2 (Int32.ofNat y) (Int32.ofNat pn) v = some (gi fM 20 y, u) ∧ EM kd wr m fM lev cur sp c c' w u (L ++ (if gi fM 31 pn ≠ gi fM 9 n then [(tk, 5)] else []) ++ ((ps.map Prod.fst).zipIdx 0).flatMap (fun xi => if xi.2 < nf then FLX fM lu cur (k + 1) 5 xi.1 (ff + xi.2) else FLX fM lu cur (k + 1) 4 xi.1 0)) (fun b b' g => (L ++ (if gi fM 31 pn ≠ gi fM 9 n then [(tk, 5)] else []) ++ ((ps.map Prod.fst).zipIdx 0).flatMap (fun xi => if xi.2 < nf then FLX fM lu cur (k + 1) 5 xi.1 (ff + xi.2) else FLX fM lu cur (k + 1) 4 xi.1 0)) = ([] : List (Nat × Int32)) → CDM fM lu lev (k + 2) 0 n f 0 b b' g) (2 * (smT ps + 2) - 1) ((smT ps + 2 - 1) / 2) ((smT ps + 2 + 1) / 2) ((smT ps + 2 - 1) / 2) := fun v L hv => by
        unfold fX12_called_162
        rw [if_pos hpb, hpc, if_pos hnb, hnc, e v hv.1 31 pn (by omega), e v hv.1 9 n (by omega)]
        by_cases r1 : gi fM 31 pn = gi fM 9 n
        · obtain ⟨u, c', v1, v2⟩ := h189 v L hv
          rw [if_pos r1, if_neg (fun g => g r1), List.append_nil]
          have hln : ps.length ≤ nf := by
            rw [g4, h9] at r1
            have := (eq_iN (a := nf) (b := ps.length) (by omega) (by omega)).mp r1
            omega
          exact ⟨u, c', v1, v2.wk (fun b b' g hg hnil => hg hln (List.append_eq_nil_iff.mp hnil).2) (by omega)⟩
        · obtain ⟨u5, v1, v2, v3, v4⟩ := g_found hv.1 (a := tk) (by omega) (num := 5)
          rw [if_neg r1, if_pos hnb, e v hv.1 12 n (by omega), h12, v1, bn_so, if_pos (show gi fM 31 pn ≠ gi fM 9 n from r1)]
          obtain ⟨u, c', x1, x2⟩ := h189 u5 (L ++ [(tk, 5)]) ((hv.seq (EM.fl v2 (L := [(tk, 5)]) v3 v4)).wk (fun b b' g hg => by
            obtain ⟨b1, g1, g2⟩ := hg
            exact g2.trans g1) (by omega))
          exact ⟨u, c', x1, x2.wk (fun b b' g hg hnil => absurd (List.append_eq_nil_iff.mp hnil).1 (by simp)) (by omega)⟩
      have hE0 : EM kd wr m fM lev cur sp c c w w2 (notD (lu tk) tk) (fun b b' _ => b' = b) 0 0 0 0 := EM.fl s2 (L := notD (lu tk) tk) s3' s4
      by_cases qx : x2 = 0
      · obtain ⟨u, c', v1, v2⟩ := h162 w2 _ hE0
        rw [if_pos qx, v1, if_neg (fun g => (hx2.mp qx) g.1), List.nil_append]
        exact ⟨u, c', rfl, (v2.fls (List.append_assoc _ _ _)).wk (fun b b' g hg hnil => hg (by rw [List.append_assoc]; exact hnil)) (by omega)⟩
      · have hf0 : f = 0 := by
          by_cases q : f = 0
          · exact q
          · exact absurd (hx2.mpr q) qx
        rw [if_neg qx, if_pos hy5, e w2 s2 20 y (by omega)]
        by_cases q2 : gi fM 20 y = 0
        · obtain ⟨u4, x1, x2', x3, x4⟩ := g_wrong s2 hn h12 (by omega)
          have hE1 : EM kd wr m fM lev cur sp c c w u4 (notD (lu tk) tk ++ [(tk, 4)]) (fun b b' _ => b' = b) 0 0 0 0 := (hE0.seq (EM.fl x2' (L := [(tk, 4)]) x3 x4)).wk (fun b b' g hg => by
            obtain ⟨b1, g1, g2⟩ := hg
            exact g2.trans g1) (by omega)
          obtain ⟨u, c', v1, v2⟩ := h162 u4 _ hE1
          rw [if_pos q2, x1, bn2_so, v1, if_pos ⟨hf0, q2⟩]
          exact ⟨u, c', rfl, (v2.fls (by simp only [List.append_assoc])).wk (fun b b' g hg hnil => absurd hnil (by simp)) (by omega)⟩
        · obtain ⟨u, c', v1, v2⟩ := h162 w2 _ hE0
          rw [if_neg q2, v1, if_neg (fun g => q2 g.2), List.nil_append]
          exact ⟨u, c', rfl, (v2.fls (List.append_assoc _ _ _)).wk (fun b b' g hg hnil => hg (by rw [List.append_assoc]; exact hnil)) (by omega)⟩
    · have hno : lu tk = 0 ∨ gi fM 19 (lu tk - 1) ≠ 3 := Or.inr (by rw [ey]; exact k3)
      have hr := hlo hno
      rw [if_pos hno]
      rw [if_neg q0] at hr ⊢
      rw [ey] at hr ⊢
      rw [if_neg (nlt0 (n := y) (by omega)), if_pos hy5, hyc, e w2 s2 19 y (by omega), if_neg k3]
      exact hr
/-- a call that stands as an EXPR -/
theorem vs_call {k N n T : Nat} (hn : n < 24000) (h7 : gi fM 7 n = 5) (hC : CLS kd wr m fM lu lev cur (k + 1) N n 0 T) : VS kd wr m fM lu lev cur (k + 1) (N + 1) n T := by
  intro c sp w h hf
  obtain ⟨u, c', u1, u2⟩ := hC c sp w h hf
  obtain ⟨e1, e2, e3, e4⟩ := v_eq (N := N) (s := 5) h hn h7 (by omega)
  refine ⟨u, c', ?_, u2⟩
  have hty : TYX fM lu (k + 1) n = tyC fM (lu (nd fM 12 n)) := by
    rw [TYX, if_neg (show ¬ gi fM 7 n = 1 by rw [h7]; decide), if_neg (show ¬ gi fM 7 n = 2 by rw [h7]; decide), if_neg (show ¬ gi fM 7 n = 9 by rw [h7]; decide), if_neg (show ¬ gi fM 7 n = 3 by rw [h7]; decide), if_neg (show ¬ gi fM 7 n = 4 by rw [h7]; decide), if_pos h7]
  rw [if_pos rfl] at u1
  rw [e1, hty]
  unfold fX12_value
  rw [if_pos e3, e4, e2, ltq, if_neg (show ¬ (Int32.ofNat 5 = 1) by decide), if_neg (show ¬ (Int32.ofNat 5 = 2) by decide), if_neg (show ¬ (Int32.ofNat 5 = 3) by decide), if_neg (show ¬ (Int32.ofNat 5 = 4) by decide), if_pos (show Int32.ofNat 5 = 5 from rfl), u1]
  rfl
end SG
