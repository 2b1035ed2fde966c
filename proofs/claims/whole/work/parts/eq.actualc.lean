/-! PASS 2, THE CLASS: ACTUALS that are worked out at once, and others -/
/-- faults that lie between t0 and e0 -/
def MSR (kd lu : Nat → Nat) (t0 e0 : Nat) (L : List (Nat × Int32)) : Prop := ∀ x ∈ L, x.2 ≠ 0 ∧ t0 ≤ x.1 ∧ x.1 < e0 ∧ (4 ≤ x.2 ∨ x.2 = 2 ∧ kd x.1 = 2 ∧ lu x.1 = 0)
/-- faults between s and e; what's not known at s is among them -/
def MSF (kd lu : Nat → Nat) (s e : Nat) (L : List (Nat × Int32)) : Prop := MSR kd lu s e L ∧ (kd s = 2 → lu s = 0 → (s, (2 : Int32)) ∈ L)
section EC
variable {kd wr : Nat → Nat} {z : Nat} {fA fM : Wd} {lu : Nat → Nat} {lev cur : Nat} {pn : Nat → Int32} {base ob t t1 t2 t3 a a1 a2 a3 n s e d f : Nat} {w w1 w2 w3 w4 u v : Wd} {L L1 L2 L3 : List (Nat × Int32)} {P P1 P2 P3 : Nat → Nat → Wd → Prop} {B B1 B2 B3 : Nat}
theorem MSF.dm {m : Nat} (hW : ∀ i, i < m → wr i + 1 ≤ wr (i + 1)) (he : e ≤ m) (h : MSF kd lu s e L) : DM wr ((s, 4) :: (if kd s = 2 then notD (lu s) s else [])) ((s, 4) :: L) := by
  have h4 : (4 : Int32) ≠ 0 := by decide
  have h2 : (2 : Int32) ≠ 0 := by decide
  refine ⟨fun x hx => ?_, fun x hx => ?_⟩
  · rcases List.mem_cons.mp hx with rfl | hx
    · exact ⟨h4, _, List.mem_cons_self, dmF.rf⟩
    · obtain ⟨g1, g2, g3, g4⟩ := h.1 x hx
      refine ⟨g1, ?_⟩
      by_cases q : x.1 = s
      · rw [q] at g4
        rcases g4 with g | ⟨g, k1, k2⟩
        · exact ⟨(s, 4), List.mem_cons_self, Or.inr ⟨by rw [q], g⟩⟩
        · refine ⟨(s, 2), List.mem_cons_of_mem _ ?_, Or.inr ⟨by rw [q], by rw [g]; exact Int32.le_refl _⟩⟩
          unfold notD
          rw [if_pos k1, if_pos k2]
          exact List.mem_singleton.mpr rfl
      · have := wr_mo hW (s := s) x.1 (by omega) (by omega)
        exact ⟨(s, 4), List.mem_cons_self, Or.inl (by show wr s < wr x.1; omega)⟩
  · rcases List.mem_cons.mp hx with rfl | hx
    · exact ⟨h4, _, List.mem_cons_self, dmF.rf⟩
    · by_cases q : kd s = 2
      · rw [if_pos q] at hx
        unfold notD at hx
        by_cases q2 : lu s = 0
        · rw [if_pos q2] at hx
          rw [List.mem_singleton.mp hx]
          exact ⟨h2, _, List.mem_cons_of_mem _ (h.2 q q2), dmF.rf⟩
        · rw [if_neg q2] at hx
          exact absurd hx (by simp)
      · rw [if_neg q] at hx
        exact absurd hx (by simp)
/-- goes over an EXPR of another SORT -/
theorem c_misfit {m : Nat} (hwr : ∀ i, wr i ≤ 8192) (hW : ∀ i, i < m → wr i + 1 ≤ wr (i + 1)) (he : e ≤ m) (hsz : e < z) (hse : s < e) (h10 : gi fA 10 s = Int32.ofNat e) (hM : MSF kd lu s e L) (h : GC2 kd wr z fA lu lev pn s a base ob w) :
    EC kd wr z fA lu lev pn base ob e a a w (fX2_misfit (Int32.ofNat s) w) ([(s, 4)] ++ L) (fun b b' _ => b' = b) 0 := by
  have hz := h.1.2.1
  obtain ⟨n1, n2⟩ := EC.note h (s := s) (n := 4) (by omega) (by decide)
  have h30 : ∀ {v : Wd} {L0 : List (Nat × Int32)}, EC kd wr z fA lu lev pn base ob s a a w v L0 (fun b b' _ => b' = b) 0 → EC kd wr z fA lu lev pn base ob e a a w (fX2_misfit_30 (Int32.ofNat s) v) L0 (fun b b' _ => b' = b) 0 := by
    intro v L0 hv
    unfold fX2_misfit_30 fX9_endOf fX9_goTo
    rw [ltq, ltq, rgi_iN (by omega) (by omega), (hv.1.2.2.2.2.2.2.2.2.2.2.2 s).2.1, h10, ltq, ltq]
    exact ((hv.seq (EC.go hv.1 hsz (by omega))).wk (fun b b' g ⟨b1, g1, g2⟩ => by rw [g1] at g2; exact g2) (by omega)).cL (List.append_nil _).symm
  refine EC.dm hwr ?_ (MSF.dm hW he hM)
  unfold fX2_misfit
  rw [n1, ltq, ltq, show fX9_kindOf (Int32.ofNat s) (fX1_note (Int32.ofNat s) 4 w) = Int32.ofNat (kd s) from ?_]
  · by_cases q : kd s = 2
    · rw [if_pos (show Int32.ofNat (kd s) = 2 by rw [q]; rfl), if_pos q]
      obtain ⟨_, x, c2, c3⟩ := c_find n2.1 q
      rw [c2, lt2q]
      exact h30 ((n2.seq c3).wk (fun b b' g ⟨b1, g1, g2⟩ => by rw [g1] at g2; exact g2) (by omega))
    · rw [if_neg (show ¬ (Int32.ofNat (kd s) = 2) from of_ne (k := 2) (by have := h.1.2.2.1 s; omega) (by omega) q), if_neg q]
      exact h30 n2
  · unfold fX9_kindOf
    rw [n2.1.1.2.2.2.2.1, if_neg (nle_iN (by omega) (by omega)), ltq, rgi_iN (by omega) (by omega)]
    exact (n2.1.1.2.2.2.2.2.1 s (by omega)).1
/-- an EXPR or an AIM, looked at only -/
def looC (rc : TX2_typed) (x a1 : Int32) (w : Wd) : Option (Int32 × Wd) := lt (fX9_isAim x w) fun x4 => if x4 = true then (bn2 (rc 11 a1 0 0 w) fun _ w7 => some (0, w7)) else (bn2 (rc 2 a1 0 0 w) fun _ w9 => some (0, w9))
theorem c_loose {rc : TX2_typed} {K cn : Nat} (h45 : gi fM 45 n = Int32.ofNat cn) (hcn : cn = 1 ∨ cn = 3) (h9 : gi fA 9 s ≠ 0 ↔ cn = 3)
    (hX : SPE kd wr z fA lu lev pn d s e (TYX fM lu K n) (FLX fM lu cur K 0 n 0) (fun b b' g => FLX fM lu cur K 0 n 0 = [] → CDC fM fA lu lev K 0 n 0 b b' g) (4 * (wr e - wr s) - 1) (fun w => rc 2 (Int32.ofNat d) 0 0 w))
    (hN : cn = 3 → SPE kd wr z fA lu lev pn d s e 0 (FLX fM lu cur K 3 n 0) (fun _ _ _ => True) (4 * (wr e - wr s) - 1) (fun w => rc 11 (Int32.ofNat d) 0 0 w)) :
    SPE kd wr z fA lu lev pn d s e 0 (FLX fM lu cur (K + 1) 4 n 0) (fun _ _ _ => True) (4 * (wr e - wr s) - 1) (fun w => looC rc (Int32.ofNat s) (Int32.ofNat d) w) := by
  intro w a base ob hw hb ho ha
  have hz := hw.1.2.1
  have hsz := hw.a_lt.1
  have ha9 : (fX9_isAim (Int32.ofNat s) w = true ↔ cn = 3) := by
    rw [is9 (by omega), (hw.2.2.2.2.2.2.2.2.2.2.2 s).2.2]
    exact h9
  rw [flx_4]
  show ∃ u a', looC rc (Int32.ofNat s) (Int32.ofNat d) w = some (0, u) ∧ _
  unfold looC
  rw [ltq]
  rcases hcn with q | q
  · have hb' : fX9_isAim (Int32.ofNat s) w = false := by
      cases hq : fX9_isAim (Int32.ofNat s) w
      · rfl
      · have := ha9.mp hq; omega
    obtain ⟨u, a', u1, u2⟩ := hX w a base ob hw hb ho ha
    have u1' : rc 2 (Int32.ofNat d) 0 0 w = some (TYX fM lu K n, u) := u1
    rw [hb', if_neg (by decide), u1', bn2_so, if_pos (show gi fM 45 n = 1 by rw [h45, q]; rfl)]
    exact ⟨u, a', rfl, u2.wk (fun _ _ _ _ => trivial) (Nat.le_refl _)⟩
  · obtain ⟨u, a', u1, u2⟩ := hN q w a base ob hw hb ho ha
    have u1' : rc 11 (Int32.ofNat d) 0 0 w = some (0, u) := u1
    rw [ha9.mpr q, if_pos rfl, u1', bn2_so, if_neg (show ¬ gi fM 45 n = 1 by rw [h45, q]; decide)]
    exact ⟨u, a', rfl, u2.wk (fun _ _ _ _ => trivial) (Nat.le_refl _)⟩
/-- an ACTUAL for an ARRAY, procedure or switch -/
theorem c_alone {m K : Nat} {C TK : Nat → Nat} (hS : SYT kd m C TK lu fA fM) (hwr : ∀ i, wr i ≤ 8192) (hW : ∀ i, i < m → wr i + 1 ≤ wr (i + 1)) (he : e ≤ m) (hN : NDF kd wr z fA fM n s e) (hf : f < C 1) (h6 : gi fM 19 f = 6) (h1 : gi fM 24 f ≠ 1) (h4 : gi fM 24 f ≠ 4) (h0 : gi fM 24 f ≠ 0) (hM : MSF kd lu s e (FLX fM lu cur K 4 n 0)) (h : GC2 kd wr z fA lu lev pn s a base ob w) (ha : a < 36872) :
    ∃ a', EC kd wr z fA lu lev pn base ob e a a' w (fX2_alone (Int32.ofNat (f + 1)) w) (FLX fM lu cur (K + 1) 5 n f) (fun b b' g => FLX fM lu cur (K + 1) 5 n f = [] → CDC fM fA lu lev (K + 1) 5 n f b b' g) 1 := by
  have hz := h.1.2.1
  have hf9 : f + 1 ≤ 4100 := by have := hS.2.2.1; omega
  have htk := hN.tk hz
  have hty : gi fA 15 (f + 1) = gi fM 20 f := (hS.2.2.2 f hf).ty
  have hso : gi fA 14 (f + 1) = gi fM 24 f := by rw [(hS.2.2.2 f hf).srt, if_pos h6]
  obtain ⟨n1, n2, n3, n4, n5, n6, n7, n8, n9⟩ := hN
  rw [flx5_d h1 h4 h0, htk]
  unfold fX2_alone
  rw [a_at h.1, ltq, ltq, c_fm h (by omega)]
  by_cases q3 : gi fM 7 n = 3
  · have hk := n7 (Or.inl q3)
    obtain ⟨c1, x, c2, c3⟩ := c_find h hk
    obtain ⟨y7, y8⟩ := EC.take c3.1 (k := 2) (by omega) (by rw [hk]; rfl)
    have hx : EC kd wr z fA lu lev pn base ob e a a w (si x 4 9 (Int32.ofNat (s + 1))) (notD (lu s) s) (fun b b' _ => b' = b) 0 := by
      rw [n8 q3]
      exact ((c3.seq y8).wk (fun b b' g ⟨b1, g1, g2⟩ => by rw [g1] at g2; exact g2) (by omega)).cL (List.append_nil _).symm
    rw [if_pos (n5.mp q3), c2, lt2q, y7, lt2q, ltq, c_sort y8.1 c1, if_neg (show ¬ (gi fM 7 n ≠ 3) from fun g => g q3)]
    generalize si x 4 9 (Int32.ofNat (s + 1)) = y at hx y8 ⊢
    have hcd : ∀ {b b' : Nat} {g : Wd}, CDC fM fA lu lev (K + 1) 5 n f b b' g = (gi fA 14 (lu s) = 0 ∧ b' = b ∨ gi fA 14 (lu s) ≠ 0 ∧ puC fA lev (lu s) b b' g) := fun {b b' g} => by rw [cdc5_d h1 h4 h0, htk]
    have hput : ∀ {v : Wd} {L0 : List (Nat × Int32)}, gi fA 14 (lu s) ≠ 0 → EC kd wr z fA lu lev pn base ob e a a w v L0 (fun b b' _ => b' = b) 0 → EC kd wr z fA lu lev pn base ob e a (a + 1) w (fX1_putSymbol (Int32.ofNat (lu s)) v) L0 (fun b b' g => L0 = [] → CDC fM fA lu lev (K + 1) 5 n f b b' g) 1 := by
      intro v L0 hne hv
      have p1 := c_putSymbol hv.1 c1 ha
      exact ((hv.seq p1).wk (fun b b' g ⟨b1, g1, g2⟩ _ => by rw [hcd]; rw [g1] at g2; exact Or.inr ⟨hne, g2⟩) (by omega)).cL (List.append_nil _).symm
    by_cases q0 : gi fA 14 (lu s) = 0
    · rw [if_pos q0]
      have hL : (if lu s = 0 then [] else if (gi fM 19 (lu s - 1) = gi fM 24 f ∨ FO fM (lu s - 1) (gi fM 24 f)) ∧ (gi fM 24 f = 5 ∨ gi fM 20 (lu s - 1) = gi fM 20 f) then (if gi fM 24 f = 3 ∧ gi fM 19 (lu s - 1) = 3 ∧ ¬ gi fM 31 (nd fM 24 (lu s - 1)) ≤ 0 then [(s, 5)] else []) else misS fM (lu s) s) = [] := by
        by_cases q : lu s = 0
        · rw [if_pos q]
        · have hF := (hS.is0.mp q0).elim (fun g => absurd g q) id
          rw [if_neg q, if_neg]
          · unfold misS
            rw [if_pos hF]
          · rintro ⟨g | g, _⟩
            · rw [hF.1] at g
              rcases (hS.2.2.2 f hf).2.2.2.2.2.2.2.2 with k | k | k | k | k | k
              · exact absurd (k.1.symm.trans h6) (by decide)
              · exact absurd (k.1.symm.trans h6) (by decide)
              · exact absurd (k.1.symm.trans h6) (by decide)
              · exact absurd (k.1.symm.trans h6) (by decide)
              · exact absurd (k.1.symm.trans h6) (by decide)
              · obtain ⟨x9, x1, x2⟩ := k.2.2.2.1
                have h6' : (6 : Int32) = Int32.ofNat 6 := rfl
                rw [x2, h6'] at g
                have := (eq_iN (a := 6) (b := x9) (by omega) (by omega)).mp g
                omega
            · exact h0 (g.2.symm.trans hF.2)
      rw [hL, List.append_nil]
      exact ⟨a, hx.wk (fun b b' g hg _ => by rw [hcd]; exact Or.inl ⟨q0, hg⟩) (by omega)⟩
    · have l0 : lu s ≠ 0 := fun g => q0 (hS.is0.mpr (Or.inl g))
      have hsy := hS.sy l0
      have hlt : gi fA 15 (lu s) = gi fM 20 (lu s - 1) := hS.ty l0
      have hls : gi fA 14 (lu s) = gi fM 24 f ↔ (gi fM 19 (lu s - 1) = gi fM 24 f ∨ FO fM (lu s - 1) (gi fM 24 f)) := by
        have := hsy.is (x := gi fM 24 f) (fun g => by
          rcases (hS.2.2.2 f hf).2.2.2.2.2.2.2.2 with k | k | k | k | k | k
          · exact absurd (k.1.symm.trans h6) (by decide)
          · exact absurd (k.1.symm.trans h6) (by decide)
          · exact absurd (k.1.symm.trans h6) (by decide)
          · exact absurd (k.1.symm.trans h6) (by decide)
          · exact absurd (k.1.symm.trans h6) (by decide)
          · obtain ⟨x9, x1, x2⟩ := k.2.2.2.1
            have h6' : (6 : Int32) = Int32.ofNat 6 := rfl
            rw [x2, h6'] at g
            have := (eq_iN (a := x9) (b := 6) (by omega) (by omega)).mp g
            omega)
        rw [show lu s - 1 + 1 = lu s by omega] at this
        exact this
      have hnd : notD (lu s) s = [] := by unfold notD; rw [if_neg l0]
      rw [if_neg q0, ltq, ltq, c_sort y8.1 hf9, hso, if_neg l0, hnd, List.nil_append]
      rw [hnd] at hx
      have hmis : misS fM (lu s) s = [(s, 4)] := by
        unfold misS
        rw [if_neg (fun g => q0 (hS.is0.mpr (Or.inr g)))]
      have hbad : fX2_alone_106 (Int32.ofNat s) (Int32.ofNat (lu s)) y = fX1_putSymbol (Int32.ofNat (lu s)) (fX1_note (Int32.ofNat s) 4 y) ∧ EC kd wr z fA lu lev pn base ob e a a w (fX1_note (Int32.ofNat s) 4 y) [(s, 4)] (fun b b' _ => b' = b) 0 := by
        obtain ⟨m1, m2⟩ := EC.note hx.1 (s := s) (n := 4) (by omega) (by decide)
        refine ⟨?_, (hx.seq m2).wk (fun b b' g ⟨b1, g1, g2⟩ => by rw [g1] at g2; exact g2) (by omega)⟩
        unfold fX2_alone_106
        rw [ltq, ltq, m1]
      by_cases qs : gi fA 14 (lu s) = gi fM 24 f
      · rw [if_pos qs]
        unfold fX2_alone_80
        rw [if_pos rfl, ltq, c_type y8.1 c1, ltq, c_type y8.1 hf9, hlt, hty]
        by_cases qt : gi fM 20 (lu s - 1) = gi fM 20 f
        · rw [if_pos qt, if_pos ⟨hls.mp qs, Or.inr qt⟩, ltq, c_sort y8.1 c1]
          by_cases q33 : gi fA 14 (lu s) = 3
          · rw [if_pos q33, ltq, c_size y8.1 c1]
            have h31 : gi fA 19 (lu s) = 0 ↔ ¬ (gi fM 24 f = 3 ∧ gi fM 19 (lu s - 1) = 3 ∧ ¬ gi fM 31 (nd fM 24 (lu s - 1)) ≤ 0) := by
              rcases hsy.2.2.2.2.2.2.2.2 with k | k | k | k | k | k
              · rw [show lu s - 1 + 1 = lu s by omega] at k
                exact absurd (k.2.1.symm.trans q33) (by decide)
              · rw [show lu s - 1 + 1 = lu s by omega] at k
                exact absurd (k.2.1.symm.trans q33) (by decide)
              · obtain ⟨k1, k2, k3, p9, nf, ff, k4, k5, k6, k7, k8, k9, k10, k11, k12, k13⟩ := k
                rw [show lu s - 1 + 1 = lu s by omega] at k10
                have hp9 : nd fM 24 (lu s - 1) = p9 := by
                  unfold nd
                  rw [k6, tc_iN (by have := hS.2.2.1; omega)]
                have hnf : nf ≤ 4100 := by have := hS.2.2.1; omega
                rw [hp9, k8, k10]
                constructor
                · intro g hh
                  have : nf = 0 := (eq_iN (a := nf) (b := 0) (by omega) (by omega)).mp g
                  rw [this] at hh
                  exact hh.2.2 (by decide)
                · intro g
                  by_cases qn : nf = 0
                  · rw [qn]; rfl
                  · exact absurd ⟨qs.symm.trans q33, k1, fun hh => by
                      have := (le_iN (a := nf) (b := 0) (by omega) (by omega)).mp hh
                      omega⟩ g
              · rw [show lu s - 1 + 1 = lu s by omega] at k
                exact absurd (k.2.1.symm.trans q33) (by decide)
              · rw [show lu s - 1 + 1 = lu s by omega] at k
                exact absurd (k.2.1.symm.trans q33) (by decide)
              · rw [show lu s - 1 + 1 = lu s by omega] at k
                exact ⟨fun _ hh => absurd (k.1.symm.trans hh.2.1) (by decide), fun _ => k.2.1⟩
            by_cases q19 : gi fA 19 (lu s) = 0
            · rw [if_pos q19, ltq, if_neg (h31.mp q19)]
              exact ⟨a + 1, hput q0 hx⟩
            · rw [if_neg q19, if_pos (Classical.byContradiction fun g => q19 (h31.mpr g))]
              obtain ⟨m1, m2⟩ := EC.note hx.1 (s := s) (n := 5) (by omega) (by decide)
              rw [ltq, ltq, m1]
              exact ⟨a + 1, hput q0 ((hx.seq m2).wk (fun b b' g ⟨b1, g1, g2⟩ => by rw [g1] at g2; exact g2) (by omega))⟩
          · rw [if_neg q33, ltq, if_neg (fun g => q33 (qs.trans g.1))]
            exact ⟨a + 1, hput q0 hx⟩
        · rw [if_neg qt]
          have q5 : ¬ (gi fM 24 f = 5 ∨ gi fM 20 (lu s - 1) = gi fM 20 f) := by
            rintro (g | g)
            · apply qt
              have t1 : gi fM 20 f = 0 := by
                rcases (hS.2.2.2 f hf).2.2.2.2.2.2.2.2 with k | k | k | k | k | k
                · exact absurd (k.1.symm.trans h6) (by decide)
                · exact absurd (k.1.symm.trans h6) (by decide)
                · exact absurd (k.1.symm.trans h6) (by decide)
                · exact absurd (k.1.symm.trans h6) (by decide)
                · exact absurd (k.1.symm.trans h6) (by decide)
                · exact k.2.2.2.2.2.2 g
              have t2 : gi fM 20 (lu s - 1) = 0 := by
                rw [g] at qs
                rcases hsy.2.2.2.2.2.2.2.2 with k | k | k | k | k | k
                · rw [show lu s - 1 + 1 = lu s by omega] at k
                  exact absurd (k.2.1.symm.trans qs) (by decide)
                · rw [show lu s - 1 + 1 = lu s by omega] at k
                  exact absurd (k.2.1.symm.trans qs) (by decide)
                · rw [show lu s - 1 + 1 = lu s by omega] at k
                  exact absurd (k.2.1.symm.trans qs) (by decide)
                · rw [show lu s - 1 + 1 = lu s by omega] at k
                  exact absurd (k.2.1.symm.trans qs) (by decide)
                · exact k.2.2.2
                · rw [show lu s - 1 + 1 = lu s by omega] at k
                  exact k.2.2.2.2.2.2 (k.2.2.1.symm.trans qs)
              rw [t1, t2]
            · exact qt g
          rw [if_neg (fun g => q5 g.2), hmis, hbad.1]
          exact ⟨a + 1, hput q0 hbad.2⟩
      · rw [if_neg qs]
        unfold fX2_alone_80
        rw [if_neg (by decide), if_neg (fun g => qs (hls.mpr g.1)), hmis, hbad.1]
        exact ⟨a + 1, hput q0 hbad.2⟩
  · rw [if_neg (fun g => q3 (n5.mpr g)), ltq, if_pos q3]
    exact ⟨a, (c_misfit hwr hW he n2 n1 n9 hM h).wk (fun b b' g hg hL => absurd hL (by simp)) (by omega)⟩
end EC
