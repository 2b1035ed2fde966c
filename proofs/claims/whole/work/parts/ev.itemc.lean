/-! PASS 2, THE CLASS: all that's done with a node; one ACTUAL -/
/-- node n, at TOKENS s .. e at DEPTH d: all that the class does with it; cn: 3 if it may be an AIM; G: calls -/
def ALC (kd wr : Nat → Nat) (m z : Nat) (fA fM : Wd) (lu : Nat → Nat) (lev cur : Nat) (pn : Nat → Int32) (d n s e cn G : Nat) : Prop :=
  (n < 24000 ∧ e ≤ m ∧ NDF kd wr z fA fM n s e ∧ gi fM 45 n = Int32.ofNat cn ∧ (cn = 1 ∨ cn = 3) ∧ (gi fA 9 s ≠ 0 ↔ cn = 3)) ∧
  (∀ K N, 4 * n + 1 ≤ K → G ≤ N → SPE kd wr z fA lu lev pn d s e (TYX fM lu K n) (FLX fM lu cur K 0 n 0) (fun b b' g => FLX fM lu cur K 0 n 0 = [] → CDC fM fA lu lev K 0 n 0 b b' g) (4 * (wr e - wr s) - 1) (fun w => RX2_typed N 2 (Int32.ofNat d) 0 0 w)) ∧
  (cn = 3 → ∀ K N, 4 * n + 1 ≤ K → G ≤ N → SPE kd wr z fA lu lev pn d s e 0 (FLX fM lu cur K 3 n 0) (fun _ _ _ => True) (4 * (wr e - wr s) - 1) (fun w => RX2_typed N 11 (Int32.ofNat d) 0 0 w)) ∧
  (∀ K N, 4 * n + 3 ≤ K → G ≤ N → SPE kd wr z fA lu lev pn d s e 0 (FLX fM lu cur K 2 n 0) (fun b b' g => FLX fM lu cur K 2 n 0 = [] → CDC fM fA lu lev K 2 n 0 b b' g) (4 * (wr e - wr s) - 1) (fun w => RX2_typed N 11 (Int32.ofNat d) 1 0 w)) ∧
  (gi fM 7 n = 3 ∨ gi fM 7 n = 4 → ∀ K N f, f ≤ 1 → 4 * n + 1 ≤ K → G ≤ N → SPE kd wr z fA lu lev pn d s e (tyP fM lu cur f n) (FLX fM lu cur K 1 n f) (fun b b' g => FLX fM lu cur K 1 n f = [] → CDC fM fA lu lev K 1 n 0 b b' g) (4 * (wr e - wr s) - 1) (fun w => RX2_typed N 7 (Int32.ofNat d) (if f = 0 then 1 else 0) 0 w)) ∧
  ∀ K, 4 * n + 1 ≤ K → MSF kd lu s e (FLX fM lu cur K 0 n 0) ∧ (cn = 3 → MSF kd lu s e (FLX fM lu cur K 3 n 0)) ∧ (4 * n + 3 ≤ K → MSR kd lu s e (FLX fM lu cur K 2 n 0)) ∧ (gi fM 7 n = 3 ∨ gi fM 7 n = 4 → ∀ f, MSR kd lu s e (FLX fM lu cur K 1 n f))
/-- faults of an ACTUAL by its number -/
def itL (fM : Wd) (lu : Nat → Nat) (cur k l x i : Nat) : List (Nat × Int32) := if l ≠ 0 ∧ gi fM 19 (l - 1) = 3 ∧ i < nd fM 31 (nd fM 24 (l - 1)) then FLX fM lu cur k 5 x (nd fM 32 (nd fM 24 (l - 1)) + i) else FLX fM lu cur k 4 x 0
/-- its words -/
def itC (fM fA : Wd) (lu : Nat → Nat) (lev k l x i b b' : Nat) (g : Wd) : Prop := l ≠ 0 → gi fM 19 (l - 1) = 3 → i < nd fM 31 (nd fM 24 (l - 1)) → CDC fM fA lu lev k 5 x (nd fM 32 (nd fM 24 (l - 1)) + i) b b' g
section EC
variable {kd wr : Nat → Nat} {z : Nat} {fA fM : Wd} {lu : Nat → Nat} {lev cur : Nat} {pn : Nat → Int32} {base ob t t1 t2 t3 a a1 a2 a3 n s e d f l m : Nat} {w w1 w2 w3 w4 u v : Wd} {L L1 L2 L3 : List (Nat × Int32)} {P P1 P2 P3 : Nat → Nat → Wd → Prop} {B B1 B2 B3 : Nat} {C TK : Nat → Nat}
theorem SPE.wk {X : Int32} {T T1 : Nat} {r : Wd → Option (Int32 × Wd)} (h : SPE kd wr z fA lu lev pn d s e X L P T r) (hP : ∀ b b' g, P b b' g → P1 b b' g) (hT : T ≤ T1) : SPE kd wr z fA lu lev pn d s e X L P1 T1 r := fun w a base ob hw hb ho ha => by
  obtain ⟨u, a', u1, u2⟩ := h w a base ob hw hb ho (by omega)
  exact ⟨u, a', u1, u2.wk hP hT⟩
theorem SPE.cL {X : Int32} {T : Nat} {r : Wd → Option (Int32 × Wd)} (h : SPE kd wr z fA lu lev pn d s e X L P T r) (hL : L1 = L) : SPE kd wr z fA lu lev pn d s e X L1 P T r := by rw [hL]; exact h
theorem SPE.set {X : Int32} {T : Nat} {r : Wd → Option (Int32 × Wd)} (hwr : ∀ i, wr i ≤ 8192) (h : SPE kd wr z fA lu lev pn d s e X L P T r) (hL : ∀ x, x ∈ L1 ↔ x ∈ L) : SPE kd wr z fA lu lev pn d s e X L1 P T r := fun w a base ob hw hb ho ha => by
  obtain ⟨u, a', u1, u2⟩ := h w a base ob hw hb ho ha
  exact ⟨u, a', u1, u2.set hwr hL⟩
theorem SPE.im {X : Int32} {T : Nat} {r r' : Wd → Option (Int32 × Wd)} (h : SPE kd wr z fA lu lev pn d s e X L P T r) (hr : ∀ w {a base ob : Nat}, GC2 kd wr z fA lu lev pn s a base ob w → r' w = r w) : SPE kd wr z fA lu lev pn d s e X L P T r' := fun w a base ob hw hb ho ha => by
  obtain ⟨u, a', u1, u2⟩ := h w a base ob hw hb ho ha
  exact ⟨u, a', (hr w hw).trans u1, u2⟩
/-- looked at only -/
theorem ALC.loose {cn G : Nat} (h : ALC kd wr m z fA fM lu lev cur pn d n s e cn G) {K N : Nat} (hK : 4 * n + 2 ≤ K) (hN : G ≤ N) : SPE kd wr z fA lu lev pn d s e 0 (FLX fM lu cur K 4 n 0) (fun _ _ _ => True) (4 * (wr e - wr s) - 1) (fun w => looC (RX2_typed N) (Int32.ofNat s) (Int32.ofNat d) w) := by
  obtain ⟨⟨_, _, _, h4, h5, h6⟩, hX, hN3, _⟩ := h
  obtain ⟨k, rfl⟩ : ∃ k, K = k + 1 := ⟨K - 1, by omega⟩
  exact c_loose h4 h5 h6 (hX k N (by omega) hN) (fun q => hN3 q k N (by omega) hN)
theorem ALC.ms4 {cn G : Nat} (h : ALC kd wr m z fA fM lu lev cur pn d n s e cn G) {K : Nat} (hK : 4 * n + 2 ≤ K) : MSF kd lu s e (FLX fM lu cur K 4 n 0) := by
  obtain ⟨⟨_, _, _, h4, h5, h6⟩, _, _, _, _, hM⟩ := h
  obtain ⟨k, rfl⟩ : ∃ k, K = k + 1 := ⟨K - 1, by omega⟩
  rw [flx_4]
  obtain ⟨m1, m2, _⟩ := hM k (by omega)
  rcases h5 with q | q
  · rw [if_pos (show gi fM 45 n = 1 by rw [h4, q]; rfl)]
    exact m1
  · rw [if_neg (show ¬ gi fM 45 n = 1 by rw [h4, q]; decide)]
    exact m2 q
theorem act_0 {rc : TX2_typed} {x a1 : Int32} (hs : fX8_sort x w = 0) : fX2_actual rc a1 x w = looC rc (fX9_at w) a1 w := by
  unfold fX2_actual looC
  rw [ltq, ltq, hs, if_pos rfl]
/-- an ACTUAL for a formal -/
theorem c_formalA {cn G : Nat} (hS : SYT kd m C TK lu fA fM) (hwr : ∀ i, wr i ≤ 8192) (hz9 : z ≤ 8193) (hW : ∀ i, i < m → wr i + 1 ≤ wr (i + 1)) (h : ALC kd wr m z fA fM lu lev cur pn d n s e cn G) {K N : Nat} (hK : 4 * n + 3 ≤ K) (hN : G + 1 ≤ N) (hf : f < C 1) (h6 : gi fM 19 f = 6) :
    SPE kd wr z fA lu lev pn d s e 0 (FLX fM lu cur (K + 1) 5 n f) (fun b b' g => FLX fM lu cur (K + 1) 5 n f = [] → CDC fM fA lu lev (K + 1) 5 n f b b' g) (4 * (wr e - wr s) + 3) (fun w => lt (fX8_sort (Int32.ofNat (f + 1)) w) fun x2 => if x2 = 1 then (lt (fX8_isFormal (Int32.ofNat (f + 1)) w) fun x4 => if x4 = true then (RX2_typed N 10 (Int32.ofNat d) (Int32.ofNat (f + 1)) 0 w) else (RX2_typed N 9 (Int32.ofNat d) (Int32.ofNat (f + 1)) 0 w)) else (RX2_typed N 9 (Int32.ofNat d) (Int32.ofNat (f + 1)) 0 w)) := by
  obtain ⟨N, rfl⟩ : ∃ N', N = N' + 1 := ⟨N - 1, by omega⟩
  have hA := h
  obtain ⟨⟨hn, he, hD, h45, hcn, h9⟩, hX, hN3, hAI, hP, hM⟩ := h
  have hf9 : f + 1 ≤ 4100 := by have := hS.2.2.1; omega
  have hsy := hS.2.2.2 f hf
  have hso : gi fA 14 (f + 1) = gi fM 24 f := by rw [hsy.srt, if_pos h6]
  have hty : gi fA 15 (f + 1) = gi fM 20 f := hsy.ty
  obtain ⟨k6, k7, k8, ⟨x9, x1, x2⟩, k9, k10, k11⟩ : gi fM 19 f = 6 ∧ gi fA 19 (f + 1) = 0 ∧ gi fA 14 (f + 1) = gi fM 24 f ∧ (∃ x, x ≤ 5 ∧ gi fM 24 f = Int32.ofNat x) ∧ (gi fM 28 f = 0 ∧ gi fA 16 (f + 1) = 3 ∨ gi fM 28 f = 1 ∧ gi fA 16 (f + 1) = 2 ∧ gi fM 24 f = 1) ∧ (gi fM 24 f = 1 → gi fM 20 f ≠ 0) ∧ (gi fM 24 f = 5 → gi fM 20 f = 0) := by
    rcases hsy.2.2.2.2.2.2.2.2 with k | k | k | k | k | k
    · exact absurd (k.1.symm.trans h6) (by decide)
    · exact absurd (k.1.symm.trans h6) (by decide)
    · exact absurd (k.1.symm.trans h6) (by decide)
    · exact absurd (k.1.symm.trans h6) (by decide)
    · exact absurd (k.1.symm.trans h6) (by decide)
    · exact ⟨k.1, k.2.1, k.2.2.1, k.2.2.2.1, k.2.2.2.2.1, fun h => k.2.2.2.2.2.1 (Or.inl h), k.2.2.2.2.2.2⟩
  have hr9 : ∀ w, RX2_typed (N + 1) 9 (Int32.ofNat d) (Int32.ofNat (f + 1)) 0 w = fX2_actual (RX2_typed N) (Int32.ofNat d) (Int32.ofNat (f + 1)) w := fun w => rfl
  have hr10 : ∀ w, RX2_typed (N + 1) 10 (Int32.ofNat d) (Int32.ofNat (f + 1)) 0 w = fX2_thunk (RX2_typed N) (Int32.ofNat d) (Int32.ofNat (f + 1)) w := fun w => rfl
  have hfl34 : ∀ k, (gi fM 7 n = 4 → FLX fM lu cur (k + 1) 1 n 1 = FLX fM lu cur (k + 1) 1 n 0 ∧ notD (lu s) s ⊆ FLX fM lu cur (k + 1) 1 n 0 ∧ FLX fM lu cur (k + 1) 0 n 0 = FLX fM lu cur (k + 1) 1 n 0 ∧ TYX fM lu (k + 1) n = tyE fM (lu s)) ∧ (gi fM 7 n = 3 → FLX fM lu cur (k + 1) 0 n 0 = flY fM (lu s) s ∧ TYX fM lu (k + 1) n = tyY fM (lu s) ∧ (gi fA 14 (lu s) = 1 → FLX fM lu cur (k + 1) 1 n 1 = [])) := fun k => by
    have htk : nd fM 12 n = s := hD.tk hz9
    refine ⟨fun q4 => ?_, fun q3 => ?_⟩
    · rw [flx1_4 q4 rfl, flx1_4 q4 rfl, flx0_4 q4 rfl]
      refine ⟨rfl, fun y hy => ?_, rfl, ?_⟩
      · unfold elL
        rw [htk]
        exact List.mem_append_left _ (List.mem_append_left _ hy)
      · rw [TYX, if_neg (by rw [q4]; decide), if_neg (by rw [q4]; decide), if_neg (by rw [q4]; decide), if_neg (by rw [q4]; decide), if_pos q4, htk]
    · rw [flx0_3 q3, htk]
      refine ⟨rfl, ?_, fun q1 => ?_⟩
      · rw [TYX, if_neg (by rw [q3]; decide), if_neg (by rw [q3]; decide), if_neg (by rw [q3]; decide), if_pos q3, htk]
      · obtain ⟨l0, l1⟩ := (hS.is (tk := s) (x := 1) (by decide) (by decide)).mp q1
        rw [flx1_3 q3, htk, if_pos (Or.inr l1)]
        unfold notD
        rw [if_neg l0]
        rfl
  obtain ⟨k, rfl⟩ : ∃ k, K = k + 1 := ⟨K - 1, by omega⟩
  obtain ⟨hp4, hp3⟩ := hfl34 k
  by_cases q1 : gi fM 24 f = 1
  · by_cases q16 : gi fA 16 (f + 1) = 3
    · refine (c_thunk (rc := RX2_typed N) hS hwr hD hf q1 q16 (k10 q1) (hX (k + 1) N (by omega) (by omega)) (fun q => hP q (k + 1) N 1 (by omega) (by omega) (by omega)) hp4 hp3).im (fun w a base ob hw => ?_)
      rw [ltq, c_sort hw hf9, hso, if_pos q1, ltq, (c_formal hw hf9).1 q16, if_pos rfl]
      exact hr10 w
    · have hg : SPE kd wr z fA lu lev pn d s e 0 (FLX fM lu cur (k + 1) 0 n 0 ++ difT (gi fM 20 f) (TYX fM lu (k + 1) n) s) (fun b b' g => FLX fM lu cur (k + 1) 0 n 0 = [] → CDC fM fA lu lev (k + 1) 0 n 0 b b' g) (4 * (wr e - wr s) - 1) (fun w => fX2_actual (RX2_typed N) (Int32.ofNat d) (Int32.ofNat (f + 1)) w) := by
        intro w a base ob hw hb ho ha
        obtain ⟨u, a', u1, u2⟩ := hX (k + 1) N (by omega) (by omega) w a base ob hw hb ho ha
        have hsz := hw.a_lt
        refine ⟨_, a', ?_, (u2.seq (EC.check (x := gi fM 20 f) (y := TYX fM lu (k + 1) n) (s := s) u2.1 hsz.1)).wk (fun b b' g ⟨b1, g1, g2⟩ => by rw [g2]; exact g1) (by omega)⟩
        show fX2_actual (RX2_typed N) (Int32.ofNat d) (Int32.ofNat (f + 1)) w = _
        have u1' : RX2_typed N 2 (Int32.ofNat d) 0 0 w = some (TYX fM lu (k + 1) n, u) := u1
        unfold fX2_actual
        rw [ltq, ltq, c_sort hw hf9, hso, if_neg (by rw [q1]; decide), if_pos q1, ltq, c_type hw hf9, hty, u1', bn2_so, ltq, a_at hw.1]
      rw [flx5_1 q1, hD.tk hz9]
      refine ((hg.wk (T1 := 4 * (wr e - wr s) + 3) (P1 := fun b b' g => (if gi fM 7 n = 3 ∧ lu s ≠ 0 ∧ (FO fM (lu s - 1) 1 ∨ gi fM 19 (lu s - 1) = 1) then [] else if gi fM 7 n = 4 then FLX fM lu cur (k + 1) 1 n 0 else FLX fM lu cur (k + 1) 0 n 0) ++ misT (if gi fM 7 n = 3 ∧ lu s ≠ 0 ∧ FO fM (lu s - 1) 1 then gi fM 20 (lu s - 1) else if gi fM 7 n = 4 ∨ gi fM 7 n = 3 ∧ lu s ≠ 0 ∧ gi fM 19 (lu s - 1) = 1 then (if gi fM 7 n = 4 then tyE fM (lu s) else gi fM 20 (lu s - 1)) else TYX fM lu (k + 1) n) (gi fM 20 f) s = [] → CDC fM fA lu lev (k + 1 + 1) 5 n f b b' g) (fun b b' g hh hL => ?_) (by omega)).cL ?_).im (fun w a base ob hw => ?_)
      · rw [cdc5_1v q1 q16]
        refine hh ?_
        have h1 := (List.append_eq_nil_iff.mp hL).1
        by_cases q3 : gi fM 7 n = 3 ∧ lu s ≠ 0 ∧ (FO fM (lu s - 1) 1 ∨ gi fM 19 (lu s - 1) = 1)
        · rw [(hp3 q3.1).1]
          unfold flY
          rw [if_neg q3.2.1, if_pos q3.2.2.symm]
        · rw [if_neg q3] at h1
          by_cases q4 : gi fM 7 n = 4
          · rw [if_pos q4] at h1
            rw [(hp4 q4).2.2.1]
            exact h1
          · rw [if_neg q4] at h1
            exact h1
      · rw [mis_dif (k10 q1)]
        by_cases q3 : gi fM 7 n = 3
        · have q4 : ¬ gi fM 7 n = 4 := by rw [q3]; decide
          obtain ⟨g1, g2, g3⟩ := hp3 q3
          rw [if_neg q4, if_neg q4, g1, g2]
          by_cases qv : lu s ≠ 0 ∧ (FO fM (lu s - 1) 1 ∨ gi fM 19 (lu s - 1) = 1)
          · rw [if_pos ⟨q3, qv⟩]
            have hfy : flY fM (lu s) s = [] := by
              unfold flY
              rw [if_neg qv.1, if_pos qv.2.symm]
            have hty3 : tyY fM (lu s) = gi fM 20 (lu s - 1) := by
              unfold tyY
              rw [if_neg qv.1, if_pos (qv.2.elim (fun g => Or.inr (Or.inl g)) Or.inl)]
            rw [hfy, hty3]
            congr 2
            by_cases qF : FO fM (lu s - 1) 1
            · rw [if_pos ⟨q3, qv.1, qF⟩]
            · have hc2 : ¬ (gi fM 7 n = 3 ∧ lu s ≠ 0 ∧ FO fM (lu s - 1) 1) := fun g => qF g.2.2
              have hc3 : gi fM 7 n = 4 ∨ gi fM 7 n = 3 ∧ lu s ≠ 0 ∧ gi fM 19 (lu s - 1) = 1 := Or.inr ⟨q3, qv.1, qv.2.elim (fun g => absurd g qF) id⟩
              rw [if_neg hc2, if_pos hc3]
          · have hc1 : ¬ (gi fM 7 n = 3 ∧ lu s ≠ 0 ∧ (FO fM (lu s - 1) 1 ∨ gi fM 19 (lu s - 1) = 1)) := fun g => qv g.2
            have hc2 : ¬ (gi fM 7 n = 3 ∧ lu s ≠ 0 ∧ FO fM (lu s - 1) 1) := fun g => qv ⟨g.2.1, Or.inl g.2.2⟩
            have hc3 : ¬ (gi fM 7 n = 4 ∨ gi fM 7 n = 3 ∧ lu s ≠ 0 ∧ gi fM 19 (lu s - 1) = 1) := fun g => g.elim q4 (fun g => qv ⟨g.2.1, Or.inr g.2.2⟩)
            rw [if_neg hc1, if_neg hc2, if_neg hc3]
        · have hc1 : ¬ (gi fM 7 n = 3 ∧ lu s ≠ 0 ∧ (FO fM (lu s - 1) 1 ∨ gi fM 19 (lu s - 1) = 1)) := fun g => q3 g.1
          have hc2 : ¬ (gi fM 7 n = 3 ∧ lu s ≠ 0 ∧ FO fM (lu s - 1) 1) := fun g => q3 g.1
          rw [if_neg hc1, if_neg hc2]
          by_cases q4 : gi fM 7 n = 4
          · obtain ⟨g1, g2, g3, g4⟩ := hp4 q4
            rw [if_pos q4, if_pos (Or.inl q4), if_pos q4, g3, g4]
          · rw [if_neg q4, if_neg (fun g => g.elim q4 (fun g => q3 g.1))]
      · rw [ltq, c_sort hw hf9, hso, if_pos q1, ltq, (c_formal hw hf9).2 q16, if_neg (by decide)]
        exact hr9 w
  · have hgo : ∀ {T : Nat} {L1 : List (Nat × Int32)} {P1 : Nat → Nat → Wd → Prop}, SPE kd wr z fA lu lev pn d s e 0 L1 P1 T (fun w => fX2_actual (RX2_typed N) (Int32.ofNat d) (Int32.ofNat (f + 1)) w) → SPE kd wr z fA lu lev pn d s e 0 L1 P1 T (fun w => lt (fX8_sort (Int32.ofNat (f + 1)) w) fun x2 => if x2 = 1 then (lt (fX8_isFormal (Int32.ofNat (f + 1)) w) fun x4 => if x4 = true then (RX2_typed (N + 1) 10 (Int32.ofNat d) (Int32.ofNat (f + 1)) 0 w) else (RX2_typed (N + 1) 9 (Int32.ofNat d) (Int32.ofNat (f + 1)) 0 w)) else (RX2_typed (N + 1) 9 (Int32.ofNat d) (Int32.ofNat (f + 1)) 0 w)) := fun hh => hh.im (fun w a base ob hw => by
      rw [ltq, c_sort hw hf9, hso, if_neg q1]
      exact hr9 w)
    refine hgo ?_
    by_cases q4 : gi fM 24 f = 4
    · rw [flx5_4 q4]
      intro w a base ob hw hb ho ha
      obtain ⟨w1, p1, p2⟩ := EC.put1 (x := 33) hw (by omega)
      obtain ⟨w2, a2, z1, z2⟩ := hAI (k + 1) N (by omega) (by omega) w1 (a + 1) base ob p2.1 hb ho (by omega)
      have hb2 := z2.b
      obtain ⟨w3, y1, y2⟩ := EC.put1 (x := 46) z2.1 (by omega)
      obtain ⟨u, r1, r2⟩ := c_endThunk p2 (z2.seq y2) (by omega)
      refine ⟨u, a2 + 1 + 1, ?_, (r2.wk (fun b b' g hg hL => ?_) (by omega)).cL (List.append_nil _).symm⟩
      · show fX2_actual (RX2_typed N) (Int32.ofNat d) (Int32.ofNat (f + 1)) w = _
        have z1' : RX2_typed N 11 (Int32.ofNat d) 1 0 w1 = some (0, w2) := z1
        unfold fX2_actual
        rw [ltq, ltq, c_sort hw hf9, hso, if_neg (by rw [q4]; decide), if_neg q1, if_pos q4, p1, lt2q, z1', bn2_so, y1, lt2q, r1, ltq]
      · obtain ⟨b1, d1, d2, d3, b2, d4, d5, d6⟩ := hg
        rw [cdc5_4 q4]
        exact ⟨b1, b2, d1, d4 hL, d5, d6, d2, d3⟩
    · by_cases q0 : gi fM 24 f = 0
      · rw [flx5_0 q0]
        refine ((hA.loose (K := k + 1) (N := N) (by omega) (by omega)).wk (fun b b' g _ _ => by rw [cdc5_0 q0]; trivial) (by omega)).im (fun w a base ob hw => ?_)
        rw [act_0 (by rw [c_sort hw hf9, hso]; exact q0), a_at hw.1]
      · intro w a base ob hw hb ho ha
        obtain ⟨a', u2⟩ := c_alone (K := k + 1) hS hwr hW he hD hf h6 q1 q4 q0 (hA.ms4 (by omega)) hw (by omega)
        refine ⟨_, a', ?_, u2.wk (fun _ _ _ hh => hh) (by omega)⟩
        show fX2_actual (RX2_typed N) (Int32.ofNat d) (Int32.ofNat (f + 1)) w = _
        unfold fX2_actual
        rw [ltq, ltq, c_sort hw hf9, hso, if_neg q0, if_neg q1, if_neg q4, ltq]
/-- an ACTUAL by its number -/
theorem c_item {cn G : Nat} (hS : SYT kd m C TK lu fA fM) (hFM : PFM fM (C 1)) (hwr : ∀ i, wr i ≤ 8192) (hz9 : z ≤ 8193) (hW : ∀ i, i < m → wr i + 1 ≤ wr (i + 1)) (h : ALC kd wr m z fA fM lu lev cur pn d n s e cn G) {K N i tk : Nat} (hK : 4 * n + 3 ≤ K) (hN : G + 1 ≤ N) (hi : i ≤ 8193) :
    SPE kd wr z fA lu lev pn d s e 0 (itL fM lu cur (K + 1) (lu tk) n i) (fun b b' g => itL fM lu cur (K + 1) (lu tk) n i = [] → itC fM fA lu lev (K + 1) (lu tk) n i b b' g) (4 * (wr e - wr s) + 4 - 1) (clI (RX2_typed N) (Int32.ofNat (lu tk)) (Int32.ofNat d) (Int32.ofNat i)) := by
  have hl9 : lu tk ≤ 4100 := by have := hS.2.1 tk; have := hS.2.2.1; omega
  have hn9 : N = (N - 1) + 1 := by omega
  -- no formal
  have hno : fmC fA (lu tk) i = 0 → SPE kd wr z fA lu lev pn d s e 0 (FLX fM lu cur (K + 1) 4 n 0) (fun _ _ _ => True) (4 * (wr e - wr s) + 4 - 1) (clI (RX2_typed N) (Int32.ofNat (lu tk)) (Int32.ofNat d) (Int32.ofNat i)) := fun h0 => by
    refine ((h.loose (K := K + 1) (N := N - 1) (by omega) (by omega)).wk (fun _ _ _ hh => hh) (by omega)).im (fun w a base ob hw => ?_)
    have h0s : fX8_sort 0 w = 0 := by
      rw [show (0 : Int32) = Int32.ofNat 0 from rfl, c_sort hw (by omega)]
      exact hS.1
    unfold clI
    rw [c_formalN hw hl9, h0, ltq, ltq, h0s, if_neg (by decide), hn9]
    show fX2_actual (RX2_typed (N - 1)) (Int32.ofNat d) 0 w = _
    rw [act_0 h0s, a_at hw.1]
    rfl
  by_cases q : lu tk ≠ 0 ∧ gi fM 19 (lu tk - 1) = 3
  · obtain ⟨l0, l1⟩ := q
    have h3 := (hS.is (tk := tk) (x := 3) (by decide) (by decide)).mpr ⟨l0, Or.inl l1⟩
    have hsy := hS.sy l0
    rcases hsy.2.2.2.2.2.2.2.2 with k | k | k | k | k | k
    · exact absurd (k.1.symm.trans l1) (by decide)
    · exact absurd (k.1.symm.trans l1) (by decide)
    · obtain ⟨k1, k2, k3, p9, nf, ff, k4, k5, k6, k7, k8, k9, k10, k11, k12, k13⟩ := k
      rw [show lu tk - 1 + 1 = lu tk by omega] at k10 k11
      have hC := hS.2.2.1
      have hp : nd fM 24 (lu tk - 1) = p9 := by
        unfold nd
        rw [k6, tc_iN (by omega)]
      have hnf : nd fM 31 p9 = nf := by
        unfold nd
        rw [k8, tc_iN (by omega)]
      have hff : nd fM 32 p9 = ff := by
        unfold nd
        rw [k9, tc_iN (by omega)]
      unfold itL itC
      rw [hp, hnf, hff]
      by_cases qi : i < nf
      · rw [if_pos ⟨l0, l1, qi⟩]
        have h6 : gi fM 19 (ff + i) = 6 := by
          have := hFM (lu tk - 1) (by have := hS.2.1 tk; omega) l1 i (by rw [hp, hnf]; exact qi)
          rw [hp, hff] at this
          exact this
        have hfc : fmC fA (lu tk) i = Int32.ofNat (ff + i + 1) := by
          unfold fmC
          rw [if_pos h3, k10, k11, if_neg (nle_iN (by omega) (by omega)), add_iN]
          congr 1
          omega
        refine ((c_formalA hS hwr hz9 hW h hK hN (f := ff + i) (by omega) h6).wk (fun b b' g hh hL _ _ _ => hh hL) (by omega)).im (fun w a base ob hw => ?_)
        unfold clI
        rw [c_formalN hw hl9, hfc, ltq]
      · rw [if_neg (fun g => qi g.2.2)]
        refine (hno ?_).wk (fun b b' g _ _ _ _ g9 => absurd g9 qi) (Nat.le_refl _)
        unfold fmC
        rw [if_pos h3, k10, if_pos (yle_iN (by omega) (by omega))]
    · exact absurd (k.1.symm.trans l1) (by decide)
    · exact absurd (k.1.symm.trans l1) (by decide)
    · exact absurd (k.1.symm.trans l1) (by decide)
  · unfold itL
    rw [if_neg (fun g => q ⟨g.1, g.2.1⟩)]
    refine (hno ?_).wk (fun b b' g _ hL => ?_) (Nat.le_refl _)
    · unfold fmC
      by_cases h3 : gi fA 14 (lu tk) = 3
      · obtain ⟨l0, l1⟩ := (hS.is (tk := tk) (x := 3) (by decide) (by decide)).mp h3
        have l2 : gi fM 19 (lu tk - 1) = 6 := by
          rcases l1 with l1 | l1
          · exact absurd ⟨l0, l1⟩ q
          · exact l1.1
        have hz : gi fA 19 (lu tk) = 0 := by
          rcases (hS.sy l0).2.2.2.2.2.2.2.2 with k | k | k | k | k | k
          · exact absurd (k.1.symm.trans l2) (by decide)
          · exact absurd (k.1.symm.trans l2) (by decide)
          · exact absurd (k.1.symm.trans l2) (by decide)
          · exact absurd (k.1.symm.trans l2) (by decide)
          · exact absurd (k.1.symm.trans l2) (by decide)
          · rw [show lu tk - 1 + 1 = lu tk by omega] at k
            exact k.2.1
        rw [if_pos h3, hz, if_pos (zl_iN (by omega))]
      · rw [if_neg h3]
    · unfold itC
      intro g0 g1 _
      exact absurd ⟨g0, g1⟩ q
end EC
