/-! PASS 2, THE CLASS: ACTUALS -/
section FL
variable {fM fA : Wd} {lu : Nat → Nat} {cur lev k n f l : Nat}
/-- an ACTUAL's faults, by its formal -/
theorem flx5_1 (h : gi fM 24 f = 1) : FLX fM lu cur (k + 1) 5 n f = (if gi fM 7 n = 3 ∧ lu (nd fM 12 n) ≠ 0 ∧ (FO fM (lu (nd fM 12 n) - 1) 1 ∨ gi fM 19 (lu (nd fM 12 n) - 1) = 1) then [] else if gi fM 7 n = 4 then FLX fM lu cur k 1 n 0 else FLX fM lu cur k 0 n 0) ++ misT (if gi fM 7 n = 3 ∧ lu (nd fM 12 n) ≠ 0 ∧ FO fM (lu (nd fM 12 n) - 1) 1 then gi fM 20 (lu (nd fM 12 n) - 1) else if gi fM 7 n = 4 ∨ gi fM 7 n = 3 ∧ lu (nd fM 12 n) ≠ 0 ∧ gi fM 19 (lu (nd fM 12 n) - 1) = 1 then (if gi fM 7 n = 4 then tyE fM (lu (nd fM 12 n)) else gi fM 20 (lu (nd fM 12 n) - 1)) else TYX fM lu k n) (gi fM 20 f) (nd fM 12 n) := by
  rw [FLX]
  dsimp only
  rw [if_neg (by decide), if_neg (by decide), if_neg (by decide), if_neg (by decide), if_neg (by decide), if_pos h]
theorem flx5_4 (h : gi fM 24 f = 4) : FLX fM lu cur (k + 1) 5 n f = FLX fM lu cur k 2 n 0 := by
  rw [FLX]
  dsimp only
  rw [if_neg (by decide), if_neg (by decide), if_neg (by decide), if_neg (by decide), if_neg (by decide), if_neg (by rw [h]; decide), if_pos h]
theorem flx5_0 (h : gi fM 24 f = 0) : FLX fM lu cur (k + 1) 5 n f = FLX fM lu cur k 4 n 0 := by
  rw [FLX]
  dsimp only
  rw [if_neg (by decide), if_neg (by decide), if_neg (by decide), if_neg (by decide), if_neg (by decide), if_neg (by rw [h]; decide), if_neg (by rw [h]; decide), if_pos h]
theorem flx5_d (h1 : gi fM 24 f ≠ 1) (h4 : gi fM 24 f ≠ 4) (h0 : gi fM 24 f ≠ 0) : FLX fM lu cur (k + 1) 5 n f = if gi fM 7 n ≠ 3 then [(nd fM 12 n, 4)] ++ FLX fM lu cur k 4 n 0 else notD (lu (nd fM 12 n)) (nd fM 12 n) ++ (if lu (nd fM 12 n) = 0 then [] else if (gi fM 19 (lu (nd fM 12 n) - 1) = gi fM 24 f ∨ FO fM (lu (nd fM 12 n) - 1) (gi fM 24 f)) ∧ (gi fM 24 f = 5 ∨ gi fM 20 (lu (nd fM 12 n) - 1) = gi fM 20 f) then (if gi fM 24 f = 3 ∧ gi fM 19 (lu (nd fM 12 n) - 1) = 3 ∧ ¬ gi fM 31 (nd fM 24 (lu (nd fM 12 n) - 1)) ≤ 0 then [(nd fM 12 n, 5)] else []) else misS fM (lu (nd fM 12 n)) (nd fM 12 n)) := by
  rw [FLX]
  dsimp only
  rw [if_neg (by decide), if_neg (by decide), if_neg (by decide), if_neg (by decide), if_neg (by decide), if_neg h1, if_neg h4, if_neg h0]
theorem flx_4 : FLX fM lu cur (k + 1) 4 n f = if gi fM 45 n = 1 then FLX fM lu cur k 0 n 0 else FLX fM lu cur k 3 n 0 := by
  rw [FLX]
  dsimp only
  rw [if_neg (by decide), if_neg (by decide), if_neg (by decide), if_neg (by decide), if_pos rfl]
/-- its words -/
theorem cdc5_1n (h : gi fM 24 f = 1) (h3 : gi fA 16 (f + 1) = 3) {b b' : Nat} {g : Wd} : CDC fM fA lu lev (k + 1) 5 n f b b' g = ∃ b1, gl g 41 b = jwC 33 b1 ∧ gl g 41 b1 = wdC 23 0 (Int32.ofNat (b + 1)) ∧ b' = b1 + 1 ∧
          (if gi fM 7 n = 3 ∧ gi fA 14 (lu (nd fM 12 n)) = 1 ∧ gi fA 16 (lu (nd fM 12 n)) = 3 then gl g 41 (b + 1) = wdC 21 (hpC fA lev (lu (nd fM 12 n))) (gi fA 18 (lu (nd fM 12 n))) ∧ gl g 41 (b + 2) = wdC 45 0 0 ∧ gl g 41 (b + 3) = wdC 46 0 0 ∧ b1 = b + 4
          else if gi fM 7 n = 3 ∧ gi fA 14 (lu (nd fM 12 n)) = 1 ∨ gi fM 7 n = 4 ∧ gi fA 14 (lu (nd fM 12 n)) = 2 then ∃ b2, CDC fM fA lu lev k 1 n 0 (b + 1) b2 g ∧ gl g 41 b2 = wdC 47 0 0 ∧ b1 = b2 + 1
          else gl g 41 (b + 1) = wdC 48 0 0 ∧ ∃ b2, CDC fM fA lu lev k 0 n 0 (b + 2) b2 g ∧ gl g 41 b2 = wdC 46 0 0 ∧ b1 = b2 + 1) := by
  rw [CDC]
  dsimp only
  rw [if_neg (by decide), if_neg (by decide), if_neg (by decide), if_pos rfl, if_pos h, if_pos h3]
theorem cdc5_1v (h : gi fM 24 f = 1) (h3 : gi fA 16 (f + 1) ≠ 3) {b b' : Nat} {g : Wd} : CDC fM fA lu lev (k + 1) 5 n f b b' g = CDC fM fA lu lev k 0 n 0 b b' g := by
  rw [CDC]
  dsimp only
  rw [if_neg (by decide), if_neg (by decide), if_neg (by decide), if_pos rfl, if_pos h, if_neg h3]
theorem cdc5_4 (h : gi fM 24 f = 4) {b b' : Nat} {g : Wd} : CDC fM fA lu lev (k + 1) 5 n f b b' g = ∃ b1 b2, gl g 41 b = jwC 33 b1 ∧ CDC fM fA lu lev k 2 n 0 (b + 1) b2 g ∧ gl g 41 b2 = wdC 46 0 0 ∧ b1 = b2 + 1 ∧ gl g 41 b1 = wdC 23 0 (Int32.ofNat (b + 1)) ∧ b' = b1 + 1 := by
  rw [CDC]
  dsimp only
  rw [if_neg (by decide), if_neg (by decide), if_neg (by decide), if_pos rfl, if_neg (by rw [h]; decide), if_pos h]
theorem cdc5_0 (h : gi fM 24 f = 0) {b b' : Nat} {g : Wd} : CDC fM fA lu lev (k + 1) 5 n f b b' g = True := by
  rw [CDC]
  dsimp only
  rw [if_neg (by decide), if_neg (by decide), if_neg (by decide), if_pos rfl, if_neg (by rw [h]; decide), if_neg (by rw [h]; decide), if_pos h]
theorem cdc5_d (h1 : gi fM 24 f ≠ 1) (h4 : gi fM 24 f ≠ 4) (h0 : gi fM 24 f ≠ 0) {b b' : Nat} {g : Wd} : CDC fM fA lu lev (k + 1) 5 n f b b' g = (gi fA 14 (lu (nd fM 12 n)) = 0 ∧ b' = b ∨ gi fA 14 (lu (nd fM 12 n)) ≠ 0 ∧ puC fA lev (lu (nd fM 12 n)) b b' g) := by
  rw [CDC]
  dsimp only
  rw [if_neg (by decide), if_neg (by decide), if_neg (by decide), if_pos rfl, if_neg h1, if_neg h4, if_neg h0]
theorem mis_dif0 {is want : Int32} {tk : Nat} (hw : want ≠ 0) : ∀ x, x ∈ misT is want tk ↔ x ∈ difT want is tk := fun x => by rw [mis_dif hw]
end FL
section EC
variable {kd wr : Nat → Nat} {z : Nat} {fA fM : Wd} {lu : Nat → Nat} {lev cur : Nat} {pn : Nat → Int32} {base ob t t1 t2 t3 a a1 a2 a3 n s e d f : Nat} {w w1 w2 w3 w4 u v : Wd} {L L1 L2 L3 : List (Nat × Int32)} {P P1 P2 P3 : Nat → Nat → Wd → Prop} {B B1 B2 B3 : Nat}
/-- a thunk's end -/
theorem c_endThunk (h0 : EC kd wr z fA lu lev pn base ob t a (a + 1) w w1 [] (fun b b' g => gl g 41 b = wdC 33 0 0 ∧ b' = b + 1) 1) (h : EC kd wr z fA lu lev pn base ob e (a + 1) a1 w1 v L P B) (ha : a1 < 36872) :
    ∃ u, fX2_endThunk (Int32.ofNat a) v = u ∧ EC kd wr z fA lu lev pn base ob e a (a1 + 1) w u L (fun b b' g => ∃ b1, gl g 41 b = jwC 33 b1 ∧ gl g 41 b1 = wdC 23 0 (Int32.ofNat (b + 1)) ∧ b' = b1 + 1 ∧ P (b + 1) b1 g) (B + 2) := by
  have ha1 := h.2.2.2.2.1
  obtain ⟨y, u, u1, u2⟩ := h0.jmp h (by omega) (by decide)
  obtain ⟨x, x1, x2⟩ := EC.put2 (x := 23) (c := Int32.ofNat (a + 1)) u2.1 ha
  refine ⟨x, ?_, ?_⟩
  · unfold fX2_endThunk
    rw [u1, lt2q, ad1_iN, x1, lt2q]
  · obtain ⟨q1, q2, q3, q4, q5, q6⟩ := ((u2.seq x2).cL (List.append_nil _).symm)
    refine ⟨q1, q2, q3, q4, by omega, fun g hg => ?_⟩
    obtain ⟨b1, c1, c2⟩ := q6 g hg
    have hb : b1 = a1 := by omega
    subst hb
    exact ⟨b1, c1.1, c2.1, c2.2, c1.2⟩
/-- and the check of its TYPE -/
theorem c_t234 {rc : TX2_typed} {X : Int32} (h0 : EC kd wr z fA lu lev pn base ob t a (a + 1) w w1 [] (fun b b' g => gl g 41 b = wdC 33 0 0 ∧ b' = b + 1) 1) (h : EC kd wr z fA lu lev pn base ob e (a + 1) a1 w1 v L P B) (ha : a1 < 36872) (hf : f + 1 ≤ 4100) (hs : s < z) :
    ∃ u, fX2_thunk_234 rc (Int32.ofNat (f + 1)) (Int32.ofNat s) (Int32.ofNat a) X v = some (0, u) ∧ EC kd wr z fA lu lev pn base ob e a (a1 + 1) w u (L ++ difT (gi fA 15 (f + 1)) X s) (fun b b' g => ∃ b1, gl g 41 b = jwC 33 b1 ∧ gl g 41 b1 = wdC 23 0 (Int32.ofNat (b + 1)) ∧ b' = b1 + 1 ∧ P (b + 1) b1 g) (B + 2) := by
  obtain ⟨u, u1, u2⟩ := c_endThunk h0 h ha
  refine ⟨_, ?_, (u2.seq (EC.check (x := gi fA 15 (f + 1)) (y := X) u2.1 hs)).wk (fun b b' g ⟨b1, g1, g2⟩ => by rw [g2]; exact g1) (Nat.le_refl _)⟩
  unfold fX2_thunk_234
  rw [ltq, u1, ltq, c_type u2.1 hf, ltq]
theorem c_fm (h : GC2 kd wr z fA lu lev pn t a base ob w) (hs : s < 8193) : fX9_formAt (Int32.ofNat s) w = gi fA 8 s := by
  unfold fX9_formAt
  rw [ltq, rgi_iN (by omega) (by omega)]
  exact (h.2.2.2.2.2.2.2.2.2.2.2 s).1
theorem c_isVar (h : GC2 kd wr z fA lu lev pn t a base ob w) (hs : s < 8193) : (gi fA 8 s = 1 ∨ gi fA 8 s = 2 ∨ gi fA 8 s = 3 → fX9_isVariable (Int32.ofNat s) w = true) ∧ (¬ (gi fA 8 s = 1 ∨ gi fA 8 s = 2 ∨ gi fA 8 s = 3) → fX9_isVariable (Int32.ofNat s) w = false) := by
  unfold fX9_isVariable
  rw [ltq, c_fm h hs]
  by_cases q1 : gi fA 8 s = 1
  · rw [if_pos q1]
    exact ⟨fun _ => rfl, fun g => absurd (Or.inl q1) g⟩
  · by_cases q2 : gi fA 8 s = 2
    · rw [if_neg q1, if_pos q2]
      exact ⟨fun _ => rfl, fun g => absurd (Or.inr (Or.inl q2)) g⟩
    · by_cases q3 : gi fA 8 s = 3
      · rw [if_neg q1, if_neg q2, if_pos q3]
        exact ⟨fun _ => rfl, fun g => absurd (Or.inr (Or.inr q3)) g⟩
      · rw [if_neg q1, if_neg q2, if_neg q3]
        exact ⟨fun g => (g.elim q1 (fun g => g.elim q2 q3)).elim, fun _ => rfl⟩
/-- what's told of node n at s .. e: TOKENS and forms -/
def NDF (kd wr : Nat → Nat) (z : Nat) (fA fM : Wd) (n s e : Nat) : Prop :=
  s < e ∧ e < z ∧ wr s + 1 ≤ wr e ∧ gi fM 12 n = Int32.ofNat s ∧ (gi fM 7 n = 3 ↔ gi fA 8 s = 1) ∧ (gi fM 7 n = 4 ↔ gi fA 8 s = 2 ∨ gi fA 8 s = 3) ∧ (gi fM 7 n = 3 ∨ gi fM 7 n = 4 → kd s = 2) ∧ (gi fM 7 n = 3 → e = s + 1) ∧ gi fA 10 s = Int32.ofNat e
theorem NDF.tk (h : NDF kd wr z fA fM n s e) (hz : z ≤ 8193) : nd fM 12 n = s := by
  unfold nd
  rw [h.2.2.2.1, tc_iN (by have := h.1; have := h.2.1; omega)]
/-- an ACTUAL by name -/
theorem c_thunk {rc : TX2_typed} {m : Nat} {C TK : Nat → Nat} {K : Nat} (hS : SYT kd m C TK lu fA fM) (hwr : ∀ i, wr i ≤ 8192) (hN : NDF kd wr z fA fM n s e) (hf : f < C 1) (h24 : gi fM 24 f = 1) (h16 : gi fA 16 (f + 1) = 3) (h20 : gi fM 20 f ≠ 0)
    (hX : SPE kd wr z fA lu lev pn d s e (TYX fM lu K n) (FLX fM lu cur K 0 n 0) (fun b b' g => FLX fM lu cur K 0 n 0 = [] → CDC fM fA lu lev K 0 n 0 b b' g) (4 * (wr e - wr s) - 1) (fun w => rc 2 (Int32.ofNat d) 0 0 w))
    (hP : gi fM 7 n = 3 ∨ gi fM 7 n = 4 → SPE kd wr z fA lu lev pn d s e (tyP fM lu cur 1 n) (FLX fM lu cur K 1 n 1) (fun b b' g => FLX fM lu cur K 1 n 1 = [] → CDC fM fA lu lev K 1 n 0 b b' g) (4 * (wr e - wr s) - 1) (fun w => rc 7 (Int32.ofNat d) 0 0 w))
    (hP4 : gi fM 7 n = 4 → FLX fM lu cur K 1 n 1 = FLX fM lu cur K 1 n 0 ∧ notD (lu s) s ⊆ FLX fM lu cur K 1 n 0 ∧ FLX fM lu cur K 0 n 0 = FLX fM lu cur K 1 n 0 ∧ TYX fM lu K n = tyE fM (lu s)) (hP3 : gi fM 7 n = 3 → FLX fM lu cur K 0 n 0 = flY fM (lu s) s ∧ TYX fM lu K n = tyY fM (lu s) ∧ (gi fA 14 (lu s) = 1 → FLX fM lu cur K 1 n 1 = [])) :
    SPE kd wr z fA lu lev pn d s e 0 (FLX fM lu cur (K + 1) 5 n f) (fun b b' g => FLX fM lu cur (K + 1) 5 n f = [] → CDC fM fA lu lev (K + 1) 5 n f b b' g) (4 * (wr e - wr s) + 3) (fun w => fX2_thunk rc (Int32.ofNat d) (Int32.ofNat (f + 1)) w) := by
  intro w a base ob hw hb ho ha
  have hz := hw.1.2.1
  have hf9 : f + 1 ≤ 4100 := by have := hS.2.2.1; omega
  have htk := hN.tk hz
  obtain ⟨n1, n2, n3, n4, n5, n6, n7, n8, n9⟩ := hN
  have hty : gi fA 15 (f + 1) = gi fM 20 f := (hS.2.2.2 f hf).ty
  obtain ⟨w1, p1, p2⟩ := EC.put1 (x := 33) hw (by omega)
  show ∃ u a', fX2_thunk rc (Int32.ofNat d) (Int32.ofNat (f + 1)) w = some (0, u) ∧ _
  unfold fX2_thunk
  rw [ltq, a_at hw.1, p1, lt2q, ltq]
  rw [flx5_1 h24, htk]
  -- what is no NAME of a VARIABLE, no ELEMENT of an ARRAY
  have hno : ∀ {x : Wd} {L0 : List (Nat × Int32)} (X : Nat → Prop), EC kd wr z fA lu lev pn base ob s (a + 1) (a + 1) w1 x L0 (fun b b' _ => b' = b) 0 → (∀ y ∈ L0, y ∈ FLX fM lu cur K 0 n 0) →
      ∃ u a', (lt2 (fX0_put__ 48 x) fun _ w7 => bn2 (rc 2 (Int32.ofNat d) 0 0 w7) fun x8 w9 => lt2 (fX0_put__ 46 w9) fun _ w11 => fX2_thunk_234 rc (Int32.ofNat (f + 1)) (Int32.ofNat s) (Int32.ofNat a) x8 w11) = some (0, u) ∧ EC kd wr z fA lu lev pn base ob e a a' w u (FLX fM lu cur K 0 n 0 ++ misT (TYX fM lu K n) (gi fM 20 f) s) (fun b b' g => ∃ b1, gl g 41 b = jwC 33 b1 ∧ gl g 41 b1 = wdC 23 0 (Int32.ofNat (b + 1)) ∧ b' = b1 + 1 ∧ gl g 41 (b + 1) = wdC 48 0 0 ∧ ∃ b2, (FLX fM lu cur K 0 n 0 = [] → CDC fM fA lu lev K 0 n 0 (b + 2) b2 g) ∧ gl g 41 b2 = wdC 46 0 0 ∧ b1 = b2 + 1) (4 * (wr e - wr s) + 3) := by
    intro x L0 _ hx hL0
    obtain ⟨x1, y1, y2⟩ := EC.put1 (x := 48) hx.1 (by omega)
    obtain ⟨x2, a2, z1, z2⟩ := hX x1 (a + 1 + 1) base ob y2.1 hb ho (by omega)
    have hb2 := z2.2.2.2.2.1
    obtain ⟨x3, q1, q2⟩ := EC.put1 (x := 46) z2.1 (by omega)
    obtain ⟨u, r1, r2⟩ := c_t234 (rc := rc) (X := TYX fM lu K n) (s := s) (f := f) p2 (hx.seq (y2.seq (z2.seq q2))) (by omega) hf9 (by omega)
    refine ⟨u, a2 + 1 + 1, ?_, (r2.wk (fun b b' g hg => ?_) (by omega)).set hwr (fun y => ?_)⟩
    · rw [y1, lt2q]
      have z1' : rc 2 (Int32.ofNat d) 0 0 x1 = some (TYX fM lu K n, x2) := z1
      rw [z1', bn2_so, q1, lt2q]
      exact r1
    · obtain ⟨b1, c1, c2, c3, b2, c4, b3, c5, b4, c6, c7⟩ := hg
      refine ⟨b1, c1, c2, c3, ?_⟩
      rw [c4] at c5
      rw [c5.2] at c6
      exact ⟨c5.1, b4, c6, c7.1, c7.2⟩
    · rw [hty, ← mis_dif h20, List.append_nil, List.nil_append]
      simp only [List.mem_append]
      constructor
      · rintro (g | g)
        · exact Or.inl (Or.inr g)
        · exact Or.inr g
      · rintro ((g | g) | g)
        · exact Or.inl (hL0 y g)
        · exact Or.inl g
        · exact Or.inr g
  obtain ⟨i1, i2⟩ := c_isVar p2.1 (s := s) (by omega)
  by_cases q3 : gi fM 7 n = 3
  · have hk := n7 (Or.inl q3)
    have f1 := n5.mp q3
    obtain ⟨c1, x, c2, c3⟩ := c_find p2.1 hk
    obtain ⟨g1, g2, g3⟩ := hP3 q3
    have hty1 := (hS.is (tk := s) (x := 1) (by decide) (by decide))
    rw [i1 (Or.inl f1), if_pos rfl, c2, lt2q]
    unfold fX2_thunk_42
    rw [ltq, c_fm c3.1 (by omega), if_pos f1]
    unfold fX2_thunk_61
    rw [if_pos rfl, ltq, c_sort c3.1 c1]
    have h164 : gi fA 14 (lu s) ≠ 1 ∨ gi fA 16 (lu s) ≠ 3 → ∃ u a', fX2_thunk_164 rc (Int32.ofNat d) (Int32.ofNat (f + 1)) (Int32.ofNat s) (Int32.ofNat a) (Int32.ofNat (lu s)) true x = some (0, u) ∧ EC kd wr z fA lu lev pn base ob e a a' w u ((if gi fM 7 n = 3 ∧ lu s ≠ 0 ∧ (FO fM (lu s - 1) 1 ∨ gi fM 19 (lu s - 1) = 1) then [] else if gi fM 7 n = 4 then FLX fM lu cur K 1 n 0 else FLX fM lu cur K 0 n 0) ++ misT (if gi fM 7 n = 3 ∧ lu s ≠ 0 ∧ FO fM (lu s - 1) 1 then gi fM 20 (lu s - 1) else if gi fM 7 n = 4 ∨ gi fM 7 n = 3 ∧ lu s ≠ 0 ∧ gi fM 19 (lu s - 1) = 1 then (if gi fM 7 n = 4 then tyE fM (lu s) else gi fM 20 (lu s - 1)) else TYX fM lu K n) (gi fM 20 f) s) (fun b b' g => (if gi fM 7 n = 3 ∧ lu s ≠ 0 ∧ (FO fM (lu s - 1) 1 ∨ gi fM 19 (lu s - 1) = 1) then [] else if gi fM 7 n = 4 then FLX fM lu cur K 1 n 0 else FLX fM lu cur K 0 n 0) ++ misT (if gi fM 7 n = 3 ∧ lu s ≠ 0 ∧ FO fM (lu s - 1) 1 then gi fM 20 (lu s - 1) else if gi fM 7 n = 4 ∨ gi fM 7 n = 3 ∧ lu s ≠ 0 ∧ gi fM 19 (lu s - 1) = 1 then (if gi fM 7 n = 4 then tyE fM (lu s) else gi fM 20 (lu s - 1)) else TYX fM lu K n) (gi fM 20 f) s = [] → CDC fM fA lu lev (K + 1) 5 n f b b' g) (4 * (wr e - wr s) + 3) := by
      intro hor
      have n4' : ¬ gi fM 7 n = 4 := by rw [q3]; decide
      unfold fX2_thunk_164
      rw [ltq, if_pos rfl, c_sort c3.1 c1]
      unfold fX2_thunk_183
      by_cases q1 : gi fA 14 (lu s) = 1
      · have h16l : gi fA 16 (lu s) ≠ 3 := hor.elim (fun g => absurd q1 g) id
        obtain ⟨l0, l1⟩ := hty1.mp q1
        have hc1 : gi fM 7 n = 3 ∧ lu s ≠ 0 ∧ (FO fM (lu s - 1) 1 ∨ gi fM 19 (lu s - 1) = 1) := ⟨q3, l0, l1.symm⟩
        rw [if_pos q1, if_pos hc1]
        obtain ⟨x2, a2, z1, z2⟩ := hP (Or.inl q3) x (a + 1) base ob c3.1 hb ho (by omega)
        have hb2 := z2.2.2.2.2.1
        obtain ⟨x3, y1, y2⟩ := EC.put1 (x := 47) z2.1 (by omega)
        obtain ⟨u, r1, r2⟩ := c_t234 (rc := rc) (X := tyP fM lu cur 1 n) (s := s) (f := f) p2 (c3.seq (z2.seq y2)) (by omega) hf9 (by omega)
        have htp : tyP fM lu cur 1 n = gi fM 20 (lu s - 1) := by
          unfold tyP plT
          rw [if_neg n4', htk, if_neg l0, if_pos l1]
        have his : (if gi fM 7 n = 3 ∧ lu s ≠ 0 ∧ FO fM (lu s - 1) 1 then gi fM 20 (lu s - 1) else if gi fM 7 n = 4 ∨ gi fM 7 n = 3 ∧ lu s ≠ 0 ∧ gi fM 19 (lu s - 1) = 1 then (if gi fM 7 n = 4 then tyE fM (lu s) else gi fM 20 (lu s - 1)) else TYX fM lu K n) = gi fM 20 (lu s - 1) := by
          rcases l1 with l1 | l1
          · by_cases q9 : gi fM 7 n = 3 ∧ lu s ≠ 0 ∧ FO fM (lu s - 1) 1
            · rw [if_pos q9]
            · rw [if_neg q9, if_pos (Or.inr ⟨q3, l0, l1⟩), if_neg n4']
          · rw [if_pos ⟨q3, l0, l1⟩]
        rw [his]
        refine ⟨u, a2 + 1 + 1, ?_, (r2.wk (fun b b' g hg _ => ?_) (by omega)).cL ?_⟩
        · have z1' : rc 7 (Int32.ofNat d) 0 0 x = some (tyP fM lu cur 1 n, x2) := z1
          rw [z1', bn2_so, y1, lt2q]
          exact r1
        · obtain ⟨b1, d1, d2, d3, b2, d4, b3, d5, d6⟩ := hg
          rw [cdc5_1n h24 h16, htk]
          refine ⟨b1, d1, d2, d3, ?_⟩
          rw [if_neg (fun g => h16l g.2.2), if_pos (Or.inl ⟨q3, q1⟩)]
          rw [d4] at d5
          exact ⟨b3, d5 (g3 q1), d6.1, d6.2⟩
        · rw [g3 q1, htp, hty, ← mis_dif h20]
          unfold notD
          rw [if_neg l0]
          rfl
      · have hc1 : ¬ (gi fM 7 n = 3 ∧ lu s ≠ 0 ∧ (FO fM (lu s - 1) 1 ∨ gi fM 19 (lu s - 1) = 1)) := fun g => q1 (hty1.mpr ⟨g.2.1, g.2.2.symm⟩)
        have hc2 : ¬ (gi fM 7 n = 3 ∧ lu s ≠ 0 ∧ FO fM (lu s - 1) 1) := fun g => hc1 ⟨g.1, g.2.1, Or.inl g.2.2⟩
        have hc3 : ¬ (gi fM 7 n = 4 ∨ gi fM 7 n = 3 ∧ lu s ≠ 0 ∧ gi fM 19 (lu s - 1) = 1) := fun g => g.elim n4' (fun g => hc1 ⟨g.1, g.2.1, Or.inr g.2.2⟩)
        rw [if_neg q1, if_neg hc1, if_neg n4', if_neg hc2, if_neg hc3]
        obtain ⟨u, a', r1, r2⟩ := hno (fun _ => True) c3 (fun y hy => by
          rw [g1]
          unfold flY
          unfold notD at hy
          by_cases l0 : lu s = 0
          · rw [if_pos l0] at hy ⊢
            exact hy
          · rw [if_neg l0] at hy
            exact absurd hy (by simp))
        refine ⟨u, a', r1, r2.wk (fun b b' g hg hL => ?_) (Nat.le_refl _)⟩
        obtain ⟨b1, d1, d2, d3, d4, b2, d5, d6⟩ := hg
        rw [cdc5_1n h24 h16, htk]
        refine ⟨b1, d1, d2, d3, ?_⟩
        rw [if_neg (fun g => q1 g.2.1), if_neg (fun g => g.elim (fun g => q1 g.2) (fun g => n4' g.1))]
        exact ⟨d4, b2, d5 (List.append_eq_nil_iff.mp hL).1, d6⟩
    by_cases q1 : gi fA 14 (lu s) = 1
    · rw [if_pos q1, ltq]
      obtain ⟨f1', f2'⟩ := c_formal c3.1 c1
      by_cases q16 : gi fA 16 (lu s) = 3
      · obtain ⟨l0, l1⟩ := hty1.mp q1
        have hc1 : gi fM 7 n = 3 ∧ lu s ≠ 0 ∧ (FO fM (lu s - 1) 1 ∨ gi fM 19 (lu s - 1) = 1) := ⟨q3, l0, l1.symm⟩
        have l2 : FO fM (lu s - 1) 1 := by
          have := (hS.sy l0).fml.mp (by rw [show lu s - 1 + 1 = lu s by omega]; exact q16)
          rcases l1 with l1 | l1
          · exact absurd (l1.symm.trans this.1) (by decide)
          · exact l1
        rw [f1' q16, if_pos rfl, ltq, ltq, c_hops c3.1 c1, c_slot c3.1 c1, if_pos hc1, if_pos ⟨q3, l0, l2⟩]
        obtain ⟨x2, y1, y2⟩ := EC.put (x := 21) (y := hpC fA lev (lu s)) (c := gi fA 18 (lu s)) c3.1 (by omega)
        obtain ⟨x3, y3, y4⟩ := EC.put1 (x := 45) y2.1 (by omega)
        obtain ⟨x4, y5, y6⟩ := EC.put1 (x := 46) y4.1 (by omega)
        obtain ⟨y7, y8⟩ := EC.take y6.1 (k := 2) (by omega) (by rw [hk]; rfl)
        obtain ⟨u, r1, r2⟩ := c_t234 (rc := rc) (X := gi fA 15 (lu s)) (s := s) (f := f) p2 (c3.seq (y2.seq (y4.seq (y6.seq y8)))) (by omega) hf9 (by omega)
        rw [n8 q3]
        rw [n8 q3] at n3
        refine ⟨u, a + 1 + 1 + 1 + 1 + 1, ?_, (r2.wk (fun b b' g hg _ => ?_) (by omega)).cL ?_⟩
        · rw [y1, lt2q, y3, lt2q, y5, lt2q, y7, lt2q, ltq, c_type y8.1 c1]
          exact r1
        · obtain ⟨b1, d1, d2, d3, b2, d4, b3, d5, b4, d6, b5, d7, d8⟩ := hg
          rw [cdc5_1n h24 h16, htk]
          refine ⟨b1, d1, d2, d3, ?_⟩
          rw [if_pos ⟨q3, q1, q16⟩]
          rw [d4] at d5
          rw [d5.2] at d6
          rw [d6.2] at d7
          exact ⟨d5.1, d6.1, d7.1, by rw [d8, d7.2]⟩
        · rw [hS.ty l0, hty, ← mis_dif h20]
          unfold notD
          rw [if_neg l0]
          rfl
      · rw [f2' q16, if_neg (by decide)]
        exact h164 (Or.inr q16)
    · rw [if_neg q1]
      exact h164 (Or.inl q1)
  · have hc1 : ¬ (gi fM 7 n = 3 ∧ lu s ≠ 0 ∧ (FO fM (lu s - 1) 1 ∨ gi fM 19 (lu s - 1) = 1)) := fun g => q3 g.1
    have hc2 : ¬ (gi fM 7 n = 3 ∧ lu s ≠ 0 ∧ FO fM (lu s - 1) 1) := fun g => q3 g.1
    rw [if_neg hc1, if_neg hc2]
    have nf1 : ¬ gi fA 8 s = 1 := fun g => q3 (n5.mpr g)
    by_cases q4 : gi fM 7 n = 4
    · have hk := n7 (Or.inr q4)
      obtain ⟨c1, x, c2, c3⟩ := c_find p2.1 hk
      obtain ⟨g1, g2, g3, g4⟩ := hP4 q4
      rw [i1 (Or.inr (n6.mp q4)), if_pos rfl, c2, lt2q, if_pos q4, if_pos (Or.inl q4), if_pos q4]
      unfold fX2_thunk_42
      rw [ltq, c_fm c3.1 (by omega), if_neg nf1]
      unfold fX2_thunk_61
      rw [if_neg (by decide)]
      unfold fX2_thunk_164
      rw [ltq, if_neg (by decide), c_sort c3.1 c1]
      unfold fX2_thunk_183
      by_cases q2 : gi fA 14 (lu s) = 2
      · rw [if_pos q2]
        obtain ⟨x2, a2, z1, z2⟩ := hP (Or.inr q4) x (a + 1) base ob c3.1 hb ho (by omega)
        have hb2 := z2.2.2.2.2.1
        obtain ⟨x3, y1, y2⟩ := EC.put1 (x := 47) z2.1 (by omega)
        obtain ⟨u, r1, r2⟩ := c_t234 (rc := rc) (X := tyP fM lu cur 1 n) (s := s) (f := f) p2 (c3.seq (z2.seq y2)) (by omega) hf9 (by omega)
        have htp : tyP fM lu cur 1 n = tyE fM (lu s) := by
          unfold tyP
          rw [if_pos q4, htk]
        refine ⟨u, a2 + 1 + 1, ?_, (r2.wk (fun b b' g hg hL => ?_) (by omega)).set hwr (fun y => ?_)⟩
        · have z1' : rc 7 (Int32.ofNat d) 0 0 x = some (tyP fM lu cur 1 n, x2) := z1
          rw [z1', bn2_so, y1, lt2q]
          exact r1
        · obtain ⟨b1, d1, d2, d3, b2, d4, b3, d5, d6⟩ := hg
          rw [cdc5_1n h24 h16, htk]
          refine ⟨b1, d1, d2, d3, ?_⟩
          rw [if_neg (fun g => q3 g.1), if_pos (Or.inr ⟨q4, q2⟩)]
          rw [d4] at d5
          exact ⟨b3, d5 (by rw [g1]; exact (List.append_eq_nil_iff.mp hL).1), d6.1, d6.2⟩
        · rw [htp, hty, ← mis_dif h20, List.append_nil, g1]
          simp only [List.mem_append]
          constructor
          · rintro (g | g)
            · exact Or.inl (Or.inr g)
            · exact Or.inr g
          · rintro ((g | g) | g)
            · exact Or.inl (g2 g)
            · exact Or.inl g
            · exact Or.inr g
      · rw [if_neg q2]
        obtain ⟨u, a', r1, r2⟩ := hno (fun _ => True) c3 (fun y hy => by rw [g3]; exact g2 hy)
        refine ⟨u, a', r1, (r2.wk (fun b b' g hg hL => ?_) (Nat.le_refl _)).cL (by rw [g3, g4])⟩
        obtain ⟨b1, d1, d2, d3, d4, b2, d5, d6⟩ := hg
        rw [cdc5_1n h24 h16, htk]
        refine ⟨b1, d1, d2, d3, ?_⟩
        rw [if_neg (fun g => q3 g.1), if_neg (fun g => g.elim (fun g => q3 g.1) (fun g => q2 g.2))]
        exact ⟨d4, b2, d5 (by rw [g3]; exact (List.append_eq_nil_iff.mp hL).1), d6⟩
    · have hc3 : ¬ (gi fM 7 n = 4 ∨ gi fM 7 n = 3 ∧ lu s ≠ 0 ∧ gi fM 19 (lu s - 1) = 1) := fun g => g.elim q4 (fun g => q3 g.1)
      have hnv : ¬ (gi fA 8 s = 1 ∨ gi fA 8 s = 2 ∨ gi fA 8 s = 3) := fun g => g.elim nf1 (fun g => q4 (n6.mpr g))
      rw [i2 hnv, if_neg (by decide), if_neg q4, if_neg hc3]
      unfold fX2_thunk_42
      rw [ltq, c_fm p2.1 (by omega), if_neg nf1]
      unfold fX2_thunk_61
      rw [if_neg (by decide)]
      unfold fX2_thunk_164
      have h0s : fX8_sort 0 w1 = 0 := by
        rw [show (0 : Int32) = Int32.ofNat 0 from rfl, c_sort p2.1 (by omega)]
        exact hS.1
      rw [ltq, if_neg (by decide), h0s]
      unfold fX2_thunk_183
      rw [if_neg (by decide)]
      obtain ⟨u, a', r1, r2⟩ := hno (fun _ => True) (EC.no p2.1) (fun y hy => absurd hy (by simp))
      refine ⟨u, a', r1, r2.wk (fun b b' g hg hL => ?_) (Nat.le_refl _)⟩
      obtain ⟨b1, d1, d2, d3, d4, b2, d5, d6⟩ := hg
      rw [cdc5_1n h24 h16, htk]
      refine ⟨b1, d1, d2, d3, ?_⟩
      rw [if_neg (fun g => q3 g.1), if_neg (fun g => g.elim (fun g => q3 g.1) (fun g => q4 g.1))]
      exact ⟨d4, b2, d5 (List.append_eq_nil_iff.mp hL).1, d6⟩
end EC
