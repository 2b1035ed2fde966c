/-! PASS 2, THE CLASS: PRIMARIES -/
section FL
variable {fM fA : Wd} {lu : Nat → Nat} {cur lev k n f l : Nat}
/-- an ELEMENT's faults -/
def elL (fM : Wd) (lu : Nat → Nat) (cur k n : Nat) (xs : List Nat) : List (Nat × Int32) := notD (lu (nd fM 12 n)) (nd fM 12 n) ++ xs.flatMap (fun x => FLX fM lu cur k 0 x 0 ++ misT (TYX fM lu k x) 1 (nd fM 12 x)) ++ (if lu (nd fM 12 n) = 0 then [] else if gi fM 19 (lu (nd fM 12 n) - 1) = 2 ∨ FO fM (lu (nd fM 12 n) - 1) 2 then (if (gi fM 19 (lu (nd fM 12 n) - 1) = 2 ∧ gi fM 24 (lu (nd fM 12 n) - 1) ≠ gi fM 9 n) ∨ (FO fM (lu (nd fM 12 n) - 1) 2 ∧ ¬ gi fM 9 n ≤ 3) then [(nd fM 12 n, 5)] else []) else misS fM (lu (nd fM 12 n)) (nd fM 12 n))
theorem flx0_1 (h : gi fM 7 n = 1 ∨ gi fM 7 n = 2) : FLX fM lu cur (k + 1) 0 n f = [] := by
  rw [FLX]
  dsimp only
  rw [if_pos rfl, if_pos h]
theorem flx0_9 (h : gi fM 7 n = 9) : FLX fM lu cur (k + 1) 0 n f = FLX fM lu cur k 0 (nd fM 8 n) 0 := by
  rw [FLX]
  dsimp only
  rw [if_pos rfl, if_neg (by rw [h]; decide), if_pos h]
theorem flx0_3 (h : gi fM 7 n = 3) : FLX fM lu cur (k + 1) 0 n f = flY fM (lu (nd fM 12 n)) (nd fM 12 n) := by
  rw [FLX]
  dsimp only
  rw [if_pos rfl, if_neg (by rw [h]; decide), if_neg (by rw [h]; decide), if_pos h]
theorem flx0_4 {xs : List Nat} (h : gi fM 7 n = 4) (hx : nxL fM k (gi fM 8 n) = xs) : FLX fM lu cur (k + 1) 0 n f = elL fM lu cur k n xs := by
  rw [FLX]
  dsimp only
  rw [if_pos rfl, if_neg (by rw [h]; decide), if_neg (by rw [h]; decide), if_neg (by rw [h]; decide), if_pos h, hx]
  rfl
theorem flx1_4 {xs : List Nat} (h : gi fM 7 n = 4) (hx : nxL fM k (gi fM 8 n) = xs) : FLX fM lu cur (k + 1) 1 n f = elL fM lu cur k n xs := by
  rw [FLX]
  dsimp only
  rw [if_neg (by decide), if_pos rfl, if_pos h, hx]
  rfl
theorem flx0_5 {xs : List Nat} (h : gi fM 7 n = 5) (hx : nxL fM k (gi fM 8 n) = xs) : FLX fM lu cur (k + 1) 0 n f = notD (lu (nd fM 12 n)) (nd fM 12 n) ++ (if lu (nd fM 12 n) = 0 ∨ gi fM 19 (lu (nd fM 12 n) - 1) ≠ 3 then xs.flatMap (fun x => FLX fM lu cur k 4 x 0) ++ (if lu (nd fM 12 n) = 0 then [] else if FO fM (lu (nd fM 12 n) - 1) 3 then [(nd fM 12 n, 5)] ++ (if f = 0 ∧ gi fM 20 (lu (nd fM 12 n) - 1) = 0 then [(nd fM 12 n, 4)] else []) else misS fM (lu (nd fM 12 n)) (nd fM 12 n))
        else (if f = 0 ∧ gi fM 20 (lu (nd fM 12 n) - 1) = 0 then [(nd fM 12 n, 4)] else []) ++ (if gi fM 31 (nd fM 24 (lu (nd fM 12 n) - 1)) ≠ gi fM 9 n then [(nd fM 12 n, 5)] else []) ++ (xs.zipIdx).flatMap (fun xi => if xi.2 < nd fM 31 (nd fM 24 (lu (nd fM 12 n) - 1)) then FLX fM lu cur k 5 xi.1 (nd fM 32 (nd fM 24 (lu (nd fM 12 n) - 1)) + xi.2) else FLX fM lu cur k 4 xi.1 0)) := by
  rw [FLX]
  dsimp only
  rw [if_pos rfl, if_neg (by rw [h]; decide), if_neg (by rw [h]; decide), if_neg (by rw [h]; decide), if_neg (by rw [h]; decide), if_pos h, hx]
theorem flx1_3 (h : gi fM 7 n = 3) : FLX fM lu cur (k + 1) 1 n f = notD (lu (nd fM 12 n)) (nd fM 12 n) ++ (if lu (nd fM 12 n) = 0 ∨ gi fM 19 (lu (nd fM 12 n) - 1) = 1 ∨ FO fM (lu (nd fM 12 n) - 1) 1 then [] else if f = 0 ∧ gi fM 19 (lu (nd fM 12 n) - 1) = 3 ∧ gi fM 20 (lu (nd fM 12 n) - 1) ≠ 0 ∧ inPr fM (gi fM 24 (lu (nd fM 12 n) - 1)) 9000 (Int32.ofNat cur) = true then [] else misS fM (lu (nd fM 12 n)) (nd fM 12 n)) := by
  rw [FLX]
  dsimp only
  rw [if_neg (by decide), if_pos rfl, if_neg (by rw [h]; decide)]
theorem cdc0_1 (h : gi fM 7 n = 1) {b b' : Nat} {g : Wd} : CDC fM fA lu lev (k + 1) 0 n f b b' g = (gl g 41 b = wdC 18 0 0 ∧ gl g 41 (b + 1) = gl fA 7 (nd fM 12 n) ∧ b' = b + 2) := by
  rw [CDC]
  dsimp only
  rw [if_pos rfl, if_pos h]
theorem cdc0_2 (h : gi fM 7 n = 2) {b b' : Nat} {g : Wd} : CDC fM fA lu lev (k + 1) 0 n f b b' g = (gl g 41 b = wdC 18 0 0 ∧ gl g 41 (b + 1) = (if gi fM 8 n = 1 then 1 else 0) ∧ b' = b + 2) := by
  rw [CDC]
  dsimp only
  rw [if_pos rfl, if_neg (by rw [h]; decide), if_pos h]
theorem cdc0_9 (h : gi fM 7 n = 9) {b b' : Nat} {g : Wd} : CDC fM fA lu lev (k + 1) 0 n f b b' g = CDC fM fA lu lev k 0 (nd fM 8 n) 0 b b' g := by
  rw [CDC]
  dsimp only
  rw [if_pos rfl, if_neg (by rw [h]; decide), if_neg (by rw [h]; decide), if_pos h]
theorem cdc0_3 (h : gi fM 7 n = 3) {b b' : Nat} {g : Wd} : CDC fM fA lu lev (k + 1) 0 n f b b' g = (if gi fA 14 (lu (nd fM 12 n)) = 3 then gl g 41 b = wdC 41 0 0 ∧ puC fA lev (lu (nd fM 12 n)) (b + 1) (b + 2) g ∧ gl g 41 (b + 2) = wdC 42 0 0 ∧ b' = b + 3 else vaC fA lev (lu (nd fM 12 n)) b b' g) := by
  rw [CDC]
  dsimp only
  rw [if_pos rfl, if_neg (by rw [h]; decide), if_neg (by rw [h]; decide), if_neg (by rw [h]; decide), if_pos h]
def elCA (fM fA : Wd) (lu : Nat → Nat) (lev k n : Nat) (xs : List Nat) (b b' : Nat) (g : Wd) : Prop := ∃ b0 b1, puC fA lev (lu (nd fM 12 n)) b b0 g ∧ rwM (fun x _ b b' => CDC fM fA lu lev k 0 x 0 b b' g) xs 0 b0 b1 ∧ gl g 41 b1 = wdC 25 0 (gi fM 9 n) ∧ b' = b1 + 1
theorem cdc0_4 {xs : List Nat} (h : gi fM 7 n = 4) (hx : nxL fM k (gi fM 8 n) = xs) {b b' : Nat} {g : Wd} : CDC fM fA lu lev (k + 1) 0 n f b b' g = ∃ b1, elCA fM fA lu lev k n xs b b1 g ∧ gl g 41 b1 = wdC 24 0 0 ∧ b' = b1 + 1 := by
  rw [CDC]
  dsimp only
  rw [if_pos rfl, if_neg (by rw [h]; decide), if_neg (by rw [h]; decide), if_neg (by rw [h]; decide), if_neg (by rw [h]; decide), if_pos h, hx]
  rfl
theorem cdc1_4 {xs : List Nat} (h : gi fM 7 n = 4) (hx : nxL fM k (gi fM 8 n) = xs) {b b' : Nat} {g : Wd} : CDC fM fA lu lev (k + 1) 1 n f b b' g = elCA fM fA lu lev k n xs b b' g := by
  rw [CDC]
  dsimp only
  rw [if_neg (by decide), if_pos rfl, if_pos h, hx]
  rfl
theorem cdc1_3 (h : gi fM 7 n = 3) {b b' : Nat} {g : Wd} : CDC fM fA lu lev (k + 1) 1 n f b b' g = (if gi fA 14 (lu (nd fM 12 n)) = 3 then gl g 41 b = wdC 20 (Int32.ofNat lev - (gi fA 17 (lu (nd fM 12 n)) + 1)) 5 ∧ b' = b + 1 else plC fA lev (lu (nd fM 12 n)) b b' g) := by
  rw [CDC]
  dsimp only
  rw [if_neg (by decide), if_pos rfl, if_neg (by rw [h]; decide)]
theorem cdc0_5 {xs : List Nat} (h : gi fM 7 n = 5) (hx : nxL fM k (gi fM 8 n) = xs) {b b' : Nat} {g : Wd} : CDC fM fA lu lev (k + 1) 0 n f b b' g = (gi fM 19 (lu (nd fM 12 n) - 1) = 3 → gl g 41 b = wdC 41 0 0 ∧ ∃ b1, rwM (fun x i b b' => CDC fM fA lu lev k 5 x (nd fM 32 (nd fM 24 (lu (nd fM 12 n) - 1)) + i) b b' g) xs 0 (b + 1) b1 ∧ puC fA lev (lu (nd fM 12 n)) b1 (b1 + 1) g ∧ gl g 41 (b1 + 1) = wdC 42 0 0 ∧ b' = b1 + 2) := by
  rw [CDC]
  dsimp only
  rw [if_pos rfl, if_neg (by rw [h]; decide), if_neg (by rw [h]; decide), if_neg (by rw [h]; decide), if_neg (by rw [h]; decide), if_neg (by rw [h]; decide), if_pos h, hx]
theorem rwF9_zip {FL : Nat → Nat → List (Nat × Int32)} : ∀ (xs : List Nat) (i : Nat), rwF9 FL xs i = (xs.zipIdx i).flatMap (fun xi => FL xi.1 xi.2) := by
  intro xs
  induction xs with
  | nil => exact fun _ => rfl
  | cons x r ih =>
    intro i
    show FL x i ++ rwF9 FL r (i + 1) = _
    rw [ih, List.zipIdx_cons, List.flatMap_cons]
theorem rwF9_mem {FL : Nat → Nat → List (Nat × Int32)} {y : Nat × Int32} : ∀ (xs : List Nat) (i : Nat), y ∈ rwF9 FL xs i → ∃ x ∈ xs, ∃ j, y ∈ FL x j := by
  intro xs
  induction xs with
  | nil => exact fun _ h => absurd h (by simp [rwF9])
  | cons x r ih =>
    intro i h
    rcases List.mem_append.mp (show y ∈ FL x i ++ rwF9 FL r (i + 1) from h) with h | h
    · exact ⟨x, List.mem_cons_self, i, h⟩
    · obtain ⟨x', h1, j, h2⟩ := ih _ h
      exact ⟨x', List.mem_cons_of_mem _ h1, j, h2⟩
end FL
/-- a PRIMARY from TOKEN t to e at DEPTH d: its form fm; X is left on the operands -/
def SPP (kd wr : Nat → Nat) (z : Nat) (fA : Wd) (lu : Nat → Nat) (lev : Nat) (pn : Nat → Int32) (d t e : Nat) (X : Int32) (L : List (Nat × Int32)) (P : Nat → Nat → Wd → Prop) (T : Nat) (fm : Int32) (r : Wd → Option (Int32 × Wd)) : Prop :=
  ∀ w a base ob, GC2 kd wr z fA lu lev pn t a base ob w → base ≤ 10 * (d + 1) → ob ≤ 9 * (d + 1) → a + T ≤ 36872 → ∃ u a', r w = some (fm, fX10_push X (Int32.ofNat t) u) ∧ EC kd wr z fA lu lev pn base ob e a a' w u L P T
section EC
variable {kd wr : Nat → Nat} {z : Nat} {fA fM : Wd} {lu : Nat → Nat} {lev cur : Nat} {pn : Nat → Int32} {base ob t t1 t2 t3 a a1 a2 a3 n s e d f l : Nat} {w w1 w2 w3 w4 u v : Wd} {L L1 L2 L3 : List (Nat × Int32)} {P P1 P2 P3 : Nat → Nat → Wd → Prop} {B B1 B2 B3 : Nat}
theorem EC.b (h : EC kd wr z fA lu lev pn base ob t a a1 w u L P B) : a ≤ a1 ∧ a1 ≤ a + B := h.2.2.2.2.1
theorem EC.nz (h : EC kd wr z fA lu lev pn base ob t a a1 w u L P B) : ∀ x ∈ L, x.2 ≠ 0 := h.2.1
/-- ( EXPR ) -/
theorem c_group {rc : TX2_typed} {X : Int32} (hd : d < 40) (hk : kd t = 43) (hke : kd e = 44) (he : e < z) (hX : SPE kd wr z fA lu lev pn (d + 1) (t + 1) e X L P B (fun w => rc 2 (Int32.ofNat (d + 1)) 0 0 w)) : SPP kd wr z fA lu lev pn d t (e + 1) X L P B 4 (fun w => fX2_unnamed rc (Int32.ofNat d) w) := by
  intro w a base ob hw hb ho ha
  obtain ⟨o1, o2⟩ := EC.opn hw (d := d) (by omega) (by omega) hd
  obtain ⟨u, a', u1, u2⟩ := hX _ a base ob o2.1 hb ho ha
  obtain ⟨n1, n2⟩ := EC.need u2.1 hke (by omega)
  refine ⟨_, a', ?_, ((o2.seq (u2.seq n2)).wk (fun b b' g ⟨b1, g1, b2, g2, g3⟩ => by rw [g1] at g2; rw [g3]; exact g2) (by omega)).cL (by simp)⟩
  show fX2_unnamed rc (Int32.ofNat d) w = _
  unfold fX2_unnamed
  have u1' : rc 2 (Int32.ofNat (d + 1)) 0 0 (si w 4 9 (Int32.ofNat (t + 1))) = some (X, u) := u1
  rw [ltq, ltq, a_at hw.1, a_kind hw.1, if_pos (show Int32.ofNat (kd t) = 43 by rw [hk]; rfl), o1, lt2q, u1', bn2_so, ltq, ltq, show (44 : Int32) = Int32.ofNat 44 from rfl, n1]
/-- a number or a truth value -/
theorem c_lit {rc : TX2_typed} (hk : kd t = 3 ∨ kd t = 23 ∨ kd t = 24) : SPP kd wr z fA lu lev pn d t (t + 1) (if kd t = 3 then 1 else 2) [] (fun b b' g => gl g 41 b = wdC 18 0 0 ∧ gl g 41 (b + 1) = (if kd t = 3 then gl fA 7 t else if kd t = 23 then 1 else 0) ∧ b' = b + 2) 2 6 (fun w => fX2_unnamed rc (Int32.ofNat d) w) := by
  intro w a base ob hw hb ho ha
  have hz := hw.a_lt
  obtain ⟨w1, p1, p2⟩ := EC.put1 (x := 18) hw (by omega)
  obtain ⟨w2, q1, q2⟩ := EC.word (x := if kd t = 3 then gl fA 7 t else if kd t = 23 then 1 else 0) p2.1 (by omega)
  obtain ⟨r1, r2⟩ := EC.take q2.1 (k := Int32.ofNat (kd t)) (by omega) rfl
  refine ⟨_, a + 1 + 1, ?_, ((p2.seq (q2.seq r2)).wk (fun b b' g hg => ?_) (by omega)).cL (by simp)⟩
  · have e3 : (Int32.ofNat (kd t) = 3 ↔ kd t = 3) := eq_iN (a := kd t) (b := 3) (by omega) (by omega)
    have e23 : (Int32.ofNat (kd t) = 23 ↔ kd t = 23) := eq_iN (a := kd t) (b := 23) (by omega) (by omega)
    have e24 : (Int32.ofNat (kd t) = 24 ↔ kd t = 24) := eq_iN (a := kd t) (b := 24) (by omega) (by omega)
    have h123 : ∀ x : Int64, x = (if kd t = 3 then gl fA 7 t else if kd t = 23 then 1 else 0) → fX2_unnamed_123 rc x (Int32.ofNat t) (Int32.ofNat (kd t)) w1 = some (6, fX10_push (if kd t = 3 then 1 else 2) (Int32.ofNat t) (si w2 4 9 (Int32.ofNat (t + 1)))) := by
      intro x hx
      unfold fX2_unnamed_123
      rw [hx, q1, lt2q, r1, lt2q, ltq, ltq]
      by_cases q3 : kd t = 3
      · rw [if_pos (e3.mpr q3), if_pos q3]
      · rw [if_neg (fun g => q3 (e3.mp g)), if_neg q3]
    have h89 : ∀ x : Int64, (kd t ≠ 3 → x = if kd t = 23 then 1 else 0) → fX2_unnamed_89 rc x (Int32.ofNat t) (Int32.ofNat (kd t)) w = some (6, fX10_push (if kd t = 3 then 1 else 2) (Int32.ofNat t) (si w2 4 9 (Int32.ofNat (t + 1)))) := by
      intro x hx
      unfold fX2_unnamed_89
      rw [p1, lt2q]
      by_cases q3 : kd t = 3
      · rw [if_pos (e3.mpr q3), ltq]
        refine h123 _ ?_
        unfold fX9_numberAt
        rw [ltq, rgl_iN (by omega) (by omega), p2.1.2.2.2.2.2.2.1 t, if_pos q3]
      · rw [if_neg (fun g => q3 (e3.mp g))]
        refine h123 _ ?_
        rw [hx q3, if_neg q3]
    show fX2_unnamed rc (Int32.ofNat d) w = _
    unfold fX2_unnamed
    rw [ltq, ltq, a_at hw.1, a_kind hw.1, if_neg (show ¬ (Int32.ofNat (kd t) = 43) from of_ne (k := 43) (by omega) (by omega) (by omega))]
    rcases hk with h3 | h3 | h3
    · rw [if_pos (e3.mpr h3), if_neg (fun g => by have := e23.mp g; omega)]
      exact h89 _ (fun g => absurd h3 g)
    · rw [if_neg (fun g => by have := e3.mp g; omega), if_pos (e23.mpr h3), if_pos (e23.mpr h3)]
      exact h89 _ (fun _ => by rw [if_pos h3])
    · rw [if_neg (fun g => by have := e3.mp g; omega), if_neg (fun g => by have := e23.mp g; omega), if_pos (e24.mpr h3), if_neg (fun g => by have := e23.mp g; omega)]
      exact h89 _ (fun _ => by rw [if_neg (by omega)])
  · obtain ⟨b1, g1, b2, g2, g3⟩ := hg
    rw [g1.2] at g2
    exact ⟨g1.1, g2.1, by rw [g3, g2.2]⟩
end EC
