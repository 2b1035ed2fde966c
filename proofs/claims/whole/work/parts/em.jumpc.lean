/-! PASS 2, THE CLASS: jumps; symbols -/
/-- a word that goes to n -/
def jwC (x : Int32) (n : Nat) : Int64 := wdC x 0 0 + Int32.toInt64 (Int32.ofNat n)
/-- how many frames further out -/
def hpC (fA : Wd) (lev s : Nat) : Int32 := if gi fA 16 s = 1 then 63 else Int32.ofNat lev - gi fA 17 s
/-- what a symbol is is left -/
def puC (fA : Wd) (lev s b b' : Nat) (g : Wd) : Prop := gl g 41 b = (if gi fA 14 s = 2 then wdC (if gi fA 16 s = 3 then 19 else 20) (hpC fA lev s) (gi fA 18 s) else if gi fA 16 s = 3 then wdC 21 (hpC fA lev s) (gi fA 18 s) else wdC 22 (hpC fA lev s) (Int32.ofNat s)) ∧ b' = b + 1
/-- a use of a formal -/
def usC (fA : Wd) (lev s : Nat) (md : Int32) (b b' : Nat) (g : Wd) : Prop := gl g 41 b = wdC 21 (hpC fA lev s) (gi fA 18 s) ∧ gl g 41 (b + 1) = wdC 44 0 md ∧ b' = b + 2
/-- a VARIABLE's value -/
def vaC (fA : Wd) (lev s b b' : Nat) (g : Wd) : Prop := (gi fA 16 s = 3 ∧ usC fA lev s 0 b b' g) ∨ (gi fA 16 s ≠ 3 ∧ gl g 41 b = wdC 19 (hpC fA lev s) (gi fA 18 s) ∧ b' = b + 1)
/-- its place -/
def plC (fA : Wd) (lev s b b' : Nat) (g : Wd) : Prop := (gi fA 16 s = 3 ∧ usC fA lev s 1 b b' g) ∨ (gi fA 16 s ≠ 3 ∧ gl g 41 b = wdC 20 (hpC fA lev s) (gi fA 18 s) ∧ b' = b + 1)
section EC
variable {kd wr : Nat → Nat} {z : Nat} {fA : Wd} {lu : Nat → Nat} {lev : Nat} {pn : Nat → Int32} {base ob t t1 t2 t3 a a1 a2 a3 n s : Nat} {w w1 w2 w3 w4 u v : Wd} {L L1 L2 L3 : List (Nat × Int32)} {P P1 P2 P3 : Nat → Nat → Wd → Prop} {B B1 B2 B3 : Nat}
theorem GC2.patch {x : Int32} {p : Nat} (h : GC2 kd wr z fA lu lev pn t n base ob v) (hp : p < 36872) (hw : gl v 41 p = wdC x 0 0) (hx : Int64.toInt32 (wdC x 0 0 &&& 4194303) = 0) : ∃ y, fX0_patch (Int32.ofNat p) v = (y, sl v 41 p (jwC x n)) ∧ GC2 kd wr z fA lu lev pn t n base ob (sl v 41 p (jwC x n)) := by
  obtain ⟨h1, h2, h3, h4, h5, h6⟩ := h
  have hO : OFF (fun k j => k = 41 ∧ j = p) (sl v 41 p (jwC x n)) v := OFF.sl ⟨rfl, rfl⟩
  have hv : (wdC x 0 0 - Int32.toInt64 0) + Int32.toInt64 (gi v 40 1) = jwC x n := by
    rw [h3, show Int32.toInt64 0 = 0 from rfl, Int64.sub_zero]
    rfl
  refine ⟨fX0_operand (wdC x 0 0) (sl v 41 p (jwC x n)), ?_, h1.off hO (fun k j hk => by omega), h2, h3, h4, h5, h6.off hO (fun k j hk => by omega)⟩
  unfold fX0_patch
  have ho : fX0_operand (wdC x 0 0) v = 0 := hx
  rw [rgl_iN hp (by omega), hw, ltq, ho, ltq, hv]
  unfold fX0_set
  rw [rsl_iN hp (by omega)]
  rfl
theorem EC.cL (h : EC kd wr z fA lu lev pn base ob t a a1 w u L P B) (e : L1 = L) : EC kd wr z fA lu lev pn base ob t a a1 w u L1 P B := by rw [e]; exact h
theorem GC2.a_lt (h : GC2 kd wr z fA lu lev pn t a base ob w) : t < z ∧ z ≤ 8193 := ⟨h.1.2.2.2.2.2.2.1, h.1.2.1⟩
/-- one jump to behind what's made next -/
theorem EC.jmp {x : Int32} (h0 : EC kd wr z fA lu lev pn base ob t a (a + 1) w w1 [] (fun b b' g => gl g 41 b = wdC x 0 0 ∧ b' = b + 1) 1) (h : EC kd wr z fA lu lev pn base ob t1 (a + 1) a1 w1 w2 L P B) (ha : a < 36872) (hx : Int64.toInt32 (wdC x 0 0 &&& 4194303) = 0) :
    ∃ y u, fX0_patch (Int32.ofNat a) w2 = (y, u) ∧ EC kd wr z fA lu lev pn base ob t1 a a1 w u L (fun b b' g => gl g 41 b = jwC x b' ∧ P (b + 1) b' g) (B + 1) := by
  obtain ⟨h1, h2, h3, h4, h5, h6⟩ := h
  obtain ⟨g1, g2, g3, g4, g5, g6⟩ := h0
  have hw : gl w2 41 a = wdC x 0 0 := by
    rw [(h4 41 a (by unfold F2; omega)).2]
    exact (g6 w1 (fun _ _ _ => rfl)).1
  obtain ⟨y, p1, p2⟩ := GC2.patch h1 ha hw hx
  have hO : OFF (fun k j => k = 41 ∧ j = a) (sl w2 41 a (jwC x a1)) w2 := OFF.sl ⟨rfl, rfl⟩
  refine ⟨y, _, p1, p2, h2, ?_, OFF.tr (hO.mono fun k j hk => by unfold F2; omega) (OFF.tr (h4.mono fun k j hk => hk.le (by omega) (Nat.le_refl _) (Nat.le_refl _)) g4), by omega, fun g hg => ⟨?_, ?_⟩⟩
  · show (gi _ 3 6, gi _ 3 7) = _
    rw [(hO 3 6 (by omega)).1, (hO 3 7 (by omega)).1]
    exact h3.trans (by rw [g3]; rfl)
  · rw [hg a (Nat.le_refl _) (by omega), gl_sl0]
  · exact h6 g (fun j j1 j2 => by rw [hg j (by omega) j2, (hO 41 j (by omega)).2])
/-- a choice: what's for true, what's for false -/
theorem EC.ift (E1 : EC kd wr z fA lu lev pn base ob t1 a a1 w w1 L1 P1 B1) (J1 : EC kd wr z fA lu lev pn base ob t1 a1 (a1 + 1) w1 w2 [] (fun b b' g => gl g 41 b = wdC 34 0 0 ∧ b' = b + 1) 1) (E2 : EC kd wr z fA lu lev pn base ob t2 (a1 + 1) a2 w2 w3 L2 P2 B2) (J2 : EC kd wr z fA lu lev pn base ob t2 a2 (a2 + 1) w3 w4 [] (fun b b' g => gl g 41 b = wdC 33 0 0 ∧ b' = b + 1) 1) (ha : a2 < 36872) :
    ∃ y w5, fX0_patch (Int32.ofNat a1) w4 = (y, w5) ∧ GC2 kd wr z fA lu lev pn t2 (a2 + 1) base ob w5 ∧ ∀ {t3 a3 w6 L3 P3 B3}, EC kd wr z fA lu lev pn base ob t3 (a2 + 1) a3 w5 w6 L3 P3 B3 → ∃ y' w7, fX0_patch (Int32.ofNat a2) w6 = (y', w7) ∧ EC kd wr z fA lu lev pn base ob t3 a a3 w w7 (L1 ++ L2 ++ L3) (fun b b' g => ∃ b1 b2, P1 b b1 g ∧ gl g 41 b1 = jwC 34 (b2 + 1) ∧ P2 (b1 + 1) b2 g ∧ gl g 41 b2 = jwC 33 b' ∧ P3 (b2 + 1) b' g) (B1 + B2 + B3 + 2) := by
  obtain ⟨e1, e2, e3, e4, e5, e6⟩ := E1
  obtain ⟨j1, j2, j3, j4, j5, j6⟩ := J1
  obtain ⟨f1, f2, f3, f4, f5, f6⟩ := E2
  obtain ⟨k1, k2, k3, k4, k5, k6⟩ := J2
  have hw : gl w4 41 a1 = wdC 34 0 0 := by
    rw [(k4 41 a1 (by unfold F2; omega)).2, (f4 41 a1 (by unfold F2; omega)).2]
    exact (j6 w2 (fun _ _ _ => rfl)).1
  obtain ⟨y, p1, p2⟩ := GC2.patch k1 (p := a1) (by omega) hw (by decide)
  have hO : OFF (fun k j => k = 41 ∧ j = a1) (sl w4 41 a1 (jwC 34 (a2 + 1))) w4 := OFF.sl ⟨rfl, rfl⟩
  refine ⟨y, _, p1, p2, fun {t3 a3 w6 L3 P3 B3} E3 => ?_⟩
  obtain ⟨m1, m2, m3, m4, m5, m6⟩ := E3
  have hw2 : gl w6 41 a2 = wdC 33 0 0 := by
    rw [(m4 41 a2 (by unfold F2; omega)).2, (hO 41 a2 (by omega)).2]
    exact (k6 w4 (fun _ _ _ => rfl)).1
  obtain ⟨y', q1, q2⟩ := GC2.patch m1 (p := a2) (by omega) hw2 (by decide)
  have hO2 : OFF (fun k j => k = 41 ∧ j = a2) (sl w6 41 a2 (jwC 33 a3)) w6 := OFF.sl ⟨rfl, rfl⟩
  have hle : ∀ {x y : Nat} {u v : Wd}, a ≤ x → OFF (F2 x base ob) u v → OFF (F2 a base ob) u v := fun hx h => h.mono fun k j hk => hk.le hx (Nat.le_refl _) (Nat.le_refl _)
  refine ⟨y', _, q1, q2, fun x hx => ?_, ?_, ?_, by omega, fun g hg => ⟨a1, a2, ?_, ?_, ?_, ?_, ?_⟩⟩
  · rcases List.mem_append.mp hx with hx | hx
    · exact (List.mem_append.mp hx).elim (e2 x) (f2 x)
    · exact m2 x hx
  · have h1 : FLA (sl w6 41 a2 (jwC 33 a3)) = FLA w6 := rfl
    have h2 : FLA (sl w4 41 a1 (jwC 34 (a2 + 1))) = FLA w4 := rfl
    rw [h1, m3, h2, k3, f3, j3, e3, FNL_app, FNL_app]
    rfl
  · exact OFF.tr (hO2.mono fun k j hk => by unfold F2; omega) (OFF.tr (m4.mono fun k j hk => hk.le (by omega) (Nat.le_refl _) (Nat.le_refl _)) (OFF.tr (hO.mono fun k j hk => by unfold F2; omega) (OFF.tr (k4.mono fun k j hk => hk.le (by omega) (Nat.le_refl _) (Nat.le_refl _)) (OFF.tr (f4.mono fun k j hk => hk.le (by omega) (Nat.le_refl _) (Nat.le_refl _)) (OFF.tr (j4.mono fun k j hk => hk.le (by omega) (Nat.le_refl _) (Nat.le_refl _)) e4)))))
  · refine e6 g (fun j x1 x2 => ?_)
    rw [hg j x1 (by omega), (hO2 41 j (by omega)).2, (m4 41 j (by unfold F2; omega)).2, (hO 41 j (by omega)).2, (k4 41 j (by unfold F2; omega)).2, (f4 41 j (by unfold F2; omega)).2, (j4 41 j (by unfold F2; omega)).2]
  · rw [hg a1 (by omega) (by omega), (hO2 41 a1 (by omega)).2, (m4 41 a1 (by unfold F2; omega)).2, gl_sl0]
  · refine f6 g (fun j x1 x2 => ?_)
    rw [hg j (by omega) (by omega), (hO2 41 j (by omega)).2, (m4 41 j (by unfold F2; omega)).2, (hO 41 j (by omega)).2, (k4 41 j (by unfold F2; omega)).2]
  · rw [hg a2 (by omega) (by omega), gl_sl0]
  · refine m6 g (fun j x1 x2 => ?_)
    rw [hg j (by omega) x2, (hO2 41 j (by omega)).2]
/-- rows of symbols -/
theorem c_row (h : GC2 kd wr z fA lu lev pn t a base ob w) (hs : s ≤ 4100) {k : Nat} (hk : 14 ≤ k ∧ k ≤ 24) : rgi w k 4104 (Int32.ofNat s) = gi fA k s := by
  rw [rgi_iN (by omega) (by omega)]
  exact h.2.2.2.2.2.1 k s (by omega)
theorem c_sort (h : GC2 kd wr z fA lu lev pn t a base ob w) (hs : s ≤ 4100) : fX8_sort (Int32.ofNat s) w = gi fA 14 s := by
  unfold fX8_sort
  rw [ltq, c_row h hs (by omega)]
theorem c_type (h : GC2 kd wr z fA lu lev pn t a base ob w) (hs : s ≤ 4100) : fX8_type (Int32.ofNat s) w = gi fA 15 s := by
  unfold fX8_type
  rw [ltq, c_row h hs (by omega)]
theorem c_level (h : GC2 kd wr z fA lu lev pn t a base ob w) (hs : s ≤ 4100) : fX8_level (Int32.ofNat s) w = gi fA 17 s := by
  unfold fX8_level
  rw [ltq, c_row h hs (by omega)]
theorem c_slot (h : GC2 kd wr z fA lu lev pn t a base ob w) (hs : s ≤ 4100) : fX8_slot (Int32.ofNat s) w = gi fA 18 s := by
  unfold fX8_slot
  rw [ltq, c_row h hs (by omega)]
theorem c_size (h : GC2 kd wr z fA lu lev pn t a base ob w) (hs : s ≤ 4100) : fX8_size_ (Int32.ofNat s) w = gi fA 19 s := by
  unfold fX8_size_
  rw [ltq, c_row h hs (by omega)]
theorem c_formal (h : GC2 kd wr z fA lu lev pn t a base ob w) (hs : s ≤ 4100) : (gi fA 16 s = 3 → fX8_isFormal (Int32.ofNat s) w = true) ∧ (gi fA 16 s ≠ 3 → fX8_isFormal (Int32.ofNat s) w = false) := by
  unfold fX8_isFormal
  rw [ltq, c_row h hs (by omega)]
  exact ⟨fun q => if_pos q, fun q => if_neg q⟩
theorem c_hops (h : GC2 kd wr z fA lu lev pn t a base ob w) (hs : s ≤ 4100) : fX1_hops (Int32.ofNat s) w = hpC fA lev s := by
  have hl := h.2.2.2.2.2.2.2.2.1
  unfold fX1_hops fX8_isOwn hpC
  rw [ltq, ltq, c_row h hs (by omega)]
  by_cases q : gi fA 16 s = 1
  · rw [if_pos q, if_pos rfl, if_pos q]
  · rw [if_neg q, if_neg (by decide), if_neg q, ltq, ltq, c_level h hs, show fX5_level w = Int32.ofNat lev from hl]
theorem c_isSort (h : GC2 kd wr z fA lu lev pn t a base ob w) (hs : s ≤ 4100) {x : Int32} : (gi fA 14 s = x ∨ gi fA 14 s = 0 → fX1_isSort (Int32.ofNat s) x w = true) ∧ (¬ (gi fA 14 s = x ∨ gi fA 14 s = 0) → fX1_isSort (Int32.ofNat s) x w = false) := by
  unfold fX1_isSort
  rw [ltq, ltq, c_sort h hs]
  by_cases q : gi fA 14 s = x
  · rw [if_pos q]
    exact ⟨fun _ => rfl, fun g => absurd (Or.inl q) g⟩
  · rw [if_neg q]
    by_cases q0 : gi fA 14 s = 0
    · rw [if_pos q0]
      exact ⟨fun _ => rfl, fun g => absurd (Or.inr q0) g⟩
    · rw [if_neg q0]
      exact ⟨fun g => (g.elim q q0).elim, fun _ => rfl⟩
theorem c_typeIf (h : GC2 kd wr z fA lu lev pn t a base ob w) (hs : s ≤ 4100) {x : Int32} : fX2_typeIf (Int32.ofNat s) x w = if gi fA 14 s = x then gi fA 15 s else 0 := by
  unfold fX2_typeIf
  rw [ltq, c_sort h hs]
  by_cases q : gi fA 14 s = x
  · rw [if_pos q, if_pos q, ltq, c_type h hs]
  · rw [if_neg q, if_neg q]
/-- what a NAME is -/
theorem c_find {tk : Nat} (h : GC2 kd wr z fA lu lev pn t a base ob w) (hk : kd tk = 2) : lu tk ≤ 4100 ∧ ∃ u, fX1_find (Int32.ofNat tk) w = (Int32.ofNat (lu tk), u) ∧ EC kd wr z fA lu lev pn base ob t a a w u (notD (lu tk) tk) (fun b b' _ => b' = b) 0 := by
  have htz : tk < z := by
    by_cases q : tk < z
    · exact q
    · have := h.1.2.2.2.1 tk (by omega)
      omega
  have hz := h.1.2.1
  obtain ⟨e1, e2⟩ := h.2.2.2.2.2.2.2.1 tk hk
  refine ⟨e2, ?_⟩
  have hn : fX9_nameOf (Int32.ofNat tk) w = Int64.toInt32 (gl fA 7 tk) := by
    unfold fX9_nameOf
    rw [ltq, rgl_iN (by omega) (by omega), h.2.2.2.2.2.2.1 tk]
  unfold fX1_find notD
  rw [if_neg h.2.1, hn, ltq, e1, ltq]
  by_cases q : lu tk = 0
  · rw [if_pos (show Int32.ofNat (lu tk) = 0 by rw [q]; rfl), if_pos q]
    exact ⟨_, rfl, (EC.note h htz (n := 2) (by decide)).2⟩
  · rw [if_neg (show ¬ (Int32.ofNat (lu tk) = 0) from of_ne (k := 0) (by omega) (by omega) q), if_neg q]
    exact ⟨_, rfl, EC.no h⟩
theorem c_putSymbol (h : GC2 kd wr z fA lu lev pn t a base ob w) (hs : s ≤ 4100) (ha : a < 36872) : EC kd wr z fA lu lev pn base ob t a (a + 1) w (fX1_putSymbol (Int32.ofNat s) w) [] (fun b b' g => puC fA lev s b b' g) 1 := by
  obtain ⟨f1, f2⟩ := c_formal h hs
  have h34 : ∀ x : Int32, fX1_putSymbol_34 x (Int32.ofNat s) w = (fX0_put x (hpC fA lev s) (gi fA 18 s) w).2 := fun x => by
    unfold fX1_putSymbol_34
    rw [ltq, ltq, lt2q, c_hops h hs, c_slot h hs]
  have hgo : ∀ {x y c : Int32}, (∀ b b' g, gl g 41 b = wdC x y c ∧ b' = b + 1 → puC fA lev s b b' g) → EC kd wr z fA lu lev pn base ob t a (a + 1) w (fX0_put x y c w).2 [] (fun b b' g => puC fA lev s b b' g) 1 := fun hP => by
    obtain ⟨u, u1, u2⟩ := EC.put h ha
    rw [u1]
    exact u2.wk hP (Nat.le_refl _)
  unfold fX1_putSymbol
  simp only [ltq, lt2q, h34]
  rw [c_sort h hs, c_hops h hs, c_slot h hs]
  by_cases q2 : gi fA 14 s = 2
  · rw [if_pos q2]
    by_cases q3 : gi fA 16 s = 3
    · rw [f1 q3, if_pos rfl]
      exact hgo (fun b b' g hg => ⟨by rw [if_pos q2, if_pos q3]; exact hg.1, hg.2⟩)
    · rw [f2 q3, if_neg (by decide)]
      exact hgo (fun b b' g hg => ⟨by rw [if_pos q2, if_neg q3]; exact hg.1, hg.2⟩)
  · rw [if_neg q2]
    by_cases q3 : gi fA 16 s = 3
    · rw [f1 q3, if_pos rfl]
      exact hgo (fun b b' g hg => ⟨by rw [if_neg q2, if_pos q3]; exact hg.1, hg.2⟩)
    · rw [f2 q3, if_neg (by decide)]
      exact hgo (fun b b' g hg => ⟨by rw [if_neg q2, if_neg q3]; exact hg.1, hg.2⟩)
theorem c_use {md : Int32} (h : GC2 kd wr z fA lu lev pn t a base ob w) (hs : s ≤ 4100) (ha : a + 1 < 36872) : EC kd wr z fA lu lev pn base ob t a (a + 2) w (fX2_use (Int32.ofNat s) md w) [] (fun b b' g => usC fA lev s md b b' g) 2 := by
  unfold fX2_use
  rw [ltq, ltq, lt2q, lt2q, c_hops h hs, c_slot h hs]
  obtain ⟨u, u1, u2⟩ := EC.put (x := 21) (y := hpC fA lev s) (c := gi fA 18 s) h (by omega)
  rw [u1]
  obtain ⟨v, v1, v2⟩ := EC.put2 (x := 44) (c := md) u2.1 (by omega)
  rw [v1]
  exact (u2.seq v2).wk (fun b b' g ⟨b1, hg1, hg2⟩ => by
    rw [hg1.2] at hg2
    exact ⟨hg1.1, hg2.1, hg2.2⟩) (Nat.le_refl _)
end EC
