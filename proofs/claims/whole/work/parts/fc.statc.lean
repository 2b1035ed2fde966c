/-! PASS 2, THE CLASS: codes of STATEMENTS, one after the other -/
/-- tables that stay -/
def FXA (fA w : Wd) : Prop := (∀ k j, (14 ≤ k ∧ k ≤ 25) ∨ k = 33 → gi w k j = gi fA k j) ∧ (∀ j, gl w 7 j = gl fA 7 j) ∧ ∀ j, gi w 8 j = gi fA 8 j ∧ gi w 10 j = gi fA 10 j ∧ (gi w 9 j ≠ 0 ↔ gi fA 9 j ≠ 0)
/-- the class while codes of STATEMENTS are made: TOKEN t, a words, slots: sg the next, sz at most, kp the BLOCK's; nsc SCOPES so far, stk those that are not left -/
def GTC (kd wr nm TK : Nat → Nat) (z : Nat) (fA : Wd) (SL : Nat → List Nat) (NS ns SZ lev : Nat) (pn : Nat → Int32) (t a sg sz kp nsc : Nat) (stk : List Nat) (hid : Int32) (w : Wd) : Prop :=
  CT kd wr false z w t (-1) ∧ gi w 3 5 ≠ 0 ∧ gi w 40 1 = Int32.ofNat a ∧ gi w 43 5 = 0 ∧ gi w 43 4 = 0 ∧ CS2 (fun i => nm (TK i)) SL stk nsc NS ns hid w ∧ FXA fA w ∧ (gi w 34 5 = Int32.ofNat lev ∧ lev ≤ 62 ∧ ∀ l, l ≤ lev → gi w 35 l = pn l) ∧ (gi w 36 lev = Int32.ofNat sg ∧ gi w 37 lev = Int32.ofNat sz ∧ gi w 39 lev = Int32.ofNat kp) ∧ (ns < a ∧ sg ≤ sz ∧ sz ≤ SZ ∧ kp ≤ SZ ∧ SZ ≤ 100000 ∧ 6 ≤ SZ) ∧ ∀ tk, kd tk = 2 → Int64.toInt32 (gl fA 7 tk) = Int32.ofNat (nm tk) ∧ nm tk < 8192
/-- what making codes of STATEMENTS may change; symbols i0 .. i1 - 1 are declared in them -/
def FS2 (lev a i0 i1 k j : Nat) : Prop := F2 a 0 0 k j ∨ (k = 26 ∧ 8 ≤ j ∧ j ≤ 10) ∨ k = 27 ∨ k = 28 ∨ k = 32 ∨ (k = 34 ∧ j = 5) ∨ (k = 35 ∧ lev < j) ∨ (36 ≤ k ∧ k ≤ 39 ∧ lev ≤ j) ∨ (k = 41 ∧ i0 < j ∧ j ≤ i1)
/-- from word a to a', with faults L; P: word before, word behind, the frame's size, the words -/
def ESC (kd wr nm TK : Nat → Nat) (z : Nat) (fA : Wd) (SL : Nat → List Nat) (NS ns SZ lev : Nat) (pn : Nat → Int32) (i0 i1 t' a a' sg' sz sz' kp' nsc' : Nat) (stk' : List Nat) (hid' : Int32) (w u : Wd) (L : List (Nat × Int32)) (P : Nat → Nat → Nat → Wd → Prop) (B : Nat) : Prop :=
  GTC kd wr nm TK z fA SL NS ns SZ lev pn t' a' sg' sz' kp' nsc' stk' hid' u ∧ (∀ x ∈ L, x.2 ≠ 0) ∧ FLA u = FNL wr L (FLA w) ∧ OFF (FS2 lev a i0 i1) u w ∧ (a ≤ a' ∧ a' ≤ a + B ∧ sz ≤ sz' ∧ i0 ≤ i1 ∧ i1 ≤ ns ∧ ns < a) ∧ ∀ g Z, (∀ j, (a ≤ j ∧ j < a' ∨ i0 < j ∧ j ≤ i1) → gl g 41 j = gl u 41 j) → sz' ≤ Z → P a a' Z g
section ES
variable {kd wr nm TK : Nat → Nat} {z : Nat} {fA : Wd} {SL : Nat → List Nat} {NS ns SZ lev : Nat} {pn : Nat → Int32} {i i0 i1 i2 i3 t t1 t2 a a1 a2 a3 sg sg1 sg2 sz sz1 sz2 kp kp1 kp2 nsc nsc1 nsc2 : Nat} {stk stk1 stk2 : List Nat} {hid hid1 hid2 : Int32} {w w1 w2 w3 w4 u v : Wd} {L L1 L2 L3 : List (Nat × Int32)} {P P1 P2 P3 : Nat → Nat → Nat → Wd → Prop} {B B1 B2 B3 : Nat}
theorem FS2.le {a' j0 j1 k j : Nat} (h : FS2 lev a' i0 i1 k j) (h1 : a ≤ a') (h2 : j0 ≤ i0) (h3 : i1 ≤ j1) : FS2 lev a j0 j1 k j := Or.imp (fun h => h.le h1 (Nat.le_refl _) (Nat.le_refl _)) (fun h => by omega) h
theorem FXA.off {Q : Nat → Nat → Prop} (h : FXA fA w) (hO : OFF Q u w) (hQ : ∀ k j, Q k j → ¬ (7 ≤ k ∧ k ≤ 10) ∧ ¬ (14 ≤ k ∧ k ≤ 25) ∧ k ≠ 33) : FXA fA u := by
  have g : ∀ k j, (7 ≤ k ∧ k ≤ 10) ∨ (14 ≤ k ∧ k ≤ 25) ∨ k = 33 → gi u k j = gi w k j ∧ gl u k j = gl w k j := fun k j hk => hO k j (fun hq => by have := hQ k j hq; omega)
  refine ⟨fun k j hk => (g k j (by omega)).1.trans (h.1 k j hk), fun j => (g 7 j (by omega)).2.trans (h.2.1 j), fun j => ?_⟩
  rw [(g 8 j (by omega)).1, (g 9 j (by omega)).1, (g 10 j (by omega)).1]
  exact h.2.2 j
theorem GTC.cfit (h : GTC kd wr nm TK z fA SL NS ns SZ lev pn t a sg sz kp nsc stk hid w) : t < z ∧ z ≤ 8193 ∧ ns < a ∧ ns ≤ 4100 ∧ sg ≤ sz ∧ sz ≤ SZ ∧ kp ≤ SZ ∧ lev ≤ 62 ∧ NS ≤ 4000 ∧ nsc ≤ NS ∧ SZ ≤ 100000 ∧ 6 ≤ SZ :=
  ⟨h.1.2.2.2.2.2.2.1, h.1.2.1, h.2.2.2.2.2.2.2.2.2.1.1, h.2.2.2.2.2.1.2.2.2.2.2.2.1, h.2.2.2.2.2.2.2.2.2.1.2.1, h.2.2.2.2.2.2.2.2.2.1.2.2.1, h.2.2.2.2.2.2.2.2.2.1.2.2.2.1, h.2.2.2.2.2.2.2.1.2.1, h.2.2.2.2.2.1.2.2.2.2.2.2.2.1, h.2.2.2.2.2.1.2.2.2.2.2.2.2.2, h.2.2.2.2.2.2.2.2.2.1.2.2.2.2⟩
/-- EXPRS can be made -/
theorem GTC.evr {lu : Nat → Nat} (h : GTC kd wr nm TK z fA SL NS ns SZ lev pn t a sg sz kp nsc stk hid w) (hlu : ∀ tk, kd tk = 2 → fX7_find (Int32.ofNat (nm tk)) w = Int32.ofNat (lu tk) ∧ lu tk ≤ 4100) : GC2 kd wr z fA lu lev pn t a 0 0 w := by
  obtain ⟨h1, h2, h3, h4, h5, h6, ⟨f1, f2, f3⟩, ⟨h8, h9, h10⟩, h11, h12, h13⟩ := h
  exact ⟨h1, h2, h3, h4, h5, fun k j hk => f1 k j (Or.inl hk), f2, fun tk hk => by rw [(h13 tk hk).1]; exact hlu tk hk, h8, h9, h10, f3⟩
theorem GTC.gc (h : GTC kd wr nm TK z fA SL NS ns SZ lev pn t a sg sz kp nsc stk 0 w) : GC2 kd wr z fA (luN nm TK SL stk) lev pn t a 0 0 w :=
  h.evr (fun tk hk => ⟨b_find h.2.2.2.2.2.1 (h.2.2.2.2.2.2.2.2.2.2 tk hk).2, Nat.le_trans (h.2.2.2.2.2.1.lk_le stk) h.2.2.2.2.2.1.2.2.2.2.2.2.1⟩)
theorem GTC.gcH {s : Nat} (h : GTC kd wr nm TK z fA SL NS ns SZ lev pn t a sg sz kp nsc (s :: stk) (Int32.ofNat (s + 1)) w) : GC2 kd wr z fA (luN nm TK SL stk) lev pn t a 0 0 w :=
  h.evr (fun tk hk => ⟨b_findH h.2.2.2.2.2.1 (h.2.2.2.2.2.2.2.2.2.2 tk hk).2, Nat.le_trans (h.2.2.2.2.2.1.lk_le stk) h.2.2.2.2.2.1.2.2.2.2.2.2.1⟩)
/-- codes of EXPRS -/
theorem ESC.ec {lu : Nat → Nat} {P : Nat → Nat → Wd → Prop} (h : GTC kd wr nm TK z fA SL NS ns SZ lev pn t a sg sz kp nsc stk hid w) (hE : EC kd wr z fA lu lev pn 0 0 t1 a a1 w u L P B) (hi : i ≤ ns) : ESC kd wr nm TK z fA SL NS ns SZ lev pn i i t1 a a1 sg sz sz kp nsc stk hid w u L (fun b b' _ g => P b b' g) B := by
  obtain ⟨h1, h2, h3, h4, h5, h6, h7, ⟨h8, h9, h10⟩, h11, h12, h13⟩ := h
  obtain ⟨⟨g1, g2, g3, g4, g5, g6⟩, e2, e3, e4, e5, e6⟩ := hE
  have ho : ∀ k j, ¬ (k = 3 ∨ k = 4 ∨ k = 9 ∨ (40 ≤ k ∧ k ≤ 47)) → gi u k j = gi w k j := fun k j hk => (e4 k j (fun q => by unfold F2 at q; omega)).1
  have hrow : ∀ {x : Int32}, gi w 36 lev = x → gi u 36 lev = x := fun h => (ho 36 lev (by omega)).trans h
  refine ⟨⟨g1, g2, g3, g4, g5, h6.agr (fun k j hk => ho k j (by unfold PSC at hk; omega)), ⟨fun k j hk => (ho k j (by omega)).trans (h7.1 k j hk), g6.2.1, g6.2.2.2.2.2.2⟩, ⟨(ho 34 5 (by omega)).trans h8, h9, fun l hl => (ho 35 l (by omega)).trans (h10 l hl)⟩, ⟨(ho 36 lev (by omega)).trans h11.1, (ho 37 lev (by omega)).trans h11.2.1, (ho 39 lev (by omega)).trans h11.2.2⟩, ⟨by omega, h12.2⟩, h13⟩, e2, e3, e4.mono fun k j hk => Or.inl hk, by omega, fun g Z hg _ => e6 g (fun j j1 j2 => hg j (Or.inl ⟨j1, j2⟩))⟩
theorem ESC.wk (h : ESC kd wr nm TK z fA SL NS ns SZ lev pn i0 i1 t a a1 sg sz sz1 kp nsc stk hid w u L P B) (hP : ∀ b b' Z g, P b b' Z g → P1 b b' Z g) (hb : B ≤ B1) (hi : i2 ≤ i0 ∧ i1 ≤ i3 ∧ i3 ≤ ns := by omega) : ESC kd wr nm TK z fA SL NS ns SZ lev pn i2 i3 t a a1 sg sz sz1 kp nsc stk hid w u L P1 B1 := by
  obtain ⟨h1, h2, h3, h4, h5, h6⟩ := h
  exact ⟨h1, h2, h3, h4.mono fun k j hk => hk.le (Nat.le_refl _) hi.1 hi.2.1, by omega, fun g Z hg hZ => hP _ _ _ _ (h6 g Z (fun j hj => hg j (by omega)) hZ)⟩
theorem ESC.cL (h : ESC kd wr nm TK z fA SL NS ns SZ lev pn i0 i1 t a a1 sg sz sz1 kp nsc stk hid w u L P B) (e : L1 = L) : ESC kd wr nm TK z fA SL NS ns SZ lev pn i0 i1 t a a1 sg sz sz1 kp nsc stk hid w u L1 P B := by rw [e]; exact h
theorem ESC.dm (h : ESC kd wr nm TK z fA SL NS ns SZ lev pn i0 i1 t a a1 sg sz sz1 kp nsc stk hid w u L P B) (hwr : ∀ i, wr i ≤ 8192) (hm : DM wr L L1) : ESC kd wr nm TK z fA SL NS ns SZ lev pn i0 i1 t a a1 sg sz sz1 kp nsc stk hid w u L1 P B := by
  obtain ⟨h1, h2, h3, h4, h5, h6⟩ := h
  exact ⟨h1, fun x hx => (hm.1 x hx).1, by rw [h3]; exact (FNL_dm hwr hm _).symm, h4, h5, h6⟩
theorem ESC.seq (h : ESC kd wr nm TK z fA SL NS ns SZ lev pn i0 i1 t a a1 sg sz sz1 kp nsc stk hid w u L1 P1 B1) (h' : ESC kd wr nm TK z fA SL NS ns SZ lev pn i2 i3 t1 a1 a2 sg1 sz1 sz2 kp1 nsc1 stk1 hid1 u v L2 P2 B2) (hi : i0 ≤ i1 ∧ i1 ≤ i2 ∧ i2 ≤ i3 := by omega) : ESC kd wr nm TK z fA SL NS ns SZ lev pn i0 i3 t1 a a2 sg1 sz sz2 kp1 nsc1 stk1 hid1 w v (L1 ++ L2) (fun b b' Z g => ∃ b1, P1 b b1 Z g ∧ P2 b1 b' Z g) (B1 + B2) := by
  obtain ⟨h1, h2, h3, h4, h5, h6⟩ := h
  obtain ⟨g1, g2, g3, g4, g5, g6⟩ := h'
  refine ⟨g1, fun x hx => (List.mem_append.mp hx).elim (h2 x) (g2 x), by rw [FNL_app, g3, h3], OFF.tr (g4.mono fun k j hk => hk.le h5.1 (by omega) (Nat.le_refl _)) (h4.mono fun k j hk => hk.le (Nat.le_refl _) (Nat.le_refl _) (by omega)), by omega, fun g Z hg hZ => ⟨a1, h6 g Z (fun j hj => ?_) (by omega), g6 g Z (fun j hj => hg j (by omega)) hZ⟩⟩
  rw [hg j (by omega), (g4 41 j (by unfold FS2 F2; omega)).2]
theorem ESC.no (h : GTC kd wr nm TK z fA SL NS ns SZ lev pn t a sg sz kp nsc stk hid w) (hi : i ≤ ns) : ESC kd wr nm TK z fA SL NS ns SZ lev pn i i t a a sg sz sz kp nsc stk hid w w [] (fun b b' _ _ => b' = b) 0 :=
  ⟨h, fun x hx => absurd hx (by simp), rfl, OFF.rf, by have := h.cfit; omega, fun _ _ _ _ => rfl⟩
/-- a change of slots or SCOPES, no words -/
theorem ESC.chg (h : GTC kd wr nm TK z fA SL NS ns SZ lev pn t a sg sz kp nsc stk hid w) (hO : OFF (fun k j => (k = 26 ∧ 8 ≤ j ∧ j ≤ 10) ∨ k = 27 ∨ k = 28 ∨ k = 32 ∨ (36 ≤ k ∧ k ≤ 39 ∧ j = lev)) u w) (hC : CS2 (fun i => nm (TK i)) SL stk1 nsc1 NS ns hid1 u) (hN : gi u 36 lev = Int32.ofNat sg1 ∧ gi u 37 lev = Int32.ofNat sz1 ∧ gi u 39 lev = Int32.ofNat kp1) (hz : sz ≤ sz1 ∧ sg1 ≤ sz1 ∧ sz1 ≤ SZ ∧ kp1 ≤ SZ) (hi : i ≤ ns) :
    ESC kd wr nm TK z fA SL NS ns SZ lev pn i i t a a sg1 sz sz1 kp1 nsc1 stk1 hid1 w u [] (fun b b' Z _ => b' = b ∧ sz1 ≤ Z) 0 := by
  obtain ⟨h1, h2, h3, h4, h5, h6, h7, ⟨h8, h9, h10⟩, h11, h12, h13⟩ := h
  refine ⟨⟨h1.off hO (fun k j hk => by omega), by rw [(hO 3 5 (by omega)).1]; exact h2, by rw [(hO 40 1 (by omega)).1]; exact h3, by rw [(hO 43 5 (by omega)).1]; exact h4, by rw [(hO 43 4 (by omega)).1]; exact h5, hC, h7.off hO (fun k j hk => by omega), ⟨by rw [(hO 34 5 (by omega)).1]; exact h8, h9, fun l hl => by rw [(hO 35 l (by omega)).1]; exact h10 l hl⟩, hN, ⟨h12.1, by omega⟩, h13⟩, fun x hx => absurd hx (by simp), ?_, hO.mono fun k j hk => Or.inr (by omega), by omega, fun _ _ _ hZ => ⟨rfl, hZ⟩⟩
  show (gi _ 3 6, gi _ 3 7) = (gi w 3 6, gi w 3 7)
  rw [(hO 3 6 (by omega)).1, (hO 3 7 (by omega)).1]
theorem ESC.enter (h : GTC kd wr nm TK z fA SL NS ns SZ lev pn t a sg sz kp nsc stk 0 w) (hn : nsc < NS) (hi : i ≤ ns) : ∃ u, fX7_enter w = some u ∧ ESC kd wr nm TK z fA SL NS ns SZ lev pn i i t a a sg sz sz kp (nsc + 1) (nsc :: stk) 0 w u [] (fun b b' _ _ => b' = b) 0 := by
  obtain ⟨u, u1, u2, u3⟩ := b_enter h.2.2.2.2.2.1 hn
  have hf := h.cfit
  refine ⟨u, u1, (ESC.chg h (u3.mono fun k j hk => by omega) u2 ⟨by rw [(u3 36 lev (by omega)).1]; exact h.2.2.2.2.2.2.2.2.1.1, by rw [(u3 37 lev (by omega)).1]; exact h.2.2.2.2.2.2.2.2.1.2.1, by rw [(u3 39 lev (by omega)).1]; exact h.2.2.2.2.2.2.2.2.1.2.2⟩ (by omega) hi).wk (fun b b' Z g hg => hg.1) (Nat.le_refl _)⟩
theorem ESC.leave {s : Nat} (h : GTC kd wr nm TK z fA SL NS ns SZ lev pn t a sg sz kp nsc (s :: stk) 0 w) (hi : i ≤ ns) : ∃ u, fX7_leave w = some u ∧ ESC kd wr nm TK z fA SL NS ns SZ lev pn i i t a a sg sz sz kp nsc stk 0 w u [] (fun b b' _ _ => b' = b) 0 := by
  obtain ⟨u, u1, u2, u3⟩ := b_leave h.2.2.2.2.2.1
  have hf := h.cfit
  refine ⟨u, u1, (ESC.chg h (u3.mono fun k j hk => by omega) u2 ⟨by rw [(u3 36 lev (by omega)).1]; exact h.2.2.2.2.2.2.2.2.1.1, by rw [(u3 37 lev (by omega)).1]; exact h.2.2.2.2.2.2.2.2.1.2.1, by rw [(u3 39 lev (by omega)).1]; exact h.2.2.2.2.2.2.2.2.1.2.2⟩ (by omega) hi).wk (fun b b' Z g hg => hg.1) (Nat.le_refl _)⟩
theorem ESC.hide {s : Nat} (h : GTC kd wr nm TK z fA SL NS ns SZ lev pn t a sg sz kp nsc (s :: stk) 0 w) (hi : i ≤ ns) : ESC kd wr nm TK z fA SL NS ns SZ lev pn i i t a a sg sz sz kp nsc (s :: stk) (Int32.ofNat (s + 1)) w (fX7_hide w) [] (fun b b' _ _ => b' = b) 0 := by
  obtain ⟨e, u2⟩ := b_hide h.2.2.2.2.2.1
  rw [e]
  have u3 : OFF (fun k j => k = 26 ∧ j = 10) (si w 26 10 (Int32.ofNat (s + 1))) w := OFF.si ⟨rfl, rfl⟩
  have hf := h.cfit
  exact (ESC.chg h (u3.mono fun k j hk => by omega) u2 ⟨by rw [(u3 36 lev (by omega)).1]; exact h.2.2.2.2.2.2.2.2.1.1, by rw [(u3 37 lev (by omega)).1]; exact h.2.2.2.2.2.2.2.2.1.2.1, by rw [(u3 39 lev (by omega)).1]; exact h.2.2.2.2.2.2.2.2.1.2.2⟩ (by omega) hi).wk (fun b b' Z g hg => hg.1) (Nat.le_refl _)
theorem ESC.showAll (h : GTC kd wr nm TK z fA SL NS ns SZ lev pn t a sg sz kp nsc stk hid w) (hi : i ≤ ns) : ESC kd wr nm TK z fA SL NS ns SZ lev pn i i t a a sg sz sz kp nsc stk 0 w (fX7_showAll w) [] (fun b b' _ _ => b' = b) 0 := by
  obtain ⟨e, u2⟩ := b_showAll h.2.2.2.2.2.1
  rw [e]
  have u3 : OFF (fun k j => k = 26 ∧ j = 10) (si w 26 10 0) w := OFF.si ⟨rfl, rfl⟩
  have hf := h.cfit
  exact (ESC.chg h (u3.mono fun k j hk => by omega) u2 ⟨by rw [(u3 36 lev (by omega)).1]; exact h.2.2.2.2.2.2.2.2.1.1, by rw [(u3 37 lev (by omega)).1]; exact h.2.2.2.2.2.2.2.2.1.2.1, by rw [(u3 39 lev (by omega)).1]; exact h.2.2.2.2.2.2.2.2.1.2.2⟩ (by omega) hi).wk (fun b b' Z g hg => hg.1) (Nat.le_refl _)
/-- slots -/
theorem GTC.slot (h : GTC kd wr nm TK z fA SL NS ns SZ lev pn t a sg sz kp nsc stk hid w) : fX5_slot w = Int32.ofNat sg ∧ fX5_size w = Int32.ofNat sz ∧ fX5_keep w = Int32.ofNat kp := by
  have hf := h.cfit
  have h34 := h.2.2.2.2.2.2.2.1.1
  obtain ⟨n1, n2, n3⟩ := h.2.2.2.2.2.2.2.2.1
  unfold fX5_slot fX5_size fX5_keep
  rw [h34, rgi_iN (by omega) (by omega), rgi_iN (by omega) (by omega), rgi_iN (by omega) (by omega)]
  exact ⟨n1, n2, n3⟩
theorem ESC.take {n : Nat} (h : GTC kd wr nm TK z fA SL NS ns SZ lev pn t a sg sz kp nsc stk hid w) (hn : sg + n ≤ SZ) (hi : i ≤ ns) : ∃ u sz1, fX5_take (Int32.ofNat n) w = (Int32.ofNat sg, u) ∧ ESC kd wr nm TK z fA SL NS ns SZ lev pn i i t a a (sg + n) sz sz1 kp nsc stk hid w u [] (fun b b' Z _ => b' = b ∧ sg + n ≤ Z) 0 := by
  have hf := h.cfit
  have h34 := h.2.2.2.2.2.2.2.1.1
  obtain ⟨n1, n2, n3⟩ := h.2.2.2.2.2.2.2.2.1
  have e1 : fX5_take (Int32.ofNat n) w = (Int32.ofNat sg, si (si w 36 lev (Int32.ofNat (sg + n))) 37 lev (Int32.ofNat (max sz (sg + n)))) := by
    unfold fX5_take
    rw [h.slot.1, ltq, h34, add_iN, rsi_iN (by omega) (by omega), ltq, gi_si1 (by omega), h34, rgi_iN (by omega) (by omega), gi_si1 (by omega), n2, ltq]
    have hm : fJ9_max_7cf53 (Int32.ofNat sz) (Int32.ofNat (sg + n)) = Int32.ofNat (max sz (sg + n)) := by
      unfold fJ9_max_7cf53
      by_cases q : sz < sg + n
      · rw [if_pos (ylt_iN q (by omega)), show max sz (sg + n) = sg + n by omega]
      · rw [if_neg (nlt_iN (by omega) (by omega)), show max sz (sg + n) = sz by omega]
    rw [hm, ltq, rsi_iN (by omega) (by omega), ltq]
  have hO : OFF (fun k j => (k = 36 ∨ k = 37) ∧ j = lev) (si (si w 36 lev (Int32.ofNat (sg + n))) 37 lev (Int32.ofNat (max sz (sg + n)))) w := OFF.tr (OFF.si ⟨Or.inr rfl, rfl⟩) (OFF.si ⟨Or.inl rfl, rfl⟩)
  exact ⟨_, max sz (sg + n), e1, (ESC.chg h (hO.mono fun k j hk => by omega) (h.2.2.2.2.2.1.agr (fun k j hk => (hO k j (by unfold PSC at hk; omega)).1)) ⟨by rw [gi_si1 (by omega), gi_si0], gi_si0 _ _ _ _, by rw [(hO 39 lev (by omega)).1]; exact n3⟩ (by omega) hi).wk (fun b b' Z g hg => ⟨hg.1, by omega⟩) (Nat.le_refl _)⟩
theorem ESC.give {n : Nat} (h : GTC kd wr nm TK z fA SL NS ns SZ lev pn t a sg sz kp nsc stk hid w) (hn : n ≤ sz) (hi : i ≤ ns) : ESC kd wr nm TK z fA SL NS ns SZ lev pn i i t a a n sz sz kp nsc stk hid w (fX5_giveBack (Int32.ofNat n) w) [] (fun b b' _ _ => b' = b) 0 := by
  have hf := h.cfit
  have h34 := h.2.2.2.2.2.2.2.1.1
  obtain ⟨n1, n2, n3⟩ := h.2.2.2.2.2.2.2.2.1
  have e1 : fX5_giveBack (Int32.ofNat n) w = si w 36 lev (Int32.ofNat n) := by
    unfold fX5_giveBack
    rw [h34, rsi_iN (by omega) (by omega), ltq]
  rw [e1]
  have hO : OFF (fun k j => k = 36 ∧ j = lev) (si w 36 lev (Int32.ofNat n)) w := OFF.si ⟨rfl, rfl⟩
  exact (ESC.chg h (hO.mono fun k j hk => by omega) (h.2.2.2.2.2.1.agr (fun k j hk => (hO k j (by unfold PSC at hk; omega)).1)) ⟨gi_si0 _ _ _ _, by rw [(hO 37 lev (by omega)).1]; exact n2, by rw [(hO 39 lev (by omega)).1]; exact n3⟩ (by omega) hi).wk (fun b b' Z g hg => hg.1) (Nat.le_refl _)
theorem ESC.keep {n : Nat} (h : GTC kd wr nm TK z fA SL NS ns SZ lev pn t a sg sz kp nsc stk hid w) (hn : n ≤ SZ) (hi : i ≤ ns) : ESC kd wr nm TK z fA SL NS ns SZ lev pn i i t a a sg sz sz n nsc stk hid w (fX5_keepAt (Int32.ofNat n) w) [] (fun b b' _ _ => b' = b) 0 := by
  have hf := h.cfit
  have h34 := h.2.2.2.2.2.2.2.1.1
  obtain ⟨n1, n2, n3⟩ := h.2.2.2.2.2.2.2.2.1
  have e1 : fX5_keepAt (Int32.ofNat n) w = si w 39 lev (Int32.ofNat n) := by
    unfold fX5_keepAt
    rw [h34, rsi_iN (by omega) (by omega), ltq]
  rw [e1]
  have hO : OFF (fun k j => k = 39 ∧ j = lev) (si w 39 lev (Int32.ofNat n)) w := OFF.si ⟨rfl, rfl⟩
  exact (ESC.chg h (hO.mono fun k j hk => by omega) (h.2.2.2.2.2.1.agr (fun k j hk => (hO k j (by unfold PSC at hk; omega)).1)) ⟨by rw [(hO 36 lev (by omega)).1]; exact n1, by rw [(hO 37 lev (by omega)).1]; exact n2, gi_si0 _ _ _ _⟩ (by omega) hi).wk (fun b b' Z g hg => hg.1) (Nat.le_refl _)
/-- one word is written over: a cell, or one that's made -/
theorem GTC.ovr {x : Int64} {j : Nat} (h : GTC kd wr nm TK z fA SL NS ns SZ lev pn t a sg sz kp nsc stk hid w) : GTC kd wr nm TK z fA SL NS ns SZ lev pn t a sg sz kp nsc stk hid (sl w 41 j x) := by
  have hO : OFF (fun k i => k = 41 ∧ i = j) (sl w 41 j x) w := OFF.sl ⟨rfl, rfl⟩
  obtain ⟨h1, h2, h3, h4, h5, h6, h7, ⟨h8, h9, h10⟩, h11, h12, h13⟩ := h
  exact ⟨h1.off hO (fun k j hk => by omega), h2, h3, h4, h5, h6.agr (fun k j _ => rfl), h7.off hO (fun k j hk => by omega), ⟨h8, h9, h10⟩, h11, h12, h13⟩
/-- what symbol i + 1 names begins here -/
theorem ESC.cell (h : GTC kd wr nm TK z fA SL NS ns SZ lev pn t a sg sz kp nsc stk hid w) (hi : i < ns) : fX0_setCell (Int32.ofNat (i + 1)) w = sl w 41 (i + 1) (Int32.toInt64 (Int32.ofNat a)) ∧ ESC kd wr nm TK z fA SL NS ns SZ lev pn i (i + 1) t a a sg sz sz kp nsc stk hid w (sl w 41 (i + 1) (Int32.toInt64 (Int32.ofNat a))) [] (fun b b' _ g => b' = b ∧ gl g 41 (i + 1) = Int32.toInt64 (Int32.ofNat b)) 0 := by
  have hf := h.cfit
  have hO : OFF (fun k j => k = 41 ∧ j = i + 1) (sl w 41 (i + 1) (Int32.toInt64 (Int32.ofNat a))) w := OFF.sl ⟨rfl, rfl⟩
  refine ⟨?_, h.ovr, fun x hx => absurd hx (by simp), rfl, hO.mono fun k j hk => by unfold FS2; omega, by omega, fun g Z hg _ => ⟨rfl, ?_⟩⟩
  · unfold fX0_setCell fX0_set
    rw [h.2.2.1, rsl_iN (by omega) (by omega), ltq, ltq]
  · rw [hg (i + 1) (by omega), gl_sl0]
theorem GTC.patch {x : Int32} {p : Nat} (h : GTC kd wr nm TK z fA SL NS ns SZ lev pn t a sg sz kp nsc stk hid v) (hp : p < 36872) (hw : gl v 41 p = wdC x 0 0) (hx : Int64.toInt32 (wdC x 0 0 &&& 4194303) = 0) : ∃ y, fX0_patch (Int32.ofNat p) v = (y, sl v 41 p (jwC x a)) := by
  have hv : (wdC x 0 0 - Int32.toInt64 0) + Int32.toInt64 (gi v 40 1) = jwC x a := by
    rw [h.2.2.1, show Int32.toInt64 0 = 0 from rfl, Int64.sub_zero]
    rfl
  refine ⟨fX0_operand (wdC x 0 0) (sl v 41 p (jwC x a)), ?_⟩
  unfold fX0_patch
  have ho : fX0_operand (wdC x 0 0) v = 0 := hx
  rw [rgl_iN hp (by omega), hw, ltq, ho, ltq, hv]
  unfold fX0_set
  rw [rsl_iN hp (by omega)]
  rfl
/-- a word that was made first is written over when what follows is made -/
theorem ESC.over {Q : Nat → Nat → Nat → Int64 → Prop} {x : Int64} (h0 : ESC kd wr nm TK z fA SL NS ns SZ lev pn i0 i0 t a (a + 1) sg sz sz1 kp nsc stk hid w w1 [] P1 1) (h : ESC kd wr nm TK z fA SL NS ns SZ lev pn i0 i1 t1 (a + 1) a1 sg1 sz1 sz2 kp1 nsc1 stk1 hid1 w1 w2 L P B) (hQ : ∀ Z, sz2 ≤ Z → Q a a1 Z x) :
    ESC kd wr nm TK z fA SL NS ns SZ lev pn i0 i1 t1 a a1 sg1 sz sz2 kp1 nsc1 stk1 hid1 w (sl w2 41 a x) L (fun b b' Z g => Q b b' Z (gl g 41 b) ∧ P (b + 1) b' Z g) (B + 1) := by
  obtain ⟨h1, h2, h3, h4, h5, h6⟩ := h
  obtain ⟨g1, g2, g3, g4, g5, g6⟩ := h0
  have hO : OFF (fun k j => k = 41 ∧ j = a) (sl w2 41 a x) w2 := OFF.sl ⟨rfl, rfl⟩
  refine ⟨h1.ovr, h2, ?_, OFF.tr (hO.mono fun k j hk => by unfold FS2 F2; omega) (OFF.tr (h4.mono fun k j hk => hk.le (by omega) (Nat.le_refl _) (Nat.le_refl _)) (g4.mono fun k j hk => hk.le (Nat.le_refl _) (Nat.le_refl _) (by omega))), by omega, fun g Z hg hZ => ⟨?_, ?_⟩⟩
  · show FLA w2 = _
    rw [h3, g3]
    rfl
  · rw [hg a (by omega), gl_sl0]
    exact hQ Z hZ
  · exact h6 g Z (fun j hj => by rw [hg j (by omega), (hO 41 j (by omega)).2]) hZ
/-- one jump to behind what's made next -/
theorem ESC.jmp {x : Int32} (h0 : ESC kd wr nm TK z fA SL NS ns SZ lev pn i0 i0 t a (a + 1) sg sz sz1 kp nsc stk hid w w1 [] (fun b b' _ g => gl g 41 b = wdC x 0 0 ∧ b' = b + 1) 1) (h : ESC kd wr nm TK z fA SL NS ns SZ lev pn i0 i1 t1 (a + 1) a1 sg1 sz1 sz2 kp1 nsc1 stk1 hid1 w1 w2 L P B) (ha : a < 36872) (hx : Int64.toInt32 (wdC x 0 0 &&& 4194303) = 0) :
    ∃ y u, fX0_patch (Int32.ofNat a) w2 = (y, u) ∧ ESC kd wr nm TK z fA SL NS ns SZ lev pn i0 i1 t1 a a1 sg1 sz sz2 kp1 nsc1 stk1 hid1 w u L (fun b b' Z g => gl g 41 b = jwC x b' ∧ P (b + 1) b' Z g) (B + 1) := by
  have hw : gl w2 41 a = wdC x 0 0 := by
    have h5 := h.2.2.2.2.1
    have g5 := h0.2.2.2.2.1
    rw [(h.2.2.2.1 41 a (by unfold FS2 F2; omega)).2]
    exact (h0.2.2.2.2.2 w1 sz1 (fun _ _ => rfl) (Nat.le_refl _)).1
  obtain ⟨y, p1⟩ := GTC.patch h.1 ha hw hx
  exact ⟨y, _, p1, ESC.over (Q := fun _ b' _ x' => x' = jwC x b') h0 h (fun _ _ => rfl)⟩
end ES
