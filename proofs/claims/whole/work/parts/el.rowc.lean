/-! PASS 2, THE CLASS: faults as a set; words made one after the other -/
section FS
variable {wr : Nat → Nat}
theorem i32_40 : (4 : Int32) ≠ 0 := by decide
theorem i32_50 : (5 : Int32) ≠ 0 := by decide
theorem i32_irr (a : Int32) : ¬ a < a := fun h => (i32_asym h).1 h
theorem FNL_s (y : Nat × Int32) (r : List (Nat × Int32)) (p : Int32 × Int32) : FNL wr (y :: r) p = FNL wr r (FN p y.2 (Int32.ofNat (wr y.1))) := rfl
theorem FNL_FN {a x : Int32} (ha : a ≠ 0) : ∀ (L : List (Nat × Int32)) (p : Int32 × Int32), (∀ y ∈ L, y.2 ≠ 0) → FN (FNL wr L p) a x = FNL wr L (FN p a x) := by
  intro L
  induction L with
  | nil => exact fun _ _ => rfl
  | cons y r ih =>
    intro p h
    rw [FNL_s, FNL_s, ih _ (fun z hz => h z (List.mem_cons_of_mem _ hz)), FN_comm (h y List.mem_cons_self) ha]
theorem FN_le {p : Int32 × Int32} {a x : Int32} (ha : a ≠ 0) : (FN p a x).1 ≠ 0 ∧ ((FN p a x).2 < x ∨ (FN p a x).2 = x ∧ (FN p a x).1 ≤ a) := by
  by_cases q0 : p.1 = 0
  · have e : FN p a x = (a, x) := if_pos q0
    rw [e]
    exact ⟨ha, Or.inr ⟨rfl, Int32.le_refl _⟩⟩
  · by_cases q1 : x < p.2
    · have e : FN p a x = (a, x) := by unfold FN; rw [if_neg q0, if_pos q1]
      rw [e]
      exact ⟨ha, Or.inr ⟨rfl, Int32.le_refl _⟩⟩
    · by_cases q2 : x = p.2
      · by_cases q3 : p.1 ≤ a
        · have e : FN p a x = p := by unfold FN; rw [if_neg q0, if_neg q1, if_pos q2, if_pos q3]
          rw [e]
          exact ⟨q0, Or.inr ⟨q2.symm, q3⟩⟩
        · have e : FN p a x = (a, x) := by unfold FN; rw [if_neg q0, if_neg q1, if_pos q2, if_neg q3]
          rw [e]
          exact ⟨ha, Or.inr ⟨rfl, Int32.le_refl _⟩⟩
      · have e : FN p a x = p := by unfold FN; rw [if_neg q0, if_neg q1, if_neg q2]
        rw [e]
        exact ⟨q0, Or.inl (i32_tri q1 q2)⟩
theorem FN_keep {q : Int32 × Int32} {b y : Int32} (h0 : q.1 ≠ 0) (h : q.2 < y ∨ q.2 = y ∧ q.1 ≤ b) : FN q b y = q := by
  unfold FN
  rw [if_neg h0]
  rcases h with h | ⟨h, g⟩
  · rw [if_neg (i32_asym h).1, if_neg (i32_asym h).2]
  · rw [if_neg (by rw [h]; exact i32_irr y), if_pos h.symm, if_pos g]
/-- a fault that hides another -/
def dmF (wr : Nat → Nat) (y x : Nat × Int32) : Prop := wr y.1 < wr x.1 ∨ wr y.1 = wr x.1 ∧ y.2 ≤ x.2
theorem FN_dom (hwr : ∀ i, wr i ≤ 8192) {p : Int32 × Int32} {x y : Nat × Int32} (hy : y.2 ≠ 0) (h : dmF wr y x) : FN (FN p y.2 (Int32.ofNat (wr y.1))) x.2 (Int32.ofNat (wr x.1)) = FN p y.2 (Int32.ofNat (wr y.1)) := by
  obtain ⟨h1, h2⟩ := FN_le (p := p) (a := y.2) (x := Int32.ofNat (wr y.1)) hy
  have := hwr x.1
  have := hwr y.1
  refine FN_keep h1 ?_
  rcases h with h | ⟨h, g⟩
  · have hlt : Int32.ofNat (wr y.1) < Int32.ofNat (wr x.1) := ylt_iN h (by omega)
    rcases h2 with h2 | h2
    · exact Or.inl (i32_tr h2 hlt)
    · exact Or.inl (by rw [h2.1]; exact hlt)
  · rw [h] at h2 ⊢
    rcases h2 with h2 | h2
    · exact Or.inl h2
    · exact Or.inr ⟨h2.1, i32_letr h2.2 g⟩
theorem FNL_dm1 (hwr : ∀ i, wr i ≤ 8192) {x y : Nat × Int32} (h : dmF wr y x) : ∀ (L : List (Nat × Int32)) (p : Int32 × Int32), (∀ y ∈ L, y.2 ≠ 0) → x.2 ≠ 0 → y ∈ L → FN (FNL wr L p) x.2 (Int32.ofNat (wr x.1)) = FNL wr L p := by
  intro L
  induction L with
  | nil => exact fun _ _ _ h => absurd h (by simp)
  | cons c r ih =>
    intro p h0 hx hy
    have hr : ∀ z ∈ r, z.2 ≠ 0 := fun z hz => h0 z (List.mem_cons_of_mem _ hz)
    rw [FNL_s]
    rcases List.mem_cons.mp hy with rfl | hy
    · rw [FNL_FN hx r _ hr, FN_dom hwr (h0 y List.mem_cons_self) h]
    · exact ih _ hr hx hy
theorem FNL_sub (hwr : ∀ i, wr i ≤ 8192) {L : List (Nat × Int32)} (hL : ∀ y ∈ L, y.2 ≠ 0) : ∀ (L' : List (Nat × Int32)) (p : Int32 × Int32), (∀ x ∈ L', x.2 ≠ 0 ∧ ∃ y ∈ L, dmF wr y x) → FNL wr L' (FNL wr L p) = FNL wr L p := by
  intro L'
  induction L' with
  | nil => exact fun _ _ => rfl
  | cons c r ih =>
    intro p h
    obtain ⟨h1, y, h2, h3⟩ := h c List.mem_cons_self
    rw [FNL_s, FNL_dm1 hwr h3 L p hL h1 h2]
    exact ih p (fun x hx => h x (List.mem_cons_of_mem _ hx))
/-- of faults that hide one another it doesn't matter which are noted -/
def DM (wr : Nat → Nat) (L L' : List (Nat × Int32)) : Prop := (∀ x ∈ L', x.2 ≠ 0 ∧ ∃ y ∈ L, dmF wr y x) ∧ ∀ x ∈ L, x.2 ≠ 0 ∧ ∃ y ∈ L', dmF wr y x
theorem FNL_dm (hwr : ∀ i, wr i ≤ 8192) {L L' : List (Nat × Int32)} (h : DM wr L L') (p : Int32 × Int32) : FNL wr L' p = FNL wr L p := by
  have hL : ∀ y ∈ L, y.2 ≠ 0 := fun y hy => (h.2 y hy).1
  have hL' : ∀ y ∈ L', y.2 ≠ 0 := fun y hy => (h.1 y hy).1
  have h1 : FNL wr L' (FNL wr L p) = FNL wr L p := FNL_sub hwr hL L' p h.1
  have h2 : FNL wr L (FNL wr L' p) = FNL wr L' p := FNL_sub hwr hL' L p h.2
  have h3 : FNL wr (L ++ L') p = FNL wr (L' ++ L) p := FNL_perm List.perm_append_comm (fun x hx => (List.mem_append.mp hx).elim (hL x) (hL' x)) p
  rw [FNL_app, FNL_app, h1, h2] at h3
  exact h3.symm
theorem dmF.rf {x : Nat × Int32} : dmF wr x x := Or.inr ⟨rfl, Int32.le_refl _⟩
theorem DM.set {L L' : List (Nat × Int32)} (hL : ∀ y ∈ L, y.2 ≠ 0) (hm : ∀ x, x ∈ L' ↔ x ∈ L) : DM wr L L' := ⟨fun x hx => ⟨hL x ((hm x).mp hx), x, (hm x).mp hx, dmF.rf⟩, fun x hx => ⟨hL x hx, x, (hm x).mpr hx, dmF.rf⟩⟩
/-- a fault more, which another hides -/
theorem DM.more {L : List (Nat × Int32)} {x y : Nat × Int32} (hL : ∀ y ∈ L, y.2 ≠ 0) (hx : x.2 ≠ 0) (hy : y ∈ L) (h : dmF wr y x) : DM wr (L ++ [x]) L := ⟨fun c hc => ⟨hL c hc, c, List.mem_append_left _ hc, dmF.rf⟩, fun c hc => by
  rcases List.mem_append.mp hc with hc | hc
  · exact ⟨hL c hc, c, hc, dmF.rf⟩
  · rw [List.mem_singleton.mp hc]; exact ⟨hx, y, hy, h⟩⟩
theorem DM.rf {L : List (Nat × Int32)} (hL : ∀ y ∈ L, y.2 ≠ 0) : DM wr L L := DM.set hL (fun _ => Iff.rfl)
theorem DM.app {L1 L2 M1 M2 : List (Nat × Int32)} (h : DM wr L1 M1) (g : DM wr L2 M2) : DM wr (L1 ++ L2) (M1 ++ M2) := by
  refine ⟨fun x hx => ?_, fun x hx => ?_⟩
  · rcases List.mem_append.mp hx with hx | hx
    · obtain ⟨a, y, b, c⟩ := h.1 x hx
      exact ⟨a, y, List.mem_append_left _ b, c⟩
    · obtain ⟨a, y, b, c⟩ := g.1 x hx
      exact ⟨a, y, List.mem_append_right _ b, c⟩
  · rcases List.mem_append.mp hx with hx | hx
    · obtain ⟨a, y, b, c⟩ := h.2 x hx
      exact ⟨a, y, List.mem_append_left _ b, c⟩
    · obtain ⟨a, y, b, c⟩ := g.2 x hx
      exact ⟨a, y, List.mem_append_right _ b, c⟩
end FS
/-- what stays while codes are made: the tables, what a NAME is (lu), the level and the procedures round it -/
def EVR (kd : Nat → Nat) (fA : Wd) (lu : Nat → Nat) (lev : Nat) (pn : Nat → Int32) (w : Wd) : Prop :=
  (∀ k j, 14 ≤ k ∧ k ≤ 25 → gi w k j = gi fA k j) ∧ (∀ j, gl w 7 j = gl fA 7 j) ∧ (∀ tk, kd tk = 2 → fX7_find (Int64.toInt32 (gl fA 7 tk)) w = Int32.ofNat (lu tk) ∧ lu tk ≤ 4100) ∧ gi w 34 5 = Int32.ofNat lev ∧ lev ≤ 62 ∧ (∀ l, l ≤ lev → gi w 35 l = pn l) ∧ ∀ j, gi w 8 j = gi fA 8 j ∧ gi w 10 j = gi fA 10 j ∧ (gi w 9 j ≠ 0 ↔ gi fA 9 j ≠ 0)
/-- the class while codes are made: TOKEN t, a words, base signs, ob operands -/
def GC2 (kd wr : Nat → Nat) (z : Nat) (fA : Wd) (lu : Nat → Nat) (lev : Nat) (pn : Nat → Int32) (t a base ob : Nat) (w : Wd) : Prop :=
  CT kd wr false z w t (-1) ∧ gi w 3 5 ≠ 0 ∧ gi w 40 1 = Int32.ofNat a ∧ gi w 43 5 = Int32.ofNat ob ∧ gi w 43 4 = Int32.ofNat base ∧ EVR kd fA lu lev pn w
/-- what making codes of EXPRS may change -/
def F2 (a base ob k j : Nat) : Prop := (k = 3 ∧ (j = 6 ∨ j = 7)) ∨ (k = 4 ∧ (j = 9 ∨ j = 10)) ∨ k = 9 ∨ (k = 40 ∧ j = 1) ∨ (k = 41 ∧ a ≤ j) ∨ (k = 43 ∧ (j = 4 ∨ j = 5)) ∨ ((k = 44 ∨ k = 45) ∧ base ≤ j) ∨ ((k = 46 ∨ k = 47) ∧ ob ≤ j)
/-- from TOKEN t to t', from word a to a', with faults L; at most B words -/
def EC (kd wr : Nat → Nat) (z : Nat) (fA : Wd) (lu : Nat → Nat) (lev : Nat) (pn : Nat → Int32) (base ob t' a a' : Nat) (w u : Wd) (L : List (Nat × Int32)) (P : Nat → Nat → Wd → Prop) (B : Nat) : Prop :=
  GC2 kd wr z fA lu lev pn t' a' base ob u ∧ (∀ x ∈ L, x.2 ≠ 0) ∧ FLA u = FNL wr L (FLA w) ∧ OFF (F2 a base ob) u w ∧ (a ≤ a' ∧ a' ≤ a + B) ∧ ∀ g, (∀ j, a ≤ j → j < a' → gl g 41 j = gl u 41 j) → P a a' g
section EC
variable {kd wr : Nat → Nat} {z : Nat} {fA : Wd} {lu : Nat → Nat} {lev : Nat} {pn : Nat → Int32} {base ob t t1 t2 a a1 a2 : Nat} {w u v : Wd} {L L1 L2 : List (Nat × Int32)} {P P1 P2 : Nat → Nat → Wd → Prop} {B B1 B2 : Nat}
theorem F2.le {a a' base base' ob ob' k j : Nat} (h : F2 a' base' ob' k j) (h1 : a ≤ a') (h2 : base ≤ base') (h3 : ob ≤ ob') : F2 a base ob k j := by unfold F2 at h ⊢; omega
theorem find_off {Q : Nat → Nat → Prop} (hO : OFF Q u w) (hQ : ∀ k j, Q k j → k ≠ 26 ∧ k ≠ 27 ∧ k ≠ 28 ∧ k ≠ 29) (x : Int32) : fX7_find x u = fX7_find x w := by
  have e : ∀ k j, (26 ≤ k ∧ k ≤ 29) → gi u k j = gi w k j := fun k j hk => (hO k j (fun hq => by have := hQ k j hq; omega)).1
  have er : ∀ k m i, (26 ≤ k ∧ k ≤ 29) → rgi u k m i = rgi w k m i := fun k m i hk => by
    unfold rgi
    split
    · exact e k _ hk
    · rfl
  have e40 : ∀ b y, fX7_find_40 b y u = fX7_find_40 b y w := fun b y => by
    unfold fX7_find_40
    rw [er 28 _ _ (by omega)]
  unfold fX7_find
  rw [er 27 _ _ (by omega), ltq, ltq, er 29 _ _ (by omega), ltq, ltq, e 26 10 (by omega), e40, e40]
theorem EVR.off {Q : Nat → Nat → Prop} (h : EVR kd fA lu lev pn w) (hO : OFF Q u w) (hQ : ∀ k j, Q k j → ¬ (7 ≤ k ∧ k ≤ 10) ∧ ¬ (14 ≤ k ∧ k ≤ 29) ∧ k ≠ 34 ∧ k ≠ 35) : EVR kd fA lu lev pn u := by
  obtain ⟨h1, h2, h3, h4, h5, h6, h7⟩ := h
  have g : ∀ k j, (7 ≤ k ∧ k ≤ 10) ∨ (14 ≤ k ∧ k ≤ 29) ∨ k = 34 ∨ k = 35 → gi u k j = gi w k j ∧ gl u k j = gl w k j := fun k j hk => hO k j (fun hq => by have := hQ k j hq; omega)
  refine ⟨fun k j hk => (g k j (by omega)).1.trans (h1 k j hk), fun j => (g 7 j (by omega)).2.trans (h2 j), fun tk hk => ⟨(find_off hO (fun k j hq => by have := hQ k j hq; omega) _).trans (h3 tk hk).1, (h3 tk hk).2⟩, (g 34 5 (by omega)).1.trans h4, h5, fun l hl => (g 35 l (by omega)).1.trans (h6 l hl), fun j => ?_⟩
  rw [(g 8 j (by omega)).1, (g 9 j (by omega)).1, (g 10 j (by omega)).1]
  exact h7 j
theorem GC2.tw (h : GC2 kd wr z fA lu lev pn t a base ob w) : TW wr z w := h.1.tw
theorem EC.wk (h : EC kd wr z fA lu lev pn base ob t a a1 w u L P B) (hP : ∀ b b' g, P b b' g → P1 b b' g) (hb : B ≤ B1) : EC kd wr z fA lu lev pn base ob t a a1 w u L P1 B1 := by
  obtain ⟨h1, h2, h3, h4, h5, h6⟩ := h
  exact ⟨h1, h2, h3, h4, by omega, fun g hg => hP _ _ _ (h6 g hg)⟩
theorem EC.dm (hwr : ∀ i, wr i ≤ 8192) (h : EC kd wr z fA lu lev pn base ob t a a1 w u L P B) (hm : DM wr L L1) : EC kd wr z fA lu lev pn base ob t a a1 w u L1 P B := by
  obtain ⟨h1, h2, h3, h4, h5, h6⟩ := h
  exact ⟨h1, fun x hx => (hm.1 x hx).1, by rw [h3]; exact (FNL_dm hwr hm _).symm, h4, h5, h6⟩
theorem EC.set (hwr : ∀ i, wr i ≤ 8192) (h : EC kd wr z fA lu lev pn base ob t a a1 w u L P B) (hm : ∀ x, x ∈ L1 ↔ x ∈ L) : EC kd wr z fA lu lev pn base ob t a a1 w u L1 P B := h.dm hwr (DM.set h.2.1 hm)
theorem EC.seq (h : EC kd wr z fA lu lev pn base ob t a a1 w u L1 P1 B1) (h' : EC kd wr z fA lu lev pn base ob t1 a1 a2 u v L2 P2 B2) : EC kd wr z fA lu lev pn base ob t1 a a2 w v (L1 ++ L2) (fun b b' g => ∃ b1, P1 b b1 g ∧ P2 b1 b' g) (B1 + B2) := by
  obtain ⟨h1, h2, h3, h4, h5, h6⟩ := h
  obtain ⟨g1, g2, g3, g4, g5, g6⟩ := h'
  refine ⟨g1, fun x hx => (List.mem_append.mp hx).elim (h2 x) (g2 x), by rw [FNL_app, g3, h3], OFF.tr (g4.mono fun k j hk => hk.le h5.1 (Nat.le_refl _) (Nat.le_refl _)) h4, by omega, fun g hg => ⟨a1, h6 g (fun j j1 j2 => ?_), g6 g (fun j j1 j2 => hg j (by omega) j2)⟩⟩
  rw [hg j j1 (by omega), (g4 41 j (by unfold F2; omega)).2]
theorem EC.no (h : GC2 kd wr z fA lu lev pn t a base ob w) : EC kd wr z fA lu lev pn base ob t a a w w [] (fun b b' _ => b' = b) 0 :=
  ⟨h, fun x hx => absurd hx (by simp), rfl, OFF.rf, by omega, fun _ _ => rfl⟩
/-- to another TOKEN -/
theorem EC.go (h : GC2 kd wr z fA lu lev pn t a base ob w) (ht : t1 < z) (htt : t ≤ t1) : EC kd wr z fA lu lev pn base ob t1 a a w (si w 4 9 (Int32.ofNat t1)) [] (fun b b' _ => b' = b) 0 := by
  obtain ⟨h1, h2, h3, h4, h5, h6⟩ := h
  have hO : OFF (fun k j => k = 4 ∧ j = 9) (si w 4 9 (Int32.ofNat t1)) w := OFF.si ⟨rfl, rfl⟩
  refine ⟨⟨h1.go ht htt, by rw [(hO 3 5 (by omega)).1]; exact h2, by rw [(hO 40 1 (by omega)).1]; exact h3, by rw [(hO 43 5 (by omega)).1]; exact h4, by rw [(hO 43 4 (by omega)).1]; exact h5, h6.off hO (fun k j hk => by omega)⟩, fun x hx => absurd hx (by simp), ?_, hO.mono fun k j hk => by unfold F2; omega, by omega, fun _ _ => rfl⟩
  show (gi _ 3 6, gi _ 3 7) = (gi w 3 6, gi w 3 7)
  rw [(hO 3 6 (by omega)).1, (hO 3 7 (by omega)).1]
/-- a TOKEN that's there -/
theorem EC.take (h : GC2 kd wr z fA lu lev pn t a base ob w) (hk : kd t ≠ 0) {k : Int32} (hx : k = Int32.ofNat (kd t)) : fX9_take k w = (true, si w 4 9 (Int32.ofNat (t + 1))) ∧ EC kd wr z fA lu lev pn base ob (t + 1) a a w (si w 4 9 (Int32.ofNat (t + 1))) [] (fun b b' _ => b' = b) 0 :=
  ⟨(a_take h.1 hk hx).1, EC.go h (kdlt h.1 hk) (by omega)⟩
theorem EC.need (h : GC2 kd wr z fA lu lev pn t a base ob w) {k : Nat} (hk : kd t = k) (h0 : k ≠ 0) : fX9_need (Int32.ofNat k) w = si w 4 9 (Int32.ofNat (t + 1)) ∧ EC kd wr z fA lu lev pn base ob (t + 1) a a w (si w 4 9 (Int32.ofNat (t + 1))) [] (fun b b' _ => b' = b) 0 := by
  obtain ⟨e1, e2⟩ := EC.take h (k := Int32.ofNat k) (by omega) (by rw [hk])
  refine ⟨?_, e2⟩
  unfold fX9_need
  rw [e1, lt2q, if_pos rfl]
theorem EC.opn {d : Nat} (h : GC2 kd wr z fA lu lev pn t a base ob w) (hk : kd t ≠ 0) (h4 : kd t ≠ 4) (hd : d < 40) : fX9_open (Int32.ofNat d) w = (Int32.ofNat (d + 1), si w 4 9 (Int32.ofNat (t + 1))) ∧ EC kd wr z fA lu lev pn base ob (t + 1) a a w (si w 4 9 (Int32.ofNat (t + 1))) [] (fun b b' _ => b' = b) 0 := by
  refine ⟨?_, EC.go h (kdlt h.1 hk) (by omega)⟩
  unfold fX9_open
  have h3 := h.1.2.2.1 t
  have hc4 : ¬ (Int32.ofNat (kd t) = 4) := fun e => h4 ((eq_iN (a := kd t) (b := 4) (by omega) (by omega)).mp e)
  rw [a_kind h.1, ltq, if_neg hc4]
  unfold fX9_open_13
  rw [show gi w 4 9 = Int32.ofNat t from h.1.2.2.2.2.2.2.2.1, ad1_iN, ltq, ad1_iN, if_pos (show Int32.ofNat d < 40 from ylt_iN (b := 40) hd (by omega))]
/-- one word -/
theorem EC.word {x : Int64} (h : GC2 kd wr z fA lu lev pn t a base ob w) (ha : a < 36872) : ∃ u, fX0_word x w = (Int32.ofNat a, u) ∧ EC kd wr z fA lu lev pn base ob t a (a + 1) w u [] (fun b b' g => gl g 41 b = x ∧ b' = b + 1) 1 := by
  obtain ⟨h1, h2, h3, h4, h5, h6⟩ := h
  obtain ⟨u, u1, ⟨c1, c2, c3, c4⟩, u3, u4⟩ := ca_word (v := x) (ob := ob) (S := []) ⟨h2, h3, h4, trivial⟩ ha
  refine ⟨u, u1, ⟨h1.off u4 (fun k j hk => by omega), c1, c2, c3, by rw [(u4 43 4 (by omega)).1]; exact h5, h6.off u4 (fun k j hk => by omega)⟩, fun y hy => absurd hy (by simp), ?_, u4.mono fun k j hk => by unfold F2; omega, by omega, fun g hg => ⟨(hg a (Nat.le_refl _) (by omega)).trans u3, rfl⟩⟩
  show (gi _ 3 6, gi _ 3 7) = (gi w 3 6, gi w 3 7)
  rw [(u4 3 6 (by omega)).1, (u4 3 7 (by omega)).1]
theorem EC.put {x y c : Int32} (h : GC2 kd wr z fA lu lev pn t a base ob w) (ha : a < 36872) : ∃ u, fX0_put x y c w = (Int32.ofNat a, u) ∧ EC kd wr z fA lu lev pn base ob t a (a + 1) w u [] (fun b b' g => gl g 41 b = wdC x y c ∧ b' = b + 1) 1 := by
  obtain ⟨u, u1, u2⟩ := EC.word (x := wdC x y c) h ha
  refine ⟨u, ?_, u2⟩
  unfold fX0_put
  show lt2 (fX0_word (wdC x y c) w) _ = _
  rw [u1, lt2q]
theorem EC.put1 {x : Int32} (h : GC2 kd wr z fA lu lev pn t a base ob w) (ha : a < 36872) : ∃ u, fX0_put__ x w = (Int32.ofNat a, u) ∧ EC kd wr z fA lu lev pn base ob t a (a + 1) w u [] (fun b b' g => gl g 41 b = wdC x 0 0 ∧ b' = b + 1) 1 := by
  obtain ⟨u, u1, u2⟩ := EC.put (x := x) (y := 0) (c := 0) h ha
  refine ⟨u, ?_, u2⟩
  unfold fX0_put__
  rw [u1, lt2q]
theorem EC.put2 {x c : Int32} (h : GC2 kd wr z fA lu lev pn t a base ob w) (ha : a < 36872) : ∃ u, fX0_put_ x c w = (Int32.ofNat a, u) ∧ EC kd wr z fA lu lev pn base ob t a (a + 1) w u [] (fun b b' g => gl g 41 b = wdC x 0 c ∧ b' = b + 1) 1 := by
  obtain ⟨u, u1, u2⟩ := EC.put (x := x) (y := 0) (c := c) h ha
  refine ⟨u, ?_, u2⟩
  unfold fX0_put_
  rw [u1, lt2q]
/-- faults, perhaps -/
theorem EC.fl (h : GC2 kd wr z fA lu lev pn t a base ob w) (hL : ∀ x ∈ L, x.2 ≠ 0) (hf : FLA u = FNL wr L (FLA w)) (hO : OFF (fun k j => k = 3 ∧ (j = 6 ∨ j = 7)) u w) : EC kd wr z fA lu lev pn base ob t a a w u L (fun b b' _ => b' = b) 0 := by
  obtain ⟨h1, h2, h3, h4, h5, h6⟩ := h
  exact ⟨⟨h1.off hO (fun k j hk => by omega), by rw [(hO 3 5 (by omega)).1]; exact h2, by rw [(hO 40 1 (by omega)).1]; exact h3, by rw [(hO 43 5 (by omega)).1]; exact h4, by rw [(hO 43 4 (by omega)).1]; exact h5, h6.off hO (fun k j hk => by omega)⟩, hL, hf, hO.mono fun k j hk => by unfold F2; omega, by omega, fun _ _ => rfl⟩
theorem EC.note {s : Nat} {n : Int32} (h : GC2 kd wr z fA lu lev pn t a base ob w) (hs : s < z) (hn : n ≠ 0) : fX1_wrong (Int32.ofNat s) n w = fX1_note (Int32.ofNat s) n w ∧ EC kd wr z fA lu lev pn base ob t a a w (fX1_note (Int32.ofNat s) n w) [(s, n)] (fun b b' _ => b' = b) 0 := by
  obtain ⟨n1, n2⟩ := note_tw (num := n) h.tw hs
  refine ⟨?_, EC.fl h (fun x hx => by rw [List.mem_singleton.mp hx]; exact hn) n1 n2⟩
  unfold fX1_wrong
  rw [if_neg h.2.1, ltq]
theorem difT_ne {x y : Int32} {s : Nat} : ∀ p ∈ difT x y s, p.2 ≠ 0 := by
  intro p hp
  unfold difT at hp
  split at hp
  · rw [List.mem_singleton.mp hp]; first | exact i32_40 | exact i32_50
  · exact absurd hp (by simp)
theorem EC.check {s : Nat} {x y : Int32} (h : GC2 kd wr z fA lu lev pn t a base ob w) (hs : s < z) : EC kd wr z fA lu lev pn base ob t a a w (fX1_check x y (Int32.ofNat s) w) (difT x y s) (fun b b' _ => b' = b) 0 := by
  obtain ⟨_, _, n1, n2⟩ := ca_check (x := x) (y := y) (ob := ob) (S := []) h.tw ⟨h.2.1, h.2.2.1, h.2.2.2.1, trivial⟩ hs
  exact EC.fl h difT_ne n1 n2
end EC
