/-! PASS 2, THE REFERENCE: its codes, thunks, sites; faults in a row -/
/-- faults noted one after the other: (TOKEN, number) -/
def FNL (wr : Nat → Nat) : List (Nat × Int32) → Int32 × Int32 → Int32 × Int32
  | [], p => p
  | x :: r, p => FNL wr r (FN p x.2 (Int32.ofNat (wr x.1)))
theorem FNL_app {wr : Nat → Nat} : ∀ (a b : List (Nat × Int32)) (p : Int32 × Int32), FNL wr (a ++ b) p = FNL wr b (FNL wr a p) := by
  intro a
  induction a with
  | nil => exact fun _ _ => rfl
  | cons x r ih => exact fun b p => ih b _
/-- what making codes of EXPRS may change -/
def PGX (k j : Nat) : Prop := (k = 0 ∧ (j = 10 ∨ j = 11 ∨ j = 64 ∨ j = 69 ∨ j = 73 ∨ j = 77 ∨ j = 84)) ∨ (46 ≤ k ∧ k ≤ 54) ∨ k = 59
/-- what making codes may change -/
def PGM (k j : Nat) : Prop := PGX k j ∨ (k = 0 ∧ (j = 65 ∨ j = 66 ∨ j = 82 ∨ j = 85 ∨ j = 86)) ∨ k = 35 ∨ k = 36 ∨ (55 ≤ k ∧ k ≤ 58)
/-- codes, thunks, sites, actuals so far -/
def CNT (c : Nat → Nat) (w : Wd) : Prop := gi w 0 64 = Int32.ofNat (c 0) ∧ gi w 0 69 = Int32.ofNat (c 1) ∧ gi w 0 73 = Int32.ofNat (c 2) ∧ gi w 0 77 = Int32.ofNat (c 3)
/-- what's made so far stays -/
def KPT (c : Nat → Nat) (u w : Wd) : Prop := ∀ k j, (k = 46 ∧ j < 4 * c 0 ∨ (k = 47 ∨ k = 48) ∧ j < c 1 ∨ (49 ≤ k ∧ k ≤ 51) ∧ j < c 2 ∨ (52 ≤ k ∧ k ≤ 54) ∧ j < c 3) → gi u k j = gi w k j
/-- two worlds agree on what's made from c to c' -/
def SAM (c c' : Nat → Nat) (g u : Wd) : Prop := ∀ k j, (k = 46 ∧ 4 * c 0 ≤ j ∧ j < 4 * c' 0 ∨ (k = 47 ∨ k = 48) ∧ c 1 ≤ j ∧ j < c' 1 ∨ (49 ≤ k ∧ k ≤ 51) ∧ c 2 ≤ j ∧ j < c' 2 ∨ (52 ≤ k ∧ k ≤ 54) ∧ c 3 ≤ j ∧ j < c' 3) → gi g k j = gi u k j
theorem KPT.rf {c : Nat → Nat} {w : Wd} : KPT c w w := fun _ _ _ => rfl
theorem KPT.tr {c c' : Nat → Nat} {u v w : Wd} (h : KPT c' u v) (g : KPT c v w) (hc : LEC c c') : KPT c u w := fun k j hk => by
  have h0 := hc 0
  have h1 := hc 1
  have h2 := hc 2
  have h3 := hc 3
  exact (h k j (by omega)).trans (g k j hk)
theorem KPT.sam {c0 c' : Nat → Nat} {u w : Wd} (h : KPT c' u w) : SAM c0 c' u w := fun k j hk => h k j (by omega)
theorem SAM.rf {c c' : Nat → Nat} {w : Wd} : SAM c c' w w := fun _ _ _ => rfl
theorem SAM.tr {c c' : Nat → Nat} {u v w : Wd} (h : SAM c c' u v) (g : SAM c c' v w) : SAM c c' u w := fun k j hk => (h k j hk).trans (g k j hk)
theorem SAM.sub {c c' a a' : Nat → Nat} {u v : Wd} (h : SAM c c' u v) (h1 : LEC c a) (h2 : LEC a' c') : SAM a a' u v := fun k j hk => by
  have q0 := h1 0
  have q1 := h1 1
  have q2 := h1 2
  have q3 := h1 3
  have r0 := h2 0
  have r1 := h2 1
  have r2 := h2 2
  have r3 := h2 3
  exact h k j (by omega)
/-- code i -/
def opW (g : Wd) (i : Nat) (a x y z : Int32) : Prop := gi g 46 (4 * i) = a ∧ gi g 46 (4 * i + 1) = x ∧ gi g 46 (4 * i + 2) = y ∧ gi g 46 (4 * i + 3) = z
theorem opW.sam {c c' : Nat → Nat} {g u : Wd} {i : Nat} {a x y z : Int32} (h : opW u i a x y z) (hs : SAM c c' g u) (h1 : c 0 ≤ i) (h2 : i < c' 0) : opW g i a x y z :=
  ⟨(hs _ _ (by omega)).trans h.1, (hs _ _ (by omega)).trans h.2.1, (hs _ _ (by omega)).trans h.2.2.1, (hs _ _ (by omega)).trans h.2.2.2⟩
/-- codes are made; lev, cur: the level and number of the procedure that is at hand -/
def GCS (kd wr : Nat → Nat) (m : Nat) (fM : Wd) (lev cur : Nat) (c : Nat → Nat) (sp : Nat) (w : Wd) : Prop := SM kd wr m w m 0 ∧ OFF PGM w fM ∧ CNT c w ∧ gi w 0 65 = Int32.ofNat lev ∧ gi w 0 66 = Int32.ofNat cur ∧ gi w 0 84 = Int32.ofNat sp
section SG
variable {kd wr : Nat → Nat} {m lev cur sp : Nat} {fM : Wd} {c : Nat → Nat} {w : Wd}
theorem four_op {n : Nat} : (4 : Int32) * Int32.ofNat n = Int32.ofNat (4 * n) := mul_iN 4 n
theorem g_op (h : GCS kd wr m fM lev cur c sp w) (hc : c 0 < 60000) {a x y z : Int32} : ∃ u, fX12_op a x y z w = some (Int32.ofNat (c 0), u) ∧ GCS kd wr m fM lev cur (upC c 0 (c 0 + 1)) sp u ∧ opW u (c 0) a x y z ∧ OFF (fun k j => (k = 0 ∧ j = 64) ∨ (k = 46 ∧ 4 * c 0 ≤ j ∧ j < 4 * c 0 + 4)) u w := by
  obtain ⟨h1, h2, ⟨h3, h4, h5, h6⟩, h7, h8, h9⟩ := h
  have hO : OFF (fun k j => (k = 0 ∧ j = 64) ∨ (k = 46 ∧ 4 * c 0 ≤ j ∧ j < 4 * c 0 + 4)) (si (si (si (si (si w 46 (4 * c 0) a) 46 (4 * c 0 + 1) x) 46 (4 * c 0 + 2) y) 46 (4 * c 0 + 3) z) 0 64 (Int32.ofNat (c 0 + 1))) w :=
    OFF.tr (OFF.si (by omega)) (OFF.tr (OFF.si (by omega)) (OFF.tr (OFF.si (by omega)) (OFF.tr (OFF.si (by omega)) (OFF.si (by omega)))))
  have fM : ∀ k j, ¬ ((k = 0 ∧ j = 64) ∨ (k = 46 ∧ 4 * c 0 ≤ j ∧ j < 4 * c 0 + 4)) → gi (si (si (si (si (si w 46 (4 * c 0) a) 46 (4 * c 0 + 1) x) 46 (4 * c 0 + 2) y) 46 (4 * c 0 + 3) z) 0 64 (Int32.ofNat (c 0 + 1))) k j = gi w k j := fun k j hk => (hO k j hk).1
  refine ⟨si (si (si (si (si w 46 (4 * c 0) a) 46 (4 * c 0 + 1) x) 46 (4 * c 0 + 2) y) 46 (4 * c 0 + 3) z) 0 64 (Int32.ofNat (c 0 + 1)), ?_, ⟨?_, OFF.tr (hO.mono fun k j hk => by unfold PGM PGX; omega) h2, ⟨?_, ?_, ?_, ?_⟩, ?_, ?_, ?_⟩, ⟨?_, ?_, ?_, ?_⟩, hO⟩
  · unfold fX12_op
    have e1 : ∀ n : Nat, Int32.ofNat (4 * n) + 2 = Int32.ofNat (4 * n + 2) := fun n => add_iN _ 2
    have e3 : ∀ n : Nat, Int32.ofNat (4 * n) + 3 = Int32.ofNat (4 * n + 3) := fun n => add_iN _ 3
    rw [h3, four_op, if_pos (inb_iN (by omega) (by omega)), tc_iN (by omega), ltq, gi_si1 (by omega), h3, four_op, ad1_iN, if_pos (inb_iN (by omega) (by omega)), tc_iN (by omega), ltq, gi_si1 (by omega), gi_si1 (by omega), h3, four_op, e1, if_pos (inb_iN (by omega) (by omega)), tc_iN (by omega), ltq, gi_si1 (by omega), gi_si1 (by omega), gi_si1 (by omega), h3, four_op, e3, if_pos (inb_iN (by omega) (by omega)), tc_iN (by omega), ltq, gi_si1 (by omega), gi_si1 (by omega), gi_si1 (by omega), gi_si1 (by omega), h3, ad1_iN, ltq, gi_si0, sb1_iN (by omega) (by omega)]
    rfl
  · obtain ⟨⟨a1, a2, a3, a4, a5⟩, a6, a7, a8, a9⟩ := h1
    exact ⟨⟨a1, a2, a3, a4, fun i hi => by rw [fM 2 i (by omega), fM 3 i (by omega)]; exact a5 i hi⟩, a6, a7, by rw [fM 0 7 (by omega)]; exact a8, by rw [fM 0 8 (by omega)]; exact a9⟩
  · rw [upC_s]; exact gi_si0 _ _ _ _
  · rw [upC_n (by omega), fM 0 69 (by omega)]; exact h4
  · rw [upC_n (by omega), fM 0 73 (by omega)]; exact h5
  · rw [upC_n (by omega), fM 0 77 (by omega)]; exact h6
  · rw [fM 0 65 (by omega)]; exact h7
  · rw [fM 0 66 (by omega)]; exact h8
  · rw [fM 0 84 (by omega)]; exact h9
  · rw [gi_si1 (by omega), gi_si1 (by omega), gi_si1 (by omega), gi_si1 (by omega), gi_si0]
  · rw [gi_si1 (by omega), gi_si1 (by omega), gi_si1 (by omega), gi_si0]
  · rw [gi_si1 (by omega), gi_si1 (by omega), gi_si0]
  · rw [gi_si1 (by omega), gi_si0]
/-- places off the counters -/
theorem GCS.off {P : Nat → Nat → Prop} {u : Wd} (h : GCS kd wr m fM lev cur c sp w) (hO : OFF P u w) (hP : ∀ k j, P k j → PGM k j ∧ ¬ (k = 0 ∧ (64 ≤ j ∧ j ≤ 66 ∨ j = 69 ∨ j = 73 ∨ j = 77 ∨ j = 84))) : GCS kd wr m fM lev cur c sp u := by
  obtain ⟨h1, h2, ⟨h3, h4, h5, h6⟩, h7, h8, h9⟩ := h
  have f0 : ∀ j, (64 ≤ j ∧ j ≤ 66 ∨ j = 69 ∨ j = 73 ∨ j = 77 ∨ j = 84) → gi u 0 j = gi w 0 j := fun j hj => (hO 0 j (fun hq => (hP _ _ hq).2 ⟨rfl, hj⟩)).1
  have fP : ∀ k j, ¬ PGM k j → gi u k j = gi w k j := fun k j hk => (hO k j (fun hq => hk (hP _ _ hq).1)).1
  refine ⟨?_, OFF.tr (hO.mono fun k j hk => (hP k j hk).1) h2, ⟨by rw [f0 64 (by omega)]; exact h3, by rw [f0 69 (by omega)]; exact h4, by rw [f0 73 (by omega)]; exact h5, by rw [f0 77 (by omega)]; exact h6⟩, by rw [f0 65 (by omega)]; exact h7, by rw [f0 66 (by omega)]; exact h8, by rw [f0 84 (by omega)]; exact h9⟩
  obtain ⟨⟨a1, a2, a3, a4, a5⟩, a6, a7, a8, a9⟩ := h1
  exact ⟨⟨a1, a2, a3, a4, fun i hi => by rw [fP 2 i (by unfold PGM PGX; omega), fP 3 i (by unfold PGM PGX; omega)]; exact a5 i hi⟩, a6, a7, by rw [fP 0 7 (by unfold PGM PGX; omega)]; exact a8, by rw [fP 0 8 (by unfold PGM PGX; omega)]; exact a9⟩
theorem g_patch (h : GCS kd wr m fM lev cur c sp w) {i : Nat} (hi : i < 60000) : fX12_patch (Int32.ofNat i) w = some (si w 46 (4 * i + 1) (Int32.ofNat (c 0))) ∧ GCS kd wr m fM lev cur c sp (si w 46 (4 * i + 1) (Int32.ofNat (c 0))) := by
  refine ⟨?_, h.off (OFF.si (P := fun k j => k = 46 ∧ j = 4 * i + 1) ⟨rfl, rfl⟩) (fun k j hk => by unfold PGM PGX; omega)⟩
  unfold fX12_patch
  rw [four_op, ad1_iN, if_pos (inb_iN (by omega) (by omega)), tc_iN (by omega), h.2.2.1.1]
  rfl
theorem g_thunk (h : GCS kd wr m fM lev cur c sp w) (hc : c 1 < 6000) {a : Int32} : ∃ u, fX12_newThunk a w = some (Int32.ofNat (c 1), u) ∧ GCS kd wr m fM lev cur (upC c 1 (c 1 + 1)) sp u ∧ gi u 47 (c 1) = Int32.ofNat (c 0) ∧ gi u 48 (c 1) = a ∧ OFF (fun k j => (k = 0 ∧ j = 69) ∨ ((k = 47 ∨ k = 48) ∧ j = c 1)) u w := by
  obtain ⟨h1, h2, ⟨h3, h4, h5, h6⟩, h7, h8, h9⟩ := h
  have hO : OFF (fun k j => (k = 0 ∧ j = 69) ∨ ((k = 47 ∨ k = 48) ∧ j = c 1)) (si (si (si w 47 (c 1) (Int32.ofNat (c 0))) 48 (c 1) a) 0 69 (Int32.ofNat (c 1 + 1))) w := OFF.tr (OFF.si (by omega)) (OFF.tr (OFF.si (by omega)) (OFF.si (by omega)))
  have fM : ∀ k j, ¬ ((k = 0 ∧ j = 69) ∨ ((k = 47 ∨ k = 48) ∧ j = c 1)) → gi (si (si (si w 47 (c 1) (Int32.ofNat (c 0))) 48 (c 1) a) 0 69 (Int32.ofNat (c 1 + 1))) k j = gi w k j := fun k j hk => (hO k j hk).1
  refine ⟨si (si (si w 47 (c 1) (Int32.ofNat (c 0))) 48 (c 1) a) 0 69 (Int32.ofNat (c 1 + 1)), ?_, ⟨?_, OFF.tr (hO.mono fun k j hk => by unfold PGM PGX; omega) h2, ⟨?_, ?_, ?_, ?_⟩, ?_, ?_, ?_⟩, ?_, ?_, hO⟩
  · unfold fX12_newThunk
    rw [h4, if_pos (inb_iN (by omega) (by omega)), tc_iN (by omega), h3, ltq, gi_si1 (by omega), h4, if_pos (inb_iN (by omega) (by omega)), tc_iN (by omega), ltq, gi_si1 (by omega), gi_si1 (by omega), h4, ad1_iN, ltq, gi_si0, sb1_iN (by omega) (by omega)]
    rfl
  · obtain ⟨⟨a1, a2, a3, a4, a5⟩, a6, a7, a8, a9⟩ := h1
    exact ⟨⟨a1, a2, a3, a4, fun i hi => by rw [fM 2 i (by omega), fM 3 i (by omega)]; exact a5 i hi⟩, a6, a7, by rw [fM 0 7 (by omega)]; exact a8, by rw [fM 0 8 (by omega)]; exact a9⟩
  · rw [upC_n (by omega), fM 0 64 (by omega)]; exact h3
  · rw [upC_s]; exact gi_si0 _ _ _ _
  · rw [upC_n (by omega), fM 0 73 (by omega)]; exact h5
  · rw [upC_n (by omega), fM 0 77 (by omega)]; exact h6
  · rw [fM 0 65 (by omega)]; exact h7
  · rw [fM 0 66 (by omega)]; exact h8
  · rw [fM 0 84 (by omega)]; exact h9
  · rw [gi_si1 (by omega), gi_si1 (by omega), gi_si0]
  · rw [gi_si1 (by omega), gi_si0]
/-- a place that is told once for all -/
theorem GCS.fx (h : GCS kd wr m fM lev cur c sp w) {k j : Nat} (hk : ¬ PGM k j) : gi w k j = gi fM k j ∧ gl w k j = gl fM k j := h.2.1 k j hk
theorem g_found (h : GCS kd wr m fM lev cur c sp w) {a : Nat} (ha : a ≤ m) {num : Int32} : ∃ u, fX12_found num (Int32.ofNat a) w = some u ∧ GCS kd wr m fM lev cur c sp u ∧ FLM u = FN (FLM w) num (Int32.ofNat (wr a)) ∧ OFF (fun k j => k = 0 ∧ (j = 10 ∨ j = 11)) u w := by
  obtain ⟨u, u1, u2, u3⟩ := found_ok (num := num) h.1 ha
  exact ⟨u, u1, h.off u3 (fun k j hk => by unfold PGM PGX; omega), u2, u3⟩
theorem g_isFormal (h : GCS kd wr m fM lev cur c sp w) {k : Nat} (hk : k < 5000) {x : Int32} : fX12_isFormal (Int32.ofNat k) x w = some (decide (gi fM 19 k = 6 ∧ gi fM 24 k = x), w) := by
  have e19 : gi w 19 k = gi fM 19 k := (h.fx (k := 19) (by unfold PGM PGX; omega)).1
  have e24 : gi w 24 k = gi fM 24 k := (h.fx (k := 24) (by unfold PGM PGX; omega)).1
  unfold fX12_isFormal
  rw [if_pos (inb_iN (by omega) (by omega)), if_pos (inb_iN (by omega) (by omega)), tc_iN (by omega), e19, e24]
  by_cases q1 : gi fM 19 k = 6
  · rw [if_pos q1]
    by_cases q2 : gi fM 24 k = x
    · rw [if_pos q2, decide_eq_true (show gi fM 19 k = 6 ∧ gi fM 24 k = x from ⟨q1, q2⟩)]
    · rw [if_neg q2, decide_eq_false (fun h => q2 h.2)]
  · rw [if_neg q1, decide_eq_false (fun h => q1 h.1)]
/-- how many levels up symbol k lies -/
def upI (fM : Wd) (lev k : Nat) : Int32 := Int32.ofNat lev - gi fM 30 (gi fM 23 k).toNatClampNeg
theorem g_up (h : GCS kd wr m fM lev cur c sp w) {k p : Nat} (hk : k < 5000) (h23 : gi fM 23 k = Int32.ofNat p) (hp : p < 1200) : fX12_up (Int32.ofNat k) w = some (upI fM lev k, w) := by
  have e23 : gi w 23 k = gi fM 23 k := (h.fx (k := 23) (by unfold PGM PGX; omega)).1
  have e30 : gi w 30 p = gi fM 30 p := (h.fx (k := 30) (by unfold PGM PGX; omega)).1
  unfold fX12_up fX12_levelOfSymbol upI
  rw [if_pos (inb_iN (by omega) (by omega)), tc_iN (by omega), e23, h23, if_pos (inb_iN hp (by omega)), tc_iN (by omega), bn2_so, h.2.2.2.1, e30]
theorem g_wrong (h : GCS kd wr m fM lev cur c sp w) {n tk : Nat} (hn : n < 24000) (h12 : gi fM 12 n = Int32.ofNat tk) (ht : tk ≤ m) : ∃ u, fX12_wrongName (Int32.ofNat n) w = some (0, u) ∧ GCS kd wr m fM lev cur c sp u ∧ FLM u = FN (FLM w) 4 (Int32.ofNat (wr tk)) ∧ OFF (fun k j => k = 0 ∧ (j = 10 ∨ j = 11)) u w := by
  have e12 : gi w 12 n = gi fM 12 n := (h.fx (k := 12) (by unfold PGM PGX; omega)).1
  obtain ⟨u, u1, u2, u3, u4⟩ := g_found h ht (num := 4)
  refine ⟨u, ?_, u2, u3, u4⟩
  unfold fX12_wrongName
  rw [if_pos (inb_iN (by omega) (by omega)), tc_iN (by omega), e12, h12, u1]
  rfl
/-- a site -/
theorem g_site (h : GCS kd wr m fM lev cur c sp w) {k p : Nat} (hk : k < 5000) (h23 : gi fM 23 k = Int32.ofNat p) (hp : p < 1200) (hc : c 2 < 4300) : ∃ u, fX12_site (Int32.ofNat k) w = some (Int32.ofNat (c 2), u) ∧ GCS kd wr m fM lev cur (upC c 2 (c 2 + 1)) sp u ∧ gi u 49 (c 2) = gi fM 24 k ∧ gi u 50 (c 2) = upI fM lev k ∧ gi u 51 (c 2) = Int32.ofNat (c 3) ∧ OFF (fun k j => (k = 0 ∧ j = 73) ∨ (49 ≤ k ∧ k ≤ 51 ∧ j = c 2)) u w := by
  have e24 : gi w 24 k = gi fM 24 k := (h.fx (k := 24) (by unfold PGM PGX; omega)).1
  have hup : ∀ v, GCS kd wr m fM lev cur c sp v → fX12_up (Int32.ofNat k) v = some (upI fM lev k, v) := fun v hv => g_up hv hk h23 hp
  have h1' := h.off (u := si w 49 (c 2) (gi fM 24 k)) (OFF.si (P := fun k j => k = 49 ∧ j = c 2) ⟨rfl, rfl⟩) (fun k j hk => by unfold PGM PGX; omega)
  obtain ⟨h1, h2, ⟨h3, h4, h5, h6⟩, h7, h8, h9⟩ := h
  have hO : OFF (fun k j => (k = 0 ∧ j = 73) ∨ (49 ≤ k ∧ k ≤ 51 ∧ j = c 2)) (si (si (si (si w 49 (c 2) (gi fM 24 k)) 50 (c 2) (upI fM lev k)) 51 (c 2) (Int32.ofNat (c 3))) 0 73 (Int32.ofNat (c 2 + 1))) w := OFF.tr (OFF.si (by omega)) (OFF.tr (OFF.si (by omega)) (OFF.tr (OFF.si (by omega)) (OFF.si (by omega))))
  have fM' : ∀ k' j, ¬ ((k' = 0 ∧ j = 73) ∨ (49 ≤ k' ∧ k' ≤ 51 ∧ j = c 2)) → gi (si (si (si (si w 49 (c 2) (gi fM 24 k)) 50 (c 2) (upI fM lev k)) 51 (c 2) (Int32.ofNat (c 3))) 0 73 (Int32.ofNat (c 2 + 1))) k' j = gi w k' j := fun k' j hk => (hO k' j hk).1
  refine ⟨si (si (si (si w 49 (c 2) (gi fM 24 k)) 50 (c 2) (upI fM lev k)) 51 (c 2) (Int32.ofNat (c 3))) 0 73 (Int32.ofNat (c 2 + 1)), ?_, ⟨?_, OFF.tr (hO.mono fun k j hk => by unfold PGM PGX; omega) h2, ⟨?_, ?_, ?_, ?_⟩, ?_, ?_, ?_⟩, ?_, ?_, ?_, hO⟩
  · unfold fX12_site
    rw [if_pos (inb_iN (by omega) (by omega)), h5, if_pos (inb_iN (by omega) (by omega)), tc_iN (by omega), tc_iN (by omega), e24, ltq, hup _ h1', bn2_so, gi_si1 (by omega), h5, if_pos (inb_iN (by omega) (by omega)), tc_iN (by omega), ltq, gi_si1 (by omega), gi_si1 (by omega), h5, if_pos (inb_iN (by omega) (by omega)), tc_iN (by omega), gi_si1 (by omega), gi_si1 (by omega), h6, ltq, gi_si1 (by omega), gi_si1 (by omega), gi_si1 (by omega), h5, ad1_iN, ltq, gi_si0, sb1_iN (by omega) (by omega)]
    rfl
  · obtain ⟨⟨a1, a2, a3, a4, a5⟩, a6, a7, a8, a9⟩ := h1
    exact ⟨⟨a1, a2, a3, a4, fun i hi => by rw [fM' 2 i (by omega), fM' 3 i (by omega)]; exact a5 i hi⟩, a6, a7, by rw [fM' 0 7 (by omega)]; exact a8, by rw [fM' 0 8 (by omega)]; exact a9⟩
  · rw [upC_n (by omega), fM' 0 64 (by omega)]; exact h3
  · rw [upC_n (by omega), fM' 0 69 (by omega)]; exact h4
  · rw [upC_s]; exact gi_si0 _ _ _ _
  · rw [upC_n (by omega), fM' 0 77 (by omega)]; exact h6
  · rw [fM' 0 65 (by omega)]; exact h7
  · rw [fM' 0 66 (by omega)]; exact h8
  · rw [fM' 0 84 (by omega)]; exact h9
  · rw [gi_si1 (by omega), gi_si1 (by omega), gi_si1 (by omega), gi_si0]
  · rw [gi_si1 (by omega), gi_si1 (by omega), gi_si0]
  · rw [gi_si1 (by omega), gi_si0]
end SG
