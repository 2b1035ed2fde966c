/-! PASS 2, THE CLASS: PRIMARIES with a NAME before -/
section SY
variable {kd : Nat → Nat} {m : Nat} {C TK lu : Nat → Nat} {fA fM : Wd} {tk : Nat}
/-- a procedure without formals -/
theorem SYT.nul (hS : SYT kd m C TK lu fA fM) (h3 : gi fA 14 (lu tk) = 3) : gi fA 19 (lu tk) = 0 ↔ ¬ (gi fM 19 (lu tk - 1) = 3 ∧ ¬ gi fM 31 (nd fM 24 (lu tk - 1)) ≤ 0) := by
  have l0 : lu tk ≠ 0 := fun g => by
    have := hS.1
    rw [g, this] at h3
    exact absurd h3 (by decide)
  have hsy := hS.sy l0
  rcases hsy.2.2.2.2.2.2.2.2 with k | k | k | k | k | k
  · rw [show lu tk - 1 + 1 = lu tk by omega] at k
    exact absurd (k.2.1.symm.trans h3) (by decide)
  · rw [show lu tk - 1 + 1 = lu tk by omega] at k
    exact absurd (k.2.1.symm.trans h3) (by decide)
  · obtain ⟨k1, k2, k3, p9, nf, ff, k4, k5, k6, k7, k8, k9, k10, k11, k12, k13⟩ := k
    rw [show lu tk - 1 + 1 = lu tk by omega] at k10
    have hC := hS.2.2.1
    have hnf : nf ≤ 4100 := by omega
    have hp9 : nd fM 24 (lu tk - 1) = p9 := by
      unfold nd
      rw [k6, tc_iN (by omega)]
    rw [hp9, k8, k10]
    constructor
    · intro g hh
      have : nf = 0 := (eq_iN (a := nf) (b := 0) (by omega) (by omega)).mp g
      rw [this] at hh
      exact hh.2 (by decide)
    · intro g
      by_cases qn : nf = 0
      · rw [qn]; rfl
      · exact absurd ⟨k1, fun hh => by
          have := (le_iN (a := nf) (b := 0) (by omega) (by omega)).mp hh
          omega⟩ g
  · rw [show lu tk - 1 + 1 = lu tk by omega] at k
    exact absurd (k.2.1.symm.trans h3) (by decide)
  · rw [show lu tk - 1 + 1 = lu tk by omega] at k
    exact absurd (k.2.1.symm.trans h3) (by decide)
  · rw [show lu tk - 1 + 1 = lu tk by omega] at k
    exact ⟨fun _ hh => absurd (k.1.symm.trans hh.1) (by decide), fun _ => k.2.1⟩
/-- a number of indices -/
theorem SYT.nme (hS : SYT kd m C TK lu fA fM) {len n : Nat} (h9 : gi fM 9 n = Int32.ofNat len) (hlen : len ≤ 8193) : nmE fA (lu tk) tk len = (if lu tk = 0 then [] else if gi fM 19 (lu tk - 1) = 2 ∨ FO fM (lu tk - 1) 2 then (if (gi fM 19 (lu tk - 1) = 2 ∧ gi fM 24 (lu tk - 1) ≠ gi fM 9 n) ∨ (FO fM (lu tk - 1) 2 ∧ ¬ gi fM 9 n ≤ 3) then [(tk, 5)] else []) else []) := by
  have hi := hS.is (tk := tk) (x := 2) (by decide) (by decide)
  unfold nmE
  by_cases q : gi fA 14 (lu tk) = 2
  · obtain ⟨l0, l1⟩ := hi.mp q
    have hsy := hS.sy l0
    rw [if_pos q, if_neg l0, if_pos l1, h9]
    rcases l1 with l1 | l1
    · have hF : ¬ FO fM (lu tk - 1) 2 := fun g => absurd (l1.symm.trans g.1) (by decide)
      rcases hsy.2.2.2.2.2.2.2.2 with k | k | k | k | k | k
      · exact absurd (k.1.symm.trans l1) (by decide)
      · obtain ⟨k1, k2, k3, k4, b, k5, k6, k7, k8⟩ := k
        rw [show lu tk - 1 + 1 = lu tk by omega] at k3 k7
        rw [if_neg (by rw [k3]; decide), k7]
        by_cases qb : len = b
        · rw [if_pos (by rw [qb]), if_neg (fun g => g.elim (fun g => g.2 (by rw [k8, qb])) (fun g => hF g.1))]
        · rw [if_neg (of_ne (by omega) (by omega) qb), if_pos (Or.inl ⟨l1, by rw [k8]; exact of_ne (by omega) (by omega) (fun g => qb g.symm)⟩)]
      · exact absurd (k.1.symm.trans l1) (by decide)
      · exact absurd (k.1.symm.trans l1) (by decide)
      · exact absurd (k.1.symm.trans l1) (by decide)
      · exact absurd (k.1.symm.trans l1) (by decide)
    · have hn2 : ¬ gi fM 19 (lu tk - 1) = 2 := fun g => absurd (l1.1.symm.trans g) (by decide)
      have h28 : gi fM 28 (lu tk - 1) = 0 := by
        by_cases q28 : gi fM 28 (lu tk - 1) = 0
        · exact q28
        · exact absurd (l1.2.symm.trans (hsy.val l1.1 q28)) (by decide)
      have h16 := hsy.fml.mpr ⟨l1.1, h28⟩
      rw [show lu tk - 1 + 1 = lu tk by omega] at h16
      rw [if_pos h16]
      have h3 : ((3 : Int32) < Int32.ofNat len ↔ ¬ Int32.ofNat len ≤ 3) := by
        rw [show (3 : Int32) = Int32.ofNat 3 from rfl, lt_iN (by omega) (by omega), le_iN (by omega) (by omega)]
        omega
      by_cases q3 : (3 : Int32) < Int32.ofNat len
      · rw [if_pos q3, if_pos (Or.inr ⟨l1, h3.mp q3⟩)]
      · rw [if_neg q3, if_neg (fun g => g.elim (fun g => hn2 g.1) (fun g => q3 (h3.mpr g.2)))]
  · rw [if_neg q]
    by_cases l0 : lu tk = 0
    · rw [if_pos l0]
    · rw [if_neg l0, if_neg (fun g => q (hi.mpr ⟨l0, g⟩))]
/-- another SORT -/
theorem SYT.sre (hS : SYT kd m C TK lu fA fM) {x : Int32} (hx : x ≠ 6) (h0 : x ≠ 0) : srE fA x (lu tk) tk = (if lu tk = 0 then [] else if gi fM 19 (lu tk - 1) = x ∨ FO fM (lu tk - 1) x then [] else misS fM (lu tk) tk) := by
  have hi := hS.mis (tk := tk) hx h0
  unfold srE misS
  by_cases l0 : lu tk = 0
  · rw [if_pos (hi.mpr (Or.inl l0)), if_pos l0]
  · rw [if_neg l0]
    by_cases q : gi fM 19 (lu tk - 1) = x ∨ FO fM (lu tk - 1) x
    · rw [if_pos q, if_pos (hi.mpr (Or.inr (q.elim Or.inl (fun g => Or.inr (Or.inl g)))))]
    · rw [if_neg q]
      by_cases q0 : FO fM (lu tk - 1) 0
      · rw [if_pos q0, if_pos (hi.mpr (Or.inr (Or.inr (Or.inr q0))))]
      · rw [if_neg q0, if_neg]
        intro g
        rcases hi.mp g with g | g | g | g
        · exact l0 g
        · exact q (Or.inl g)
        · exact q (Or.inr g)
        · exact q0 g
end SY
section EC
variable {kd wr : Nat → Nat} {z : Nat} {fA fM : Wd} {lu : Nat → Nat} {lev cur : Nat} {pn : Nat → Int32} {base ob t t1 t2 t3 a a1 a2 a3 n s e d f l : Nat} {w w1 w2 w3 w4 u v : Wd} {L L1 L2 L3 : List (Nat × Int32)} {P P1 P2 P3 : Nat → Nat → Wd → Prop} {B B1 B2 B3 : Nat}
/-- a NAME, and what's behind it -/
theorem c_nm (hw : GC2 kd wr z fA lu lev pn t a base ob w) (hk : kd t = 2) : lu t ≤ 4100 ∧ ∃ x, fX1_find (Int32.ofNat t) w = (Int32.ofNat (lu t), x) ∧ fX9_take 2 x = (true, si x 4 9 (Int32.ofNat (t + 1))) ∧ fX9_need 2 x = si x 4 9 (Int32.ofNat (t + 1)) ∧ EC kd wr z fA lu lev pn base ob (t + 1) a a w (si x 4 9 (Int32.ofNat (t + 1))) (notD (lu t) t) (fun b b' _ => b' = b) 0 := by
  obtain ⟨c1, x, c2, c3⟩ := c_find hw hk
  obtain ⟨y7, y8⟩ := EC.take c3.1 (k := 2) (by omega) (by rw [hk]; rfl)
  obtain ⟨y9, _⟩ := EC.need c3.1 hk (by omega)
  exact ⟨c1, x, c2, y7, y9, ((c3.seq y8).wk (fun b b' g ⟨b1, g1, g2⟩ => by rw [g1] at g2; exact g2) (by omega)).cL (List.append_nil _).symm⟩
theorem EC.fl' (h : EC kd wr z fA lu lev pn base ob t a a w u L1 (fun b b' _ => b' = b) 0) (g : EC kd wr z fA lu lev pn base ob t1 a a2 u v L2 P B) : EC kd wr z fA lu lev pn base ob t1 a a2 w v (L1 ++ L2) P B :=
  (h.seq g).wk (fun b b' g ⟨b1, g1, g2⟩ => by rw [g1] at g2; exact g2) (by omega)
theorem va_21 {x : Int32} {v : Wd} : fX2_variable_21 x v = if fX8_isFormal x v = true then fX2_use x 0 v else (fX0_put 19 (fX1_hops x v) (fX8_slot x v) v).2 := by
  unfold fX2_variable_21
  rw [ltq]
  generalize fX8_isFormal x v = b
  cases b
  · rw [if_neg (by decide), if_neg (by decide), ltq, ltq, lt2q]
  · rw [if_pos rfl, if_pos rfl, ltq]
theorem va_eq {x y : Int32} {v : Wd} : fX2_variable x y v = if fX1_isSort x 1 v = true then fX2_variable_21 x v else fX2_variable_21 x (fX1_wrong y 4 v) := by
  unfold fX2_variable
  rw [ltq]
  generalize fX1_isSort x 1 v = b
  cases b
  · rw [if_neg (by decide), if_neg (by decide), ltq]
  · rw [if_pos rfl, if_pos rfl]
theorem c_variable (h : EC kd wr z fA lu lev pn base ob t a a w u L (fun b b' _ => b' = b) 0) (hl : l ≤ 4100) (hs : s < z) (ha : a + 1 < 36872) : ∃ a', EC kd wr z fA lu lev pn base ob t a a' w (fX2_variable (Int32.ofNat l) (Int32.ofNat s) u) (L ++ srE fA 1 l s) (fun b b' g => vaC fA lev l b b' g) 2 := by
  have h21 : ∀ {v : Wd} {L1 : List (Nat × Int32)}, EC kd wr z fA lu lev pn base ob t a a w v L1 (fun b b' _ => b' = b) 0 → ∃ a', EC kd wr z fA lu lev pn base ob t a a' w (fX2_variable_21 (Int32.ofNat l) v) L1 (fun b b' g => vaC fA lev l b b' g) 2 := by
    intro v L1 hv
    obtain ⟨f1, f2⟩ := c_formal hv.1 hl
    rw [va_21, c_hops hv.1 hl, c_slot hv.1 hl]
    by_cases q : gi fA 16 l = 3
    · rw [f1 q, if_pos rfl]
      exact ⟨a + 2, ((hv.fl' (c_use (md := 0) hv.1 hl ha)).wk (fun b b' g hg => Or.inl ⟨q, hg⟩) (by omega)).cL (List.append_nil _).symm⟩
    · obtain ⟨x, x1, x2⟩ := EC.put (x := 19) (y := hpC fA lev l) (c := gi fA 18 l) hv.1 (by omega)
      rw [f2 q, if_neg (by decide), x1]
      exact ⟨a + 1, ((hv.fl' x2).wk (fun b b' g hg => Or.inr ⟨q, hg⟩) (by omega)).cL (List.append_nil _).symm⟩
  obtain ⟨s1, s2⟩ := c_isSort h.1 hl (x := 1)
  rw [va_eq]
  unfold srE
  by_cases q : gi fA 14 l = 1 ∨ gi fA 14 l = 0
  · rw [s1 q, if_pos rfl, if_pos q, List.append_nil]
    exact h21 h
  · obtain ⟨m1, m2⟩ := EC.note h.1 hs (n := 4) (by decide)
    rw [s2 q, if_neg (by decide), if_neg q, m1]
    exact h21 (h.fl' m2)
/-- is a procedure wanted: its faults -/
def gvL (fA : Wd) (l s : Nat) : List (Nat × Int32) := if gi fA 14 l = 3 ∧ gi fA 15 l ≠ 0 ∨ gi fA 14 l = 0 then [] else [(s, 4)]
theorem c_119 {rc : TX2_typed} {a1 : Int32} {bo : Bool} (h : EC kd wr z fA lu lev pn base ob t a a w u L (fun b b' _ => b' = b) 0) (hl : l ≤ 4100) (hs : s < z) : ∃ v, fX2_named_119 rc a1 (Int32.ofNat s) (Int32.ofNat l) bo u = fX2_named_174 rc a1 (Int32.ofNat s) (Int32.ofNat l) bo v ∧ EC kd wr z fA lu lev pn base ob t a a w v (L ++ gvL fA l s) (fun b b' _ => b' = b) 0 := by
  have hf : fX2_named_147 rc false a1 (Int32.ofNat s) (Int32.ofNat l) bo u = (if gi fA 14 l = 0 then fX2_named_174 rc a1 (Int32.ofNat s) (Int32.ofNat l) bo u else fX2_named_174 rc a1 (Int32.ofNat s) (Int32.ofNat l) bo (fX1_note (Int32.ofNat s) 4 u)) := by
    unfold fX2_named_147
    rw [if_neg (by decide), ltq, c_sort h.1 hl, ltq, (EC.note h.1 hs (n := 4) (by decide)).1]
  have m2 := (EC.note h.1 hs (n := 4) (by decide)).2
  unfold fX2_named_119 gvL
  rw [ltq, c_sort h.1 hl, ltq, c_type h.1 hl, hf]
  by_cases q3 : gi fA 14 l = 3
  · rw [if_pos q3]
    by_cases qt : gi fA 15 l = 0
    · rw [if_pos qt, if_neg (by rw [q3]; decide), if_neg (fun g => g.elim (fun g => g.2 qt) (fun g => absurd (q3.symm.trans g) (by decide)))]
      exact ⟨_, rfl, h.fl' m2⟩
    · rw [if_neg qt, if_pos (Or.inl ⟨q3, qt⟩), List.append_nil]
      exact ⟨u, by unfold fX2_named_147; exact if_pos rfl, h⟩
  · rw [if_neg q3]
    by_cases q0 : gi fA 14 l = 0
    · rw [if_pos q0, if_pos (Or.inr q0), List.append_nil]
      exact ⟨u, rfl, h⟩
    · rw [if_neg q0, if_neg (fun g => g.elim (fun g => q3 g.1) q0)]
      exact ⟨_, rfl, h.fl' m2⟩
end EC
