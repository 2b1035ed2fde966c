/-! PASS 2, THE CLASS: J2, kept while signs are worked out -/
def PGE (k j : Nat) : Prop := (k = 3 ∧ (j = 6 ∨ j = 7)) ∨ PRE k j
theorem e_chk {a b c : Int32} {w : Wd} : OFF PGE (fX1_check a b c w) w := by
  have hw : OFF PGE (fX1_wrong c 4 w) w := by
    unfold fX1_wrong
    by_cases q : gi w 3 5 = 0
    · rw [if_pos q]; exact OFF.rf
    · rw [if_neg q]; exact e_note.mono fun k j h => Or.inl h
  unfold fX1_check
  rw [ltq]
  by_cases q1 : a = 0
  · rw [if_pos q1]; exact OFF.rf
  · by_cases q2 : b = 0
    · rw [if_neg q1, if_pos q2]; exact OFF.rf
    · by_cases q3 : a = b
      · rw [if_neg q1, if_neg q2, if_pos q3]; exact OFF.rf
      · rw [if_neg q1, if_neg q2, if_neg q3]; exact hw
theorem e2_one {a b : Int32} {w : Wd} : OFF PGE (fX2_reduceOne a b w) w := by
  have hP : ∀ {u v : Wd}, OFF PRE u v → OFF PGE u v := fun h => h.mono fun k j hk => Or.inr hk
  have h11 : ∀ x : Int32, OFF PGE (fX2_reduceOne_11 x a b w) w := fun x => by
    unfold fX2_reduceOne_11
    rw [ltq, ltq, ltq]
    have hc : OFF PGE (fX1_check x (fX10_type 0 w) (fX10_start 0 w) w) w := e_chk
    generalize fX1_check x (fX10_type 0 w) (fX10_start 0 w) w = w3 at hc ⊢
    by_cases h : a = 29
    · rw [if_pos h, lt2q]
      exact OFF.tr (hP (e_one71 _ _ _)) (OFF.tr (hP e_put__) hc)
    · rw [if_neg h]
      by_cases h2 : a = -34
      · rw [if_pos h2, lt2q]
        exact OFF.tr (hP (e_one71 _ _ _)) (OFF.tr (hP e_put__) hc)
      · rw [if_neg h2]
        exact OFF.tr (hP (e_one71 _ _ _)) hc
  unfold fX2_reduceOne
  by_cases h : a = 29
  · rw [if_pos h]; exact h11 _
  · rw [if_neg h]; exact h11 _
theorem e2_two {a : Int32} {w : Wd} : OFF PGE (fX2_reduceTwo a w) w := by
  have hP : ∀ {u v : Wd}, OFF PRE u v → OFF PGE u v := fun h => h.mono fun k j hk => Or.inr hk
  have h17 : ∀ x : Int32, OFF PGE (fX2_reduceTwo_17 a x w) w := fun x => by
    unfold fX2_reduceTwo_17
    rw [ltq, ltq, ltq, ltq]
    exact OFF.tr (hP (e_two110 _ _ _)) e_chk
  have h61 : ∀ y x : Int32, OFF PGE (fX2_reduceTwo_61 y a x w) w := fun y x => by
    unfold fX2_reduceTwo_61
    rw [ltq, ltq, ltq, ltq, ltq, ltq]
    exact OFF.tr (hP (e_two110 _ _ _)) (OFF.tr e_chk e_chk)
  unfold fX2_reduceTwo
  rw [ltq]
  generalize fX10_strength a w = q
  by_cases h : a = 38
  · rw [if_pos h]; exact h17 _
  · rw [if_neg h]
    by_cases h2 : a = 49
    · rw [if_pos h2]; exact h17 _
    · rw [if_neg h2]
      by_cases h3 : (5 : Int32) ≤ q
      · rw [if_pos h3]; exact h61 _ _
      · rw [if_neg h3]; exact h61 _ _
/-- operands, faults and words are those of the events; words from a0 on; w0: where it began; F: what may change -/
def J2 (wr : Nat → Nat) (z ob a0 : Nat) (F : Nat → Nat → Prop) (w0 : Wd) (pT : Nat → Nat → Int32) (pL : Nat → Nat → List (Nat × Int32)) (pP : Nat → Nat → Nat → Nat → Wd → Prop) (pB : Nat → Nat → Nat) (ev : List EV) (w : Wd) : Prop :=
  TW wr z w ∧ (ob < 512 → evOK z ob pT ev [] → a0 + evB pB ev ≤ 36872 → ∃ a, (a0 ≤ a ∧ a ≤ a0 + evB pB ev) ∧ CCS ob a (evStk pT ev []) w ∧ FLA w = FNL wr (evL pT pL ev []) (FLA w0) ∧ OFF F w w0 ∧ ∀ g, (∀ j, a0 ≤ j → j < a → gl g 41 j = gl w 41 j) → evP pP ev a0 a g)
section EV9
variable {wr : Nat → Nat} {z ob a0 base : Nat} {F : Nat → Nat → Prop} {w0 : Wd} {pT : Nat → Nat → Int32} {pL : Nat → Nat → List (Nat × Int32)} {pP : Nat → Nat → Nat → Nat → Wd → Prop} {pB : Nat → Nat → Nat}
theorem jx2 (hF : ∀ k j, PW2 a0 ob k j ∨ PSG base k j → F k j) : JX base (J2 wr z ob a0 F w0 pT pL pP pB) := by
  have hgo : ∀ (ev : List EV) (w u : Wd) (s : EV) (x : List (Int32 × Nat)) (n : Nat) (L : List (Nat × Int32)) (a : Nat), evB pB [s] = 1 → n ≤ 1 → (a0 ≤ a ∧ a ≤ a0 + evB pB ev) → FLA w = FNL wr (evL pT pL ev []) (FLA w0) → OFF F w w0 → (∀ g, (∀ j, a0 ≤ j → j < a → gl g 41 j = gl w 41 j) → evP pP ev a0 a g) → evStk pT (ev ++ [s]) [] = x → evL pT pL (ev ++ [s]) [] = evL pT pL ev [] ++ L → CCS ob (a + n) x u → FLA u = FNL wr L (FLA w) → OFF (PW2 a ob) u w → (∀ g, (∀ j, a0 ≤ j → j < a + n → gl g 41 j = gl u 41 j) → evP pP [s] a (a + n) g) → ∃ a, (a0 ≤ a ∧ a ≤ a0 + evB pB (ev ++ [s])) ∧ CCS ob a (evStk pT (ev ++ [s]) []) u ∧ FLA u = FNL wr (evL pT pL (ev ++ [s]) []) (FLA w0) ∧ OFF F u w0 ∧ ∀ g, (∀ j, a0 ≤ j → j < a → gl g 41 j = gl u 41 j) → evP pP (ev ++ [s]) a0 a g := by
    intro ev w u s x n L a hB hn ha hf hO hP hx hL hC hfu hOu hPu
    refine ⟨a + n, ⟨by omega, by rw [evB_app, hB]; omega⟩, by rw [hx]; exact hC, by rw [hL, FNL_app, hfu, hf], OFF.tr (hOu.mono fun k j hk => hF k j (Or.inl (by unfold PW2 at hk ⊢; omega))) hO, fun g hg => (evP_app ev [s] a0 (a + n) g).mpr ⟨a, hP g (fun j j1 j2 => ?_), hPu g hg⟩⟩
    rw [hg j j1 (by omega), (hOu 41 j (by unfold PW2; omega)).2]
  refine ⟨fun ev w s h hs h1 => ⟨h.1.off e2_one (fun k j hk => by unfold PGE PRE at hk; omega), fun hob hev hB => ?_⟩, fun ev w s h hs h1 => ⟨h.1.off e2_two (fun k j hk => by unfold PGE PRE at hk; omega), fun hob hev hB => ?_⟩, fun ev u w h hO => ⟨h.1.off hO (fun k j hk => by unfold PSG at hk; omega), fun hob hev hB => ?_⟩⟩
  · obtain ⟨m, k, tk⟩ := s
    have hm : m = 1 := h1
    subst hm
    obtain ⟨e1, e2⟩ := (evOK_app ev _ []).mp hev
    have hb1 : evB pB [((1, k, tk) : EV)] = 1 := rfl
    rw [evB_app, hb1] at hB
    obtain ⟨a, ha, hC, hf, hO, hP⟩ := h.2 hob e1 (by omega)
    have hst := evOK_st ev [] e1 ⟨hob, fun x hx => absurd hx (by simp)⟩
    cases hS : evStk pT ev [] with
    | nil => rw [hS] at e2; exact absurd e2.1.1 (by decide)
    | cons x S =>
      rw [hS] at hC hst
      have hl : (x :: S).length = S.length + 1 := rfl
      obtain ⟨u, u1, u2, u3, u4, u5, u6⟩ := c2_one hs rfl h.1 hC (by have := hst.1; omega) (hst.2 x List.mem_cons_self) (by omega)
      rw [u1]
      refine hgo ev w u (1, k, tk) ((on1T k, tk) :: S) (on1N k) (difT (on1T k) x.1 x.2) a hb1 (by unfold on1N; split <;> omega) ha hf hO hP ?_ ?_ u2 u4 u5 (fun g hg => ⟨fun hk => ?_, rfl⟩)
      · rw [evStk_app, hS]; rfl
      · rw [evL_app, hS]
        show _ ++ (difT (on1T k) x.1 x.2 ++ []) = _
        rw [List.append_nil]
      · have hn1 : on1N k = 1 := if_neg hk
        rw [hg a ha.1 (by omega)]
        exact u6 hk
  · obtain ⟨m, k, tk⟩ := s
    have hm : m = 2 := h1
    subst hm
    obtain ⟨e1, e2⟩ := (evOK_app ev _ []).mp hev
    have hb1 : evB pB [((2, k, tk) : EV)] = 1 := rfl
    rw [evB_app, hb1] at hB
    obtain ⟨a, ha, hC, hf, hO, hP⟩ := h.2 hob e1 (by omega)
    have hst := evOK_st ev [] e1 ⟨hob, fun x hx => absurd hx (by simp)⟩
    match hS : evStk pT ev [] with
    | [] => rw [hS] at e2; exact absurd e2.1 (by decide)
    | [x] => rw [hS] at e2; exact absurd (show 2 ≤ 1 from e2.1) (by decide)
    | x :: y :: S =>
      rw [hS] at hC hst
      have hl : (x :: y :: S).length = S.length + 2 := rfl
      obtain ⟨u, u1, u2, u3, u4, u5, u6⟩ := c2_two hs rfl h.1 hC (by have := hst.1; omega) (hst.2 x List.mem_cons_self) (hst.2 y (List.mem_cons_of_mem _ List.mem_cons_self)) (by omega)
      rw [u1]
      refine hgo ev w u (2, k, tk) ((tw2T k, y.2) :: S) 1 (tw2L k x y) a hb1 (Nat.le_refl _) ha hf hO hP ?_ ?_ u2 u4 u5 (fun g hg => ⟨?_, rfl⟩)
      · rw [evStk_app, hS]; rfl
      · rw [evL_app, hS]
        show _ ++ (tw2L k x y ++ []) = _
        rw [List.append_nil]
      · rw [hg a ha.1 (by omega)]
        exact u6
  · obtain ⟨a, ha, ⟨c1, c2, c3, c4⟩, hf, hO', hP⟩ := h.2 hob hev hB
    refine ⟨a, ha, ⟨by rw [(hO 3 5 (by unfold PSG; omega)).1]; exact c1, by rw [(hO 40 1 (by unfold PSG; omega)).1]; exact c2, by rw [(hO 43 5 (by unfold PSG; omega)).1]; exact c3, c4.agr (fun k j hk _ _ => (hO k j (by unfold PSG; omega)).1)⟩, ?_, OFF.tr (hO.mono fun k j hk => hF k j (Or.inr hk)) hO', fun g hg => hP g (fun j j1 j2 => by rw [hg j j1 j2, (hO 41 j (by unfold PSG; omega)).2])⟩
    rw [← hf]
    unfold FLA
    rw [(hO 3 6 (by unfold PSG; omega)).1, (hO 3 7 (by unfold PSG; omega)).1]
end EV9
