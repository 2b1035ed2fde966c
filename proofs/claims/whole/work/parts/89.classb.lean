/-! THE CLASS GOES OVER EXPRS: signs that wait, worked out -/
def sgI (s : EV) : Int32 := if s.1 = 1 ∧ s.2.1 ≠ 29 then -(Int32.ofNat s.2.1) else Int32.ofNat s.2.1
def okE (s : EV) : Prop := s.2.1 ≤ 50 ∧ stg s.2.1 ≠ 0 ∧ s.2.2 ≤ 8193 ∧ (s.1 = 1 ∧ (s.2.1 = 29 ∨ s.2.1 = 33 ∨ s.2.1 = 34) ∨ s.1 = 2 ∧ s.2.1 ≠ 29)
theorem strength_0 : ∀ k, k < 51 → fX10_strength (Int32.ofNat k) wZZ = Int32.ofNat (stg k) := by decide +kernel
theorem strength_n {k : Nat} (h : k ≤ 50) (w : Wd) : fX10_strength (Int32.ofNat k) w = Int32.ofNat (stg k) := strength_0 k (by omega)
theorem strength_s {s : EV} (h : okE s) (w : Wd) : fX10_strength (sgI s) w = Int32.ofNat (stg s.2.1) := by
  unfold sgI
  by_cases q : s.1 = 1 ∧ s.2.1 ≠ 29
  · rw [if_pos q]
    rcases h.2.2.2 with ⟨_, h1 | h1 | h1⟩ | ⟨h1, _⟩
    · exact absurd h1 q.2
    · rw [h1]; rfl
    · rw [h1]; rfl
    · omega
  · rw [if_neg q]
    exact strength_n h.1 w
/-- the signs S (the last first) wait from place base on -/
def WTS (base : Nat) : List EV → Wd → Prop
  | [], _ => True
  | s :: S, w => gi w 44 (base + S.length) = sgI s ∧ gi w 45 (base + S.length) = Int32.ofNat s.2.2 ∧ WTS base S w
theorem WTS.agr {base : Nat} : ∀ {S : List EV} {u w : Wd}, WTS base S w → (∀ j, j < base + S.length → gi u 44 j = gi w 44 j ∧ gi u 45 j = gi w 45 j) → WTS base S u := by
  intro S
  induction S with
  | nil => exact fun _ _ => trivial
  | cons s S ih =>
    intro u w h hA
    have h0 := hA (base + S.length) (by simp only [List.length_cons]; omega)
    exact ⟨h0.1.trans h.1, h0.2.trans h.2.1, ih h.2.2 (fun j hj => hA j (by simp only [List.length_cons]; omega))⟩
def PRS (k j : Nat) : Prop := PRD k j ∨ (k = 43 ∧ j = 4)
theorem PRS.sg {k j : Nat} (h : PRS k j) : k ≠ 44 ∧ k ≠ 45 ∧ k ≠ 4 ∧ k ≠ 5 ∧ k ≠ 6 ∧ k ≠ 8 ∧ k ≠ 9 ∧ k ≠ 10 := by unfold PRS PRD at h; omega
def PSG (base k j : Nat) : Prop := (k = 4 ∧ (j = 9 ∨ j = 10)) ∨ (k = 43 ∧ j = 4) ∨ ((k = 44 ∨ k = 45) ∧ base ≤ j)
/-- what's kept while signs are worked out, one after the other -/
def JX (base : Nat) (J : List EV → Wd → Prop) : Prop :=
  (∀ (ev : List EV) (w : Wd) (s : EV), J ev w → okE s → s.1 = 1 → J (ev ++ [s]) (fX2_reduceOne (sgI s) (Int32.ofNat s.2.2) w))
  ∧ (∀ (ev : List EV) (w : Wd) (s : EV), J ev w → okE s → s.1 = 2 → J (ev ++ [s]) (fX2_reduceTwo (Int32.ofNat s.2.1) w))
  ∧ ∀ (ev : List EV) (u w : Wd), J ev w → OFF (PSG base) u w → J ev u
theorem c_sign {base : Nat} {s : EV} {S : List EV} {w : Wd} (hw : gi w 43 4 = Int32.ofNat (base + (s :: S).length)) (hS : WTS base (s :: S) w) (hb : base + (s :: S).length ≤ 512) : fX10_sign w = sgI s ∧ fX10_signToken w = Int32.ofNat s.2.2 := by
  have hl : (s :: S).length = S.length + 1 := rfl
  have hp : gi w 43 4 - 1 = Int32.ofNat (base + S.length) := by
    rw [hw, hl, sb1_iN (by omega) (by omega), show base + (S.length + 1) - 1 = base + S.length by omega]
  unfold fX10_sign fX10_signToken
  dsimp only [lt]
  rw [hp, rgi_iN (by omega) (by omega), rgi_iN (by omega) (by omega)]
  exact ⟨hS.1, hS.2.1⟩
theorem c_strongest {base : Nat} {S : List EV} {w : Wd} (hw : gi w 43 4 = Int32.ofNat (base + S.length)) (hS : WTS base S w) (hb : base + S.length ≤ 512) (hok : ∀ s ∈ S, okE s) : fX10_strongest (Int32.ofNat base) w = Int32.ofNat (topS S) := by
  unfold fX10_strongest
  cases S with
  | nil =>
    rw [hw, if_pos (show Int32.ofNat (base + ([] : List EV).length) ≤ Int32.ofNat base from yle_iN (by simp) (by omega))]
    rfl
  | cons s S =>
    have hc : ¬ (gi w 43 4 ≤ Int32.ofNat base) := by
      rw [hw]
      exact nle_iN (by simp only [List.length_cons]; omega) (by omega)
    rw [if_neg hc]
    dsimp only [lt]
    rw [(c_sign hw hS hb).1, strength_s (hok s List.mem_cons_self)]
    rfl
theorem c_red {base : Nat} {J : List EV → Wd → Prop} (hJ : JX base J) {g : Nat} (hg : g ≤ 9) : ∀ (S ev : List EV) (w : Wd) (i f : Nat), gi w 43 4 = Int32.ofNat (base + S.length) → WTS base S w → (∀ s ∈ S, okE s) → J ev w → base + S.length ≤ 512 → i + S.length < 512 →
    ∃ u, oX2_reduce_2 (f + S.length + 1) (Int32.ofNat base) (Int32.ofNat g) (Int32.ofNat i) w = some u ∧ J (redS g S ev).2 u ∧ gi u 43 4 = Int32.ofNat (base + (redS g S ev).1.length) ∧ WTS base (redS g S ev).1 u ∧ (∀ s ∈ (redS g S ev).1, s ∈ S) ∧ (redS g S ev).1.length ≤ S.length ∧ OFF PRS u w := by
  intro S
  induction S with
  | nil =>
    intro ev w i f hw hS hok hj hb hi
    have hst : oX2_reduce_2 (f + ([] : List EV).length + 1) (Int32.ofNat base) (Int32.ofNat g) (Int32.ofNat i) w = fX2_reduce_2 (oX2_reduce_2 (f + ([] : List EV).length)) (Int32.ofNat base) (Int32.ofNat g) (Int32.ofNat i) w := rfl
    rw [hst]
    unfold fX2_reduce_2
    have h5 : ¬ ((512 : Int32) ≤ Int32.ofNat i) := nle_iN (a := 512) (by simp at hi; omega) (by omega)
    rw [if_neg h5]
    dsimp only [lt]
    unfold fX10_waiting
    have hc : gi w 43 4 ≤ Int32.ofNat base := by rw [hw]; exact yle_iN (by simp) (by simp at hb; omega)
    rw [if_pos hc]
    exact ⟨w, rfl, hj, hw, trivial, fun _ h => h, Nat.le_refl _, OFF.rf⟩
  | cons s S ih =>
    intro ev w i f hw hS hok hj hb hi
    have hl : (s :: S).length = S.length + 1 := rfl
    have hst : oX2_reduce_2 (f + (s :: S).length + 1) (Int32.ofNat base) (Int32.ofNat g) (Int32.ofNat i) w = fX2_reduce_2 (oX2_reduce_2 (f + S.length + 1)) (Int32.ofNat base) (Int32.ofNat g) (Int32.ofNat i) w := rfl
    rw [hst]
    unfold fX2_reduce_2
    have h5 : ¬ ((512 : Int32) ≤ Int32.ofNat i) := nle_iN (a := 512) (by omega) (by omega)
    have hc : ¬ (gi w 43 4 ≤ Int32.ofNat base) := by
      rw [hw]
      exact nle_iN (by omega) (by omega)
    have hso := hok s List.mem_cons_self
    have hs9 := stg_le s.2.1
    rw [if_neg h5]
    dsimp only [lt]
    rw [show fX10_waiting w = gi w 43 4 from rfl, if_neg hc, c_strongest hw hS hb hok, (c_sign hw hS hb).1, (c_sign hw hS hb).2]
    show ∃ u, (if Int32.ofNat (stg s.2.1) < Int32.ofNat g then _ else _) = some u ∧ _
    unfold redS
    by_cases q : g ≤ stg s.2.1
    · rw [if_pos q, if_neg (nlt_iN q (by omega))]
      have hd : fX10_dropSign w = si w 43 4 (Int32.ofNat (base + S.length)) := by
        show si w 43 4 (gi w 43 4 - 1) = _
        rw [hw, hl, sb1_iN (by omega) (by omega), show base + (S.length + 1) - 1 = base + S.length by omega]
      rw [hd, ad1_iN]
      have hjd : J ev (si w 43 4 (Int32.ofNat (base + S.length))) := hJ.2.2 _ _ _ hj (OFF.si (Or.inr (Or.inl ⟨rfl, rfl⟩)))
      have hO0 : OFF PRS (si w 43 4 (Int32.ofNat (base + S.length))) w := OFF.si (Or.inr ⟨rfl, rfl⟩)
      -- whichever it is
      have hstep : ∀ u1, J (ev ++ [s]) u1 → OFF PRD u1 (si w 43 4 (Int32.ofNat (base + S.length))) → ∃ u, oX2_reduce_2 (f + S.length + 1) (Int32.ofNat base) (Int32.ofNat g) (Int32.ofNat (i + 1)) u1 = some u ∧ J (redS g S (ev ++ [s])).2 u ∧ gi u 43 4 = Int32.ofNat (base + (redS g S (ev ++ [s])).1.length) ∧ WTS base (redS g S (ev ++ [s])).1 u ∧ (∀ x ∈ (redS g S (ev ++ [s])).1, x ∈ s :: S) ∧ (redS g S (ev ++ [s])).1.length ≤ (s :: S).length ∧ OFF PRS u w := by
        intro u1 hj1 hO1
        have hg1 : gi u1 43 4 = Int32.ofNat (base + S.length) := by rw [(hO1 43 4 (by unfold PRD; omega)).1, gi_si0]
        have hS1 : WTS base S u1 := WTS.agr hS.2.2 (fun j hj => by
          rw [(hO1 44 j (by unfold PRD; omega)).1, (hO1 45 j (by unfold PRD; omega)).1, gi_si1 (by omega), gi_si1 (by omega)]
          exact ⟨rfl, rfl⟩)
        obtain ⟨u, a1, a2, a3, a4, a5, a6, a7⟩ := ih (ev ++ [s]) u1 (i + 1) f hg1 hS1 (fun x hx => hok x (List.mem_cons_of_mem _ hx)) hj1 (by omega) (by omega)
        exact ⟨u, a1, a2, a3, a4, fun x hx => List.mem_cons_of_mem _ (a5 x hx), by omega, a7.tr ((hO1.mono (fun _ _ => Or.inl)).tr hO0)⟩
      rcases hso.2.2.2 with ⟨h1, h2⟩ | ⟨h1, h2⟩
      · by_cases q29 : s.2.1 = 29
        · have e1 : sgI s = 29 := by
            unfold sgI
            rw [if_neg (fun h => h.2 q29), q29]
            rfl
          rw [if_pos e1]
          exact hstep _ (hJ.1 _ _ s hjd hso h1) off_one
        · have e1 : ¬ (sgI s = 29) ∧ ¬ (0 ≤ sgI s) := by
            unfold sgI
            rw [if_pos ⟨h1, q29⟩]
            rcases h2 with h2 | h2 | h2
            · exact absurd h2 q29
            · rw [h2]; decide
            · rw [h2]; decide
          rw [if_neg e1.1, if_neg e1.2]
          exact hstep _ (hJ.1 _ _ s hjd hso h1) off_one
      · have hs0 : sgI s = Int32.ofNat s.2.1 := by
          unfold sgI
          rw [if_neg (by omega)]
        have hk := hso.1
        have e1 : ¬ (sgI s = 29) := by
          rw [hs0]
          exact fun e => h2 ((eq_iN (a := s.2.1) (b := 29) (by omega) (by omega)).mp e)
        have e2 : 0 ≤ sgI s := by
          rw [hs0]
          exact zl_iN (by omega)
        rw [if_neg e1, if_pos e2, hs0]
        exact hstep _ (hJ.2.1 _ _ s hjd hso h1) off_two
    · rw [if_neg q, if_pos (ylt_iN (by omega) (by omega))]
      exact ⟨w, rfl, hj, hw, hS, fun _ h => h, Nat.le_refl _, OFF.rf⟩
