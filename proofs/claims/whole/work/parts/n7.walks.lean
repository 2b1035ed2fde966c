/-! A WALK over a PROGRAM: which SCOPE symbols lie in; SCOPES and BLOCKS -/
/-- symbols from C to C' lie in SCOPES begun there, or in one that H says; SCOPES begun there are BLOCKS' begun there, or none's -/
def WSH (fA fM : Wd) (H : Nat → Prop) (C C' : Nat → Nat) : Prop := (C 1 ≤ C' 1 ∧ C 2 ≤ C' 2 ∧ C 3 ≤ C' 3) ∧ (∀ i, C 1 ≤ i → i < C' 1 → ∃ t p, DC1 fA fM i t p ∧ (H t ∨ C 2 ≤ t ∧ t < C' 2)) ∧ ∀ t, C 2 ≤ t → t < C' 2 → gi fM 17 t = -1 ∨ ∃ bk, C 3 ≤ bk ∧ bk < C' 3 ∧ gi fM 17 t = Int32.ofNat bk ∧ gi fM 42 bk = Int32.ofNat t
section WL
variable {kd : Nat → Nat} {fA fM : Wd} {C C1 C' : Nat → Nat} {W : PSTT} {H H' : Nat → Prop}
theorem WSH.im (h : WSH fA fM H C C') (hi : ∀ t, H t → H' t) : WSH fA fM H' C C' := ⟨h.1, fun i a b => by
  obtain ⟨t, p, q1, q2⟩ := h.2.1 i a b
  exact ⟨t, p, q1, q2.imp (hi t) id⟩, h.2.2⟩
theorem WSH.rf (h1 : C' 1 = C 1) (h2 : C' 2 = C 2) (h3 : C' 3 = C 3) : WSH fA fM H C C' := ⟨by omega, fun j a b => absurd b (by omega), fun y a b => absurd b (by omega)⟩
theorem WSH.tr (h : WSH fA fM H C C1) (g : WSH fA fM H C1 C') : WSH fA fM H C C' := by
  obtain ⟨⟨h1, h2, h3⟩, h4, h5⟩ := h
  obtain ⟨⟨g1, g2, g3⟩, g4, g5⟩ := g
  refine ⟨by omega, fun j a b => ?_, fun y a b => ?_⟩
  · by_cases q : j < C1 1
    · obtain ⟨t, p, q1, q2⟩ := h4 j a q
      exact ⟨t, p, q1, q2.imp id (fun z => by omega)⟩
    · obtain ⟨t, p, q1, q2⟩ := g4 j (by omega) b
      exact ⟨t, p, q1, q2.imp id (fun z => by omega)⟩
  · by_cases q : y < C1 2
    · rcases h5 y a q with q1 | ⟨bk, q1, q2, q3⟩
      · exact Or.inl q1
      · exact Or.inr ⟨bk, q1, by omega, q3⟩
    · rcases g5 y (by omega) b with q1 | ⟨bk, q1, q2, q3⟩
      · exact Or.inl q1
      · exact Or.inr ⟨bk, by omega, q2, q3⟩
/-- symbols in SCOPE t -/
theorem WSH.sy {j t p : Nat} (h1 : C' 1 = C 1 + j) (h2 : C' 2 = C 2) (h3 : C' 3 = C 3) (h : DCN fA fM (C 1) j t p) (ht : H t) : WSH fA fM H C C' :=
  ⟨by omega, fun i a b => ⟨t, p, by
    have := h (i - C 1) (by omega)
    rw [show C 1 + (i - C 1) = i by omega] at this
    exact this, Or.inl ht⟩, fun y a b => absurd b (by omega)⟩
/-- one SCOPE more, no BLOCK's -/
theorem WSH.sc (h : WSH fA fM (fun t => H t ∨ t = C 2) (upD C 2 1) C') (h17 : gi fM 17 (C 2) = -1) : WSH fA fM H C C' := by
  obtain ⟨⟨g1, g2, g3⟩, g4, g5⟩ := h
  have u1 : upD C 2 1 1 = C 1 := by unfold upD; rw [upC_n (by omega)]
  have u2 : upD C 2 1 2 = C 2 + 1 := by unfold upD; rw [upC_s]
  have u3 : upD C 2 1 3 = C 3 := by unfold upD; rw [upC_n (by omega)]
  rw [u1] at g1 g4
  rw [u2] at g2 g4 g5
  rw [u3] at g3 g5
  refine ⟨by omega, fun i a b => ?_, fun y a b => ?_⟩
  · obtain ⟨t, p, q1, q2⟩ := g4 i a b
    refine ⟨t, p, q1, ?_⟩
    rcases q2 with (q2 | q2) | q2
    · exact Or.inl q2
    · exact Or.inr (by omega)
    · exact Or.inr (by omega)
  · by_cases q : y = C 2
    · subst q; exact Or.inl h17
    · exact g5 y (by omega) b
/-- what's told of STATEMENTS within -/
def WSP (fA fM : Wd) (W : PSTT) : Prop := ∀ d s e n stk prs q q' C C', W d s e n stk prs q q' C C' → WSH fA fM (fun t => t = stk.headD 0) C C'
theorem ins_ws (hW : WSP fA fM W) {d s e n q q' : Nat} {stk : List Nat} {prs : PRL} (h : INS9 fM W d s e n stk prs q q' C C') : WSH fA fM H C C' := by
  obtain ⟨_, h2, _, h4⟩ := h
  exact ((hW _ _ _ _ _ _ _ _ _ _ h4).im (fun t ht => Or.inr ht)).sc h2
theorem sts_ws (hW : WSP fA fM W) {d p sg : Nat} {stk : List Nat} {r : PRL} : ∀ (xs : List Nat) (s e q q' : Nat) (C C' : CV), STSX kd fM W d stk p sg r xs s e q q' C C' → WSH fA fM (fun t => t = stk.headD 0) C C' := by
  intro xs
  induction xs with
  | nil => exact fun _ _ _ _ _ _ h => h.elim
  | cons x xr ih =>
    intro s e q q' C C' h
    cases xr with
    | nil => exact hW _ _ _ _ _ _ _ _ _ _ h.1
    | cons y yr =>
      obtain ⟨e1, q1, C1, h1, h2, h3, h4⟩ := h
      exact (hW _ _ _ _ _ _ _ _ _ _ h1).tr (ih _ _ _ _ _ _ h4)
theorem dcl_ws (hW : WSP fA fM W) {d p : Nat} {stk : List Nat} {out : Int32} {r : PRL} {s e sg sg' q q' : Nat} {an : Option Nat} (h : DCLX kd fA fM W d stk out p r s e sg sg' q q' an C C') : WSH fA fM (fun t => t = stk.headD 0) C C' := by
  rcases h with h | h | h | h
  · obtain ⟨s1, j, ty, own, ho, _, _, _, _, _, _, _, h9, hD, h10, h11⟩ := h
    have hown : own = 0 ∨ own = 1 := by
      rcases ho with ho | ho <;> omega
    refine WSH.sy (j := j) (t := stk.headD 0) (p := p) ?_ ?_ ?_ hD rfl
    · rcases hown with q | q
      · rw [(h10 q).2.2]; unfold upD; rw [upC_s]
      · rw [(h11 q).2.2]; unfold upD; rw [upC_n (by omega), upC_s]
    · rcases hown with q | q
      · rw [(h10 q).2.2]; unfold upD; rw [upC_n (by omega)]
      · rw [(h11 q).2.2]; unfold upD; rw [upC_n (by omega), upC_n (by omega)]
    · rcases hown with q | q
      · rw [(h10 q).2.2]; unfold upD; rw [upC_n (by omega)]
      · rw [(h11 q).2.2]; unfold upD; rw [upC_n (by omega), upC_n (by omega)]
  · obtain ⟨s1, ty, j, n, xs, e1, b, _, _, _, _, _, _, _, _, _, _, _, _, _, _, _, _, _, h9, hD, _, _, hC⟩ := h
    rw [hC]
    exact WSH.sy (j := j) (by unfold upD; rw [upC_n (by omega), upC_s]) (by unfold upD; rw [upC_n (by omega), upC_n (by omega)]) (by unfold upD; rw [upC_n (by omega), upC_n (by omega)]) hD rfl
  · obtain ⟨_, _, _, h9, _, hD, _, _, _, _, hC⟩ := h
    rw [hC]
    refine WSH.sy (j := 1) (t := stk.headD 0) (p := p) (by unfold upD; rw [upC_n (by omega), upC_s]) (by unfold upD; rw [upC_n (by omega), upC_n (by omega)]) (by unfold upD; rw [upC_n (by omega), upC_n (by omega)]) (fun i hi => ?_) rfl
    rw [show C 1 + i = C 1 by omega]
    exact hD
  · obtain ⟨s1, ty, pn, nf, W0, sb, nb, q1, _, _, _, h19, _, _, hpn, h24, _, _, h37, h31, h32, _, _, _, _, _, hD1, hDf, hf, _, h17a, _, h17b, _, _, hB, _, _⟩ := h
    have u1 : (upD (upD (upD (upD C 1 (1 + nf)) 2 2) 4 1) 6 1) 1 = C 1 + (1 + nf) := by
      unfold upD
      rw [upC_n (by omega), upC_n (by omega), upC_n (by omega), upC_s]
    have u2 : (upD (upD (upD (upD C 1 (1 + nf)) 2 2) 4 1) 6 1) 2 = C 2 + 2 := by
      unfold upD
      rw [upC_n (by omega), upC_n (by omega), upC_s, upC_n (by omega)]
    have u3 : (upD (upD (upD (upD C 1 (1 + nf)) 2 2) 4 1) 6 1) 3 = C 3 := by
      unfold upD
      rw [upC_n (by omega), upC_n (by omega), upC_n (by omega), upC_n (by omega)]
    obtain ⟨⟨g1, g2, g3⟩, g4, g5⟩ := hW _ _ _ _ _ _ _ _ _ _ hB
    rw [u1] at g1 g4
    rw [u2] at g2 g4 g5
    rw [u3] at g3 g5
    refine ⟨by omega, fun i a b => ?_, fun y a b => ?_⟩
    · by_cases q0 : i = C 1
      · subst q0; exact ⟨_, _, hD1, Or.inl rfl⟩
      · by_cases q1 : i < C 1 + (1 + nf)
        · have := hDf (i - (C 1 + 1)) (by omega)
          rw [show C 1 + 1 + (i - (C 1 + 1)) = i by omega] at this
          exact ⟨_, _, this, Or.inr (by omega)⟩
        · obtain ⟨t, p', r1, r2⟩ := g4 i (by omega) b
          refine ⟨t, p', r1, Or.inr ?_⟩
          rcases r2 with r2 | r2
          · have r2 : t = C 2 + 1 := r2
            omega
          · omega
    · by_cases q0 : y = C 2
      · subst q0; exact Or.inl h17a
      · by_cases q1 : y = C 2 + 1
        · subst q1; exact Or.inl h17b
        · exact g5 y (by omega) b
theorem dcs_ws (hW : WSP fA fM W) {d p : Nat} {stk : List Nat} {out : Int32} {r : PRL} : ∀ (j s e sg sg' q q' : Nat) (al : List Nat) (C C' : CV), DCSX kd fA fM W d stk out p r j s e sg sg' q q' al C C' → WSH fA fM (fun t => t = stk.headD 0) C C' := by
  intro j
  induction j with
  | zero =>
    intro s e sg sg' q q' al C C' h
    obtain ⟨_, _, _, _, hC, _⟩ := h
    exact WSH.rf (by rw [hC]) (by rw [hC]) (by rw [hC])
  | succ j ih =>
    intro s e sg sg' q q' al C C' h
    obtain ⟨e1, sg1, q1, C1, an, al1, h1, _, _, _, _, h2⟩ := h
    exact (dcl_ws hW h1).tr (ih _ _ _ _ _ _ _ _ _ h2)
theorem blk_ws (hW : WSP fA fM W) {d s e n q q' : Nat} {stk : List Nat} {prs : PRL} (h : BLKX kd fA fM W d s e n stk prs q q' C C') : WSH fA fM H C C' := by
  obtain ⟨p, sg, q0, r, hpr, _, _, _, _, _, h42, h17, _, _, jd, s1, sg1, q1, al, C1, xs, e1, _, _, _, _, h1, h2, _⟩ := h
  have u1 : (upD (upD (upD C 0 1) 2 1) 3 1) 1 = C 1 := by
    unfold upD
    rw [upC_n (by omega), upC_n (by omega), upC_n (by omega)]
  have u2 : (upD (upD (upD C 0 1) 2 1) 3 1) 2 = C 2 + 1 := by
    unfold upD
    rw [upC_n (by omega), upC_s, upC_n (by omega)]
  have u3 : (upD (upD (upD C 0 1) 2 1) 3 1) 3 = C 3 + 1 := by
    unfold upD
    rw [upC_s, upC_n (by omega), upC_n (by omega)]
  obtain ⟨⟨g1, g2, g3⟩, g4, g5⟩ := (dcs_ws hW _ _ _ _ _ _ _ _ _ _ h1).tr (sts_ws hW _ _ _ _ _ _ _ h2)
  rw [u1] at g1 g4
  rw [u2] at g2 g4 g5
  rw [u3] at g3 g5
  refine ⟨by omega, fun i a b => ?_, fun y a b => ?_⟩
  · obtain ⟨t, p', r1, r2⟩ := g4 i a b
    refine ⟨t, p', r1, Or.inr ?_⟩
    rcases r2 with r2 | r2
    · have r2 : t = C 2 := r2
      omega
    · omega
  · by_cases q0 : y = C 2
    · subst q0; exact Or.inr ⟨C 3, Nat.le_refl _, by omega, h17, h42⟩
    · rcases g5 y (by omega) b with r1 | ⟨bk, r1, r2, r3⟩
      · exact Or.inl r1
      · exact Or.inr ⟨bk, by omega, r2, r3⟩
theorem pln_ws (hW : WSP fA fM W) {d s e n q q' : Nat} {stk : List Nat} {prs : PRL} (h : PLNX kd fA fM W d s e n stk prs q q' C C') : WSH fA fM H C C' := by
  obtain ⟨p, sg, q0, r, hpr, h⟩ := h
  have w0 : ∀ (D : Nat → Nat) (v : Nat), WSH fA fM H D (upC D 0 v) := fun D v => WSH.rf (upC_n (by omega)) (upC_n (by omega)) (upC_n (by omega))
  rcases h with h | h | h | h | h | h | h | h
  · obtain ⟨_, _, _, _, x, _, _, _, _, hC⟩ := h
    rw [hC]; exact w0 _ _
  · obtain ⟨_, _, _, x, xs, y, e1, _, _, _, _, _, _, _, c7, hC, _⟩ := h
    rw [hC]
    exact WSH.rf (by rw [upC_n (by omega), upC_n (by omega)]) (by rw [upC_n (by omega), upC_n (by omega)]) (by rw [upC_n (by omega), upC_n (by omega)])
  · obtain ⟨_, _, _, _, x, e1, cn, _, _, _, _, _, _, hC⟩ := h
    rw [hC]; exact w0 _ _
  · obtain ⟨_, _, x, _, _, _, _, hC⟩ := h
    rw [hC]; exact w0 _ _
  · obtain ⟨_, _, _, x, y, e1, e2, cn, q1, C1, _, _, _, _, h1, h2⟩ := h
    have g0 := (w0 C (x + 1)).tr (ins_ws hW h1)
    rcases h2 with ⟨_, _, _, _, _, hC⟩ | ⟨_, v, C2, _, h3, _, hC⟩
    · rw [hC]; exact g0.tr (w0 _ _)
    · rw [hC]
      exact g0.tr ((ins_ws hW h3).tr (w0 _ _))
  · obtain ⟨_, _, _, x, xs, y, e1, e2, lo, C1, _, _, _, _, _, _, _, h1, _, hC⟩ := h
    rw [hC]
    exact ((w0 C lo).tr (ins_ws hW h1)).tr (w0 _ _)
  · exact blk_ws hW h
  · obtain ⟨_, _, _, _, _, hC⟩ := h
    rw [hC]; exact w0 _ _
theorem pst_ws : ∀ (k : Nat), WSP fA fM (PSTX kd fA fM k) := by
  intro k
  induction k with
  | zero => exact fun _ _ _ _ _ _ _ _ _ _ h => h.elim
  | succ k ih =>
    intro d s e n stk prs q q' C C' h
    obtain ⟨⟨j, h1, h2, _, h4⟩, _⟩ := h
    refine WSH.tr (C1 := upD C 1 j) (WSH.sy (j := j) (by unfold upD; rw [upC_s]) (by unfold upD; rw [upC_n (by omega)]) (by unfold upD; rw [upC_n (by omega)]) h2 rfl) (pln_ws ih h4)
end WL
