/-! A WALK over a PROGRAM: procedures and their formals -/
/-- procedures and symbols from C to C' -/
def WQ (fM : Wd) (C C' : Nat → Nat) : Prop := (C 1 ≤ C' 1 ∧ C 4 ≤ C' 4) ∧ (∀ j, C 4 ≤ j → j < C' 4 → ∃ j', j' < j ∧ gi fM 37 j = Int32.ofNat j') ∧
  ∀ y, C 1 ≤ y → y < C' 1 → gi fM 19 y = 3 → ∃ pn nf, gi fM 24 y = Int32.ofNat pn ∧ C 4 ≤ pn ∧ pn < C' 4 ∧ gi fM 31 pn = Int32.ofNat nf ∧ gi fM 32 pn = Int32.ofNat (y + 1) ∧ y + 1 + nf ≤ C' 1 ∧ ∀ i, i < nf → gi fM 19 (y + 1 + i) = 6
section WK
variable {kd : Nat → Nat} {fA fM : Wd} {C C1 C' : Nat → Nat} {W : PSTT}
theorem WQ.rf (h1 : C' 1 = C 1) (h4 : C' 4 = C 4) : WQ fM C C' := ⟨by omega, fun j a b => absurd b (by omega), fun y a b => absurd b (by omega)⟩
theorem WQ.tr (h : WQ fM C C1) (g : WQ fM C1 C') : WQ fM C C' := by
  obtain ⟨⟨h1, h2⟩, h3, h4⟩ := h
  obtain ⟨⟨g1, g2⟩, g3, g4⟩ := g
  refine ⟨by omega, fun j a b => ?_, fun y a b hy => ?_⟩
  · by_cases q : j < C1 4
    · exact h3 j a q
    · exact g3 j (by omega) b
  · by_cases q : y < C1 1
    · obtain ⟨pn, nf, r1, r2, r3, r4, r5, r6, r7⟩ := h4 y a q hy
      exact ⟨pn, nf, r1, r2, by omega, r4, r5, by omega, r7⟩
    · obtain ⟨pn, nf, r1, r2, r3, r4, r5, r6, r7⟩ := g4 y (by omega) b hy
      exact ⟨pn, nf, r1, by omega, r3, r4, r5, r6, r7⟩
/-- symbols that are no procedures -/
theorem WQ.sy {j : Nat} (h1 : C' 1 = C 1 + j) (h4 : C' 4 = C 4) (h : ∀ i, i < j → gi fM 19 (C 1 + i) ≠ 3) : WQ fM C C' :=
  ⟨by omega, fun i a b => absurd b (by omega), fun y a b hy => absurd hy (by
    have := h (y - C 1) (by omega)
    rw [show C 1 + (y - C 1) = y by omega] at this
    exact this)⟩
/-- what's told of STATEMENTS within -/
def WH (fM : Wd) (W : PSTT) : Prop := ∀ d s e n stk prs q q' C C', W d s e n stk prs q q' C C' → (∀ y ∈ prs, y.1 < C 4) → WQ fM C C'
theorem ins_wq (hW : WH fM W) {d s e n q q' : Nat} {stk : List Nat} {prs : PRL} (h : INS9 fM W d s e n stk prs q q' C C') (hp : ∀ y ∈ prs, y.1 < C 4) : WQ fM C C' := by
  obtain ⟨_, _, _, h4⟩ := h
  have h5 := hW _ _ _ _ _ _ _ _ _ _ h4 (fun y hy => by
    have := hp y hy
    unfold upD
    rw [upC_n (by omega)]
    exact this)
  exact WQ.tr (WQ.rf (by unfold upD; rw [upC_n (by omega)]) (by unfold upD; rw [upC_n (by omega)])) h5
theorem sts_wq (hW : WH fM W) {d p sg : Nat} {stk : List Nat} {r : PRL} : ∀ (xs : List Nat) (s e q q' : Nat) (C C' : CV), STSX kd fM W d stk p sg r xs s e q q' C C' → (∀ y ∈ r, y.1 < C 4) → p < C 4 → WQ fM C C' := by
  intro xs
  induction xs with
  | nil => exact fun _ _ _ _ _ _ h => h.elim
  | cons x xr ih =>
    intro s e q q' C C' h hr hp
    have hpr : ∀ (q : Nat), ∀ y ∈ ((p, sg, q) :: r : PRL), y.1 < C 4 := fun q y hy => by
      rcases List.mem_cons.mp hy with rfl | hy
      · exact hp
      · exact hr y hy
    cases xr with
    | nil => exact hW _ _ _ _ _ _ _ _ _ _ h.1 (hpr _)
    | cons y yr =>
      obtain ⟨e1, q1, C1, h1, h2, h3, h4⟩ := h
      have g1 := hW _ _ _ _ _ _ _ _ _ _ h1 (hpr _)
      have l4 := g1.1.2
      exact g1.tr (ih _ _ _ _ _ _ h4 (fun y hy => by have := hr y hy; omega) (by omega))
theorem dcl_wq (hW : WH fM W) {d p : Nat} {stk : List Nat} {out : Int32} {r : PRL} {s e sg sg' q q' : Nat} {an : Option Nat} (h : DCLX kd fA fM W d stk out p r s e sg sg' q q' an C C') (hr : ∀ y ∈ r, y.1 < C 4) (hp : p < C 4) : WQ fM C C' := by
  rcases h with h | h | h | h
  · obtain ⟨s1, j, ty, own, ho, _, _, _, _, _, _, _, h9, _, h10, h11⟩ := h
    have hown : own = 0 ∨ own = 1 := by
      rcases ho with ho | ho <;> omega
    refine WQ.sy (j := j) ?_ ?_ (fun i hi => by rw [(h9 i hi).1]; decide)
    · rcases hown with q | q
      · rw [(h10 q).2.2]; unfold upD; rw [upC_s]
      · rw [(h11 q).2.2]; unfold upD; rw [upC_n (by omega), upC_s]
    · rcases hown with q | q
      · rw [(h10 q).2.2]; unfold upD; rw [upC_n (by omega)]
      · rw [(h11 q).2.2]; unfold upD; rw [upC_n (by omega), upC_n (by omega)]
  · obtain ⟨s1, ty, j, n, xs, e1, b, _, _, _, _, _, _, _, _, _, _, _, _, _, _, _, _, _, h9, _, _, _, hC⟩ := h
    rw [hC]
    exact WQ.sy (j := j) (by unfold upD; rw [upC_n (by omega), upC_s]) (by unfold upD; rw [upC_n (by omega), upC_n (by omega)]) (fun i hi => by rw [(h9 i hi).1]; decide)
  · obtain ⟨_, _, _, h9, _, _, _, _, _, _, hC⟩ := h
    rw [hC]
    refine WQ.sy (j := 1) (by unfold upD; rw [upC_n (by omega), upC_s]) (by unfold upD; rw [upC_n (by omega), upC_n (by omega)]) (fun i hi => ?_)
    rw [show C 1 + i = C 1 by omega, h9]
    decide
  · obtain ⟨s1, ty, pn, nf, W0, sb, nb, q1, _, _, _, h19, _, _, hpn, h24, _, _, h37, h31, h32, _, _, _, _, _, _, _, hf, _, _, _, _, _, _, hB, _, _⟩ := h
    have u1 : (upD (upD (upD (upD C 1 (1 + nf)) 2 2) 4 1) 6 1) 1 = C 1 + (1 + nf) := by
      unfold upD
      rw [upC_n (by omega), upC_n (by omega), upC_n (by omega), upC_s]
    have u4 : (upD (upD (upD (upD C 1 (1 + nf)) 2 2) 4 1) 6 1) 4 = C 4 + 1 := by
      unfold upD
      rw [upC_n (by omega), upC_s, upC_n (by omega), upC_n (by omega)]
    have hB' := hW _ _ _ _ _ _ _ _ _ _ hB (fun y hy => by
      rw [u4]
      rcases List.mem_cons.mp hy with rfl | hy
      · show pn < C 4 + 1
        omega
      · rcases List.mem_cons.mp hy with rfl | hy
        · show p < C 4 + 1
          omega
        · have := hr y hy
          omega)
    generalize upD (upD (upD (upD C 1 (1 + nf)) 2 2) 4 1) 6 1 = C9 at u1 u4 hB'
    refine WQ.tr (C1 := C9) ⟨by omega, fun j a b => ⟨p, by omega, ?_⟩, fun y a b hy => ?_⟩ hB'
    · rw [show j = pn by omega]; exact h37
    · by_cases q : y = C 1
      · subst q
        exact ⟨pn, nf, h24, by omega, by omega, h31, h32, by omega, fun i hi => (hf i hi).1⟩
      · have := (hf (y - (C 1 + 1)) (by omega)).1
        rw [show C 1 + 1 + (y - (C 1 + 1)) = y by omega, hy] at this
        exact absurd this (by decide)
theorem dcs_wq (hW : WH fM W) {d p : Nat} {stk : List Nat} {out : Int32} {r : PRL} : ∀ (j s e sg sg' q q' : Nat) (al : List Nat) (C C' : CV), DCSX kd fA fM W d stk out p r j s e sg sg' q q' al C C' → (∀ y ∈ r, y.1 < C 4) → p < C 4 → WQ fM C C' := by
  intro j
  induction j with
  | zero =>
    intro s e sg sg' q q' al C C' h _ _
    obtain ⟨_, _, _, _, hC, _⟩ := h
    exact WQ.rf (by rw [hC]) (by rw [hC])
  | succ j ih =>
    intro s e sg sg' q q' al C C' h hr hp
    obtain ⟨e1, sg1, q1, C1, an, al1, h1, _, _, _, _, h2⟩ := h
    have g1 := dcl_wq hW h1 hr hp
    have l4 := g1.1.2
    exact g1.tr (ih _ _ _ _ _ _ _ _ _ h2 (fun y hy => by have := hr y hy; omega) (by omega))
theorem blk_wq (hW : WH fM W) {d s e n q q' : Nat} {stk : List Nat} {prs : PRL} (h : BLKX kd fA fM W d s e n stk prs q q' C C') (hp : ∀ y ∈ prs, y.1 < C 4) : WQ fM C C' := by
  obtain ⟨p, sg, q0, r, hpr, _, _, _, _, _, _, _, _, _, jd, s1, sg1, q1, al, C1, xs, e1, _, _, _, _, h1, h2, _⟩ := h
  subst hpr
  have u1 : (upD (upD (upD C 0 1) 2 1) 3 1) 1 = C 1 := by
    unfold upD
    rw [upC_n (by omega), upC_n (by omega), upC_n (by omega)]
  have u4 : (upD (upD (upD C 0 1) 2 1) 3 1) 4 = C 4 := by
    unfold upD
    rw [upC_n (by omega), upC_n (by omega), upC_n (by omega)]
  have hp0 : p < C 4 := hp (p, sg, q0) List.mem_cons_self
  have hr0 : ∀ y ∈ r, y.1 < C 4 := fun y hy => hp y (List.mem_cons_of_mem _ hy)
  have g1 := dcs_wq hW _ _ _ _ _ _ _ _ _ _ h1 (fun y hy => by rw [u4]; exact hr0 y hy) (by rw [u4]; exact hp0)
  have l4 := g1.1.2
  have g2 := sts_wq hW _ _ _ _ _ _ _ h2 (fun y hy => by have := hr0 y hy; omega) (by omega)
  exact (WQ.rf u1 u4).tr (g1.tr g2)
theorem pln_wq (hW : WH fM W) {d s e n q q' : Nat} {stk : List Nat} {prs : PRL} (h : PLNX kd fA fM W d s e n stk prs q q' C C') (hp : ∀ y ∈ prs, y.1 < C 4) : WQ fM C C' := by
  obtain ⟨p, sg, q0, r, hpr, h⟩ := h
  have hp0 : p < C 4 := hp (p, sg, q0) (by rw [hpr]; exact List.mem_cons_self)
  have hr0 : ∀ y ∈ r, y.1 < C 4 := fun y hy => hp y (by rw [hpr]; exact List.mem_cons_of_mem _ hy)
  have hps : ∀ (sg q : Nat) {D : Nat → Nat}, C 4 ≤ D 4 → ∀ y ∈ ((p, sg, q) :: r : PRL), y.1 < D 4 := fun sg q D hD y hy => by
    rcases List.mem_cons.mp hy with rfl | hy
    · show p < D 4
      omega
    · have := hr0 y hy
      omega
  have w0 : ∀ (D : Nat → Nat) (v : Nat), WQ fM D (upC D 0 v) := fun D v => WQ.rf (upC_n (by omega)) (upC_n (by omega))
  rcases h with h | h | h | h | h | h | h | h
  · obtain ⟨_, _, _, _, x, _, _, _, _, hC⟩ := h
    rw [hC]; exact w0 _ _
  · obtain ⟨_, _, _, x, xs, y, e1, _, _, _, _, _, _, _, c7, hC, _⟩ := h
    rw [hC]
    exact WQ.rf (by rw [upC_n (by omega), upC_n (by omega)]) (by rw [upC_n (by omega), upC_n (by omega)])
  · obtain ⟨_, _, _, _, x, e1, cn, _, _, _, _, _, _, hC⟩ := h
    rw [hC]; exact w0 _ _
  · obtain ⟨_, _, x, _, _, _, _, hC⟩ := h
    rw [hC]; exact w0 _ _
  · obtain ⟨_, _, _, x, y, e1, e2, cn, q1, C1, _, _, _, _, h1, h2⟩ := h
    have g1 := ins_wq hW h1 (hps _ _ (by rw [upC_n (by omega)]; exact Nat.le_refl _))
    have g0 := (w0 C (x + 1)).tr g1
    have l4 := g0.1.2
    rcases h2 with ⟨_, _, _, _, _, hC⟩ | ⟨_, v, C2, _, h3, _, hC⟩
    · rw [hC]; exact g0.tr (w0 _ _)
    · rw [hC]
      exact g0.tr ((ins_wq hW h3 (hps _ _ l4)).tr (w0 _ _))
  · obtain ⟨_, _, _, x, xs, y, e1, e2, lo, C1, _, _, _, _, _, _, _, h1, _, hC⟩ := h
    rw [hC]
    exact ((w0 C lo).tr (ins_wq hW h1 (hps _ _ (by rw [upC_n (by omega)]; exact Nat.le_refl _)))).tr (w0 _ _)
  · exact blk_wq hW h hp
  · obtain ⟨_, _, _, _, _, hC⟩ := h
    rw [hC]; exact w0 _ _
theorem pst_wq : ∀ (k : Nat), WH fM (PSTX kd fA fM k) := by
  intro k
  induction k with
  | zero => exact fun _ _ _ _ _ _ _ _ _ _ h => h.elim
  | succ k ih =>
    intro d s e n stk prs q q' C C' h hp
    obtain ⟨⟨j, h1, _, _, h4⟩, _⟩ := h
    have u4 : upD C 1 j 4 = C 4 := by
      unfold upD
      rw [upC_n (by omega)]
    refine WQ.tr (C1 := upD C 1 j) (WQ.sy (j := j) (by unfold upD; rw [upC_s]) u4 (fun i hi => ?_)) (pln_wq ih h4 (fun y hy => by rw [u4]; exact hp y hy))
    rw [(h1.2 i hi).2.2.2.1]
    decide
end WK
