/-! A WALK: slots, on both sides, against NAMES and BLOCKS -/
section PJ9
variable {kd : Nat → Nat} {fA fM : Wd} {W : PSTT} {d p sg : Nat} {stk : List Nat} {r : PRL}
theorem cntP_mono {w : Wd} {p a b : Nat} (h : a ≤ b) : cntP w p a ≤ cntP w p b := by
  obtain ⟨k, rfl⟩ : ∃ k, b = a + k := ⟨b - a, by omega⟩
  clear h
  induction k with
  | zero => exact Nat.le_refl _
  | succ k ih =>
    refine Nat.le_trans ih ?_
    show _ ≤ cntP w p (a + k) + _
    omega
theorem cntP_all {w : Wd} {p a : Nat} : ∀ j, (∀ i, i < j → gi w 23 (a + i) = Int32.ofNat p ∧ gi w 19 (a + i) ≠ 4) → cntP w p (a + j) = cntP w p a + j := by
  intro j
  induction j with
  | zero => exact fun _ => rfl
  | succ j ih =>
    intro h
    show cntP w p (a + j) + (if gi w 23 (a + j) = Int32.ofNat p ∧ gi w 19 (a + j) ≠ 4 then 1 else 0) = _
    rw [ih (fun i hi => h i (by omega)), if_pos (h j (by omega))]
    omega
/-- slots of procedure p: how they go on -/
def SQF (fM : Wd) (p q q' : Nat) (C C' : CV) : Prop := q ≤ q' ∧ q' + 8 * cntP fM p (C 1) ≤ q + 8 * cntP fM p (C' 1) + 2 * (C' 3 - C 3) ∧ ∀ Q, gi fM 35 p = Int32.ofNat Q → Q ≤ 60000 → q ≤ Q → q' ≤ Q
theorem SQF.no {p q : Nat} {C C' : CV} (h : C 1 ≤ C' 1) : SQF fM p q q C C' := ⟨Nat.le_refl _, by have := cntP_mono (w := fM) (p := p) h; omega, fun _ _ _ h => h⟩
theorem SQF.tr {p q q1 q2 : Nat} {C C1 C2 : CV} (h : SQF fM p q q1 C C1) (g : SQF fM p q1 q2 C1 C2) (h3 : C 3 ≤ C1 3 ∧ C1 3 ≤ C2 3) : SQF fM p q q2 C C2 := ⟨Nat.le_trans h.1 g.1, by have := h.2.1; have := g.2.1; omega, fun Q e1 e2 e3 => g.2.2 Q e1 e2 (h.2.2 Q e1 e2 e3)⟩
theorem SQF.cg {p q q' : Nat} {C C' D D' : CV} (h : SQF fM p q q' C C') (h1 : D 1 ≤ C 1) (h2 : C' 1 ≤ D' 1) (h3 : C' 3 - C 3 ≤ D' 3 - D 3) : SQF fM p q q' D D' := by
  have a1 := cntP_mono (w := fM) (p := p) h1
  have a2 := cntP_mono (w := fM) (p := p) h2
  exact ⟨h.1, by have := h.2.1; omega, h.2.2⟩
def WSQ (fM : Wd) (W : PSTT) : Prop := ∀ d s e n stk prs q q' C C', W d s e n stk prs q q' C C' → LEC C C' ∧ SQF fM (prs.headD (0, 0, 0)).1 q q' C C'
theorem sts_sq (hW : WSQ fM W) : ∀ (xs : List Nat) (s e q q' : Nat) (C C' : CV), STSX kd fM W d stk p sg r xs s e q q' C C' → LEC C C' ∧ SQF fM p q q' C C' := by
  intro xs
  induction xs with
  | nil => exact fun s e q q' C C' h => h.elim
  | cons x xr ih =>
    intro s e q q' C C' h
    cases xr with
    | nil => exact hW _ _ _ _ _ _ _ _ _ _ h.1
    | cons y yr =>
      obtain ⟨e1, q1, C1, h1, h2, h3, h4⟩ := h
      obtain ⟨a1, a2⟩ := hW _ _ _ _ _ _ _ _ _ _ h1
      obtain ⟨b1, b2⟩ := ih _ _ _ _ _ _ h4
      exact ⟨a1.tr3 b1, SQF.tr a2 b2 ⟨a1 3, b1 3⟩⟩
/-- slots in DECLS -/
def SDF (fM : Wd) (p sg sg' q q' : Nat) (C C' : CV) : Prop := sg ≤ sg' ∧ q ≤ q' ∧ sg' + 8 * cntP fM p (C 1) ≤ sg + 8 * cntP fM p (C' 1) ∧ q' + 8 * cntP fM p (C 1) ≤ q + 8 * cntP fM p (C' 1)
theorem SDF.tr {p s0 s1 s2 q q1 q2 : Nat} {C C1 C2 : CV} (h : SDF fM p s0 s1 q q1 C C1) (g : SDF fM p s1 s2 q1 q2 C1 C2) : SDF fM p s0 s2 q q2 C C2 := by
  obtain ⟨a1, a2, a3, a4⟩ := h
  obtain ⟨b1, b2, b3, b4⟩ := g
  exact ⟨by omega, by omega, by omega, by omega⟩
theorem dcl_sd (hW : WTP W) {out : Int32} {s e sg sg' q q' : Nat} {an : Option Nat} {C C' : CV} (h : DCLX kd fA fM W d stk out p r s e sg sg' q q' an C C') : SDF fM p sg sg' q q' C C' := by
  have hL := (dcl_tp hW h).2.1 1
  have hm := cntP_mono (w := fM) (p := p) hL
  rcases h with ⟨s1, j, ty, own, ho, _, _, _, _, _, _, _, h9, hD, h0, h1⟩ | ⟨s1, ty, j, n, xs, e1, b, _, _, _, _, _, _, _, _, _, _, _, _, hb1, hb3, _, _, _, h9, hD, hs, hq, hC⟩ | ⟨_, _, _, _, _, _, _, _, hs, hq, _⟩ | ⟨s1, ty, pn, nf, W0, sb, nb, q1, _, _, _, _, _, _, _, _, _, _, _, _, _, _, _, _, _, _, _, _, _, _, _, _, _, _, _, _, hs, hq, _⟩
  · by_cases c : own = 0
    · obtain ⟨x1, x2, x3⟩ := h0 c
      have e1 : C' 1 = C 1 + j := by rw [x3]; exact upD_s
      have hc := cntP_all (w := fM) (p := p) (a := C 1) j (fun i hi => ⟨(hD i hi).1, by rw [(h9 i hi).1]; decide⟩)
      rw [← e1] at hc
      exact ⟨by omega, by omega, by omega, by omega⟩
    · obtain ⟨x1, x2, x3⟩ := h1 (by rcases ho with ho | ho <;> omega)
      exact ⟨by omega, by omega, by omega, by omega⟩
  · have e1 : C' 1 = C 1 + j := by rw [hC, upC_n (by decide)]; exact upD_s
    have hc := cntP_all (w := fM) (p := p) (a := C 1) j (fun i hi => ⟨(hD i hi).1, by rw [(h9 i hi).1]; decide⟩)
    rw [← e1] at hc
    have hb : j * (2 + 2 * b) ≤ j * 8 := Nat.mul_le_mul_left _ (by omega)
    exact ⟨by omega, by omega, by omega, by omega⟩
  · exact ⟨by omega, by omega, by omega, by omega⟩
  · exact ⟨by omega, by omega, by omega, by omega⟩
theorem dcs_sd (hW : WTP W) {out : Int32} : ∀ (j s e sg sg' q q' : Nat) (al : List Nat) (C C' : CV), DCSX kd fA fM W d stk out p r j s e sg sg' q q' al C C' → SDF fM p sg sg' q q' C C' := by
  intro j
  induction j with
  | zero =>
    intro s e sg sg' q q' al C C' ⟨_, h2, h3, _, hC, _⟩
    rw [h2, h3, hC]
    exact ⟨Nat.le_refl _, Nat.le_refl _, Nat.le_refl _, Nat.le_refl _⟩
  | succ j ih =>
    intro s e sg sg' q q' al C C' ⟨e1, sg1, q1, C1, an, al1, h1, h2, h3, h4, h5, h6⟩
    exact (dcl_sd hW h1).tr (ih _ _ _ _ _ _ _ _ _ h6)
theorem blk_sq (hW : WSQ fM W) (hT : WTP W) {s e n q q' : Nat} {prs : PRL} {C C' : CV} (h : BLKX kd fA fM W d s e n stk prs q q' C C') : SQF fM (prs.headD (0, 0, 0)).1 q q' C C' := by
  obtain ⟨p, sg, q0, r, hp, b2, b3, b4, b5, b6, b7, b8, b9, b10, jd, s1, sg1, q1, al, C1, xs, e1, c1, c2, c3, c4, hD, hS, _, _, _, hG⟩ := h
  subst hp
  show SQF fM p q q' C C'
  obtain ⟨g1, g2⟩ := sts_sq hW _ _ _ _ _ _ _ hS
  obtain ⟨_, d2, _, d4⟩ := dcs_sd hT _ _ _ _ _ _ _ _ _ _ hD
  have hL := (dcs_tp hT _ _ _ _ _ _ _ _ _ _ hD).2.1
  have u1 : upD (upD (upD C 0 1) 2 1) 3 1 1 = C 1 := by rw [upD_n (by decide), upD_n (by decide), upD_n (by decide)]
  have u3 : upD (upD (upD C 0 1) 2 1) 3 1 3 = C 3 + 1 := by rw [upD_s, upD_n (by decide), upD_n (by decide)]
  have l3 := hL 3
  have m3 := g1 3
  rw [u1] at d4
  rw [u3] at l3
  obtain ⟨c4', Q', _, _, _, e1', e2', e3'⟩ := hG
  refine ⟨by have := g2.1; omega, by have := g2.2.1; omega, fun Q f1 f2 f3 => g2.2.2 Q f1 f2 ?_⟩
  have := (eq_iN (by omega) (by omega)).mp (e1'.symm.trans f1)
  omega
theorem ins_sq (hW : WSQ fM W) {d s e n q q' : Nat} {stk : List Nat} {prs : PRL} {C C' : CV} (h : INS9 fM W d s e n stk prs q q' C C') : SQF fM (prs.headD (0, 0, 0)).1 q q' C C' ∧ LEC C C' := by
  obtain ⟨_, _, _, h⟩ := h
  obtain ⟨g1, g2⟩ := hW _ _ _ _ _ _ _ _ _ _ h
  exact ⟨g2.cg (by rw [upD_n (by decide)]; exact Nat.le_refl _) (Nat.le_refl _) (by rw [upD_n (by decide)]; exact Nat.le_refl _), LEC.upD.tr3 g1⟩
theorem pln_sq (hW : WSQ fM W) (hT : WTP W) {s e n q q' : Nat} {prs : PRL} {C C' : CV} (h : PLNX kd fA fM W d s e n stk prs q q' C C') : SQF fM (prs.headD (0, 0, 0)).1 q q' C C' := by
  have no : ∀ x, C' = upC C 0 x → q' = q → SQF fM (prs.headD (0, 0, 0)).1 q q' C C' := fun x e1 e2 => by
    rw [e1, e2]
    exact SQF.no (by rw [upC_n (by decide)]; exact Nat.le_refl _)
  obtain ⟨p, sg, q0, r, hp, h | h | h | h | h | h | h | h⟩ := h
  · obtain ⟨_, _, _, _, x, _, _, _, h1, h2⟩ := h
    exact no _ h2 h1
  · obtain ⟨_, _, _, x, xs, y, e1, _, _, _, _, _, _, h1, c7, h2, _⟩ := h
    rw [h1, h2]
    exact SQF.no (by rw [upC_n (by decide), upC_n (by decide)]; exact Nat.le_refl _)
  · obtain ⟨_, _, _, _, x, e1, cn, _, _, _, _, _, h1, h2⟩ := h
    exact no _ h2 h1
  · obtain ⟨_, _, x, _, _, _, h1, h2⟩ := h
    exact no _ h2 h1
  · obtain ⟨_, _, _, x, y, e1, e2, cn, q1, C1, _, _, _, _, hI, hx⟩ := h
    subst hp
    obtain ⟨g1, g2⟩ := ins_sq hW hI
    have k1 : upC C 0 (x + 1) 1 = C 1 := upC_n (by decide)
    have k3 : upC C 0 (x + 1) 3 = C 3 := upC_n (by decide)
    have l1 := g2 1
    have l3 := g2 3
    rw [k1] at l1
    rw [k3] at l3
    rcases hx with ⟨_, _, _, h1, _, h2⟩ | ⟨_, v, C2, _, hI2, _, h2⟩
    · rw [h1, h2]
      exact g1.cg (by omega) (by rw [upC_n (by decide)]; exact Nat.le_refl _) (by rw [k3, upC_n (by decide)]; omega)
    · obtain ⟨f1, f2⟩ := ins_sq hW hI2
      have m3 := f2 3
      rw [h2]
      exact SQF.tr (C1 := C1) (g1.cg (by omega) (Nat.le_refl _) (by omega)) (f1.cg (Nat.le_refl _) (by rw [upC_n (by decide)]; exact Nat.le_refl _) (by rw [upC_n (by decide)]; exact Nat.le_refl _)) ⟨l3, by rw [upC_n (by decide)]; exact m3⟩
  · obtain ⟨_, _, _, x, xs, y, e1, e2, lo, C1, _, _, _, _, _, _, _, hI, _, h2⟩ := h
    subst hp
    obtain ⟨g1, g2⟩ := ins_sq hW hI
    have k1 : upC C 0 lo 1 = C 1 := upC_n (by decide)
    have k3 : upC C 0 lo 3 = C 3 := upC_n (by decide)
    rw [h2]
    exact g1.cg (by omega) (by rw [upC_n (by decide)]; exact Nat.le_refl _) (by rw [k3, upC_n (by decide)]; omega)
  · exact blk_sq hW hT h
  · obtain ⟨_, _, _, _, h1, h2⟩ := h
    exact no _ h2 h1
theorem pst_sq : ∀ (k : Nat), WSQ fM (PSTX kd fA fM k) := by
  intro k
  induction k with
  | zero => exact fun d s e n stk prs q q' C C' h => h.elim
  | succ k ih =>
    intro d s e n stk prs q q' C C' ⟨⟨j, _, _, _, h4⟩, _, h6, _⟩
    refine ⟨h6, (pln_sq ih (pst_tp k) h4).cg ?_ (Nat.le_refl _) ?_⟩
    · rw [upD_s]; omega
    · rw [upD_n (by decide)]; exact Nat.le_refl _
end PJ9
