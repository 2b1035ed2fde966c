/-! A WALK: formals lie in SCOPES begun there; the over-20th VARIABLE's TOKEN -/
section QJ9
variable {kd : Nat → Nat} {fA fM : Wd} {W : PSTT} {d p sg : Nat} {stk : List Nat} {r : PRL} {s e s1 e1 s2 e2 : Nat} {C C1 C' D D' : CV}
def X9 (fM : Wd) (s e : Nat) (C C' : CV) : Prop := (∀ i, C 1 ≤ i → i < C' 1 → gi fM 19 i = 6 → ∃ t, C 2 ≤ t ∧ t < C' 2 ∧ NIL fM i t) ∧ (C 7 ≠ 0 → C' 7 = C 7) ∧ (C 7 ≤ s → e ≤ 9000 → C' 7 ≤ e) ∧ C 2 ≤ C' 2
theorem X9.tr (h : X9 fM s e1 C C1) (g : X9 fM s2 e C1 C') (hs : e1 ≤ s2 ∧ s2 ≤ e) : X9 fM s e C C' := by
  obtain ⟨h1, h2, h3, h4⟩ := h
  obtain ⟨g1, g2, g3, g4⟩ := g
  refine ⟨fun i a b c => ?_, fun c => ?_, fun c z => g3 (Nat.le_trans (h3 c (by omega)) hs.1) z, by omega⟩
  · by_cases q : i < C1 1
    · obtain ⟨t, t1, t2, t3⟩ := h1 i a q c
      exact ⟨t, t1, by omega, t3⟩
    · obtain ⟨t, t1, t2, t3⟩ := g1 i (by omega) b c
      exact ⟨t, by omega, t2, t3⟩
  · have := h2 c
    rw [g2 (by omega), this]
theorem X9.no (h1 : ∀ i, C 1 ≤ i → i < C' 1 → gi fM 19 i ≠ 6) (h2 : C' 7 = C 7) (h3 : C 2 ≤ C' 2) (hs : s ≤ e) : X9 fM s e C C' := ⟨fun i a b c => absurd c (h1 i a b), fun _ => h2, fun _ _ => by omega, h3⟩
theorem X9.cg (h : X9 fM s1 e1 C C') (h1 : D 1 = C 1 ∧ D' 1 = C' 1) (h2 : D 2 ≤ C 2 ∧ C' 2 ≤ D' 2) (h7 : D 7 = C 7 ∧ D' 7 = C' 7) (hs : s ≤ s1 ∧ e1 ≤ e) : X9 fM s e D D' := by
  obtain ⟨g1, g2, g3, g4⟩ := h
  refine ⟨fun i a b c => ?_, fun c => ?_, fun c z => ?_, by omega⟩
  · obtain ⟨t, t1, t2, t3⟩ := g1 i (by omega) (by omega) c
    exact ⟨t, by omega, by omega, t3⟩
  · rw [h7.1] at c ⊢
    rw [h7.2]
    exact g2 c
  · rw [h7.2]
    exact Nat.le_trans (g3 (by omega) (by omega)) hs.2
theorem ins_tp (hT : WTP W) {n q q' : Nat} {prs : PRL} (h : INS9 fM W d s e n stk prs q q' C C') : s ≤ e ∧ LEC C C' ∧ C 0 ≤ n ∧ n < C' 0 := by
  obtain ⟨_, _, _, h⟩ := h
  obtain ⟨g1, g2, g3, g4⟩ := hT _ _ _ _ _ _ _ _ _ _ h
  exact ⟨g1, LEC.upD.tr3 g2, by rw [upD_n (by decide)] at g3; exact g3, g4⟩
theorem rwc_lt {sc so : Int32} {c lo n : Nat} (h : RWC kd sc so c lo n d s e fA fM) : s + 2 < e := by
  obtain ⟨_, _, xs, e1, _, _, hR, _, _, he, _⟩ := h
  have := row_len9 (fun lo x d s e cn h => PWR_lt9 41 lo x d s e cn h) xs _ _ _ _ hR
  have h1 : 1 ≤ xs.length := by
    cases xs with
    | nil => exact hR.elim
    | cons x r => simp
  omega
theorem plc_lt {sc : Int32} {lo n : Nat} (h : PLC kd sc lo n d s e fA fM) : s < e := by
  rcases h.2.2.2 with ⟨_, _, z⟩ | ⟨_, z⟩
  · omega
  · have := rwc_lt z; omega
theorem clc_lt {sc : Int32} {lo n : Nat} (h : CLC kd sc lo n d s e fA fM) : s < e := by
  rcases h.2.2.2 with ⟨_, _, z⟩ | ⟨_, z⟩
  · omega
  · have := rwc_lt z; omega
theorem chn_lt {c : Nat} {V : Nat → Nat → Nat → Nat → Nat → Prop} (hV : ∀ lo x s e lo', V lo x s e lo' → s < e) : ∀ (xs : List Nat) (lo s e lo' : Nat), CHNW kd fM c V xs lo s e lo' → s < e := by
  intro xs
  induction xs with
  | nil => exact fun _ _ _ _ h => h.elim
  | cons x r ih =>
    intro lo s e lo' h
    cases r with
    | nil => exact hV _ _ _ _ _ h.1
    | cons y r' =>
      obtain ⟨e1, l1, h1, _, _, h2⟩ := h
      have := hV _ _ _ _ _ h1
      have := ih _ _ _ _ h2
      omega
theorem sts_lt (hT : WTP W) {xs : List Nat} {q q' : Nat} (h : STSX kd fM W d stk p sg r xs s e q q' C C') : s ≤ e := (sts_tp hT _ _ _ _ _ _ _ h).1
/-- where targets begin -/
theorem tgs_tk {sc : Int32} {y : Nat} : ∀ (r : List Nat) (x lo s : Nat), TGS kd fA fM sc d (x :: r) lo y s e → s < e ∧ (∀ v ∈ r, ∃ tk, gi fM 12 v = Int32.ofNat tk ∧ s ≤ tk ∧ tk < e) ∧ ∃ lo' s' cn, XPR kd sc lo' y d s' e cn fA fM ∧ s ≤ s' := by
  intro r
  induction r with
  | nil =>
    intro x lo s ⟨cn, h, _⟩
    exact ⟨PWR_lt9 _ _ _ _ _ _ _ h.2, fun v hv => absurd hv (by simp), lo, s, cn, h, Nat.le_refl _⟩
  | cons v r ih =>
    intro x lo s ⟨e1, cn, h, h7, h50, _, h2⟩
    have l1 := PWR_lt9 _ _ _ _ _ _ _ h.2
    obtain ⟨i1, i2, lo', s', cn', i3, i4⟩ := ih _ _ _ h2
    refine ⟨by omega, fun z hz => ?_, lo', s', cn', i3, by omega⟩
    rcases List.mem_cons.mp hz with rfl | hz
    · exact ⟨s, (var_form h).2 h7, Nat.le_refl _, by omega⟩
    · obtain ⟨tk, t1, t2, t3⟩ := i2 z hz
      exact ⟨tk, t1, by omega, t3⟩
/-- a STATEMENT without LABELS ends behind where it begins -/
theorem pln_se (hT : WTP W) {n q q' : Nat} {prs : PRL} (h : PLNX kd fA fM W d s e n stk prs q q' C C') : s ≤ e := by
  obtain ⟨p, sg, q0, r, hp, h | h | h | h | h | h | h | h⟩ := h
  · obtain ⟨_, _, _, _, x, _, _, hx, _⟩ := h
    have := clc_lt hx; omega
  · obtain ⟨_, _, _, x, xs, y, e1, _, _, _, hx, _, hG, _⟩ := h
    have := plc_lt hx
    have := (tgs_tk _ _ _ _ hG).1
    omega
  · obtain ⟨_, _, _, _, x, e1, cn, _, _, hx, _, _, _⟩ := h
    have := PWR_lt9 _ _ _ _ _ _ _ hx.2; omega
  · obtain ⟨_, _, x, _, _, hx, _⟩ := h
    have := amX_lt _ _ _ _ (PAM_am _ hx.2); omega
  · obtain ⟨_, _, _, x, y, e1, e2, cn, q1, C1, _, _, hx, _, hI, hx2⟩ := h
    have l1 := PWR_lt9 _ _ _ _ _ _ _ hx.2
    have m1 := (ins_tp hT hI).1
    rcases hx2 with ⟨_, _, e3, _, _, h2⟩ | ⟨_, v, C2, _, hI2, _, h2⟩
    · omega
    · have := (ins_tp hT hI2).1; omega
  · obtain ⟨_, _, _, x, xs, y, e1, e2, lo, C1, _, _, _, hx, _, hE, _, hI, _, h2⟩ := h
    have := plc_lt hx
    have := chn_lt (fun lo x s e lo' h => (elt_lt h).2.2) _ _ _ _ _ hE
    have := (ins_tp hT hI).1
    omega
  · obtain ⟨p, sg, q0, r, hp, b2, b3, b4, b5, b6, b7, b8, b9, b10, jd, s1, sg1, q1, al, C1, xs, e1, c1, c2, c3, c4, hD, hS, _, he, _⟩ := h
    have := (dcs_tp hT _ _ _ _ _ _ _ _ _ _ hD).1
    have := sts_lt hT hS
    omega
  · obtain ⟨_, _, h1, _⟩ := h
    omega
def W9 (fM : Wd) (W : PSTT) : Prop := ∀ d s e n stk prs q q' C C', W d s e n stk prs q q' C C' → X9 fM s e C C'
theorem ins_9 (hW : W9 fM W) {n q q' : Nat} {prs : PRL} (h : INS9 fM W d s e n stk prs q q' C C') : X9 fM s e C C' := by
  obtain ⟨_, _, _, h⟩ := h
  have u2 : upD C 2 1 2 = C 2 + 1 := upD_s
  exact (hW _ _ _ _ _ _ _ _ _ _ h).cg ⟨(upD_n (by decide)).symm, rfl⟩ ⟨by omega, Nat.le_refl _⟩ ⟨(upD_n (by decide)).symm, rfl⟩ ⟨Nat.le_refl _, Nat.le_refl _⟩
theorem sts_9 (hW : W9 fM W) (hT : WTP W) : ∀ (xs : List Nat) (s e q q' : Nat) (C C' : CV), STSX kd fM W d stk p sg r xs s e q q' C C' → X9 fM s e C C' := by
  intro xs
  induction xs with
  | nil => exact fun s e q q' C C' h => h.elim
  | cons x xr ih =>
    intro s e q q' C C' h
    cases xr with
    | nil => exact hW _ _ _ _ _ _ _ _ _ _ h.1
    | cons y yr =>
      obtain ⟨e1, q1, C1, h1, h2, h3, h4⟩ := h
      exact (hW _ _ _ _ _ _ _ _ _ _ h1).tr (ih _ _ _ _ _ _ h4) ⟨by omega, sts_lt hT h4⟩
theorem dcl_9 (hW : W9 fM W) (hT : WTP W) {out : Int32} {sg' q q' : Nat} {an : Option Nat} (h : DCLX kd fA fM W d stk out p r s e sg sg' q q' an C C') : X9 fM s e C C' := by
  have hse := (dcl_tp hT h).1
  rcases h with ⟨s1, j, ty, own, ho, _, _, _, _, _, _, _, h9, hD, h0, h1⟩ | ⟨s1, ty, j, n, xs, e1, b, _, _, _, _, _, _, _, _, _, _, _, _, hb1, hb3, _, _, _, h9, hD, hs, hq, hC⟩ | ⟨_, _, _, h19, _, _, _, _, hs, hq, hC⟩ | ⟨s1, ty, pn, nf, W0, sb, nb, q1, hs1, _, _, h19, _, _, _, _, _, _, _, _, _, _, _, _, hsb, _, hD1, hDf, hf, _, _, _, _, _, _, hB, _⟩
  · have key : C' 1 = C 1 + j ∧ C' 7 = C 7 ∧ C' 2 = C 2 := by
      by_cases c : own = 0
      · obtain ⟨x1, x2, x3⟩ := h0 c
        rw [x3]
        exact ⟨upD_s, upD_n (by decide), upD_n (by decide)⟩
      · obtain ⟨x1, x2, x3⟩ := h1 (by rcases ho with ho | ho <;> omega)
        rw [x3]
        exact ⟨by rw [upD_n (by decide)]; exact upD_s, by rw [upD_n (by decide), upD_n (by decide)], by rw [upD_n (by decide), upD_n (by decide)]⟩
    refine X9.no (fun i a b => ?_) key.2.1 (by omega) (by omega)
    have := (h9 (i - C 1) (by omega)).1
    rw [show C 1 + (i - C 1) = i by omega] at this
    rw [this]; decide
  · have e1 : C' 1 = C 1 + j := by rw [hC, upC_n (by decide)]; exact upD_s
    refine X9.no (fun i a b => ?_) (by rw [hC, upC_n (by decide)]; exact upD_n (by decide)) (by rw [hC, upC_n (by decide), upD_n (by decide)]; exact Nat.le_refl _) (by omega)
    have := (h9 (i - C 1) (by omega)).1
    rw [show C 1 + (i - C 1) = i by omega] at this
    rw [this]; decide
  · have e1 : C' 1 = C 1 + 1 := by rw [hC, upC_n (by decide)]; exact upD_s
    refine X9.no (fun i a b => ?_) (by rw [hC, upC_n (by decide)]; exact upD_n (by decide)) (by rw [hC, upC_n (by decide), upD_n (by decide)]; exact Nat.le_refl _) (by omega)
    rw [show i = C 1 by omega, h19]; decide
  · have hg := hW _ _ _ _ _ _ _ _ _ _ hB
    have u1 : (upD (upD (upD (upD C 1 (1 + nf)) 2 2) 4 1) 6 1) 1 = C 1 + (1 + nf) := by
      rw [upD_n (by decide), upD_n (by decide), upD_n (by decide)]; exact upD_s
    have u2 : (upD (upD (upD (upD C 1 (1 + nf)) 2 2) 4 1) 6 1) 2 = C 2 + 2 := by
      rw [upD_n (by decide), upD_n (by decide), upD_s, upD_n (by decide)]
    have u7 : (upD (upD (upD (upD C 1 (1 + nf)) 2 2) 4 1) 6 1) 7 = C 7 := by
      rw [upD_n (by decide), upD_n (by decide), upD_n (by decide), upD_n (by decide)]
    obtain ⟨g1, g2, g3, g4⟩ := hg
    rw [u1] at g1
    rw [u2] at g1 g4
    rw [u7] at g2 g3
    refine ⟨fun i a b c => ?_, g2, fun c z => g3 ?_ z, by omega⟩
    · by_cases q0 : i = C 1
      · subst q0
        exact absurd (h19.symm.trans c) (by decide)
      · by_cases q1 : i < C 1 + (1 + nf)
        · have := hDf (i - (C 1 + 1)) (by omega)
          rw [show C 1 + 1 + (i - (C 1 + 1)) = i by omega] at this
          exact ⟨C 2, Nat.le_refl _, by omega, this.2.2⟩
        · obtain ⟨t, t1, t2, t3⟩ := g1 i (by omega) b c
          exact ⟨t, by omega, t2, t3⟩
    · rcases hs1 with hs1 | hs1 <;> omega
theorem dcs_9 (hW : W9 fM W) (hT : WTP W) {out : Int32} : ∀ (j s e sg sg' q q' : Nat) (al : List Nat) (C C' : CV), DCSX kd fA fM W d stk out p r j s e sg sg' q q' al C C' → X9 fM s e C C' := by
  intro j
  induction j with
  | zero =>
    intro s e sg sg' q q' al C C' ⟨h1, h2, h3, _, hC, _⟩
    rw [h1, hC]
    exact X9.no (fun i a b => absurd b (by omega)) rfl (Nat.le_refl _) (Nat.le_refl _)
  | succ j ih =>
    intro s e sg sg' q q' al C C' ⟨e1, sg1, q1, C1, an, al1, h1, h2, h3, h4, h5, h6⟩
    exact (dcl_9 hW hT h1).tr (ih _ _ _ _ _ _ _ _ _ h6) ⟨by omega, by have := (dcs_tp hT _ _ _ _ _ _ _ _ _ _ h6).1; omega⟩
theorem blk_9 (hW : W9 fM W) (hT : WTP W) {n q q' : Nat} {prs : PRL} (h : BLKX kd fA fM W d s e n stk prs q q' C C') : X9 fM s e C C' := by
  obtain ⟨p, sg, q0, r, hp, b2, b3, b4, b5, b6, b7, b8, b9, b10, jd, s1, sg1, q1, al, C1, xs, e1, c1, c2, c3, c4, hD, hS, _, he, _, hG⟩ := h
  have u1 : upD (upD (upD C 0 1) 2 1) 3 1 1 = C 1 := by rw [upD_n (by decide), upD_n (by decide), upD_n (by decide)]
  have u2 : upD (upD (upD C 0 1) 2 1) 3 1 2 = C 2 + 1 := by rw [upD_n (by decide), upD_s, upD_n (by decide)]
  have u7 : upD (upD (upD C 0 1) 2 1) 3 1 7 = C 7 := by rw [upD_n (by decide), upD_n (by decide), upD_n (by decide)]
  exact ((dcs_9 hW hT _ _ _ _ _ _ _ _ _ _ hD).tr (e := e1) (sts_9 hW hT _ _ _ _ _ _ _ hS) ⟨Nat.le_refl _, sts_lt hT hS⟩).cg ⟨u1.symm, rfl⟩ ⟨by omega, Nat.le_refl _⟩ ⟨u7.symm, rfl⟩ ⟨by omega, by omega⟩
theorem pln_9 (hW : W9 fM W) (hT : WTP W) {n q q' : Nat} {prs : PRL} (h : PLNX kd fA fM W d s e n stk prs q q' C C') : X9 fM s e C C' := by
  have hse := pln_se hT h
  have no : ∀ x, C' = upC C 0 x → X9 fM s e C C' := fun x e1 => by
    have k1 : C' 1 = C 1 := by rw [e1]; exact upC_n (by decide)
    exact X9.no (fun i a b => absurd b (by omega)) (by rw [e1]; exact upC_n (by decide)) (by rw [e1, upC_n (by decide)]; exact Nat.le_refl _) hse
  obtain ⟨p, sg, q0, r, hp, h | h | h | h | h | h | h | h⟩ := h
  · obtain ⟨_, _, _, _, x, _, _, _, h1, h2⟩ := h
    exact no _ h2
  · obtain ⟨_, _, _, x, xs, y, e1, _, _, _, hx, _, hG, h1, c7, h2, h3⟩ := h
    obtain ⟨g1, g2, _⟩ := tgs_tk _ _ _ _ hG
    have l1 := plc_lt hx
    have k1 : C' 1 = C 1 := by rw [h2, upC_n (by decide)]; exact upC_n (by decide)
    have k2 : C' 2 = C 2 := by rw [h2, upC_n (by decide)]; exact upC_n (by decide)
    have k7 : C' 7 = c7 := by rw [h2]; exact upC_s
    refine ⟨fun i a b => absurd b (by omega), fun c => ?_, fun c z => ?_, by omega⟩
    · rw [k7]
      rcases h3 with ⟨_, h3⟩ | ⟨_, tk, _, _, h3⟩
      · exact h3
      · rw [h3, if_neg c]
    · rw [k7]
      rcases h3 with ⟨_, h3⟩ | ⟨h20, tk, t1, t2, h3⟩
      · omega
      · rw [h3]
        have hm : xs.getD 19 0 ∈ xs := by
          rw [List.getD_eq_getElem?_getD, List.getElem?_eq_getElem (by omega)]
          exact List.getElem_mem _
        obtain ⟨tk', u1, u2, u3⟩ := g2 _ hm
        have : tk' = tk := (eq_iN (by omega) (by omega)).mp (u1.symm.trans t1)
        split <;> omega
  · obtain ⟨_, _, _, _, x, e1, cn, _, _, _, _, _, h1, h2⟩ := h
    exact no _ h2
  · obtain ⟨_, _, x, _, _, _, h1, h2⟩ := h
    exact no _ h2
  · obtain ⟨_, _, _, x, y, e1, e2, cn, q1, C1, _, _, hx, _, hI, hx2⟩ := h
    have l1 := PWR_lt9 _ _ _ _ _ _ _ hx.2
    have k1 : upC C 0 (x + 1) 1 = C 1 := upC_n (by decide)
    have k2 : upC C 0 (x + 1) 2 = C 2 := upC_n (by decide)
    have k7 : upC C 0 (x + 1) 7 = C 7 := upC_n (by decide)
    have g1 := ins_9 hW hI
    have m1 := (ins_tp hT hI).1
    rcases hx2 with ⟨_, _, e3, _, _, h2⟩ | ⟨_, v, C2, _, hI2, _, h2⟩
    · refine g1.cg ⟨k1.symm, ?_⟩ ⟨by omega, ?_⟩ ⟨k7.symm, ?_⟩ ⟨by omega, by omega⟩
      · rw [h2]; exact upC_n (by decide)
      · rw [h2, upC_n (by decide)]; exact Nat.le_refl _
      · rw [h2]; exact upC_n (by decide)
    · refine (g1.tr (ins_9 hW hI2) ⟨by omega, (ins_tp hT hI2).1⟩).cg ⟨k1.symm, ?_⟩ ⟨by omega, ?_⟩ ⟨k7.symm, ?_⟩ ⟨by omega, by omega⟩
      · rw [h2]; exact upC_n (by decide)
      · rw [h2, upC_n (by decide)]; exact Nat.le_refl _
      · rw [h2]; exact upC_n (by decide)
  · obtain ⟨_, _, _, x, xs, y, e1, e2, lo, C1, _, _, _, hx, _, hE, _, hI, _, h2⟩ := h
    have k1 : upC C 0 lo 1 = C 1 := upC_n (by decide)
    have k2 : upC C 0 lo 2 = C 2 := upC_n (by decide)
    have k7 : upC C 0 lo 7 = C 7 := upC_n (by decide)
    have l2 := plc_lt hx
    have l3 := chn_lt (fun lo x s e lo' h => (elt_lt h).2.2) _ _ _ _ _ hE
    refine (ins_9 hW hI).cg ⟨k1.symm, ?_⟩ ⟨by omega, ?_⟩ ⟨k7.symm, ?_⟩ ⟨by omega, by omega⟩
    · rw [h2]; exact upC_n (by decide)
    · rw [h2, upC_n (by decide)]; exact Nat.le_refl _
    · rw [h2]; exact upC_n (by decide)
  · exact blk_9 hW hT h
  · obtain ⟨_, _, _, _, h1, h2⟩ := h
    exact no _ h2
theorem pst_9 : ∀ (k : Nat), W9 fM (PSTX kd fA fM k) := by
  intro k
  induction k with
  | zero => exact fun d s e n stk prs q q' C C' h => h.elim
  | succ k ih =>
    intro d s e n stk prs q q' C C' h
    obtain ⟨⟨j, h1, h2, h3, h4⟩, _⟩ := h
    have g := pln_9 ih (pst_tp k) h4
    have u1 : upD C 1 j 1 = C 1 + j := upD_s
    have u2 : upD C 1 j 2 = C 2 := upD_n (by decide)
    have u7 : upD C 1 j 7 = C 7 := upD_n (by decide)
    refine X9.tr (C1 := upD C 1 j) (X9.no (fun i a b => ?_) u7 (by omega) (show s ≤ s + 2 * j by omega)) g ⟨Nat.le_refl _, pln_se (pst_tp k) h4⟩
    have := (h1.2 (i - C 1) (by omega)).2.2.2.1
    rw [show C 1 + (i - C 1) = i by omega] at this
    rw [this]; decide
end QJ9
