/-! SCOPES: what lies in those that are begun within; levels of procedures; PNR -/
section QB1
variable {kd wr nm TK SG : Nat → Nat} {vv : Nat → Int64} {m z : Nat} {Cf : Nat → Nat} {SL : Nat → List Nat} {fA fM : Wd} {NS ns lev : Nat} {W : PSTT} {d p pp sg i0 : Nat} {stk : List Nat} {r : PRL} {H : Nat → Prop} {pn : Nat → Int32}
/-- SCOPES begun within hold symbols declared within alone -/
def OUT (SL : Nat → List Nat) (C C' : CV) : Prop := ∀ t i, C 2 ≤ t → t < C' 2 → i ∈ SL t → C 1 ≤ i ∧ i < C' 1
theorem OUT.ll (hT : TBM kd wr nm vv m Cf TK SL fA fM) {C C1 C' : CV} (h : OUT SL C C') (hw : WSH fA fM H C1 C') (hH : ∀ t, H t → t < C 2) (h2 : C 2 ≤ C1 2) (hf : C' 2 ≤ Cf 2) : OUT SL C C1 := fun t i a b hm => by
  have h2' := hw.1.2.1
  obtain ⟨g1, g2⟩ := h t i a (by omega) hm
  refine ⟨g1, Classical.byContradiction fun c => ?_⟩
  obtain ⟨t', p', d1, d2⟩ := hw.2.1 i (by omega) g2
  have := nil_in hT d1.2.2 (show t < Cf 2 by omega) hm
  subst this
  rcases d2 with q | q
  · have := hH _ q; omega
  · omega
theorem OUT.rr (hT : TBM kd wr nm vv m Cf TK SL fA fM) {C C1 C' : CV} (h : OUT SL C C') (hw : WSH fA fM H C C1) (hH : ∀ t, H t → t < C1 2) (h2 : C1 2 ≤ C' 2) (hf : C' 2 ≤ Cf 2) : OUT SL C1 C' := fun t i a b hm => by
  have h2' := hw.1.2.1
  obtain ⟨g1, g2⟩ := h t i (by omega) b hm
  refine ⟨Classical.byContradiction fun c => ?_, g2⟩
  obtain ⟨t', p', d1, d2⟩ := hw.2.1 i g1 (by omega)
  have := nil_in hT d1.2.2 (show t < Cf 2 by omega) hm
  subst this
  rcases d2 with q | q
  · have := hH _ q; omega
  · omega
theorem OUT.sub {C C' D D' : CV} (h : OUT SL C C') (h1 : D 1 = C 1) (h2 : C 2 ≤ D 2) (h3 : D' 1 = C' 1) (h4 : D' 2 ≤ C' 2) : OUT SL D D' := fun t i a b hm => by
  have := h t i (by omega) (by omega) hm
  omega
/-- levels of procedures -/
def LVB (fM : Wd) (C C' : CV) : Prop := ∀ j, C 4 ≤ j → j < C' 4 → ∃ l, gi fM 30 j = Int32.ofNat l ∧ l ≤ 41
theorem LVB.tr {C C1 C' : CV} (h : LVB fM C C1) (g : LVB fM C1 C') : LVB fM C C' := fun j a b => by
  by_cases c : j < C1 4
  · exact h j a c
  · exact g j (by omega) b
theorem LVB.rf {C C' : CV} (h : C' 4 = C 4) : LVB fM C C' := fun j a b => absurd b (by omega)
theorem LVB.cg {C C' D D' : CV} (h : LVB fM C C') (h1 : D 4 = C 4) (h2 : D' 4 = C' 4) : LVB fM D D' := fun j a b => h j (by omega) (by omega)
def WLV (fM : Wd) (W : PSTT) : Prop := ∀ d s e n stk prs q q' C C', W d s e n stk prs q q' C C' → prs.length ≤ d → LVB fM C C'
theorem sts_lv (hW : WLV fM W) (hr : r.length + 1 ≤ d) : ∀ (xs : List Nat) (s e q q' : Nat) (C C' : CV), STSX kd fM W d stk p sg r xs s e q q' C C' → LVB fM C C' := by
  intro xs
  induction xs with
  | nil => exact fun s e q q' C C' h => h.elim
  | cons x xr ih =>
    intro s e q q' C C' h
    cases xr with
    | nil => exact hW _ _ _ _ _ _ _ _ _ _ h.1 (by rw [List.length_cons]; exact hr)
    | cons y yr =>
      obtain ⟨e1, q1, C1, h1, h2, h3, h4⟩ := h
      exact (hW _ _ _ _ _ _ _ _ _ _ h1 (by rw [List.length_cons]; exact hr)).tr (ih _ _ _ _ _ _ h4)
theorem dcl_lv (hW : WLV fM W) (hr : r.length + 1 ≤ d) {out : Int32} {s e sg sg' q q' : Nat} {an : Option Nat} {C C' : CV} (h : DCLX kd fA fM W d stk out p r s e sg sg' q q' an C C') : LVB fM C C' := by
  rcases h with ⟨s1, j, ty, own, ho, _, _, _, _, _, _, _, _, _, h0, h1⟩ | ⟨s1, ty, j, n, xs, e1, b, _, _, _, _, _, _, _, _, _, _, _, _, _, _, _, _, _, _, _, _, _, hC⟩ | ⟨_, _, _, _, _, _, _, _, _, _, hC⟩ | ⟨s1, ty, pn, nf, W0, sb, nb, q1, _, _, _, _, _, hd, hpn, _, _, h30, _, _, _, _, _, _, _, _, _, _, _, _, _, _, _, _, _, hB, _⟩
  · refine LVB.rf ?_
    by_cases c : own = 0
    · rw [(h0 c).2.2, upD_n (by decide)]
    · rw [(h1 (by rcases ho with ho | ho <;> omega)).2.2, upD_n (by decide), upD_n (by decide)]
  · exact LVB.rf (by rw [hC, upC_n (by decide), upD_n (by decide)])
  · exact LVB.rf (by rw [hC, upC_n (by decide), upD_n (by decide)])
  · have g := hW _ _ _ _ _ _ _ _ _ _ hB (by rw [List.length_cons, List.length_cons]; omega)
    intro j a b
    by_cases c : j = C 4
    · refine ⟨r.length + 1, ?_, by omega⟩
      rw [c, ← hpn]; exact h30
    · refine g j ?_ b
      rw [upD_n (by decide), upD_s, upD_n (by decide), upD_n (by decide)]
      omega
theorem dcs_lv (hW : WLV fM W) (hr : r.length + 1 ≤ d) {out : Int32} : ∀ (j s e sg sg' q q' : Nat) (al : List Nat) (C C' : CV), DCSX kd fA fM W d stk out p r j s e sg sg' q q' al C C' → LVB fM C C' := by
  intro j
  induction j with
  | zero =>
    intro s e sg sg' q q' al C C' ⟨_, _, _, _, hC, _⟩
    rw [hC]
    exact LVB.rf rfl
  | succ j ih =>
    intro s e sg sg' q q' al C C' ⟨e1, sg1, q1, C1, an, al1, h1, h2, h3, h4, h5, h6⟩
    exact (dcl_lv hW hr h1).tr (ih _ _ _ _ _ _ _ _ _ h6)
theorem blk_lv (hW : WLV fM W) {s e n q q' : Nat} {prs : PRL} {C C' : CV} (hr : prs.length ≤ d + 1) (h : BLKX kd fA fM W d s e n stk prs q q' C C') : LVB fM C C' := by
  obtain ⟨p, sg, q0, r, hp, b2, b3, b4, b5, b6, b7, b8, b9, b10, jd, s1, sg1, q1, al, C1, xs, e1, c1, c2, c3, c4, hD, hS, _⟩ := h
  rw [hp, List.length_cons] at hr
  exact ((dcs_lv hW hr _ _ _ _ _ _ _ _ _ _ hD).cg (C' := C1) (D' := C1) (D := C) (by rw [upD_n (by decide), upD_n (by decide), upD_n (by decide)]) rfl).tr (sts_lv hW hr _ _ _ _ _ _ _ hS)
theorem ins_lv (hW : WLV fM W) {d s e n q q' : Nat} {stk : List Nat} {prs : PRL} {C C' : CV} (hr : prs.length ≤ d) (h : INS9 fM W d s e n stk prs q q' C C') : LVB fM C C' := by
  obtain ⟨_, _, _, h⟩ := h
  exact (hW _ _ _ _ _ _ _ _ _ _ h hr).cg (by rw [upD_n (by decide)]) rfl
theorem pln_lv (hW : WLV fM W) {s e n q q' : Nat} {prs : PRL} {C C' : CV} (hr : prs.length ≤ d) (h : PLNX kd fA fM W d s e n stk prs q q' C C') : LVB fM C C' := by
  obtain ⟨p, sg, q0, r, hp, h | h | h | h | h | h | h | h⟩ := h
  · obtain ⟨_, _, _, _, x, _, _, _, _, h2⟩ := h
    exact LVB.rf (by rw [h2, upC_n (by decide)])
  · obtain ⟨_, _, _, x, xs, y, e1, _, _, _, _, _, _, _, c7, h2, _⟩ := h
    exact LVB.rf (by rw [h2, upC_n (by decide), upC_n (by decide)])
  · obtain ⟨_, _, _, _, x, e1, cn, _, _, _, _, _, _, h2⟩ := h
    exact LVB.rf (by rw [h2, upC_n (by decide)])
  · obtain ⟨_, _, x, _, _, _, _, h2⟩ := h
    exact LVB.rf (by rw [h2, upC_n (by decide)])
  · obtain ⟨_, _, _, x, y, e1, e2, cn, q1, C1, _, _, _, _, hI, hx⟩ := h
    have hr' : ((p, sg, q) :: r).length ≤ d + 1 := by rw [hp] at hr; rw [List.length_cons] at hr ⊢; omega
    have g := (ins_lv hW hr' hI).cg (D := C) (D' := C1) (upC_n (by decide)).symm rfl
    rcases hx with ⟨_, _, _, _, _, h2⟩ | ⟨_, v, C2, _, hI2, _, h2⟩
    · exact g.cg rfl (by rw [h2, upC_n (by decide)])
    · exact (g.tr (ins_lv hW (by rw [List.length_cons] at hr' ⊢; exact hr') hI2)).cg rfl (by rw [h2, upC_n (by decide)])
  · obtain ⟨_, _, _, x, xs, y, e1, e2, lo, C1, _, _, _, _, _, _, _, hI, _, h2⟩ := h
    exact (ins_lv hW (by rw [hp] at hr; rw [List.length_cons] at hr ⊢; omega) hI).cg (by rw [upC_n (by decide)]) (by rw [h2, upC_n (by decide)])
  · exact blk_lv hW (by omega) h
  · obtain ⟨_, _, _, _, _, h2⟩ := h
    exact LVB.rf (by rw [h2, upC_n (by decide)])
theorem pst_lv : ∀ (k : Nat), WLV fM (PSTX kd fA fM k) := by
  intro k
  induction k with
  | zero => exact fun d s e n stk prs q q' C C' h => h.elim
  | succ k ih =>
    intro d s e n stk prs q q' C C' ⟨⟨j, _, _, _, h4⟩, _⟩ hr
    exact (pln_lv ih hr h4).cg (by rw [upD_n (by decide)]) rfl
theorem inPr_s {x q : Int32} {k : Nat} : inPr fM x (k + 1) q = if q ≤ 0 then false else if q = x then true else inPr fM x k (gi fM 37 q.toNatClampNeg) := rfl
/-- whether it's one of those round it: any fuel that's enough -/
theorem inPr_fu {x : Int32} : ∀ (cur k k' : Nat), CUR fM cur → cur < k → cur < k' → inPr fM x k (Int32.ofNat cur) = inPr fM x k' (Int32.ofNat cur) := by
  intro cur
  induction cur using Nat.strongRecOn with
  | _ cur ih =>
    intro k k' hcu h1 h2
    obtain ⟨k1, rfl⟩ : ∃ k1, k = k1 + 1 := ⟨k - 1, by omega⟩
    obtain ⟨k2, rfl⟩ : ∃ k2, k' = k2 + 1 := ⟨k' - 1, by omega⟩
    have hc := hcu.1
    show (if Int32.ofNat cur ≤ 0 then false else if Int32.ofNat cur = x then true else inPr fM x k1 (gi fM 37 (Int32.ofNat cur).toNatClampNeg)) = (if Int32.ofNat cur ≤ 0 then false else if Int32.ofNat cur = x then true else inPr fM x k2 (gi fM 37 (Int32.ofNat cur).toNatClampNeg))
    by_cases c0 : Int32.ofNat cur ≤ 0
    · rw [if_pos c0, if_pos c0]
    · rw [if_neg c0, if_neg c0]
      by_cases c1 : Int32.ofNat cur = x
      · rw [if_pos c1, if_pos c1]
      · rw [if_neg c1, if_neg c1, tc_iN (by omega)]
        have hpos : 1 ≤ cur := by
          refine Classical.byContradiction fun q => c0 ?_
          rw [show cur = 0 by omega]
          decide
        obtain ⟨j, j1, j2⟩ := hcu.2 cur hpos hc (Nat.le_refl _)
        rw [j2]
        exact ih j j1 k1 k2 ⟨by omega, fun i a b c => hcu.2 i a b (by omega)⟩ (by omega) (by omega)
theorem inPr_up {x : Int32} (hcu : CUR fM pp) (h1 : 1 ≤ pp) (h37 : gi fM 37 pp = Int32.ofNat p) (hp : p < pp) : inPr fM x 9000 (Int32.ofNat pp) = if Int32.ofNat pp = x then true else inPr fM x 9000 (Int32.ofNat p) := by
  have hc := hcu.1
  have hn : ¬ Int32.ofNat pp ≤ 0 := nle_iN (b := 0) (by omega) (by omega)
  rw [show (9000 : Nat) = 8999 + 1 by decide, inPr_s, if_neg hn, tc_iN (by omega), h37, show (8999 + 1 : Nat) = 9000 by decide, inPr_fu p 8999 9000 ⟨by omega, fun i a b c => hcu.2 i a b (by omega)⟩ (by omega) (by omega)]
/-- into a procedure -/
theorem pnr_up (hT : TBM kd wr nm vv m Cf TK SL fA fM) (hcu : CUR fM pp) (h1 : 1 ≤ pp) (h37 : gi fM 37 pp = Int32.ofNat p) (hp : p < pp) (hi0 : i0 < Cf 1) (h24 : gi fM 24 i0 = Int32.ofNat pp) (h29 : gi fM 29 pp = Int32.ofNat i0) (h23 : gi fM 23 i0 = Int32.ofNat p) (h30 : gi fM 30 p = Int32.ofNat lev) (hl : lev ≤ 41) (h : PNR fM fA Cf lev p pn) : PNR fM fA Cf (lev + 1) pp (upN pn (lev + 1) (Int32.ofNat (i0 + 1))) := by
  intro i hi h19
  have hcc := hT.2.2.2.1
  have hc := hcu.1
  obtain ⟨lv, l1, l2, l3⟩ := h i hi h19
  refine ⟨lv, l1, l2, ?_⟩
  have hS := hT.2.2.2.2.2.2 i hi
  obtain ⟨_, _, _, _, _, _, _, ⟨p', l', m1, m2, m3, m4⟩, hK⟩ := hS
  have hpf : ∃ pf, pf < Cf 4 ∧ gi fM 24 i = Int32.ofNat pf ∧ gi fM 29 pf = Int32.ofNat i := by
    rcases hK with g | g | g | g | g | g
    · exact absurd (h19.symm.trans g.1) (by decide)
    · exact absurd (h19.symm.trans g.1) (by decide)
    · obtain ⟨_, _, _, pf, nf, ff, _, g2, g3, g4, _⟩ := g
      exact ⟨pf, g2, g3, g4⟩
    · exact absurd (h19.symm.trans g.1) (by decide)
    · exact absurd (h19.symm.trans g.1) (by decide)
    · exact absurd (h19.symm.trans g.1) (by decide)
  obtain ⟨pf, f1, f2, f3⟩ := hpf
  rw [inPr_up hcu h1 h37 hp]
  by_cases ci : i = i0
  · subst ci
    rw [if_pos h24.symm]
    have e1 : p' = p := (eq_iN (by omega) (by omega)).mp (m1.symm.trans h23)
    rw [e1, h30] at m4
    rw [m3, ← m4] at l1
    have e2 : lev = lv := (eq_iN (by omega) (by omega)).mp l1
    subst e2
    exact ⟨fun _ => rfl, fun _ => ⟨Nat.le_refl _, if_pos rfl⟩⟩
  · rw [if_neg (fun e => by
      rw [f2] at e
      have e3 : pp = pf := (eq_iN (by omega) (by omega)).mp e
      rw [← e3, h29] at f3
      exact ci ((eq_iN (by omega) (by omega)).mp f3).symm), ← l3]
    by_cases cl : lv = lev
    · subst cl
      refine ⟨fun g => ?_, fun g => absurd g.1 (by omega)⟩
      have g2 : (if lv + 1 = lv + 1 then Int32.ofNat (i0 + 1) else pn (lv + 1)) = Int32.ofNat (i + 1) := g.2
      rw [if_pos rfl] at g2
      have := (eq_iN (by omega) (by omega)).mp g2
      omega
    · have e : upN pn (lev + 1) (Int32.ofNat (i0 + 1)) (lv + 1) = pn (lv + 1) := if_neg (by omega)
      rw [e]
      exact ⟨fun g => ⟨by omega, g.2⟩, fun g => ⟨by omega, g.2⟩⟩
/-- outside all procedures -/
theorem pnr_0 (hT : TBM kd wr nm vv m Cf TK SL fA fM) (hl : ∀ j, j < Cf 4 → ∃ l, gi fM 30 j = Int32.ofNat l ∧ l ≤ 41) : PNR fM fA Cf 0 0 pn := by
  intro i hi h19
  obtain ⟨_, _, _, _, _, _, _, ⟨p', l', m1, m2, m3, m4⟩, _⟩ := hT.2.2.2.2.2.2 i hi
  obtain ⟨l, l1, l2⟩ := hl p' m2
  refine ⟨l, by rw [m3, ← m4, l1], by omega, fun g => absurd g.1 (by omega), fun g => ?_⟩
  rw [show (9000 : Nat) = 8999 + 1 by decide, inPr_s, if_pos (by decide)] at g
  exact absurd g (by decide)
end QB1
