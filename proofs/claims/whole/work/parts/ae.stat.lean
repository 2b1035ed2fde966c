/-! BOTH SIDES: a STATEMENT and its LABELS -/
section JT
variable {kd wr nm : Nat → Nat} {vv : Nat → Int64} {m z : Nat} {gA gM : Wd} {lv : Bool} {sl us B : Nat} {stk obl stkF : List Nat} {prs : PRL} {C TK : Nat → Nat} {SL : Nat → List Nat} {t d b : Nat} {fa : Int32} {wA wM : Wd} {γ α : Type} {wd : γ → Wd} {S : γ → α → Wd → Prop} {P : (Nat → Nat) → Nat → Wd → Wd → Prop}
theorem new_sym {i l pr sort kind ty sg q : Nat} {r : PRL} (hJ : JL kd wr nm vv m z gA gM sl us stk prs C TK SL t d wA wM) {s : Nat} (hN : NEW i s l pr sort kind (Int32.ofNat ty) wA wM) (hp : prs = (pr, sg, q) :: r) (hTK : TK i = s) (hs : s < m) (hk : kd s = 2) (hty : ty ≤ 2) (hK : kind = 4 ∧ sort = 4 ∧ ty = 0 ∨ kind = 5 ∧ sort = 5 ∧ ty = 0) : SYM kd m C TK wA wM i := by
  obtain ⟨⟨a1, a2, a3, a4, a5, a6, a7, a8, a9, a10, a11⟩, b1, b2, b3, b4, b5, b6, b7, b8, b9⟩ := hN
  have hN2 := hJ.2.2.2.2.2.2.2.2.2.2.2.2.1
  rw [hp] at hN2
  have hpr := hN2.2.2.2.2.1
  refine ⟨by omega, by rw [hTK]; exact hk, by rw [hTK]; exact a1, by rw [hTK]; exact b3, by rw [hTK]; exact a11, a3.trans b2.symm, ⟨ty, hty, b2⟩, ⟨pr, l, b4, hpr, a4, b9⟩, ?_⟩
  rcases hK with ⟨k1, k2, k3⟩ | ⟨k1, k2, k3⟩
  · refine Or.inr (Or.inr (Or.inr (Or.inl ⟨by rw [b1, k1]; rfl, by rw [a2, k2]; rfl, a5, by rw [b2, k3]; rfl⟩)))
  · refine Or.inr (Or.inr (Or.inr (Or.inr (Or.inl ⟨by rw [b1, k1]; rfl, by rw [a2, k2]; rfl, a5, by rw [b2, k3]; rfl⟩))))
theorem STJ.us1 (h : STJ kd wr nm vv m z gA gM lv sl us stk prs C TK SL t d b fa wA wM) (hs : lv = true → us + 1 ≤ C 1 ∧ SYM kd m C TK wA wM us ∧ gi wM 19 us ≠ 6) : STJ kd wr nm vv m z gA gM lv sl (us + 1) stk prs C TK SL t d b fa wA wM := by
  rcases h with ⟨h1, h2, h3⟩ | h
  · obtain ⟨i1, i2, i3, i4, i5, ⟨b0, b1, b2, b3, b4, b5, b6, b7⟩, i7, i8, i9, i10, i11, i12, i13, i14, i15⟩ := h3
    obtain ⟨s1, s2, s3⟩ := hs h1
    refine Or.inl ⟨h1, h2, i1, i2, i3, i4, i5, ⟨b0, b1, b2, b3, b4, b5, s1, b7⟩, i7, i8, i9, i10, fun i hi => ?_, i12, i13, i14, i15.1, fun i hi g1 g2 => i15.2.1 i (by
      by_cases q : i = us
      · rw [q] at g1; exact absurd g1 s3
      · omega) g1 g2, i15.2.2⟩
    by_cases q : i = us
    · rw [q]; exact s2
    · exact i11 i (by omega)
  · exact Or.inr h
/-- a place of the reference outside of TOKENS and symbols' attributes -/
theorem J.setM (hT : TOKS kd wr nm vv m z gA gM) (hS : STBJ stk prs obl P) (hst : STJ kd wr nm vv m z gA gM lv sl us stk prs C TK SL t d b fa wA wM) (hP : lv = true → P C t wA wM) {k j : Nat} {v : Int32} (hk : lv = true → k = 43 ∧ C 1 ≤ j + 1 ∧ (∀ i, i < C 1 → i ≠ j → True) ∨ k = 44 ∧ j < C 0 ∨ k = 25 ∧ j < C 1 ∧ us ≤ j ∨ k = 11) {rA : Option γ} {KM : Wd → Option (Option α × Wd)}
    (hstep : lv = true → P C t wA (si wM k j v)) (H : STJ kd wr nm vv m z gA gM lv sl us stk prs C TK SL t d b fa wA (si wM k j v) → GLJ kd wr nm z gA gM wd lv stkF fa B rA (KM (si wM k j v)) S) : GLJ kd wr nm z gA gM wd lv stkF fa B rA (lt (si wM k j v) KM) S := by
  rw [ltq]
  cases lv
  · exact ⟨fun _ => (H (hst.dd rfl)).1 rfl, fun h => absurd h (by decide)⟩
  · obtain ⟨hfa, hJ⟩ := hst.jl rfl
    obtain ⟨i1, i2, i3, i4, i5, i6, i7, ⟨r1, r2, r3, r4, r5⟩, i9, ⟨c1, c2, c3, c4, c5, c6, c7⟩, i11, ⟨l, l1, l2, l3, p, sg, q, r, l4, l5⟩, i13, i14, i15⟩ := hJ
    have hk' := hk rfl
    have fM : ∀ k' j', ¬ (k' = k ∧ j' = j) → gi (si wM k j v) k' j' = gi wM k' j' := fun k' j' h => gi_si1 h
    refine H (Or.inl ⟨rfl, hfa, i1, i2.si (by omega) (by omega), i3, OFF.tr (OFF.si (by unfold PMM; omega)) i4, ?_, i6, i7, ?_, by rw [fM 0 29 (by omega)]; exact i9, ?_, ?_, ⟨l, l1, l2, l3, p, sg, q, r, l4, by rw [fM 0 30 (by omega)]; exact l5⟩, ?_, i14, ?_⟩)
    · have e2 : FLM (si wM k j v) = FLM wM := by
        unfold FLM
        rw [fM 0 10 (by omega), fM 0 11 (by omega)]
      rw [e2]; exact i5
    · refine ⟨by rw [fM 0 28 (by omega)]; exact r1, by rw [fM 0 42 (by omega)]; exact r2, r3.agr (Nat.le_refl _) (fun s hs => fM 14 s (by omega)), fun s hs => ?_, r5⟩
      rw [fM 16 s (by omega)]
      exact (r4 s hs).agr (fun i _ => fM 21 i (by omega))
    · rw [fM 0 23 (by omega), fM 0 59 (by omega), fM 0 53 (by omega), fM 0 54 (by omega)]
      exact ⟨c1, c2, c3, c4, c5, c6, c7⟩
    · exact fun i hi => (i11 i hi).agr LEC.rf (fun k hk => rfl) rfl (fun k' hk'' => fM k' _ (by omega)) (fun p _ => fM 30 p (by omega)) (fun p _ _ => ⟨fM 29 p (by omega), fM 31 p (by omega), fM 32 p (by omega)⟩)
    · exact i13.agr LEC.rf (fun l _ => ⟨rfl, rfl⟩) (fun p _ => ⟨fM 35 p (by omega), fM 34 p (by omega), fM 30 p (by omega), fM 37 p (by omega)⟩)
    · exact i15.agr i6.2.2.2.2.2.2.1 rfl rfl (Nat.le_refl _) (fun k' i' hk' => fM k' i' (by omega)) (fun x hx => by rw [fM 0 10 (by omega), fM 0 11 (by omega)]; exact hx)
theorem GLJ.tk {rA : Option γ} {x : Int32} {K : Int32 → Wd → Option (Option α × Wd)} (h : lv = true → fX12_taken wM = fX12_expect x wM) (H : GLJ kd wr nm z gA gM wd lv stkF fa B rA (be (fX12_expect x wM) K) S) : GLJ kd wr nm z gA gM wd lv stkF fa B rA (be (fX12_taken wM) K) S := GLJ.ref (fun hl => by rw [h hl]) H
theorem si_back {f : Wd} {k j : Nat} {a : Int32} : si (si f k j a) k j (gi f k j) = f := by
  refine Prod.ext ?_ rfl
  funext k' j'
  show (if k' = k ∧ j' = j then gi f k j else (if k' = k ∧ j' = j then a else f.1 k' j')) = f.1 k' j'
  by_cases q : k' = k ∧ j' = j
  · rw [if_pos q, q.1, q.2]; rfl
  · rw [if_neg q, if_neg q]
theorem a_kindOf {w : Wd} {u t : Nat} {fa : Int32} {base : Nat} (h : IN1 kd wr z w t base fa) (hu : u < z) : fX9_kindOf (Int32.ofNat u) w = Int32.ofNat (kd u) := by
  have hz9 := h.z9
  unfold fX9_kindOf
  rw [h.1.2.2.2.2.1, if_neg (nle_iN hu (by omega)), ltq, rgi_iN (by omega) (by omega)]
  exact (h.1.2.2.2.2.2.1 u hu).1
theorem a_isLabel {w : Wd} {t : Nat} {fa : Int32} {base : Nat} (h : IN1 kd wr z w t base fa) : fX4_isLabel w = decide (kd t = 2 ∧ kd (t + 1) = 42) := by
  have hk := h.k50
  unfold fX4_isLabel
  rw [ltq, a_kind h.1]
  by_cases q : kd t = 2
  · have ht1 : t + 1 < z := kdlt h.1 (by omega)
    rw [if_pos (show Int32.ofNat (kd t) = 2 by rw [q]; rfl), ltq, a_at h.1, ad1_iN, ltq, a_kindOf h ht1]
    by_cases q2 : kd (t + 1) = 42
    · rw [if_pos (show Int32.ofNat (kd (t + 1)) = 42 by rw [q2]; rfl), decide_eq_true ⟨q, q2⟩]
    · rw [if_neg (show ¬ (Int32.ofNat (kd (t + 1)) = 42) from of_ne (k := 42) (by have := hk (t + 1); omega) (by omega) q2), decide_eq_false (fun h => q2 h.2)]
  · rw [if_neg (show ¬ (Int32.ofNat (kd t) = 2) from of_ne (k := 2) (by have := hk t; omega) (by omega) q), decide_eq_false (fun h => q h.1)]
theorem e_setCell {a : Int32} {w : Wd} : OFF PRE (fX0_setCell a w) w := e_set
/-- facts of LABELS -/
def LBF (kd : Nat → Nat) (s j i0 : Nat) (fM : Wd) : Prop := ∀ i, i < j → kd (s + 2 * i) = 2 ∧ kd (s + 2 * i + 1) = 42 ∧ gi fM 43 (i0 + i) = (if i = 0 then -1 else Int32.ofNat (i0 + i - 1)) ∧ gi fM 19 (i0 + i) = 4 ∧ gi fM 22 (i0 + i) = Int32.ofNat (s + 2 * i)
theorem lab_eq {p : Int32 × Wd} {g : Wd → Option (Int32 × Wd)} {K : Int32 → Wd → Option γ} : bn2 (lt2 p fun x w => lt (fX0_setCell x w) fun w6 => lt (fX9_need 42 w6) g) K = lt2 p fun x w => lt (fX9_need (Int32.ofNat 42) (fX0_setCell x w)) fun w7 => bn2 (g w7) K := rfl
theorem lab_eq2 {w : Wd} {a : Int32} {k : Int32 → Wd → Option (Int32 × Wd)} : (lt (fX5_keep w) fun x8 => lt2 (fX0_put_ 32 x8 w) fun _ w10 => lt (a + 1) fun x11 => k x11 w10) = k (a + 1) (fX0_put_ 32 (fX5_keep w) w).2 := rfl
theorem spc_stat (hT : TOKS kd wr nm vv m z gA gM) {d β : Nat} {rcA : TX4_block} {rm : TX12_block} {W : Wd → Wd → PSTT} (hp : SPC kd wr nm vv m z gA gM (fun w => fX4_statement_61 rcA (Int32.ofNat d) w) (fun w => rm 5 0 0 0 w) true (fun C t => ¬ (kd t = 2 ∧ kd (t + 1) = 42)) d β (fun fA fM s e n stk prs q q' C C' => ∀ v, PLNX kd fA (si fM 44 n v) (W fA (si fM 44 n v)) d s e n stk prs q q' C C')) :
    SPC kd wr nm vv m z gA gM (fun w => fX4_statement rcA (Int32.ofNat d) w) (fun w => fX12_statement rm w) true (fun _ _ => True) d β (fun fA fM s e n stk prs q q' C C' => ∃ j, LBS kd fM n s j (C 1) ∧ DCN fA fM (C 1) j (stk.headD 0) (prs.headD (0, 0, 0)).1 ∧ ¬ (kd (s + 2 * j) = 2 ∧ kd (s + 2 * j + 1) = 42) ∧ PLNX kd fA fM (W fA fM) d (s + 2 * j) e n stk prs q q' (upD C 1 j) C') := by
  intro γ α wd S stkF B lv0 stk obl p sg q r C0 TK0 SL0 s0 b fa0 wA0 wM0 P KA KM hne hS hst0 hP0 hpre0 hb hB H
  obtain ⟨sc, stk, rfl⟩ : ∃ sc stk', stk = sc :: stk' := by
    cases stk with
    | nil => exact absurd rfl (hne rfl)
    | cons a l => exact ⟨a, l, rfl⟩
  -- all that's behind some LABELS
  have hlp : ∀ (n j : Nat) (lv : Bool) (C TK : Nat → Nat) (SL : Nat → List Nat) (t : Nat) (fa : Int32) (wA wM : Wd) (fo fm : Nat), z ≤ t + n → STJ kd wr nm vv m z gA gM lv 0 (C 1) (sc :: stk) ((p, sg, q) :: r) C TK SL t d b fa wA wM → (lv = true → lv0 = true ∧ t = s0 + 2 * j ∧ C = upD C0 1 j ∧ P C t wA wM ∧ PFA (sc :: stk) ((p, sg, q) :: r) obl (C0 0) C t (C0 0) (fun fA fM => LBF kd s0 j (C0 1) fM ∧ DCN fA fM (C0 1) j sc p) C t wA wM) → j ≤ 8192 →
      GLJ kd wr nm z gA gM wd lv stkF fa B (bn2 (oX4_statement_2 rcA (fo + n + 1) (Int32.ofNat d) (Int32.ofNat j) wA) KA) (be (oX12_statement_2 rm (fm + n + 1) (if j = 0 then -1 else Int32.ofNat (C0 1 + j - 1)) wM) KM) S := by
    intro n
    induction n with
    | zero =>
      intro j lv C TK SL t fa wA wM fo fm hz hst
      have := hst.in1.tz
      omega
    | succ n ih =>
      intro j lv C TK SL t fa wA wM fo fm hz hst hl hj
      have hin := hst.in1
      have e1 : oX4_statement_2 rcA (fo + (n + 1) + 1) (Int32.ofNat d) (Int32.ofNat j) wA = fX4_statement_2 rcA (oX4_statement_2 rcA (fo + n + 1)) (Int32.ofNat d) (Int32.ofNat j) wA := rfl
      have e2 : ∀ a, oX12_statement_2 rm (fm + (n + 1) + 1) a wM = fX12_statement_2 rm (oX12_statement_2 rm (fm + n + 1)) a wM := fun a => rfl
      rw [e1, e2]
      unfold fX4_statement_2 fX12_statement_2
      rw [if_neg (show ¬ ((8193 : Int32) ≤ Int32.ofNat j) from nle_iN (a := 8193) (by omega) (by omega)), ltq, a_isLabel hin, be_bn2]
      refine J.kind hst ?_
      by_cases qlab : kd t = 2 ∧ kd (t + 1) = 42
      · obtain ⟨h1, hfa, hJ⟩ := hst.live (by omega)
        subst h1
        obtain ⟨y1, y2, y3, y4, y5⟩ := hl rfl
        have htm := hJ.2.1.lt (show 2 ≤ kd t by omega)
        have ht1 : t + 1 < z := kdlt hin.1 (by omega)
        rw [decide_eq_true qlab, if_pos rfl, if_pos (show Int32.ofNat (kM (kd t)) = 285 by rw [qlab.1]; rfl)]
        have h07 : gi wM 0 7 = Int32.ofNat t := hJ.2.1.2.2.2.1
        have h2t : gi wM 2 (t + 1) = Int32.ofNat (kM (kd (t + 1))) := (hJ.2.1.1.2.2.2.2 (t + 1) (by omega)).1
        have hm9 := hJ.2.1.1.1
        rw [h07, ad1_iN t, if_pos (inb_iN (by omega) (by omega)), tc_iN (by omega), h2t, if_pos (show Int32.ofNat (kM (kd (t + 1))) = 58 by rw [qlab.2]; rfl), be_be]
        have hd40 : d ≤ 40 := by
          rcases (hpre0 y1).2.2.1 with h | h
          · exact h
          · by_cases q0 : j = 0
            · rw [y2, q0] at qlab
              have := qlab.1
              rw [show s0 + 2 * 0 = s0 by omega] at this
              omega
            · have := (y5.2.2.now.1 0 (by omega)).1
              rw [show s0 + 2 * 0 = s0 by omega] at this
              omega
        have h29 := hJ.2.2.2.2.2.2.2.2.1
        simp only [be_be, be_bn2]
        let Φ : Wd → Wd → Prop := fun fA fM => gi fM 19 (C 1) = 4 ∧ gi fM 22 (C 1) = Int32.ofNat t ∧ DC1 fA fM (C 1) sc p
        have hPF : STBJ (sc :: stk) ((p, sg, q) :: r) obl (PF C t (sc :: stk) ((p, sg, q) :: r) obl wA wM) := PF.stb (fun _ h _ => h) (fun y hy _ => ⟨y, hy, rfl⟩) (fun _ h _ => h)
        rw [lab_eq]
        refine J.declare (P := PF C t (sc :: stk) ((p, sg, q) :: r) obl wA wM) (type := 0) (sort := 4) (kind := 4) (SC := fun _ => gi wM 0 29) (KA := fun x w => lt (fX9_need (Int32.ofNat 42) (fX0_setCell x w)) fun w7 => bn2 (lt (fX5_keep w7) fun x8 => lt2 (fX0_put_ 32 x8 w7) fun x9 w10 => lt (Int32.ofNat j + 1) fun x11 => oX4_statement_2 rcA (fo + n + 1) (Int32.ofNat d) x11 w10) KA) hT hPF hst (fun _ => STEP.rf) hb (by omega) (by omega) (by omega) (fun _ => ⟨fun _ => m_taken hJ.2.1 hd40 (by omega), fun h => absurd qlab.1 h⟩) (fun _ => h29) (fun lv1 t1 fa1 x uA uM TK1 SL1 hst1 hl1 hd1 => ?_)
        -- the new symbol is as it stays
        have hst1b := hst1.us1 (fun hlv => by
          obtain ⟨z1, z2, z3, z4, z5, z6, z7, z8, l9, pr9, sg9, q9, r9, z9, z10, z11, z12, z13⟩ := hl1 hlv
          refine ⟨by rw [dcC_1]; exact Nat.le_refl _, new_sym (ty := 0) (hst1.jl hlv).2 z11 z9 (by rw [z6]; exact if_pos rfl) (by omega) z2 (by omega) (Or.inl ⟨rfl, rfl, rfl⟩), by rw [z11.2.1]; decide⟩)
        -- the colon
        have hst2 := hst1b.pre hT (e_setCell (a := x) (w := uA))
        have hS2 : STBJ (sc :: stk) ((p, sg, q) :: r) obl (fun C' t' a b => PF C t (sc :: stk) ((p, sg, q) :: r) obl wA wM C' t' a b ∧ PFA (sc :: stk) ((p, sg, q) :: r) obl (C0 0) (dcC C 4) t1 (C0 0) Φ C' t' a b) := STBJ.and hPF PFA.stb
        refine GLJ.tk (x := 58) (fun hlv => ?_) (J.need (P := fun C' t' a b => PF C t (sc :: stk) ((p, sg, q) :: r) obl wA wM C' t' a b ∧ PFA (sc :: stk) ((p, sg, q) :: r) obl (C0 0) (dcC C 4) t1 (C0 0) Φ C' t' a b) hT hS2 hst2 (fun hlv => ?_) (c := 42) (by omega) (fun _ => hd40) hb (by omega) rfl (fun lv2 t2 fa2 vA vM hst3 hl3 hd3 => ?_))
        · obtain ⟨z1, z2, z3, z4⟩ := hl1 hlv
          have hJ1 := (hst1.jl hlv).2
          have hk1 : kd t1 = 42 := by rw [z3]; exact qlab.2
          rw [m_taken hJ1.2.1 hd40 (by omega), m_expect (x := 58) hJ1.2.1 hd40 (k := 42) rfl (by omega) hk1]
        · obtain ⟨z1, z2, z3, z4, z5, z6, z7, z8, l9, pr9, sg9, q9, r9, z9, z10, z11, z12, z13⟩ := hl1 hlv
          refine hS2 _ _ _ _ _ _ _ _ ⟨z8, LEC.rf, Nat.le_refl _, fun fA fM hA hM hE => ?_⟩ (STEP.pre e_setCell)
          have g : ∀ k, 18 ≤ k ∧ k ≤ 28 → gi fM k (C 1) = gi uM k (C 1) := fun k hk => (hM k (C 1) (Or.inr (Or.inr (Or.inr (Or.inr (Or.inl ⟨hk.1, hk.2, by rw [dcC_1]; omega⟩)))))).1
          obtain ⟨e91, e92⟩ := List.cons.inj z9
          obtain ⟨e93, _⟩ := Prod.mk.inj e91
          rw [← e93] at z11
          exact ⟨by rw [g 19 (by omega)]; exact z11.2.1, by rw [g 22 (by omega)]; exact z11.2.2.2.1, (DC1.nw z11.2.2.2.2.1 z7).ext (g 23 (by omega)) (hA 29 (C 1 + 1) (Or.inr (Or.inr (Or.inr (Or.inl ⟨by omega, by omega, by rw [dcC_1]; omega⟩))))) hE⟩
        · -- on to the next
          rw [lab_eq2, ad1_iN j]
          have hst4 := hst3.pre hT (e_put_ (a := 32) (b := fX5_keep vA) (w := vA))
          cases lv2
          · -- the class alone
            refine GLJ.ref (rM' := be (oX12_statement_2 rm (fm + n + 1) (if j + 1 = 0 then -1 else Int32.ofNat (C0 1 + (j + 1) - 1)) vM) KM) (fun h => absurd h (by decide)) ?_
            exact ih (j + 1) false C TK SL t2 fa2 _ vM fo fm (by have := hd3 rfl; have := hin.tz; omega) (hst4.dd rfl) (fun h => absurd h (by decide)) (by have := hin.z9; have := hJ.2.1.1.1; omega)
          · obtain ⟨x1, x2, x3, x4, x5⟩ := hl3 rfl
            obtain ⟨z1, z2, z3, z4, z5, z6, z7, z8, l9, pr9, sg9, q9, r9, z9, z10, z11, z12, z13⟩ := hl1 x1
            have hC1 : dcC C 4 = upD C0 1 (j + 1) := by
              funext i
              rw [y3]
              unfold dcC upD
              by_cases q1 : i = 1
              · rw [q1, upC_n (by omega), upC_s, upC_s, upC_s]; omega
              · by_cases q6 : i = 6
                · rw [q6, upC_s, upC_n (by omega), upC_n (by omega)]; rfl
                · rw [upC_n q6, upC_n q1, upC_n q1, upC_n q1]
            have hi0 : C 1 = C0 1 + j := by rw [y3]; exact upC_s
            have hC15 : C 1 < 5000 := by have := hJ.2.2.2.2.2.1; have := hT.1 t; omega
            have hstp : STEP C t (sc :: stk) ((p, sg, q) :: r) obl wA wM (dcC C 4) t2 (fX0_put_ 32 (fX5_keep vA) vA).2 vM := STEP.tr x5.1 (STEP.pre e_put_)
            have hphi : FACT (sc :: stk) ((p, sg, q) :: r) obl (C0 0) (dcC C 4) t1 (C0 0) Φ (fX0_put_ 32 (fX5_keep vA) vA).2 vM := x5.2.2.2.step LEC.rf (by omega) (STEP.pre (t := t2) e_put_)
            show GLJ kd wr nm z gA gM wd true stkF fa2 B _ (be (if inb (Int32.ofNat (C 1)) 5000 = true then _ else none) KM) S
            rw [if_pos (inb_iN hC15 (by omega)), tc_iN (by omega)]
            have hset : ∀ v, OFF (fun k j => k = 43 ∧ j = C 1) (si vM 43 (C 1) v) vM := fun v => OFF.si ⟨rfl, rfl⟩
            have hstp2 : ∀ v, STEP C t (sc :: stk) ((p, sg, q) :: r) obl wA wM (dcC C 4) t2 (fX0_put_ 32 (fX5_keep vA) vA).2 (si vM 43 (C 1) v) := fun v => by
              obtain ⟨s1, s2, s3, s4, s5⟩ := hstp
              refine ⟨s1, s2, s3, fun k j' hk => ?_, s5.tr (EXF.off (hset v) (fun k j hk => by omega))⟩
              have h1 := s4 k j' hk
              have h2 := hset v k j' (by rcases hk with q | q | q | q | q | q | q | q | q <;> omega)
              exact ⟨h2.1.trans h1.1, h2.2.trans h1.2⟩
            refine J.setM (P := fun _ _ _ _ => True) (obl := obl) hT (fun _ _ _ _ _ _ _ _ _ _ => trivial) hst4 (fun _ => trivial) (k := 43) (j := C 1) (KM := fun w15 => be (oX12_statement_2 rm (fm + n + 1) (Int32.ofNat (C 1)) w15) KM) (fun _ => Or.inl ⟨rfl, by rw [dcC_1]; omega, fun _ _ _ => trivial⟩) (fun _ => trivial) (fun hst5 => ?_)
            have hne0 : (if j + 1 = 0 then (-1 : Int32) else Int32.ofNat (C0 1 + (j + 1) - 1)) = Int32.ofNat (C 1) := by
              have h9 : C0 1 + (j + 1) - 1 = C 1 := by omega
              rw [if_neg (by omega), h9]
            rw [← hne0]
            have hst6 : STJ kd wr nm vv m z gA gM true 0 ((dcC C 4) 1) (sc :: stk) ((p, sg, q) :: r) (dcC C 4) TK1 SL1 t2 d b fa2 (fX0_put_ 32 (fX5_keep vA) vA).2 (si vM 43 (C 1) (if j = 0 then -1 else Int32.ofNat (C0 1 + j - 1))) := by
              rw [dcC_1]; exact hst5
            refine ih (j + 1) true (dcC C 4) TK1 SL1 t2 fa2 _ _ fo fm (by omega) hst6 (fun _ => ⟨y1, by omega, hC1, hS _ _ _ _ _ _ _ _ y4 (hstp2 _), LEC.rf, Nat.le_refl _, fun fA fM hA hM hE => ⟨fun i hi => ?_, fun i hi => ?_⟩⟩) (by have := hJ.2.1.1.1; omega)
            · by_cases qi : i = j
              · rw [qi, ← hi0]
                have g43 : gi fM 43 (C 1) = (if j = 0 then -1 else Int32.ofNat (C0 1 + j - 1)) := by
                  rw [(hM 43 (C 1) (Or.inr (Or.inr (Or.inr (Or.inr (Or.inr (Or.inr (Or.inr (Or.inr ⟨rfl, by rw [dcC_1]; omega⟩))))))))).1]
                  exact gi_si0 _ _ _ _
                have g18 : ∀ k, 18 ≤ k ∧ k ≤ 28 → gi fM k (C 1) = gi vM k (C 1) := fun k hk => by
                  rw [(hM k (C 1) (Or.inr (Or.inr (Or.inr (Or.inr (Or.inl ⟨hk.1, hk.2, by rw [dcC_1]; omega⟩)))))).1]
                  exact gi_si1 (by omega)
                have hnow := hphi.now
                refine ⟨by rw [← y2]; exact qlab.1, by rw [← y2]; exact qlab.2, ?_, by rw [g18 19 (by omega)]; exact hnow.1, by rw [g18 22 (by omega), ← y2]; exact hnow.2.1⟩
                rw [g43, hi0]
              · have hold := (y5.2.2.step LEC.rf (Nat.le_refl _) (hstp2 (if j = 0 then -1 else Int32.ofNat (C0 1 + j - 1)))).wk (Cf' := dcC C 4) (tf' := t2) (lo' := C0 0) (stk' := sc :: stk) (prs' := (p, sg, q) :: r) (obl' := obl) (pd' := C0 0) (Nat.le_refl _) dcC_le (by omega) (Or.inl rfl) (fun _ h _ => h) (fun y hy _ => ⟨y, hy, rfl⟩) (fun _ h _ => h)
                exact (hold fA fM hA hM hE).1 i (by omega)
            · by_cases qi : i = j
              · rw [qi, ← hi0]
                have g23 : gi fM 23 (C 1) = gi vM 23 (C 1) := by
                  rw [(hM 23 (C 1) (Or.inr (Or.inr (Or.inr (Or.inr (Or.inl ⟨by omega, by omega, by rw [dcC_1]; omega⟩)))))).1]
                  exact gi_si1 (by omega)
                exact hphi.now.2.2.ext g23 (hA 29 (C 1 + 1) (Or.inr (Or.inr (Or.inr (Or.inl ⟨by omega, by omega, by rw [dcC_1]; omega⟩))))) (EXF.tr (EXF.off (hset _) (fun k j hk => by omega)) hE)
              · have hold := (y5.2.2.step LEC.rf (Nat.le_refl _) (hstp2 (if j = 0 then -1 else Int32.ofNat (C0 1 + j - 1)))).wk (Cf' := dcC C 4) (tf' := t2) (lo' := C0 0) (stk' := sc :: stk) (prs' := (p, sg, q) :: r) (obl' := obl) (pd' := C0 0) (Nat.le_refl _) dcC_le (by omega) (Or.inl rfl) (fun _ h _ => h) (fun y hy _ => ⟨y, hy, rfl⟩) (fun _ h _ => h)
                exact (hold fA fM hA hM hE).2 i (by omega)
      · -- no LABEL more
        rw [decide_eq_false qlab, if_neg (by decide)]
        refine GLJ.ref (rM' := be (fX12_statement_60 rm (if j = 0 then -1 else Int32.ofNat (C0 1 + j - 1)) wM) KM) (fun hlv => ?_) ?_
        · have hJ := (hst.jl hlv).2
          have hk50 := hin.k50
          by_cases q2 : kd t = 2
          · have htm := hJ.2.1.lt (show 2 ≤ kd t by omega)
            have hm9 := hJ.2.1.1.1
            have h07 : gi wM 0 7 = Int32.ofNat t := hJ.2.1.2.2.2.1
            have h2t : gi wM 2 (t + 1) = Int32.ofNat (kM (kd (t + 1))) := (hJ.2.1.1.2.2.2.2 (t + 1) (by omega)).1
            rw [if_pos (show Int32.ofNat (kM (kd t)) = 285 by rw [q2]; rfl), h07, ad1_iN t, if_pos (inb_iN (by omega) (by omega)), tc_iN (by omega), h2t, if_neg (fun e => qlab ⟨q2, (kq hk50 (x := 58) (k := 42) rfl (by omega)).mp e⟩)]
          · rw [if_neg (fun e => q2 ((kq hk50 (x := 285) (k := 2) rfl (by omega)).mp e))]
        · unfold fX12_statement_60
          rw [be_be]
          have hPF : STBJ (sc :: stk) ((p, sg, q) :: r) obl (PF C t (sc :: stk) ((p, sg, q) :: r) obl wA wM) := PF.stb (fun _ h _ => h) (fun y hy _ => ⟨y, hy, rfl⟩) (fun _ h _ => h)
          refine hp γ α wd S stkF B lv (sc :: stk) obl p sg q r C TK SL t b fa wA wM (PF C t (sc :: stk) ((p, sg, q) :: r) obl wA wM) KA _ (fun _ => by simp) hPF hst (fun _ => STEP.rf) (fun hlv => ?_) hb hB (fun lv1 x t1 fa1 uA uM n1 C1 TK1 SL1 q1 hst1 hl1 hd1 => ?_)
          · obtain ⟨y1, y2, y3, y4, y5⟩ := hl hlv
            have := hpre0 y1
            refine ⟨qlab, ?_, ?_, this.2.2.2.le (fun i => by
              rw [y3]
              unfold upD upC
              by_cases q1 : i = 1
              · rw [if_pos q1, q1]; omega
              · rw [if_neg q1]; exact Nat.le_refl _)⟩
            · rw [y3]
              unfold upD
              rw [upC_n (by omega)]
              omega
            · rcases this.2.2.1 with h | h
              · exact Or.inl h
              · by_cases q0 : j = 0
                · rw [y2, q0]; exact Or.inr h
                · have := (y5.2.2.now.1 0 (by omega)).1
                  rw [show s0 + 2 * 0 = s0 by omega] at this
                  omega
          · cases lv1
            · exact ⟨fun _ => (H false x t1 fa1 uA uM n1 C1 TK1 SL1 q1 hst1 (fun h => absurd h (by decide)) hd1).1 rfl, fun h => absurd h (by decide)⟩
            · obtain ⟨v1, v2, v3, v4, v5, v6, v7, v8, v9, v10, v11⟩ := hl1 rfl
              obtain ⟨y1, y2, y3, y4, y5⟩ := hl v1
              have hJ1 := (hst1.jl rfl).2
              have hn24 : n1 < 24000 := by have := hJ1.2.2.2.2.2.1; have := hJ1.2.1.1.1; omega
              show GLJ kd wr nm z gA gM wd true stkF fa1 B _ (be (if inb (Int32.ofNat n1) 24000 = true then _ else none) KM) S
              rw [if_pos (inb_iN hn24 (by omega)), tc_iN (by omega)]
              refine J.setM (P := fun _ _ _ _ => True) (obl := obl) hT (fun _ _ _ _ _ _ _ _ _ _ => trivial) hst1 (fun _ => trivial) (k := 44) (j := n1) (KM := fun w5 => KM (Int32.ofNat n1) w5) (fun _ => Or.inr (Or.inl ⟨rfl, v9⟩)) (fun _ => trivial) (fun hst5 => ?_)
              have hset : ∀ v, OFF (fun k j => k = 44 ∧ j = n1) (si uM 44 n1 v) uM := fun v => OFF.si ⟨rfl, rfl⟩
              have hstp2 : ∀ v, STEP C t (sc :: stk) ((p, sg, q) :: r) obl wA wM C1 t1 uA (si uM 44 n1 v) := fun v => by
                obtain ⟨s1, s2, s3, s4, s5⟩ := v7
                refine ⟨s1, s2, s3, fun k j' hk => ?_, s5.tr (EXF.off (hset v) (fun k j hk => by omega))⟩
                have h1 := s4 k j' hk
                have h2 := hset v k j' (by rcases hk with q | q | q | q | q | q | q | q | q <;> omega)
                exact ⟨h2.1.trans h1.1, h2.2.trans h1.2⟩
              have hC01 : C 1 = C0 1 + j := by rw [y3]; exact upC_s
              have hCn : ∀ i, i ≠ 1 → C i = C0 i := fun i hi => by rw [y3]; exact upC_n hi
              have hC0 : LEC C0 C := fun i => by
                by_cases q1 : i = 1
                · rw [q1, hC01]; omega
                · rw [hCn i q1]; exact Nat.le_refl _
              refine H true x t1 fa1 uA _ n1 C1 TK1 SL1 q1 hst5 (fun _ => ⟨y1, by omega, v3, hC0.tr v4, ?_, ?_, hS _ _ _ _ _ _ _ _ y4 (hstp2 _), ?_, v9, ?_, ?_⟩) (fun h => absurd h (by decide))
              · rw [hCn 0 (by omega)] at v5; omega
              · rw [hCn 4 (by omega), hCn 6 (by omega)] at v6; exact v6
              · rw [gi_si1 (by omega)]; exact v8
              · rw [hCn 0 (by omega)] at v10; exact v10
              · intro fA fM hA hM hE
                refine ⟨j, ⟨?_, ?_⟩, ?_, by rw [← y2]; exact qlab, ?_⟩
                · rw [(hM 44 n1 (Or.inl ⟨by omega, by rw [hCn 0 (by omega)] at v10; exact v10, v9⟩)).1]
                  exact gi_si0 _ _ _ _
                · have hold := (y5.2.2.step LEC.rf (Nat.le_refl _) (hstp2 (if j = 0 then -1 else Int32.ofNat (C0 1 + j - 1)))).wk (Cf' := C1) (tf' := t1) (lo' := C0 0) (stk' := sc :: stk) (prs' := (p, sg, q1) :: r) (obl' := obl) (pd' := n1) (Nat.le_refl _) v4 (by omega) (Or.inr (Or.inl v10)) (fun _ h _ => h) (fun y hy _ => pr_same y hy) (fun _ h _ => h)
                  exact (hold fA fM hA hM hE).1
                · have hold := (y5.2.2.step LEC.rf (Nat.le_refl _) (hstp2 (if j = 0 then -1 else Int32.ofNat (C0 1 + j - 1)))).wk (Cf' := C1) (tf' := t1) (lo' := C0 0) (stk' := sc :: stk) (prs' := (p, sg, q1) :: r) (obl' := obl) (pd' := n1) (Nat.le_refl _) v4 (by omega) (Or.inr (Or.inl v10)) (fun _ h _ => h) (fun y hy _ => pr_same y hy) (fun _ h _ => h)
                  exact (hold fA fM hA hM hE).2
                · have hf0 : EXTL (C 0) C1 (sc :: stk) ((p, sg, q1) :: r) obl n1 uM (si fM 44 n1 (gi uM 44 n1)) := by
                    intro k j' hk
                    by_cases qk : k = 44 ∧ j' = n1
                    · rw [qk.1, qk.2, gi_si0]
                      refine ⟨rfl, ?_⟩
                      have := (hM 44 n1 (Or.inl ⟨by omega, by rw [hCn 0 (by omega)] at v10; exact v10, v9⟩)).2
                      exact this
                    · rw [gi_si1 qk]
                      have h1 := hM k j' (by
                        rw [hCn 0 (by omega)] at hk
                        exact hk)
                      rw [gi_si1 qk] at h1
                      exact ⟨h1.1, h1.2⟩
                  have h9 := v11 fA _ hA hf0 (EXF.tr (EXF.off (hset _) (fun k j hk => by omega)) (EXF.tr hE (EXF.off (OFF.si (P := fun k j => k = 44 ∧ j = n1) ⟨rfl, rfl⟩) (fun k j hk => by omega)))) (gi fM 44 n1)
                  rw [si_back] at h9
                  rw [← y2, ← y3]
                  exact h9
  -- from the first TOKEN on
  obtain ⟨N, hN⟩ : ∃ N, N = 9000 := ⟨_, rfl⟩
  obtain ⟨f, hf⟩ := FU_ge (k := N + 1) (by omega)
  have hz9 := hst0.in1.z9
  have hup : upD C0 1 0 = C0 := by
    unfold upD
    exact upC_id
  have h := hlp N 0 lv0 C0 TK0 SL0 s0 fa0 wA0 wM0 f f (by omega) hst0 (fun hl => ⟨hl, rfl, hup.symm, hP0 hl, LEC.rf, Nat.le_refl _, fun fA fM _ _ _ => ⟨fun i hi => absurd hi (by omega), fun i hi => absurd hi (by omega)⟩⟩) (by omega)
  rw [if_pos rfl, Nat.add_assoc, ← hf] at h
  exact h
end JT
