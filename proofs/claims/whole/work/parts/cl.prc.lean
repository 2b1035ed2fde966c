/-! BOTH SIDES: PRC -/
section JT
variable {kd wr nm : Nat → Nat} {vv : Nat → Int64} {m z : Nat} {gA gM : Wd} {lv : Bool} {sl us B : Nat} {stk obl stkF : List Nat} {prs : PRL} {C TK : Nat → Nat} {SL : Nat → List Nat} {t d b : Nat} {fa : Int32} {wA wM : Wd} {γ α : Type} {wd : γ → Wd} {S : γ → α → Wd → Prop} {P : (Nat → Nat) → Nat → Wd → Wd → Prop}
theorem prc_of (hT : TOKS kd wr nm vv m z gA gM) (hz2 : 2 ≤ z) {β : Nat} {rc rc1 : TX4_block} {rm : TX12_block} {W : Wd → Wd → PSTT} (hd40' : d ≤ 40) (hrc : ∀ w, rc 4 (Int32.ofNat (d + 1)) 0 0 w = fX4_scoped rc1 (Int32.ofNat (d + 1)) w) (hSP : SPC kd wr nm vv m z gA gM (fun w => rc1 5 (Int32.ofNat (d + 1)) 0 0 w) (fun w => rm 4 0 0 0 w) true (fun _ _ => True) (d + 1) β (fun fA fM => W fA fM (d + 1))) : PRC kd wr nm vv m z gA gM (fun x w => fX4_procedure rc (Int32.ofNat d) x w) (fun x w => fX12_procedure rm x w) d (β + 2) W := by
  intro γ α wd S stkF B s stk obl p sg q ty t0 r C TK SL t b fa wA0 wM0 wA wM KA KM hst hk hd hpr hc0 hob hstep hb hbb H
  show GLJ kd wr nm z gA gM wd true stkF fa B (bn2 (fX4_procedure rc (Int32.ofNat d) (Int32.ofNat ty) wA) fun _ w => KA w) (be (fX12_procedure rm (Int32.ofNat ty) wM) fun _ w => KM w) S
  have hJ := (hst.jl rfl).2
  have htm := hJ.2.1.lt (by omega)
  obtain ⟨b0, b1, b2, b3, b4, b5, b6, b7⟩ := hJ.2.2.2.2.2.1
  have hw9 : wr t + 9 ≤ wr (t + 1) := by
    have := hT.2.2.2.2.2.2.1 t htm
    unfold wlN at this
    rw [hk, if_neg (by omega), if_pos rfl] at this
    exact this
  have hty : ty ≤ 2 := by omega
  obtain ⟨N, hN⟩ : ∃ N, N = FU := ⟨_, rfl⟩
  rw [a_proc, m_proc]
  refine J.opn (KM := fun _ w4 => be (fX12_expect 285 w4) fun x5 w6 => bn2 (fX12_declare (gi w4 0 29) x5 3 (Int32.ofNat ty) w6) fun x8 w9 => be (prM rm x8 w9) fun _ w => KM w) (P := PF C t0 (s :: stk) ((p, sg, q) :: r) obl wA0 wM0) hT PF.st0 hst (fun _ => hstep) (by omega) (by omega) hd hb (by omega) (m_taken hJ.2.1 hd (by omega)) (fun uM h => ⟨si uM 0 9 (Int32.ofNat (wr (t + 1))), by rw [m_expect_no (x := 285) (k := 2) h rfl (by omega) (Or.inl rfl) (by omega), be_no], gi_si0 _ _ _ _, OFF.si (by unfold PMM; omega)⟩) (fun lv1 t1 fa1 uA uM hst1 hl1 hd1 => ?_)
  refine J.declare (sort := 3) (kind := 3) (type := Int32.ofNat ty) (SC := fun _ => gi uM 0 29) (P := fun C' t' a c => lv1 = true → PF C t0 (s :: stk) ((p, sg, q) :: r) obl wA0 wM0 C' t' a c) (KM := fun _ x8 w9 => be (prM rm x8 w9) fun _ w => KM w) hT (STBJ.if fun _ => PF.st0) hst1 (fun h _ => (hl1 h).2.2.2.2) hb (by omega) (by omega) (by omega) (fun h => ⟨fun hk => m_expect (x := 285) (k := 2) (hst1.jl h).2.2.1 (hl1 h).2.1 rfl (by omega) hk, fun hk => m_expect_no (x := 285) (k := 2) (hst1.jl h).2.2.1 rfl (by omega) (Or.inr hk) (by omega)⟩) (fun h => (hst1.jl h).2.2.2.2.2.2.2.2.2.1) (fun lv2 t2 fa2 x vA vM TK2 SL2 hst2 hl2 hd2 => ?_)
  have h34 : dcC C 3 4 = C 4 := dcC_n (by omega) (by omega)
  have h32 : dcC C 3 2 = C 2 := dcC_n (by omega) (by omega)
  have h31 : dcC C 3 1 = C 1 + 1 := dcC_1
  have h36 : dcC C 3 6 = C 6 + 1 := dcC_6
  have h3n : ∀ i, i ≠ 1 → i ≠ 6 → dcC C 3 i = C i := fun i h1 h6 => dcC_n h1 h6
  -- live: where it is
  have hLV : lv2 = true → d + 1 ≤ 40 ∧ t1 = t + 1 ∧ t2 = t + 2 ∧ t2 ≤ m ∧ kd t1 = 2 ∧ x = Int32.ofNat (C 1 + 1) ∧ TK2 (C 1) = t1 ∧ PF C t0 (s :: stk) ((p, sg, q) :: r) obl wA0 wM0 (dcC C 3) t2 vA vM ∧ NEW (C 1) t1 r.length p 3 3 (Int32.ofNat ty) vA vM ∧ DC1 vA vM (C 1) s p := fun h => by
    obtain ⟨w1, w2, w3, w4, w5, w6, w7, w8, l, pr, sg', q', r', e1, e2, hN', e4, e5⟩ := hl2 h
    obtain ⟨g1, g2, g3, g4, g5⟩ := hl1 w1
    obtain ⟨e6, e7⟩ := List.cons.inj e1
    obtain ⟨e8, e9⟩ := Prod.mk.inj e6
    rw [← e8] at hN'
    rw [← e7] at e2
    rw [e2] at hN'
    exact ⟨g2, g3, by omega, by omega, w2, w5, by rw [w6]; exact if_pos rfl, w8 w1, hN', DC1.nw hN'.2.2.2.2.1 w7⟩
  unfold prA
  -- the reference's new procedure
  have hPR : ∃ nM, lv2 = true → (be (prM rm (Int32.ofNat (C 1)) vM) fun _ w => KM w) = (bn2 (fX12_newScope (gi nM 0 29) (-1) nM) fun x31 w32 => lt (si w32 0 29 x31) (pfM rm N (Int32.ofNat p) (hdM (s :: stk)) fun _ w => KM w)) ∧ OFF (fun k j => (k = 0 ∧ (j = 30 ∨ j = 53)) ∨ (k = 24 ∧ j = C 1) ∨ ((29 ≤ k ∧ k ≤ 32 ∨ k = 34 ∨ k = 35 ∨ k = 37) ∧ j = C 4)) nM vM ∧ gi nM 0 30 = Int32.ofNat (C 4) ∧ gi nM 0 53 = Int32.ofNat (C 4 + 1) ∧ gi nM 24 (C 1) = Int32.ofNat (C 4) ∧ gi nM 29 (C 4) = Int32.ofNat (C 1) ∧ gi nM 37 (C 4) = Int32.ofNat p ∧ gi nM 30 (C 4) = Int32.ofNat (r.length + 1) ∧ gi nM 34 (C 4) = 0 ∧ gi nM 35 (C 4) = 1 ∧ gi nM 31 (C 4) = 0 ∧ gi nM 32 (C 4) = Int32.ofNat (C 1 + 1) := by
    cases lv2
    · exact ⟨vM, fun h => absurd h (by decide)⟩
    · have hJ2 := (hst2.jl rfl).2
      have htq := hJ2.topq
      have hlev := hJ2.lev
      obtain ⟨l1, l2, l3, l4, l5, l6, l7, l8, l9, l10⟩ := hLV rfl
      have hw2 := hT.1 t2
      have hcc := hJ2.2.2.2.2.2.1
      obtain ⟨u, hu, hr⟩ := pr_ok (rc := rm) (K := fun _ w => KM w) (i := C 1) (p := p) (pn := C 4) (e := C 1 + 1) (lp := r.length) (w := vM) hN (by omega) htq.2.1 (by omega) (by rw [hJ2.2.2.2.2.2.2.2.2.2.1.2.2.1, h34]) (by omega) hlev.1 (by omega) (by rw [hJ2.2.2.2.2.2.2.2.1.2.1, h31])
      refine ⟨u, fun _ => ⟨?_, hr⟩⟩
      rw [hu, hJ2.2.2.2.2.2.2.2.2.1]
  obtain ⟨nM, hnM⟩ := hPR
  refine GLJ.ref (rM' := bn2 (fX12_newScope (gi nM 0 29) (-1) nM) fun x31 w32 => lt (si w32 0 29 x31) (pfM rm N (Int32.ofNat p) (hdM (s :: stk)) fun _ w => KM w)) (fun h => (hnM h).1) ?_
  have hxN : lv2 = true → EXF vM nM := fun h => by
    obtain ⟨m0, m1, m2, m3, m4, m5, m6, m7, m8, m9, m10, m11⟩ := hnM h
    have h53 := ((h ▸ hst2).jl rfl).2.sl35 hT
    rw [h34] at h53
    exact EXF.newp m1 (fun k j hk => by omega) h53.2.2.1 m3 (by omega)
  have hOp : OFF PRE (fX0_put__ 33 vA).2 vA := e_put__
  generalize (fX0_put__ 33 vA).1 = y
  generalize (fX0_put__ 33 vA).2 = pA at hOp ⊢
  have hst2' := hst2.pre hT hOp
  have hst3 : STJ kd wr nm vv m z gA gM lv2 1 (C 1) (s :: stk) ((C 4, 6, 1) :: (p, sg, q) :: r) (upC (dcC C 3) 4 (C 4 + 1)) TK2 SL2 t2 (d + 1) b fa2 (fX5_enter x pA) nM := by
    have := hst2'.newp (uA := fX5_enter x pA) (uM := nM) (fun _ => e_enter5) (fun h => by
      obtain ⟨l1, l2, l3, l4, l5, l6, l7, l8, l9, l10⟩ := hLV h
      obtain ⟨m0, m1, m2, m3, m4, m5, m6, m7, m8, m9, m10, m11⟩ := hnM h
      have htop := (hst2'.jl h).2.top
      have hrl := hob.1
      obtain ⟨n1, n2, n3, n4⟩ := ent5_ok (x := x) htop.1 (by omega)
      have hwm : wr (t + 1) ≤ wr t2 := hT.mono (by omega) (by omega)
      rw [h34]
      exact ⟨by omega, by omega, n1.mono fun k j hk => by omega, m1.mono fun k j hk => by omega, n2, n3, n4, m2, m3, m7, m8, m9, m6, m10⟩)
    rw [h34] at this
    exact this
  refine J.enter (P := fun C' t' a c => lv2 = true → PF C t0 (s :: stk) ((p, sg, q) :: r) obl wA0 wM0 C' t' a c) (KM := fun _ => pfM rm N (Int32.ofNat p) (hdM (s :: stk)) fun _ w => KM w) hT (STBJ.if fun _ => PF.stb (fun _ h _ => h) (fun y hy hlt => by
    rcases List.mem_cons.mp hy with rfl | hy
    · exact absurd hlt (by show ¬ C 4 < C 4; omega)
    · exact ⟨y, hy, rfl⟩) (fun _ h _ => h)) hst3 (fun h _ => ?_) (by omega) hb (fun h => ?_) (fun s2 eA eM hst4 hs4 hl4 => ?_)
  · obtain ⟨l1, l2, l3, l4, l5, l6, l7, l8, l9, l10⟩ := hLV h
    obtain ⟨m0, m1, m2, m3, m4, m5, m6, m7, m8, m9, m10, m11⟩ := hnM h
    have htop := (hst2'.jl h).2.top
    have hrl := hob.1
    obtain ⟨n1, n2, n3, n4⟩ := ent5_ok (x := x) htop.1 (by omega)
    refine STEP.at2 l8 (OFF.tr (n1.mono fun k j hk => by unfold NQA2; omega) (hOp.mono fun k j hk => by unfold PRE at hk; unfold NQA2; omega)) (m1.mono fun k j hk => by unfold NQM2; omega) (fun i => ?_) l8.2.1 (hxN h)
    by_cases i4 : i = 4
    · rw [i4, upC_s]; omega
    · rw [upC_n i4]; exact l8.1 i
  · obtain ⟨l1, l2, l3, l4, l5, l6, l7, l8, l9, l10⟩ := hLV h
    have hwm : wr (t + 1) ≤ wr t2 := hT.mono (by omega) (by omega)
    rw [upC_n (by omega), h32]
    omega
  rw [if_pos hst4.in1.2.1]
  obtain ⟨C0, hC0⟩ : ∃ C0 : Nat → Nat, C0 = upC C 2 (C 2 + 1) := ⟨_, rfl⟩
  have hC02 : C0 2 = C 2 + 1 := by rw [hC0, upC_s]
  have hC0n : ∀ i, i ≠ 2 → C0 i = C i := fun i hi => by rw [hC0, upC_n hi]
  have hC01 : C0 1 ≤ C 1 ∧ C0 4 ≤ C 4 := by
    rw [hC0n 1 (by omega), hC0n 4 (by omega)]
    omega
  have hLC0 : LEC C C0 := fun i => by
    by_cases i2 : i = 2
    · rw [i2, hC02]; omega
    · rw [hC0n i i2]; exact Nat.le_refl _
  have hs2 : lv2 = true → s2 = C 2 := fun h => by rw [hs4 h, upC_n (by omega), h32]
  have hPFh : ∀ q', STBJ (s2 :: s :: stk) ((C 4, 6, q') :: (p, sg, q) :: r) obl (PF C0 t2 (s2 :: s :: stk) ((C 4, 6, 1) :: (p, sg, q) :: r) obl eA eM) := fun q' => PF.stb (fun _ h _ => h) (fun y hy _ => by
    rcases List.mem_cons.mp hy with rfl | hy
    · exact ⟨_, List.mem_cons_self, rfl⟩
    · exact ⟨y, List.mem_cons_of_mem _ hy, rfl⟩) (fun _ h _ => h)
  have ht2 : 1 ≤ t2 := by
    cases lv2
    · have := hd2 rfl; omega
    · have := (hLV rfl).2.2.1; omega
  have hCb : ∀ i, upC (upC (dcC C 3) 4 (C 4 + 1)) 2 (upC (dcC C 3) 4 (C 4 + 1) 2 + 1) i = if i = 1 then C 1 + 1 else upD (upD (upD C 2 1) 4 1) 6 1 i := fun i => by
    by_cases i2 : i = 2
    · rw [i2, upC_s, upC_n (by omega), h32, if_neg (by omega), upD_n (by omega), upD_n (by omega), upD_s]
    · rw [upC_n i2]
      by_cases i4 : i = 4
      · rw [i4, upC_s, if_neg (by omega), upD_n (by omega), upD_s, upD_n (by omega)]
      · rw [upC_n i4]
        by_cases i1 : i = 1
        · rw [i1, h31, if_pos rfl]
        · rw [if_neg i1]
          by_cases i6 : i = 6
          · rw [i6, h36, upD_s, upD_n (by omega), upD_n (by omega)]
          · rw [h3n i i1 i6, upD_n i6, upD_n i4, upD_n i2]
  have hxE : lv2 = true → (gi nM 0 10 ≠ 0 → gi eM 0 10 ≠ 0) → EXS nM eM → EXF nM eM := fun h h10 hX => STJ.exe (h ▸ hst3) (h ▸ hst4) h10 hX
  generalize upC (upC (dcC C 3) 4 (C 4 + 1)) 2 (upC (dcC C 3) 4 (C 4 + 1) 2 + 1) = Cb at hCb hst4 hl4
  have hLC0b : LEC C0 Cb := fun i => by
    rw [hCb]
    by_cases i1 : i = 1
    · rw [i1, if_pos rfl, hC0n 1 (by omega)]; omega
    · rw [if_neg i1]
      by_cases i2 : i = 2
      · rw [i2, hC02, upD_n (by omega), upD_n (by omega), upD_s]; exact Nat.le_refl _
      · rw [hC0n i i2]
        by_cases i4 : i = 4
        · rw [i4, upD_n (by omega), upD_s, upD_n (by omega)]; omega
        · by_cases i6 : i = 6
          · rw [i6, upD_s, upD_n (by omega), upD_n (by omega)]; omega
          · rw [upD_n i6, upD_n i4, upD_n i2]; exact Nat.le_refl _
  have h14 : gi eM 14 (C 2) = gi eM 14 (C 2) := rfl
  refine J.head (c1 := C 1) (pn := C 4) (p := p) (sp := s) (l := r.length) (ty0 := ty) (tok := t1) (C0 := C0) (t0 := t2) (stk0 := s2 :: s :: stk) (prs0 := (C 4, 6, 1) :: (p, sg, q) :: r) (wA0 := eA) (wM0 := eM) (Cb := Cb) (obl := obl) (Q := fun n a => lv2 = true ∧ t1 + 2 + 2 * n ≤ a) (b4 := Int32.ofNat p) (b5 := hdM (s :: stk)) hT hN (by omega) (by rw [List.length_cons]) hC01.1 hz2 (by omega) ht2 hPFh ⟨fun n a c h1 h2 => ⟨h1.1, by have := h1.2; omega⟩, fun n a c h1 h2 => ⟨h1.1, by have := h1.2; omega⟩⟩ (fun lv5 t5 fa5 sA sM C5 TK5 SL5 nf o f hst5 hl5 hd5 => ?_) hst4 (fun h => ?_)
  · refine J.pbody (obl := obl) (ty := ty) (t0 := t0) (tok := t1) (wA0 := wA0) (wM0 := wM0) (W := W) (b4 := Int32.ofNat p) (b5 := hdM (s :: stk)) hT hrc hSP hb hbb hd hst5 (fun h => ?_) hd5 (fun lv6 t6 fa6 gA6 gM6 C6 TK6 SL6 hst6 hl6 hd6 => ?_)
    · obtain ⟨⟨q0, q1⟩, q2, q3, q4, q5⟩ := hl5 h
      obtain ⟨l1, l2, l3, l4, l5, l6, l7, l8, l9, l10⟩ := hLV q0
      obtain ⟨k1, k2, k3, k4, k5, k6⟩ := hl4 q0
      obtain ⟨m0, m1, m2, m3, m4, m5, m6, m7, m8, m9, m10, m11⟩ := hnM q0
      have hs2' := hs2 q0
      subst hs2'
      have hwm : wr (t + 1) ≤ wr t5 := hT.mono (by omega) q2
      have hg : ∀ k, k = 14 ∨ k = 15 ∨ k = 17 → gi sM k (C 2) = gi eM k (C 2) := fun k hk => (q5.2.2.2.1 k _ (Or.inr (Or.inr (Or.inl ⟨hk, by omega⟩)))).1
      have hU2 : upC (dcC C 3) 4 (C 4 + 1) 2 = C 2 := by rw [upC_n (by omega), h32]
      rw [hU2] at k2 k3 k4
      have hLC5 : LEC C C5 := fun i => by
        by_cases i1 : i = 1
        · rw [i1, q4.1.1]; omega
        · rw [q3.1 i i1, hCb, if_neg i1]
          unfold upD upC
          by_cases i2 : i = 2
          · subst i2; simp
          · by_cases i4 : i = 4
            · subst i4; simp
            · by_cases i6 : i = 6
              · subst i6; simp
              · simp [i2, i4, i6]
      refine ⟨l1, rfl, rfl, rfl, l5, hty, by omega, q2, by omega, b7, by omega, hob, ⟨fun i hi => by rw [q3.1 i hi, hCb, if_neg hi], q3.2⟩, q4, by rw [hg 14 (by omega)]; exact k2, by rw [hg 17 (by omega)]; exact k4, by rw [hg 15 (by omega), k3]; exact m2, hLC5, by omega, EXTA.tr (k1 q0).2.2.1 q5.2.2.1 hLC0 (by omega) (fun s' hs' hlt => ?_) (fun _ h _ => h), EXTL.tr (k1 q0).2.2.2.1 q5.2.2.2.1 hLC0 (fun s' hs' hlt => ?_) (fun y hy hlt => ?_) (Or.inr (by rw [hC0n 0 (by omega)]; exact Nat.le_refl _)) (fun _ h _ => h), (k1 q0).2.2.2.2.tr q5.2.2.2.2⟩
      · rcases List.mem_cons.mp hs' with rfl | hs'
        · omega
        · exact hs'
      · rcases List.mem_cons.mp hs' with rfl | hs'
        · omega
        · exact hs'
      · rcases List.mem_cons.mp hy with rfl | hy
        · exact absurd hlt (by show ¬ C 4 < C 4; omega)
        · exact ⟨y, hy, rfl⟩
    · refine H lv6 t6 fa6 gA6 gM6 C6 TK6 SL6 sg q hst6 (fun h => ?_) hd6
      obtain ⟨r1, r2, r3, r4, r5, r6, r7, r8⟩ := hl6 h
      obtain ⟨⟨q0, q1⟩, q2, q3, q4, q5⟩ := hl5 r1
      obtain ⟨l1, l2, l3, l4, l5, l6, l7, l8, l9, l10⟩ := hLV q0
      refine ⟨by omega, r3, r4, by omega, r6, Nat.le_refl _, r7, r8.imp (fun fA fM hh => ?_)⟩
      obtain ⟨⟨x1, x2, x3, x4, x5, x6, x7, x8, x9, x10, x11, x12, ⟨g, g0, g1, g2⟩, x13, x14, x15, x16, x17, x18, x19, x20, x21⟩, nb, q9, y1, y2, y35⟩ := hh
      -- offsets grow
      have hmon : ∀ n i, i + n ≤ nf → g i ≤ g (i + n) := by
        intro n
        induction n with
        | zero => intro i _; exact Nat.le_refl _
        | succ n ih =>
          intro i hi
          obtain ⟨w, w1, w2, _⟩ := g2 (i + n) (by omega)
          have := ih i (by omega)
          rw [show i + (n + 1) = i + n + 1 by omega, w2]
          omega
      have hgo : ∀ j, j ≤ nf → g j ≤ 2 * j := by
        intro j
        induction j with
        | zero => intro _; omega
        | succ j ih =>
          intro hj
          obtain ⟨w, w1, w2, _⟩ := g2 j (by omega)
          have := ih (by omega)
          omega
      have hnf9 : nf ≤ 8900 := by
        have := q4.1.1
        have := (hst5.jl r1).2.2.2.2.2.2.1.2.1
        have := hT.1 t5
        omega
      refine Or.inr (Or.inr (Or.inr ⟨t1, ty, C 4, nf, o, t5, nb, q9, ?_, l5, x1, x2, x3, by omega, rfl, x4, x5, x6, x7, x8, x9, y1, x10, x11, by omega, rfl, x19, x20, fun i hi => ?_, x13, x14, x15, x16, x17, x18, y2, rfl, rfl, x21, y35, g, g0, g1, fun i hi => ?_⟩))
      · rcases hpr with ⟨z1, z2, z3⟩ | ⟨z1, z2, z3, z4⟩
        · exact Or.inl ⟨z1, by omega, z3⟩
        · exact Or.inr ⟨z1, z2, z3, by rw [← z4]; exact hk, by omega⟩
      · obtain ⟨w, w1, w2, w3, w4⟩ := g2 i hi
        refine ⟨(x12 i hi).1, (x12 i hi).2.1, (x12 i hi).2.2, g i, w, w1, by rw [show C 1 + 1 + i + 1 = C 1 + 2 + i by omega]; exact w3, w4, ?_, fun i' hi1 hi2 o' ho' ho9 => ?_⟩
        · have := hmon (nf - (i + 1)) (i + 1) (by omega)
          rw [show i + 1 + (nf - (i + 1)) = nf by omega, g1, w2] at this
          exact this
        · obtain ⟨w', w1', w2', w3', w4'⟩ := g2 i' hi2
          rw [show C 1 + 1 + i' + 1 = C 1 + 2 + i' by omega, w3'] at ho'
          have h1 := hgo i' (by omega)
          have h2 := (eq_iN (by omega) (by omega)).mp ho'
          have h3 := hmon (i' - (i + 1)) (i + 1) (by omega)
          rw [show i + 1 + (i' - (i + 1)) = i' by omega, w2] at h3
          omega
      · obtain ⟨w, w1, w2, w3, w4⟩ := g2 i hi
        exact ⟨w, w1, w2, by rw [show C 1 + 1 + i + 1 = C 1 + 2 + i by omega]; exact w3, w4⟩
  · obtain ⟨l1, l2, l3, l4, l5, l6, l7, l8, l9, l10⟩ := hLV h
    obtain ⟨m0, m1, m2, m3, m4, m5, m6, m7, m8, m9, m10, m11⟩ := hnM h
    obtain ⟨k1, k2, k3, k4, k5, k6⟩ := hl4 h
    have htop := (hst2'.jl h).2.top
    have hrl := hob.1
    obtain ⟨n1, n2, n3, n4⟩ := ent5_ok (x := x) htop.1 (by omega)
    obtain ⟨⟨a1, a2, a3, a4, a5, a6, a7, a8, a9, a10, a11⟩, c1, c2, c3, c4, c5, c6, c7, c8, c9⟩ := l9
    have hOA : OFF (fun k j => k = 26 ∨ k = 32 ∨ 34 ≤ k) eA vA := OFF.tr (k5.mono fun k j hk => by omega) (OFF.tr (n1.mono fun k j hk => by omega) (hOp.mono fun k j hk => by unfold PRE at hk; omega))
    have fA : ∀ k j, ¬ (k = 26 ∨ k = 32 ∨ 34 ≤ k) → gi eA k j = gi vA k j := fun k j hk => (hOA k j hk).1
    have fM : ∀ k j, ¬ ((k = 0 ∧ (j = 28 ∨ j = 29)) ∨ (14 ≤ k ∧ k ≤ 17)) → gi eM k j = gi nM k j := fun k j hk => (k6 k j (by omega)).1
    have fN : ∀ k j, ¬ ((k = 0 ∧ (j = 30 ∨ j = 53)) ∨ (k = 24 ∧ j = C 1) ∨ ((29 ≤ k ∧ k ≤ 32 ∨ k = 34 ∨ k = 35 ∨ k = 37) ∧ j = C 4)) → gi nM k j = gi vM k j := fun k j hk => (m1 k j hk).1
    refine ⟨l1, l6, ⟨h, by omega⟩, ⟨fun i _ => rfl, l7⟩, by rw [hCb]; rfl, by rw [hCb, if_neg (by omega), upD_n (by omega), upD_s, upD_n (by omega)]; omega, hC01.1, hC01.2, by omega, ⟨hLC0b, Nat.le_refl _, EXTA.rf, fun _ _ _ => ⟨rfl, rfl⟩, EXF.rf⟩, ⟨⟨by rw [fA 14 _ (by omega)]; exact a2, by rw [fA 15 _ (by omega)]; exact a3, by rw [fA 16 _ (by omega)]; exact a5, by rw [fA 17 _ (by omega)]; exact a4, by rw [fA 21 _ (by omega)]; exact a1, by rw [fA 25 _ (by omega)]; exact a11⟩, ⟨by rw [fM 19 _ (by omega), fN 19 _ (by omega)]; exact c1, by rw [fM 20 _ (by omega), fN 20 _ (by omega)]; exact c2, by rw [fM 22 _ (by omega), fN 22 _ (by omega)]; exact c3, by rw [fM 23 _ (by omega), fN 23 _ (by omega)]; exact c4, by rw [fM 24 _ (by omega)]; exact m4⟩, by rw [fM 29 _ (by omega)]; exact m5, by rw [fM 30 _ (by omega)]; exact m7, by rw [fM 32 _ (by omega)]; exact m11, by rw [fM 37 _ (by omega)]; exact m6, l10.ext ((fM 23 _ (by omega)).trans (fN 23 _ (by omega))) (fA 29 _ (by omega)) ((hxN h).tr (hxE h (fun hh => by rw [fM 0 10 (by omega)]; exact hh) (EXS.off k6 (fun k j hk => by omega))))⟩, by rw [fM 31 _ (by omega)]; exact m10, fun i hi => absurd hi (by omega)⟩
end JT
