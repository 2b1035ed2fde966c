/-! BOTH SIDES: a BLOCK, whole -/
section JT
variable {kd wr nm : Nat → Nat} {vv : Nat → Int64} {m z : Nat} {gA gM : Wd} {lv : Bool} {sl us B : Nat} {stk obl stkF : List Nat} {prs : PRL} {C TK : Nat → Nat} {SL : Nat → List Nat} {t d b : Nat} {fa : Int32} {wA wM : Wd} {γ α : Type} {wd : γ → Wd} {S : γ → α → Wd → Prop} {P : (Nat → Nat) → Nat → Wd → Wd → Prop}
def blkM4 (rm : TX12_block) (N : Nat) (x5 x7 x12 x14 : Int32) (w15 : Wd) : Option (Option Int32 × Wd) := if inb x5 9000 = true then lt (si w15 41 (Int32.toNatClampNeg x5) x14) fun w17 => if inb x5 9000 = true then lt (si w17 39 (Int32.toNatClampNeg x5) (-1)) fun w19 => if inb x5 9000 = true then lt (si w19 40 (Int32.toNatClampNeg x5) (-1)) fun w21 => if inb x5 9000 = true then lt (si w21 42 (Int32.toNatClampNeg x5) (gi w21 0 29)) fun w23 => oX12_block_107 rm N x5 x7 x12 (-1) w23 else none else none else none else none
def blkM3 (rm : TX12_block) (N : Nat) (x1 x5 x7 : Int32) (w10 : Wd) : Option (Option Int32 × Wd) := bn2 (fX12_node 27 x5 0 0 x1 w10) fun x12 w13 => bn2 (fX12_slots (Int32.ofNat 2) w13) fun x14 w15 => blkM4 rm N x5 x7 x12 x14 w15
theorem m_b1 {rm : TX12_block} {N : Nat} {x1 : Int32} {w4 : Wd} {K : Int32 → Wd → Option (Option α × Wd)} : be (blkM rm N x1 w4) K = lt (si w4 0 59 ((gi w4 0 59) + 1)) fun w6 => bn2 (fX12_newScope (gi w6 0 29) (gi w4 0 59) w6) fun x8 w9 => lt (si w9 0 29 x8) fun w10 => be (blkM3 rm N x1 (gi w4 0 59) (gi w6 0 29) w10) K := by
  unfold blkM
  rw [ltq, ltq, ltq, ltq, be_bn2]
  rfl
theorem m_b3 {rm : TX12_block} {N : Nat} {x1 x5 x7 : Int32} {w : Wd} {K : Int32 → Wd → Option (Option α × Wd)} : be (blkM3 rm N x1 x5 x7 w) K = bn2 (fX12_node 27 x5 0 0 x1 w) fun x12 w13 => bn2 (fX12_slots (Int32.ofNat 2) w13) fun x14 w15 => be (blkM4 rm N x5 x7 x12 x14 w15) K := by
  unfold blkM3
  rw [be_bn2]
  refine bn2_cg fun x12 w13 => ?_
  rw [be_bn2]
/-- what's told of a BLOCK's places -/
def BL0 (n bk s p q : Nat) (stk : List Nat) (fM : Wd) : Prop := gi fM 7 n = 27 ∧ gi fM 8 n = Int32.ofNat bk ∧ gi fM 41 bk = Int32.ofNat q ∧ gi fM 42 bk = Int32.ofNat s ∧ gi fM 17 s = Int32.ofNat bk ∧ gi fM 15 s = Int32.ofNat p ∧ gi fM 14 s = hdM stk
theorem JL.topq {p sg q : Nat} {r : PRL} (h : JL kd wr nm vv m z gA gM sl us stk ((p, sg, q) :: r) C TK SL t d wA wM) : q ≤ 1 + 8 * C 1 + 2 * C 3 ∧ gi wM 0 30 = Int32.ofNat p ∧ p < C 4 := by
  obtain ⟨i1, i2, i3, i4, i5, i6, i7, i8, i9, c, i11, ⟨l, l1, l2, l3, p', sg', q', r', l4, l5⟩, ⟨s1, s2, s3, s6, s7, s8, s9, s10, s11, s12⟩, i14, i15⟩ := h
  obtain ⟨e1, e2⟩ := List.cons.inj l4
  exact ⟨s11, by rw [l5, ← (Prod.mk.inj e1).1], s7⟩
theorem FACT.s11 {lo pd tf xl : Nat} {Cf : Nat → Nat} {Φ : Wd → Wd → Prop} {x : Int32} (h : FACT stk prs obl lo Cf tf pd Φ wA wM) (hx : Cf 0 ≤ xl) : FACT stk prs obl lo Cf tf pd Φ wA (si wM 11 xl x) := fun fA fM hA hM hE => h fA fM hA (fun k j hk => by
  have h1 := hM k j hk
  have q : ¬ (k = 11 ∧ j = xl) := fun q => by
    rcases hk with hk | hk | hk | hk | hk | hk | hk | hk | hk <;> omega
  exact ⟨h1.1.trans (gi_si1 q), h1.2⟩) ((EXF.off (OFF.si (P := fun k j => k = 11 ∧ j = xl) ⟨rfl, rfl⟩) (fun k j hk => by omega)).tr hE)
theorem STEP.s11 {C' : Nat → Nat} {t' xl : Nat} {uA uM : Wd} {x : Int32} (h : STEP C t stk prs obl wA wM C' t' uA uM) (hx : C 0 ≤ xl) : STEP C t stk prs obl wA wM C' t' uA (si uM 11 xl x) := STEP.q h (Q := fun k j => k = 11 ∧ j = xl) (OFF.si ⟨rfl, rfl⟩) (fun k j hq => Or.inr ⟨hq.1, by omega⟩) h.1
/-- behind begin, of both sides -/
theorem blk_rest (hT : TOKS kd wr nm vv m z gA gM) {β s p sg q t1 N fo n9 : Nat} {r : PRL} {fa1 : Int32} {lv1 : Bool} {vA uA WM : Wd} {rc rc1 : TX4_block} {rm : TX12_block} {W : Wd → Wd → PSTT} {KA : Int32 → Wd → Option γ} {KM : Int32 → Wd → Option (Option α × Wd)} (hN : N = FU) (hn9 : n9 = 9000) (hfo : FU = fo + n9 + 2)
    (hDl : DSPL kd wr nm vv m z gA gM (fun w => rc1 2 (Int32.ofNat (d + 1)) 0 0 w) (fun o w => rm 1 o 0 0 w) (fun t => isD (kd t) ∧ d + 1 ≤ 40) (d + 1) β W)
    (hSt : SPC kd wr nm vv m z gA gM (fun w => rc 5 (Int32.ofNat (d + 1)) 0 0 w) (fun w => rm 4 0 0 0 w) true (fun _ _ => True) (d + 1) β (fun fA fM => W fA fM (d + 1))) (hdz : ∀ w fa, IN1 kd wr z w (z - 1) 0 fa → rc 5 (Int32.ofNat (d + 1)) 0 0 w = some (0, w)) (hW5 : ∀ fA fM s e n stk prs q q' C C', d + 1 = 41 → kd s = 5 → W fA fM (d + 1) s e n stk prs q q' C C' → e = s)
    {Cb : Nat → Nat} (hCb : Cb = upD (upD (upD C 0 1) 2 1) 3 1) (hd40 : d ≤ 40) (hb : 2800 ≤ b) (hB : b + (β + 1) ≤ 3900) (hbk : C 3 < 9000) (hk : kd t = 4) (hc : C 0 ≤ 2 * t + 98) (htm : t < m) (hob : OBK d r C obl) (hsg : sg ≤ 6 + 8 * C 1 + C 3 + C 0) (hS : STBJ stk ((p, sg, q) :: r) obl P) (hP : P C t wA wM)
    (hl1 : lv1 = true → (d + 1 ≤ 40 ∨ kd t1 = 5) ∧ t1 = t + 1 ∧ s = C 2 ∧ fX5_slot uA = Int32.ofNat sg) (hd1 : lv1 = false → t1 = z - 1) (hst5 : STJ kd wr nm vv m z gA gM lv1 0 (Cb 1) (s :: stk) ((p, sg, q + 2) :: r) Cb TK SL t1 (d + 1) (b + 1) fa1 vA WM) (hl5 : lv1 = true → PF C t stk ((p, sg, q) :: r) obl wA wM Cb t1 vA WM ∧ BL0 (C 0) (C 3) (C 2) p q stk WM ∧ gi WM 11 (C 0) = -1 ∧ gi WM 40 (C 3) = -1)
    (H : ∀ lv' x t' fa' uA uM n C' TK' SL' q', STJ kd wr nm vv m z gA gM lv' 0 (C' 1) stk ((p, sg, q') :: r) C' TK' SL' t' d (b + (β + 1)) fa' uA uM → (lv' = true → true = true ∧ t ≤ t' ∧ t' ≤ m ∧ LEC C C' ∧ C' 0 + 2 * t ≤ C 0 + 2 * t' + 1 ∧ C' 6 + C 4 = C' 4 + C 6 ∧ P C' t' uA uM ∧ gi uM 11 n = -1 ∧ n < C' 0 ∧ C 0 ≤ n ∧ FACT stk ((p, sg, q') :: r) obl (C 0) C' t' n (fun fA fM => ∀ v, BLKX kd fA (si fM 44 n v) (W fA (si fM 44 n v)) d t t' n stk ((p, sg, q) :: r) q q' C C') uA uM) → (lv' = false → t' = z - 1) → GLJ kd wr nm z gA gM wd lv' stkF fa' B (KA x uA) (KM (Int32.ofNat n) uM) S) :
    GLJ kd wr nm z gA gM wd lv1 stkF fa1 B (bn2 (fX4_declarations rc1 (Int32.ofNat (d + 1)) (fX5_keepAt (fX5_take (Int32.ofNat 1) vA).1 (fX5_take (Int32.ofNat 1) vA).2)) fun _ w2 => blA N rc (Int32.ofNat (d + 1)) (fX5_slot uA) (fX5_keep uA) KA w2) (be (oX12_block_107 rm N (Int32.ofNat (C 3)) (hdM stk) (Int32.ofNat (C 0)) (-1) WM) KM) S := by
  have hCb0 : Cb 0 = C 0 + 1 := by rw [hCb]; rfl
  have hCb1 : Cb 1 = C 1 := by rw [hCb]; rfl
  have hCb2 : Cb 2 = C 2 + 1 := by rw [hCb]; rfl
  have hCb3 : Cb 3 = C 3 + 1 := by rw [hCb]; rfl
  have hCb4 : Cb 4 = C 4 := by rw [hCb]; rfl
  have hCb6 : Cb 6 = C 6 := by rw [hCb]; rfl
  have hLb : LEC C Cb := fun i => by
    rw [hCb]
    unfold upD upC
    by_cases q3 : i = 3
    · rw [if_pos q3, if_neg (by decide), if_neg (by decide), q3]; omega
    · rw [if_neg q3]
      by_cases q2 : i = 2
      · rw [if_pos q2, if_neg (by decide), q2]; omega
      · rw [if_neg q2]
        by_cases q0 : i = 0
        · rw [if_pos q0, q0]; omega
        · rw [if_neg q0]; exact Nat.le_refl _
  obtain ⟨hst6, hx6⟩ := J.take5 (a := 1) hst5 (fun _ => by rw [hCb0, hCb1, hCb3]; omega)
  have hst7 := J.keep (v := (fX5_take (Int32.ofNat 1) vA).1) hst6
  have hOY : OFF PS6 (fX5_keepAt (fX5_take (Int32.ofNat 1) vA).1 (fX5_take (Int32.ofNat 1) vA).2) vA := OFF.tr e_keepAt e_take5
  generalize hYA : fX5_keepAt (fX5_take (Int32.ofNat 1) vA).1 (fX5_take (Int32.ofNat 1) vA).2 = YA at hst7 hOY
  obtain ⟨oblP, hoP⟩ : ∃ l, l = C 3 :: (9000 + (C 2 + 1)) :: obl := ⟨_, rfl⟩
  have hmem : ∀ x, x ∈ oblP ↔ x = C 3 ∨ x = 9000 + (C 2 + 1) ∨ x ∈ obl := fun x => by
    rw [hoP]
    simp
  let Pin : (Nat → Nat) → Nat → Wd → Wd → Prop := fun C' t' a c => lv1 = true ∧ PF C t stk ((p, sg, q) :: r) obl wA wM C' t' a c ∧ PFA (s :: stk) ((p, sg, q) :: r) oblP (C 0) Cb t1 (C 0) (fun _ fM => BL0 (C 0) (C 3) (C 2) p q stk fM) C' t' a c ∧ PFA (s :: stk) ((p, sg, q) :: r) oblP (C 0) Cb t1 (Cb 0) (fun _ fM => gi fM 11 (C 0) = -1) C' t' a c
  have hSin : ∀ sg' q', STBJ (s :: stk) ((p, sg', q') :: r) oblP Pin := fun sg' q' C' t' a c C'' t'' a' c' h hs => by
    obtain ⟨g1, g2, g3, g4⟩ := h
    obtain ⟨h1, h2, h3, h4⟩ := hl1 g1
    refine ⟨g1, PF.stb (fun s' hs' hlt => ?_) (fun y hy _ => pr_same y hy) (fun x hx hq => ?_) _ _ _ _ _ _ _ _ g2 hs, PFA.stb' (fun _ h _ => h) (fun y hy _ => pr_same y hy) (fun _ h _ => h) _ _ _ _ _ _ _ _ g3 hs, PFA.stb' (fun _ h _ => h) (fun y hy _ => pr_same y hy) (fun _ h _ => h) _ _ _ _ _ _ _ _ g4 hs⟩
    · rcases List.mem_cons.mp hs' with rfl | hs'
      · omega
      · exact hs'
    · rcases (hmem x).mp hx with hx | hx | hx
      · omega
      · omega
      · exact hx
  have hP11 : ∀ C' t' a c xl x, Cb 0 ≤ xl → Pin C' t' a c → Pin C' t' a (si c 11 xl x) := fun C' t' a c xl x hx h => ⟨h.1, STEP.s11 h.2.1 (by omega), ⟨h.2.2.1.1, h.2.2.1.2.1, h.2.2.1.2.2.s11 hx⟩, ⟨h.2.2.2.1, h.2.2.2.2.1, h.2.2.2.2.2.s11 hx⟩⟩
  have hobP : OBK (d + 1) r Cb oblP := ⟨by have := hob.1; omega, fun x hx => by
    rw [hCb2, hCb3]
    rcases (hmem x).mp hx with hx | hx | hx
    · omega
    · omega
    · have := hob.2 x hx
      omega⟩
  have hz3 : z ≤ 8193 := hT.2.2.2.1
  have hPin0 : lv1 = true → Pin Cb t1 YA WM := fun h => by
    obtain ⟨g1, g2, g3, g4⟩ := hl5 h
    have hsp : ∀ {st ps ob}, STEP Cb t1 st ps ob vA WM Cb t1 YA WM := STEP.slot hOY
    refine ⟨h, STEP.tr g1 hsp, ⟨LEC.rf, Nat.le_refl _, fun fA fM hA hM hE => ?_⟩, ⟨LEC.rf, Nat.le_refl _, fun fA fM hA hM hE => ?_⟩⟩
    · obtain ⟨b1, b2, b3, b4, b5, b6, b7⟩ := g2
      have f7 : ∀ k, 7 ≤ k ∧ k ≤ 10 ∨ k = 12 ∨ k = 13 ∨ k = 44 ∨ k = 45 → gi fM k (C 0) = gi WM k (C 0) := fun k hk => (hM k (C 0) (Or.inl ⟨hk, Nat.le_refl _, by omega⟩)).1
      have f14 : ∀ k, k = 14 ∨ k = 15 ∨ k = 17 → gi fM k (C 2) = gi WM k (C 2) := fun k hk => (hM k (C 2) (Or.inr (Or.inr (Or.inl ⟨hk, by omega⟩)))).1
      have f41 : ∀ k, k = 41 ∨ k = 42 → gi fM k (C 3) = gi WM k (C 3) := fun k hk => (hM k (C 3) (Or.inr (Or.inr (Or.inr (Or.inr (Or.inr (Or.inr (Or.inr (Or.inl ⟨hk, by omega⟩))))))))).1
      unfold BL0
      rw [f7 7 (by omega), f7 8 (by omega), f41 41 (by omega), f41 42 (by omega), f14 17 (by omega), f14 15 (by omega), f14 14 (by omega)]
      exact ⟨b1, b2, b3, b4, b5, b6, b7⟩
    · exact (hM 11 (C 0) (Or.inr (Or.inl ⟨rfl, Nat.le_refl _, by omega, by omega⟩))).1.trans g3
  unfold fX4_declarations
  rw [← hN, show N = (fo + 1) + n9 + 1 by omega, show (0 : Int32) = Int32.ofNat 0 from rfl]
  refine dcl_loop (C0 := Cb) (t0 := t1) (sg0 := sg + 1) (q0 := q + 2) (p := p) (s := s) (bk := C 3) (P := Pin) (obl := oblP) (b := b + 1) (x12 := Int32.ofNat (C 0)) (rc := rc1) (rm := rm) (F := (fo + 1) + n9 + 1) hT (by omega) hDl (by omega) (by omega) (by omega) hbk ((hmem _).mpr (Or.inl rfl)) hSin hP11 (fun lv2 t2 fa2 eA eM C2 TK2 SL2 sg2 q2 al jd hst8 hl8 hd8 => ?_) (fo := fo + 1) (fm := fo + 1) n9 lv1 Cb TK SL t1 fa1 YA WM (sg + 1) (q + 2) [] 0 0 (-1) (by omega) (Nat.zero_le _) (hst7.bw (Or.inl (by omega))) (fun _ => rfl) (fun h => absurd rfl h) (fun h => ?_) hd1
  · -- the STATEMENTS
    unfold blA
    have h35 := (hst8.pre hT (e_put_ (a := 31) (b := fX5_slot uA))).in1.2.1
    rw [if_pos h35]
    obtain ⟨hst9, hw9⟩ := J.words (a3 := fX5_slot uA) (sg0 := sg) (hst8.pre hT (e_put_ (a := 31) (b := fX5_slot uA))) (fun h => by
      obtain ⟨_, _, _, _, _, _, k7, k8, _⟩ := hl8 h
      exact ⟨(hl1 k8.1).2.2.2, by omega⟩)
    generalize hYB : fX7_words (fX5_slot (fX0_put_ 31 (fX5_slot uA) eA).2 - fX5_slot uA) (fX0_put_ 31 (fX5_slot uA) eA).2 = YB at hst9 hw9
    have hOB : lv2 = true → OFF (fun k j => PRE k j ∨ k = 33 ∧ j = s + 1) YB eA := fun h => OFF.tr ((hw9 h).1.mono fun k j hk => Or.inr hk) (e_put_.mono fun k j hk => Or.inl hk)
    let Φ2 : Wd → Wd → Prop := fun fA fM => DCSX kd fA fM (W fA fM) (d + 1) (s :: stk) (hdM stk) p r jd t1 t2 (sg + 1) sg2 (q + 2) q2 al Cb C2 ∧ GE35 fM p q2
    let Pin2 : (Nat → Nat) → Nat → Wd → Wd → Prop := fun C' t' a c => (lv2 = true ∧ Cb 0 ≤ C2 0) ∧ Pin C' t' a c ∧ PFA (s :: stk) ((p, sg2, q2) :: r) oblP (Cb 0) C2 t2 (C2 0) Φ2 C' t' a c
    have hSin2 : ∀ sg' q', STBJ (s :: stk) ((p, sg', q') :: r) oblP Pin2 := fun sg' q' C' t' a c C'' t'' a' c' h hs => ⟨h.1, hSin sg' q' _ _ _ _ _ _ _ _ h.2.1 hs, PFA.stb' (fun _ h _ => h) (fun y hy _ => pr_same y hy) (fun _ h _ => h) _ _ _ _ _ _ _ _ h.2.2 hs⟩
    have hP112 : ∀ C' t' a c xl x, C2 0 ≤ xl → Pin2 C' t' a c → Pin2 C' t' a (si c 11 xl x) := fun C' t' a c xl x hx h => ⟨h.1, hP11 _ _ _ _ _ _ (by have := h.1.2; omega) h.2.1, h.2.2.1, h.2.2.2.1, h.2.2.2.2.s11 hx⟩
    -- from before the words to behind them
    have hext : lv2 = true → EXTA C2 t2 (s :: stk) oblP eA YB := fun h k j hk => by
      have h1 := hl8 h
      obtain ⟨_, k1, k2, k3, k4, k5, k6, k7, k8, k9⟩ := h1
      have hs2 := (hl1 k7.1).2.2.1
      refine ((hOB h) k j (fun hq => ?_)).1
      rcases hq with hq | hq
      · unfold PRE at hq
        rcases hk with hk | hk | hk | hk | hk | hk | hk <;> omega
      · rcases hk with hk | hk | hk | hk | hk | hk | hk <;> first | omega | exact hk.2.2 ((hmem _).mpr (Or.inr (Or.inl (by omega))))
    have hstep2 : lv2 = true → ∀ {ps}, STEP C2 t2 (s :: stk) ps oblP eA eM C2 t2 YB eM := fun h ps => ⟨LEC.rf, Nat.le_refl _, hext h, fun _ _ _ => ⟨rfl, rfl⟩, EXF.rf⟩
    rw [show fo + 1 + n9 + 1 = (fo + n9 + 1) + 1 by omega, bl_140]
    have e212 : ∀ a2 a3 a5 a7 w, oX12_block_212 rm ((fo + n9 + 1) + 1) a2 a3 a5 a7 w = fX12_block_212 rm (oX12_block_212 rm ((fo + 1) + n9)) a2 a3 a5 a7 w := fun _ _ _ _ _ => by
      rw [show (fo + n9 + 1) + 1 = ((fo + 1) + n9) + 1 by omega]
      rfl
    rw [e212]
    refine sts_loop (C0 := C2) (t0 := t2) (q0 := q2) (s := s) (p := p) (sg := sg2) (bk := C 3) (P := Pin2) (obl := oblP) (b := b + 1) (v40 := gi eM 40 (C 3)) (v33 := Int32.ofNat (sg2 - sg)) (x12 := Int32.ofNat (C 0)) (rc := rc) (rm := rm) hT hSt hdz hW5 (by omega) (by omega) (by omega) hbk ((hmem _).mpr (Or.inl rfl)) hSin2 hP112 (fun lv3 t3 fa3 iA iM C3 TK3 SL3 q3 xs hst10 hl10 hd10 => ?_) (fo := fo) (fm := fo + 1) n9 lv2 C2 TK2 SL2 t2 fa2 YB eM q2 [] 0 0 (-1) (by omega) (by
      cases lv2
      · have := hd8 rfl; have := hT.2.2.1; omega
      · have h1 := hl8 rfl
        have := (hl1 h1.2.2.2.2.2.2.2.1.1).2.1
        omega) hst9 (fun _ => rfl) (fun h => absurd rfl h) (fun h => ?_) hd8
    · -- the end
      rw [a_176]
      unfold blkE
      have hP0 : STBJ (s :: stk) ((p, sg2, q3) :: r) [] (fun C' t' a c => lv3 = true → PF C3 t3 (s :: stk) ((p, sg2, q3) :: r) [] iA iM C' t' a c) := STBJ.if fun _ => PF.st0
      have hdw : lv3 = true → gi iM 0 8 - 1 = Int32.ofNat d := dep_dn hst10
      refine J.dep (P := fun C' t' a c => lv3 = true → PF C3 t3 (s :: stk) ((p, sg2, q3) :: r) [] iA iM C' t' a c) (obl := []) hT hP0 hst10 (fun h _ => STEP.rf) (d' := d) (by omega) hdw (fun cM hst11 hl11 => ?_)
      refine J.need (c := 5) (x := 257) (P := fun C' t' a c => lv3 = true → PF C3 t3 (s :: stk) ((p, sg2, q3) :: r) [] iA iM C' t' a c) (obl := []) hT hP0 hst11 (fun h => hl11 h) (by omega) (fun _ => hd40) (by omega) (by omega) rfl (fun lv4 t4 fa4 nA nM hst12 hl12 hd12 => ?_)
      refine J.leave (P := fun _ _ _ _ => True) (obl := []) (v := hdM stk) hT (fun _ _ _ _ _ _ _ _ _ _ => trivial) hst12 (fun _ => trivial) (by omega) (fun _ => rfl) (fun lA lM hst13 hl13 => ?_)
      have hlv : lv4 = true → lv3 = true ∧ kd t3 = 5 ∧ t4 = t3 + 1 ∧ t4 ≤ m ∧ STEP C3 t3 (s :: stk) ((p, sg2, q3) :: r) [] iA iM C3 t4 nA nM := fun h => by
        obtain ⟨z1, z2, z3, z4, z5⟩ := hl12 h
        exact ⟨z1, z2, z3, by omega, z5 z1⟩
      have hst14 := J.give (sg' := sg) (v := fX5_slot uA) hst13 (fun h => by
        obtain ⟨_, _, _, _, _, _, ⟨g1, g2, g3⟩, _⟩ := hl10 (hlv h).1
        obtain ⟨_, _, _, _, _, _, k7, _⟩ := hl8 g1.1
        exact ⟨(hl1 g2.1).2.2.2, by omega⟩)
      have hst15 := (J.keep (v := fX5_keep uA) hst14).pre hT (e_put_ (a := 32) (b := fX5_keep uA))
      have hO6 : OFF PS6 (fX5_keepAt (fX5_keep uA) (fX5_giveBack (fX5_slot uA) lA)) lA := OFF.tr e_keepAt e_give
      generalize hFA : (fX0_put_ 32 (fX5_keep uA) (fX5_keepAt (fX5_keep uA) (fX5_giveBack (fX5_slot uA) lA))).2 = FAw at hst15
      have hOF : lv4 = true → OFF (fun k j => (k = 26 ∧ j = 9) ∨ k = 27 ∨ PS6 k j ∨ PRE k j) FAw nA := fun h => by
        rw [← hFA]
        exact OFF.tr (e_put_.mono fun k j hk => Or.inr (Or.inr (Or.inr hk))) (OFF.tr (hO6.mono fun k j hk => Or.inr (Or.inr (Or.inl hk))) ((hl13 h).2.1.mono fun k j hk => by omega))
      refine H lv4 0 t4 fa4 FAw lM (C 0) C3 TK3 SL3 q3 (hst15.bw (Or.inl (by omega))) (fun h => ?_) hd12
      obtain ⟨v1, v2, v3, v4, v5⟩ := hlv h
      obtain ⟨o1, o2, o3⟩ := hl13 h
      obtain ⟨k0, k1, k2, k3, k4, k5, ⟨⟨m1, m2⟩, ⟨g1, g2, g3, g4⟩, m3⟩, k40, k39, k33, k6⟩ := hl10 v1
      obtain ⟨h1, h2, h3, h4⟩ := hl1 g1
      obtain ⟨j0, j1, j2, j3, j4, j5, j6, j7, j8, j9⟩ := hl8 m1
      have hFs : STEP C3 t3 (s :: stk) ((p, sg2, q3) :: r) [] iA iM C3 t4 FAw lM := by
        refine ⟨LEC.rf, v5.2.1, fun k j hk => ?_, fun k j hk => ?_, v5.2.2.2.2.tr (EXF.off o3 (fun k j hk => by omega))⟩
        · refine ((hOF h) k j (fun hq => ?_)).1.trans (v5.2.2.1 k j hk)
          unfold PS6 PRE at hq
          rcases hk with hk | hk | hk | hk | hk | hk | hk <;> omega
        · have e1 := o3 k j (fun hq => by rcases hk with hk | hk | hk | hk | hk | hk | hk | hk | hk <;> omega)
          have e2 := v5.2.2.2.1 k j hk
          exact ⟨e1.1.trans e2.1, e1.2.trans e2.2⟩
      have hbase : PF C t stk ((p, sg, q) :: r) obl wA wM C3 t4 FAw lM := PF.stb (fun s' hs' hlt => by
        rcases List.mem_cons.mp hs' with rfl | hs'
        · omega
        · exact hs') (fun y hy _ => pr_same y hy) (fun x hx _ => absurd hx (by simp)) _ _ _ _ _ _ _ _ g2 hFs
      have fB := (PFA.stb' (fun _ h _ => h) (fun y hy _ => pr_same y hy) (fun x hx _ => absurd hx (by simp)) _ _ _ _ _ _ _ _ g3 hFs).2.2
      have f11 := (PFA.stb' (fun _ h _ => h) (fun y hy _ => pr_same y hy) (fun x hx _ => absurd hx (by simp)) _ _ _ _ _ _ _ _ g4 hFs).2.2
      have fD := (PFA.stb' (fun _ h _ => h) (fun y hy _ => pr_same y hy) (fun x hx _ => absurd hx (by simp)) _ _ _ _ _ _ _ _ m3 hFs).2.2
      have fS := (PFA.stb' (fun _ h _ => h) (fun y hy _ => pr_same y hy) (fun x hx _ => absurd hx (by simp)) _ _ _ _ _ _ _ _ (⟨LEC.rf, Nat.le_refl _, k6⟩ : PFA (s :: stk) ((p, sg2, q3) :: r) oblP (C2 0) C3 t3 (C3 0) _ C3 t3 iA iM) hFs).2.2
      have c30 := k3 0
      have c33 := k3 3
      have c32 := k3 2
      have c20 := j3 0
      have c23 := j3 3
      have c22 := j3 2
      have w40 := (hFs.2.2.2.1 40 (C 3) (Or.inr (Or.inr (Or.inr (Or.inr (Or.inr (Or.inr (Or.inl ⟨Or.inr rfl, by omega, by simp⟩)))))))).1.trans k40
      have w39 := (hFs.2.2.2.1 39 (C 3) (Or.inr (Or.inr (Or.inr (Or.inr (Or.inr (Or.inr (Or.inl ⟨Or.inl rfl, by omega, by simp⟩)))))))).1.trans k39
      have w33 := (hFs.2.2.1 33 (s + 1) (Or.inr (Or.inr (Or.inr (Or.inr (Or.inr (Or.inr ⟨rfl, by omega, by simp⟩))))))).trans k33
      have hnb : C 3 ∉ obl := fun hx => by have := hob.2 _ hx; omega
      have hns : 9000 + (C 2 + 1) ∉ obl := fun hx => by have := hob.2 _ hx; omega
      have hin2 : ∀ s' ∈ stk, s' ∈ s :: stk := fun s' hs' => List.mem_cons_of_mem _ hs'
      have hino : ∀ x ∈ obl, x ∈ oblP := fun x hx => (hmem x).mpr (Or.inr (Or.inr hx))
      refine ⟨rfl, by omega, v4, (hLb.tr j3).tr k3, by omega, by omega, hS _ _ _ _ _ _ _ _ hP hbase, f11.now, by omega, Nat.le_refl _, fun fA fM hA hM hE v => ?_⟩
      have e44 : ∀ k j, k ≠ 44 → gi (si fM 44 (C 0) v) k j = gi fM k j := fun k j hk => gi_si1 (by omega)
      have hB := fB fA fM (EXTA.wk hA ((j3).tr k3) (by omega) (fun s' hs' _ => hin2 s' hs') (fun x hx _ => hino x hx)) ((hM.wk (lo := C 0) (C := Cb) (pd := C 0) (Nat.le_refl _) (j3.tr k3) (Or.inl rfl)).ctx (fun s' hs' _ => hin2 s' hs') (fun y hy _ => pr_same y hy) (fun x hx _ => hino x hx)) hE
      have hD := fD fA (si fM 44 (C 0) v) (EXTA.wk hA k3 (by omega) (fun s' hs' _ => hin2 s' hs') (fun x hx _ => hino x hx)) (((hM.wk (lo := Cb 0) (C := C2) (pd := C2 0) (by omega) k3 (Or.inr (Or.inr (by omega)))).ctx (fun s' hs' _ => hin2 s' hs') (fun y hy _ => pr_same y hy) (fun x hx _ => hino x hx)).s44 (Or.inl (by omega))) (hE.tr (EXF.off (OFF.si (P := fun k j => k = 44 ∧ j = C 0) ⟨rfl, rfl⟩) (fun k j hk => by omega)))
      have hT' := fS fA (si fM 44 (C 0) v) (EXTA.wk hA LEC.rf (by omega) (fun s' hs' _ => hin2 s' hs') (fun x hx _ => hino x hx)) (((hM.wk (lo := C2 0) (C := C3) (pd := C3 0) (by omega) LEC.rf (Or.inr (Or.inr (by omega)))).ctx (fun s' hs' _ => hin2 s' hs') (fun y hy _ => pr_same y hy) (fun x hx _ => hino x hx)).s44 (Or.inl (by omega))) (hE.tr (EXF.off (OFF.si (P := fun k j => k = 44 ∧ j = C 0) ⟨rfl, rfl⟩) (fun k j hk => by omega)))
      obtain ⟨b1, b2, b3, b4, b5, b6, b7⟩ := hB
      refine ⟨p, sg, q, r, rfl, rfl, hk, (e44 _ _ (by omega)).trans b1, (e44 _ _ (by omega)).trans b2, (e44 _ _ (by omega)).trans b3, (e44 _ _ (by omega)).trans b4, (e44 _ _ (by omega)).trans b5, (e44 _ _ (by omega)).trans b6, (e44 _ _ (by omega)).trans b7, jd, t2, sg2, q2, al, C2, xs, t3, ?_, ?_, ?_, by omega, ?_, ?_, v2, v3, by rw [← h2]; exact h1, hD.2⟩
      · rw [e44 _ _ (by omega), (hM 40 (C 3) (Or.inr (Or.inr (Or.inr (Or.inr (Or.inr (Or.inr (Or.inl ⟨Or.inr rfl, by omega, hnb⟩)))))))).1]
        exact w40.trans j8
      · rw [e44 _ _ (by omega), (hM 39 (C 3) (Or.inr (Or.inr (Or.inr (Or.inr (Or.inr (Or.inr (Or.inl ⟨Or.inl rfl, by omega, hnb⟩)))))))).1]
        exact w39
      · rw [hA 33 (C 2 + 1) (Or.inr (Or.inr (Or.inr (Or.inr (Or.inr (Or.inr ⟨rfl, by omega, hns⟩)))))), ← h3]
        exact w33
      · have hD2 : DCSX kd fA (si fM 44 (C 0) v) (W fA (si fM 44 (C 0) v)) (d + 1) (s :: stk) (hdM stk) p r jd t1 t2 (sg + 1) sg2 (q + 2) q2 al Cb C2 := hD.1
        rw [h2, h3, hCb] at hD2
        exact hD2
      · have hT2 : STSX kd (si fM 44 (C 0) v) (W fA (si fM 44 (C 0) v)) (d + 1) (s :: stk) p sg2 r xs t2 t3 q2 q3 C2 C3 := hT'
        rw [h3] at hT2
        exact hT2
    · obtain ⟨j0, j1, j2, j3, j4, j5, j6, j7, j8, j9⟩ := hl8 h
      obtain ⟨g1, g2, g3, g4⟩ := j7
      obtain ⟨h1, h2, h3, h4⟩ := hl1 g1
      have hb0 := j3 0
      have hb2 := j3 2
      have hb3 := j3 3
      refine ⟨⟨j0, hobP.le j3⟩, Nat.le_refl _, LEC.rf, Nat.le_refl _, by omega, Nat.add_comm _ _, by omega, by omega, fun h => absurd rfl h, ⟨⟨h, hb0⟩, hSin _ _ _ _ _ _ _ _ _ _ ⟨g1, g2, g3, g4⟩ (hstep2 h (ps := (p, sg2, q2) :: r)), LEC.rf, Nat.le_refl _, ?_⟩, rfl, fun h => absurd rfl h, (hw9 h).2, fun _ _ _ _ _ => STQ.nil⟩
      have hge := ((h ▸ hst8).jl rfl).2.ge35 hT
      exact FACT.and (j9.step LEC.rf (Nat.le_refl _) (hstep2 h)) (fun fA fM hA hM hE => hge.ext hE)
  · obtain ⟨h1, h2, h3, h4⟩ := hl1 h
    obtain ⟨g1, g2, g3, g4⟩ := hl5 h
    exact ⟨⟨h1, hobP⟩, Nat.le_refl _, LEC.rf, Nat.le_refl _, by omega, Nat.add_comm _ _, Nat.le_refl _, by omega, ⟨by omega, fun h => absurd rfl h, fun _ => by omega⟩, hPin0 h, g4, fun h => absurd rfl h, fun _ _ _ _ _ => DCK.nil⟩
theorem blk_all (hT : TOKS kd wr nm vv m z gA gM) {β : Nat} {rc rc1 : TX4_block} {rm : TX12_block} {W : Wd → Wd → PSTT} (hr1 : ∀ w, rc 1 (Int32.ofNat (d + 1)) 0 0 w = fX4_declarations rc1 (Int32.ofNat (d + 1)) w) (hDl : DSPL kd wr nm vv m z gA gM (fun w => rc1 2 (Int32.ofNat (d + 1)) 0 0 w) (fun o w => rm 1 o 0 0 w) (fun t => isD (kd t) ∧ d + 1 ≤ 40) (d + 1) β W)
    (hSt : SPC kd wr nm vv m z gA gM (fun w => rc 5 (Int32.ofNat (d + 1)) 0 0 w) (fun w => rm 4 0 0 0 w) true (fun _ _ => True) (d + 1) β (fun fA fM => W fA fM (d + 1))) (hdz : ∀ w fa, IN1 kd wr z w (z - 1) 0 fa → rc 5 (Int32.ofNat (d + 1)) 0 0 w = some (0, w)) (hW5 : ∀ fA fM s e n stk prs q q' C C', d + 1 = 41 → kd s = 5 → W fA fM (d + 1) s e n stk prs q q' C C' → e = s)
    (hdp1 : ∀ a, DEP kd wr m (fun w => rm 1 a 0 0 w)) (hdn4 : DN kd wr m (fun w => rm 4 0 0 0 w)) : SPB kd wr nm vv m z gA gM (fun w => fX4_block rc (Int32.ofNat d) w) (fun w => fX12_block rm w) d (β + 1) W := by
  intro γ α wd S stkF B stk obl p sg q r C TK SL t b fa wA wM P KA KM hS hst hP hpre hb hB H
  obtain ⟨hk, hc, hd, hob⟩ := hpre
  have hd40 : d ≤ 40 := by omega
  have hJ := (hst.jl rfl).2
  have hcc := hJ.2.2.2.2.2.1
  have hwt := hT.1 t
  have hbk : C 3 < 9000 := by omega
  have hsg : sg ≤ 6 + 8 * C 1 + C 3 + C 0 := hJ.top.2.2.2
  show GLJ kd wr nm z gA gM wd true stkF fa B (bn2 (fX4_block rc (Int32.ofNat d) wA) KA) (be (fX12_block rm wM) KM) S
  obtain ⟨N, hN⟩ : ∃ N, N = FU := ⟨_, rfl⟩
  obtain ⟨n9, hn9⟩ : ∃ n, n = 9000 := ⟨_, rfl⟩
  obtain ⟨fo, hfo0⟩ := FU_ge (k := 9002) (by omega)
  have hfo : FU = fo + n9 + 2 := by omega
  rw [m_block, bl_eq, be_be, ← hN]
  have hPF : STBJ stk ((p, sg, q) :: r) obl (PF C t stk ((p, sg, q) :: r) obl wA wM) := PF.st0
  have hlt : ∀ (x1 : Int32) (w2 : Wd), be (lt (si w2 0 8 ((gi w2 0 8) + 1)) (blkM rm N x1)) KM = lt (si w2 0 8 ((gi w2 0 8) + 1)) fun w4 => be (blkM rm N x1 w4) KM := fun _ _ => rfl
  rw [be_cg hlt]
  refine J.opn4 (P := PF C t stk ((p, sg, q) :: r) obl wA wM) hT hPF hst STEP.rf hk hd40 hb (by omega) (m_expect (x := 256) (k := 4) hJ.2.1 hd40 rfl (by omega) hk) (KM := fun x1 w4 => be (blkM rm N x1 w4) KM) (fun uM hsm h5 hO => ?_) (fun lv1 t1 fa1 uA uM hst1 hl1 hd1 => ?_)
  · have hz9 := hJ.1.z9
    have hJ' := hJ
    obtain ⟨i1, i2, i3, i4, i5, i6, i7, ⟨r1, r2, r3, r4, r5⟩, i9, ⟨c1, c2, c3, c4, c5, c6, c7⟩, i11, ⟨l, l1, l2, l3, p', sg', q', r', l4, l5⟩, ⟨s1, s2, s3, s6, s7, s8⟩, i14, i15⟩ := hJ'
    obtain ⟨e1, e2⟩ := List.cons.inj l4
    rw [← (Prod.mk.inj e1).1] at l5
    obtain ⟨v, v1, v2, v3⟩ := blk_doom (x1 := Int32.ofNat t) hdp1 hdn4 hsm h5 (c3 := C 3) ⟨(hO 0 59 (by omega)).1.trans c2, hbk⟩ (c2 := C 2) ⟨(hO 0 28 (by omega)).1.trans r1, by omega⟩ (c0 := C 0) ⟨(hO 0 23 (by omega)).1.trans c1, by have := hJ.2.1.1.1; have := hJ.2.1.2.1; omega⟩ (p := p) ⟨(hO 0 30 (by omega)).1.trans l5, by omega⟩ hN
    refine ⟨v, ?_, v2, v3⟩
    show be (blkM rm N (Int32.ofNat t) uM) KM = some (none, v)
    rw [v1]
    rfl
  · show GLJ kd wr nm z gA gM wd lv1 stkF fa1 B (bn (fX7_enter uA) fun w5 => bn2 (if gi w5 3 5 = 0 then fX4_block_54 rc 1 (Int32.ofNat (d + 1)) (fX5_slot uA) (fX5_keep uA) w5 else fX4_block_54 rc (fX7_words_ w5) (Int32.ofNat (d + 1)) (fX5_slot uA) (fX5_keep uA) w5) KA) (be (blkM rm N (Int32.ofNat t) uM) KM) S
    rw [m_b1]
    have hx3 : lv1 = true → fX5_slot uA = Int32.ofNat sg := fun h => by
      obtain ⟨h1, h2, h3, h4⟩ := (hst1.jl h).2.top
      unfold fX5_slot
      rw [h1, rgi_iN (n := r.length) (m := 64) (by omega) (by omega), h3]
      rfl
    have hx5 : lv1 = true → gi uM 0 59 = Int32.ofNat (C 3) := fun h => (hst1.jl h).2.2.2.2.2.2.2.2.2.2.1.2.1
    have hw : lv1 = true → wr t + 5 ≤ wr t1 := fun h => by
      obtain ⟨g1, g2, g3, g4, g5⟩ := hl1 h
      rw [g2]; exact g4
    refine J.blks (P := fun C' t' a c => lv1 = true → PF C t stk ((p, sg, q) :: r) obl wA wM C' t' a c) (STBJ.if fun _ => hPF) hst1 (fun h _ => (hl1 h).2.2.2.2) (fun h => by have := hw h; omega) (fun h => by rw [hx5 h]; exact ad1_iN _) (fun yM hst2 hl2 => ?_)
    have e32 : (upC C 3 (C 3 + 1)) 2 = C 2 := upC_n (by omega)
    refine J.enter (v := gi uM 0 59) (P := fun C' t' a c => lv1 = true → PF C t stk ((p, sg, q) :: r) obl wA wM C' t' a c) (KM := fun _ w10 => be (blkM3 rm N (Int32.ofNat t) (gi uM 0 59) (gi yM 0 29) w10) KM) hT (STBJ.if fun _ => hPF) hst2 (fun h => (hl2 h).1) (by omega) hb (fun h => by rw [e32]; have := hw h; omega) (fun s vA vM hst3 hs3 hl3 => ?_)
    have hin3 := hst3.in1
    rw [if_pos hin3.2.1, bl_54, m_b3, hr1, ← hN]
    rw [e32] at hst3 hs3 hl3
    generalize hCx : upC (upC C 3 (C 3 + 1)) 2 (C 2 + 1) = Cx at hst3 hl3
    have hx0 : Cx 0 = C 0 := by rw [← hCx]; rfl
    have hx1 : Cx 1 = C 1 := by rw [← hCx]; rfl
    have hx2 : Cx 2 = C 2 + 1 := by rw [← hCx]; rfl
    have hx3' : Cx 3 = C 3 + 1 := by rw [← hCx]; rfl
    have hPn : STBJ (s :: stk) ((p, sg, q) :: r) [] (fun C' t' a c => lv1 = true → PF C t stk ((p, sg, q) :: r) obl wA wM C' t' a c ∧ PF Cx t1 (s :: stk) ((p, sg, q) :: r) [] vA vM C' t' a c) := STBJ.if fun h => STBJ.and (PF.stb (fun s' hs' hlt => by
      rcases List.mem_cons.mp hs' with rfl | hs'
      · have := hs3 h; omega
      · exact hs') (fun y hy _ => ⟨y, hy, rfl⟩) (fun x hx _ => absurd hx (by simp))) PF.st0
    refine J.node (P := fun C' t' a c => lv1 = true → PF C t stk ((p, sg, q) :: r) obl wA wM C' t' a c ∧ PF Cx t1 (s :: stk) ((p, sg, q) :: r) [] vA vM C' t' a c) (obl := []) hT hPn hst3 (fun h _ => ⟨(hl3 h).1 h, STEP.rf⟩) (fun h => by have := (hl1 h).2.1; omega) (fun oM hst4 hl4 => ?_)
    rw [hx0] at hst4 hl4 ⊢
    refine J.slots (a := 2) (P := fun C' t' a c => lv1 = true → PF C t stk ((p, sg, q) :: r) obl wA wM C' t' a c ∧ PF Cx t1 (s :: stk) ((p, sg, q) :: r) [] vA vM C' t' a c) (obl := []) hT hPn hst4 (fun h => (hl4 h).1) (fun _ => by rw [upC_n (by omega), upC_n (by omega), hx1, hx3']; have := hJ.topq; omega) (fun iM hst5 hl5 => ?_)
    have hC5 : upC Cx 0 (C 0 + 1) = upD (upD (upD C 0 1) 2 1) 3 1 := by
      rw [← hCx]
      funext i
      unfold upD upC
      by_cases q0 : i = 0
      · rw [if_pos q0, q0, if_neg (by decide), if_neg (by decide), if_pos rfl]
      · rw [if_neg q0]
        by_cases q2 : i = 2
        · rw [if_pos q2, q2, if_neg (by decide), if_pos rfl]
          rfl
        · rw [if_neg q2]
          by_cases q3 : i = 3
          · rw [if_pos q3, if_pos q3]
            rfl
          · rw [if_neg q3, if_neg q3, if_neg q2, if_neg q0]
    have hst5' : STJ kd wr nm vv m z gA gM lv1 0 ((upC Cx 0 (C 0 + 1)) 1) (s :: stk) ((p, sg, q + 2) :: r) (upC Cx 0 (C 0 + 1)) TK SL t1 (d + 1) (b + 1) fa1 vA iM := by
      rw [upC_n (by omega), hx1]
      exact hst5
    have hl1' : lv1 = true → (d + 1 ≤ 40 ∨ kd t1 = 5) ∧ t1 = t + 1 ∧ s = C 2 ∧ fX5_slot uA = Int32.ofNat sg := fun h => by
      obtain ⟨g1, g2, g3, g4, g5⟩ := hl1 h
      refine ⟨?_, g2, hs3 h, hx3 h⟩
      rw [g2]; exact g1
    cases lv1
    · refine GLJ.ref (rM' := be (oX12_block_107 rm N (Int32.ofNat (C 3)) (hdM stk) (Int32.ofNat (C 0)) (-1) iM) KM) (fun h => absurd h (by decide)) ?_
      exact blk_rest hT hN hn9 hfo hDl hSt hdz hW5 hC5 hd40 hb (by omega) hbk hk hc (hJ.2.1.lt (by omega)) hob hsg hS hP hl1' hd1 hst5' (fun h => absurd h (by decide)) H
    · have hx7 : gi yM 0 29 = hdM stk := (hst2.jl rfl).2.2.2.2.2.2.2.2.2.1
      have hs := hs3 rfl
      have h29 : gi iM 0 29 = Int32.ofNat (C 2) := by rw [← hs]; exact (hst5.jl rfl).2.2.2.2.2.2.2.2.2.1
      obtain ⟨a1, a2, a3, a4, a5, a6⟩ := hl3 rfl
      obtain ⟨n1, n2, n3, n4, n5, n6, n7, n8⟩ := hl4 rfl
      obtain ⟨s1, s2⟩ := hl5 rfl
      obtain ⟨s3, s4⟩ := s1 rfl
      unfold blkM4
      rw [hx5 rfl, hx7, if_pos (inb_iN hbk (by omega)), tc_iN (by omega), ltq, if_pos (inb_iN hbk (by omega)), ltq, if_pos (inb_iN hbk (by omega)), ltq, if_pos (inb_iN hbk (by omega)), ltq]
      have e29 : gi (si (si (si iM 41 (C 3) (Int32.ofNat q)) 39 (C 3) (-1)) 40 (C 3) (-1)) 0 29 = Int32.ofNat (C 2) := by
        rw [gi_si1 (by omega), gi_si1 (by omega), gi_si1 (by omega)]
        exact h29
      rw [e29]
      have hOW : OFF (fun k j => 39 ≤ k ∧ k ≤ 42 ∧ j = C 3) (si (si (si (si iM 41 (C 3) (Int32.ofNat q)) 39 (C 3) (-1)) 40 (C 3) (-1)) 42 (C 3) (Int32.ofNat (C 2))) iM := OFF.tr (OFF.si (by omega)) (OFF.tr (OFF.si (by omega)) (OFF.tr (OFF.si (by omega)) (OFF.si (by omega))))
      have w41 : gi (si (si (si (si iM 41 (C 3) (Int32.ofNat q)) 39 (C 3) (-1)) 40 (C 3) (-1)) 42 (C 3) (Int32.ofNat (C 2))) 41 (C 3) = Int32.ofNat q := by
        rw [gi_si1 (by omega), gi_si1 (by omega), gi_si1 (by omega), gi_si0]
      have w40 : gi (si (si (si (si iM 41 (C 3) (Int32.ofNat q)) 39 (C 3) (-1)) 40 (C 3) (-1)) 42 (C 3) (Int32.ofNat (C 2))) 40 (C 3) = -1 := by
        rw [gi_si1 (by omega), gi_si0]
      have w42 : gi (si (si (si (si iM 41 (C 3) (Int32.ofNat q)) 39 (C 3) (-1)) 40 (C 3) (-1)) 42 (C 3) (Int32.ofNat (C 2))) 42 (C 3) = Int32.ofNat (C 2) := gi_si0 _ _ _ _
      generalize (si (si (si (si iM 41 (C 3) (Int32.ofNat q)) 39 (C 3) (-1)) 40 (C 3) (-1)) 42 (C 3) (Int32.ofNat (C 2))) = WM at hOW w41 w40 w42 ⊢
      have hM5 : ∀ k j, ¬ (39 ≤ k ∧ k ≤ 42) → ¬ (k = 35) → gi WM k j = gi oM k j := fun k j h1 h2 => ((hOW k j (by omega)).1).trans (s2 k j (by omega)).1
      have h14 : ∀ k, k = 14 ∨ k = 15 ∨ k = 17 → gi WM k (C 2) = gi vM k (C 2) := fun k hk => ((hOW k (C 2) (by omega)).1).trans (s4.2.2.2.1 k (C 2) (Or.inr (Or.inr (Or.inl ⟨hk, by omega⟩)))).1
      refine blk_rest hT hN hn9 hfo hDl hSt hdz hW5 hC5 hd40 hb (by omega) hbk hk hc (hJ.2.1.lt (by omega)) hob hsg hS hP hl1' hd1 (hst5'.setB (fun _ => hOW.mono fun k j hk => by omega)) (fun _ => ⟨⟨s3.1, s3.2.1, s3.2.2.1, fun k j hk => ?_, s3.2.2.2.2.tr (EXF.off hOW (fun k j hk => by omega))⟩, ⟨?_, ?_, w41, w42, ?_, ?_, ?_⟩, ?_, w40⟩) H
      · have e1 := hOW k j (fun hq => by rcases hk with hk | hk | hk | hk | hk | hk | hk | hk | hk <;> omega)
        have e2 := s3.2.2.2.1 k j hk
        exact ⟨e1.1.trans e2.1, e1.2.trans e2.2⟩
      · rw [hM5 _ _ (by omega) (by omega)]; exact n2
      · rw [hM5 _ _ (by omega) (by omega), n3]; exact hx5 rfl
      · rw [h14 17 (by omega), a4]; exact hx5 rfl
      · rw [h14 15 (by omega), a3]
        exact (hst2.jl rfl).2.topq.2.1
      · rw [h14 14 (by omega), a2]
      · rw [hM5 _ _ (by omega) (by omega)]; exact n6
end JT
