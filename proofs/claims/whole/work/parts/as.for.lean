/-! BOTH SIDES: for -/
section JT
variable {kd wr nm : Nat → Nat} {vv : Nat → Int64} {m z : Nat} {gA gM : Wd} {lv : Bool} {sl us B : Nat} {stk obl stkF : List Nat} {prs : PRL} {C TK : Nat → Nat} {SL : Nat → List Nat} {t d b : Nat} {fa : Int32} {wA wM : Wd} {γ α : Type} {wd : γ → Wd} {S : γ → α → Wd → Prop} {P : (Nat → Nat) → Nat → Wd → Wd → Prop}
/-- what follows the first NAME of a for -/
def foK (N : Nat) (rc : TX4_block) (K : Int32 → Wd → Option γ) (x1 : Int32) (w4 : Int32 × Wd) (x6 : Int32) (w7 : Wd) : Option γ := lt (fX1_check 1 x6 (fX9_at w4.2) w7) fun w8 => lt (fX9_need (Int32.ofNat 50) (fX0_patch w4.1 (fX0_put__ 36 w8).2).2) fun w13 => bn2 (oX4_loop_95 rc N x1 w4.1 (fX5_take (Int32.ofNat 1) w13).1 0 0 (fX5_take (Int32.ofNat 1) w13).2) fun _ u => K 0 u
theorem fo_eq {rc : TX4_block} {a1 : Int32} {p : Int32 × Wd} {K : Int32 → Wd → Option γ} : bn2 (lt2 p fun _ w26 => bn2 (fX4_loop rc a1 w26) fun _ w28 => some ((0 : Int32), w28)) K = lt2 (fX9_open a1 p.2) fun x1 w2 => bn2 (RX2_typed 900 7 x1 0 0 (fX0_put__ 33 w2).2) (foK FU rc K x1 (fX0_put__ 33 w2)) := by
  rcases p with ⟨x0, w0⟩
  rw [lt2q]
  unfold fX4_loop
  generalize FU = N
  generalize fX9_open a1 w0 = R0
  rcases R0 with ⟨x1, w2⟩
  rw [lt2q, lt2q, lt2q, ltq]
  generalize RX2_typed 900 7 x1 0 0 (fX0_put__ 33 w2).2 = R
  rcases R with _ | ⟨y, u⟩
  · rfl
  · rw [bn2_so, bn2_so]
    unfold foK
    rw [ltq, lt2q, lt2q, ltq, lt2q, ltq, ltq, bn2_bn2]
    rfl
theorem bn_so {α β : Type} {a : α} {f : α → Option β} : bn (some a) f = f a := rfl
theorem lo_1 {rc : TX4_block} {a2 a6 a7 : Int32} {w : Wd} : fX4_loop_140 rc a2 a6 a7 w = lt (fX9_need 19 w) fun w1 => lt2 (fX0_put__ 33 w1) fun x2 w3 => bn (fX0_patchAll a7 w3) fun w4 => bn2 (rc 4 a2 0 0 w4) fun _ w6 => lt2 (fX0_put_ 38 a6 w6) fun _ w8 => lt2 (fX0_patch x2 w8) fun _ w10 => lt (fX5_giveBack a6 w10) fun w11 => some (0, w11) := by
  unfold fX4_loop_140
  rfl
theorem lo_2 {p : Wd} {F : Wd → Option Wd} {rc : TX4_block} {a2 a6 : Int32} {K : Int32 → Wd → Option γ} {g : Wd → Int32 × Wd} {h h2 : Int32 → Wd → Int32 × Wd} {k : Wd → Wd} : bn2 (lt p fun w1 => lt2 (g w1) fun x2 w3 => bn (F w3) fun w4 => bn2 (rc 4 a2 0 0 w4) fun _ w6 => lt2 (h a6 w6) fun _ w8 => lt2 (h2 x2 w8) fun _ w10 => lt (k w10) fun w11 => some (0, w11)) K = lt p fun w1 => bn (F (g w1).2) fun w4 => bn2 (rc 4 a2 0 0 w4) fun _ w6 => K 0 (k (h2 (g w1).1 (h a6 w6).2).2) := by
  rw [ltq, ltq, lt2q, bn2_bn]
  refine bn_cg fun w4 => ?_
  rw [bn2_bn2]
  refine bn2_cg fun x w6 => ?_
  rfl
theorem lo_eq {rc : TX4_block} {a2 a6 a7 : Int32} {w : Wd} {K : Int32 → Wd → Option γ} : bn2 (fX4_loop_140 rc a2 a6 a7 w) K = lt (fX9_need (Int32.ofNat 19) w) fun w1 => bn (fX0_patchAll a7 (fX0_put__ 33 w1).2) fun w4 => bn2 (rc 4 a2 0 0 w4) fun _ w6 => K 0 (fX5_giveBack a6 (fX0_patch (fX0_put__ 33 w1).1 (fX0_put_ 38 a6 w6).2).2) := by
  rw [lo_1, show (19 : Int32) = Int32.ofNat 19 from rfl]
  exact lo_2 (p := fX9_need (Int32.ofNat 19) w) (F := fX0_patchAll a7) (g := fX0_put__ 33) (h := fX0_put_ 38) (h2 := fX0_patch) (k := fX5_giveBack a6)
theorem lo_95 {rc : TX4_block} {n : Nat} {a2 a3 a6 a7 : Int32} {w : Wd} : oX4_loop_95 rc (n + 1) a2 a3 a6 a7 0 w = fX4_loop_120 rc (oX4_loop_95 rc n) a2 a3 a6 a7 (Int32.ofNat ([] : List Nat).length) w := by
  show fX4_loop_95 rc (oX4_loop_95 rc n) a2 a3 a6 a7 0 w = _
  unfold fX4_loop_95
  rw [if_neg (by decide), if_pos rfl]
  rfl
theorem lo_34 {rm : TX12_block} {n : Nat} {a1 a2 a4 a5 : Int32} {w : Wd} : oX12_loop_34 rm (n + 1) a1 a2 a4 a5 w = fX12_loop_34 rm (oX12_loop_34 rm n) a1 a2 a4 a5 w := rfl
theorem STBJ.pr2 {p sg q sg' q' : Nat} {r : PRL} (h : STBJ stk ((p, sg, q) :: r) obl P) : STBJ stk ((p, sg', q') :: r) obl P := h.pr (fun y hy => pr_same y hy)
theorem STEP.pr2 {p sg q sg' q' t' : Nat} {r : PRL} {C' : Nat → Nat} {uA uM : Wd} (h : STEP C t stk ((p, sg, q) :: r) obl wA wM C' t' uA uM) : STEP C t stk ((p, sg', q') :: r) obl wA wM C' t' uA uM := ⟨h.1, h.2.1, h.2.2.1, h.2.2.2.1.ctx (fun _ h _ => h) (fun y hy _ => pr_same y hy) (fun _ h _ => h), h.2.2.2.2⟩
/-- for -/
theorem spl_for (hT : TOKS kd wr nm vv m z gA gM) {β : Nat} {rc : TX4_block} {rm : TX12_block} {W : Wd → Wd → PSTT} (hin : SPC kd wr nm vv m z gA gM (fun w => rc 4 (Int32.ofNat (d + 1)) 0 0 w) (fun w => rm 3 0 0 0 w) false (fun C t => 3 * C 2 + 3 ≤ wr t) (d + 1) β (fun fA fM => INS9 fM (W fA fM) (d + 1))) : SPL kd wr nm vv m z gA gM (fun w => lt2 (fX0_put__ 40 w) fun _ w26 => bn2 (fX4_loop rc (Int32.ofNat d) w26) fun _ w28 => some ((0 : Int32), w28))
    (fun w => fX12_loop rm w) (fun t => kd t = 18) d β (PW kd d W) := by
  intro γ α wd S stkF B stk obl p sg q r C TK SL t b fa wA wM P KA KM hne hS hst hP hpre hb hB H
  obtain ⟨hk, hc, hd, hob⟩ := hpre
  have hd40 : d ≤ 40 := by omega
  have hJ := (hst.jl rfl).2
  have h7 : gi wM 0 7 = Int32.ofNat t := hJ.2.1.2.2.2.1
  have hst1 := hst.pre hT (e_put__ (a := 40) (w := wA))
  show GLJ kd wr nm z gA gM wd true stkF fa B (bn2 (lt2 (fX0_put__ 40 wA) fun _ w26 => bn2 (fX4_loop rc (Int32.ofNat d) w26) fun _ w28 => some ((0 : Int32), w28)) KA) (be (be (fX12_taken wM) fun x1 w2 => lt (si w2 0 8 ((gi w2 0 8) + 1)) fun w4 => be (RX12_variable 900 0 0 0 0 w4) fun x5 w6 => be (fX12_expect 290 w6) fun _ w9 => oX12_loop_34 rm FU x1 x5 (-1) (-1) w9) KM) S
  rw [fo_eq, be_be]
  obtain ⟨N, hN⟩ : ∃ N, N = FU := ⟨_, rfl⟩
  rw [← hN]
  obtain ⟨n9, hn9⟩ : ∃ n, n = 9000 := ⟨_, rfl⟩
  obtain ⟨fo, hfo⟩ := FU_ge (k := 9002) (by omega)
  rw [← hN] at hfo
  have hPF : STBJ stk ((p, sg, q) :: r) obl (PF C t stk ((p, sg, q) :: r) obl wA wM) := PF.stb (fun _ h _ => h) (fun y hy _ => ⟨y, hy, rfl⟩) (fun _ h _ => h)
  refine J.opn (P := PF C t stk ((p, sg, q) :: r) obl wA wM) hT hPF hst1 (fun _ => STEP.pre e_put__) (by omega) (by omega) hd40 hb (by omega) (rT := fX12_taken wM) (m_taken hJ.2.1 hd40 (by omega)) (KM := fun x1 w4 => be (be (RX12_variable 900 0 0 0 0 w4) fun x5 w6 => be (fX12_expect 290 w6) fun _ w9 => oX12_loop_34 rm N x1 x5 (-1) (-1) w9) KM) (fun yM hsm => ?_) (fun lv1 t1 fa1 uA uM hst2 hl1 hd1 => ?_)
  · rw [show RX12_variable 900 0 0 0 0 yM = fX12_variable (RX12_variable 899) yM from rfl, show fX12_variable (RX12_variable 899) yM = _ from dp_var yM _ hsm]
    exact ⟨_, rfl, gi_si0 _ _ _ _, OFF.si (by unfold PMM; omega)⟩
  · rw [be_be]
    refine J.place (a2 := 0) (P := fun C' t' a c => lv1 = true → PF C t stk ((p, sg, q) :: r) obl wA wM C' t' a c) hT (STBJ.if fun _ => hPF) (hst2.pre hT e_put__) (fun h _ => hPF _ _ _ _ _ _ _ _ (hl1 h).2.2.2.2 (STEP.pre e_put__)) ⟨by omega, fun h => (hl1 h).2.1⟩ hb (by omega) (fun lv2 x t2 fa2 vA vM n hst3 hl2 hd2 => ?_)
    -- :=
    unfold foK
    rw [be_be, ltq, check_0 hst3.in1.2.1]
    have hC0 : (upC C 0 (n + 1)) 0 = n + 1 := upC_s
    have hOA : OFF PRE (fX0_patch (fX0_put__ 33 uA).1 (fX0_put__ 36 vA).2).2 vA := OFF.tr e_patch e_put__
    have hst3' : STJ kd wr nm vv m z gA gM lv2 0 ((upC C 0 (n + 1)) 1) stk ((p, sg, q) :: r) (upC C 0 (n + 1)) TK SL t2 (d + 1) b fa2 (fX0_patch (fX0_put__ 33 uA).1 (fX0_put__ 36 vA).2).2 vM := by
      rw [upC_n (by omega)]; exact hst3.pre hT hOA
    let P2 : (Nat → Nat) → Nat → Wd → Wd → Prop := fun C' t' a c => (lv2 = true → PF C t stk ((p, sg, q) :: r) obl wA wM C' t' a c) ∧ (lv2 = true → PFA stk ((p, sg, q) :: r) obl (C 0) (upC C 0 (n + 1)) t2 (n + 1) (PLC kd (hdM stk) (C 0) n (d + 1) (t + 1) t2) C' t' a c)
    have hS2 : STBJ stk ((p, sg, q) :: r) obl P2 := STBJ.and (STBJ.if fun _ => hPF) (STBJ.if fun _ => PFA.stb)
    refine J.need (P := P2) hT hS2 hst3' (fun h => ?_) (c := 50) (by omega) (fun h => (hl1 (hl2 h).1).2.1) hb (by omega) rfl (fun lv3 t3 fa3 oA oM hst4 hl3 hd3 => ?_)
    · have y8 := (hl2 h).2.2.2.2.2.2.2.2
      rw [(hl1 (hl2 h).1).2.2.1] at y8
      refine ⟨fun _ => hPF _ _ _ _ _ _ _ _ ((hl2 h).2.2.2.2.2.1 (hl2 h).1) (STEP.pre hOA), fun _ => ⟨LEC.rf, Nat.le_refl _, ?_⟩⟩
      exact (y8.wk (Nat.le_refl _) LEC.rf (Nat.le_refl _) (Or.inr (Or.inl (by omega))) (fun _ h _ => h) (fun y hy _ => ⟨y, hy, rfl⟩) (fun _ h _ => h)).step LEC.rf (Nat.le_refl _) (STEP.pre (t := t2) hOA)
    · -- what's known at the first element
      have hK : lv3 = true → d + 1 ≤ 40 ∧ t + 2 ≤ t2 ∧ kd t2 = 50 ∧ t3 = t2 + 1 ∧ t3 ≤ m ∧ n + 1 + (t + 1) ≤ C 0 + t2 ∧ C 0 ≤ n ∧ PF C t stk ((p, sg, q) :: r) obl wA wM (upC C 0 (n + 1)) t3 oA oM ∧ PFA stk ((p, sg, q) :: r) obl (C 0) (upC C 0 (n + 1)) t2 (n + 1) (PLC kd (hdM stk) (C 0) n (d + 1) (t + 1) t2) (upC C 0 (n + 1)) t3 oA oM := fun h => by
        obtain ⟨z1, z2, z3, z4, z5⟩ := hl3 h
        obtain ⟨w1, w2, w3, w4, w5, _⟩ := hl2 z1
        obtain ⟨v1, v2, v3, v4, v5⟩ := hl1 w1
        exact ⟨v2, by omega, z2, z3, by omega, by omega, w4, z5.1 z1, z5.2 z1⟩
      have hsl : lv3 = true → sg ≤ 6 + 8 * C 1 + C 3 + C 0 := fun _ => hJ.top.2.2.2
      obtain ⟨hst5, hx6⟩ := J.take5 (a := 1) hst4 (fun h => by
        have := hsl h
        have := hK h
        rw [hC0, upC_n (by omega), upC_n (by omega)]
        omega)
      have hS5 : OFF PS6 (fX5_take (Int32.ofNat 1) oA).2 oA := e_take5
      rw [show N = (fo + n9 + 1) + 1 by omega, lo_95, show fo + n9 + 1 + 1 = (fo + 1 + n9) + 1 by omega, lo_34]
      have hC1n : ∀ i, i ≠ 0 → (upC C 0 (n + 1)) i = C i := fun i i0 => upC_n i0
      refine for_loop (C0 := upC C 0 (n + 1)) (t0 := t3) (lo0 := n + 1) (s0 := t3) (tk := t) (d := d + 1) (b := b) (wA0 := (fX5_take (Int32.ofNat 1) oA).2) (wM0 := oM) (prs := (p, sg + 1, q) :: r) (obl := obl) (us := (upC C 0 (n + 1)) 1) (rc := rc) (rm := rm) (Q := lv3 = true) hT (by omega) hb (by omega) (fun lv4 t4 fa4 eA eM C4 a7 xs hst6 hl6 hd6 => ?_) n9 lv3 (upC C 0 (n + 1)) t3 fa3 _ oM 0 (-1) (-1) [] 0 (by have := hst5.in1.z9; omega) (by
        show 0 + 1 ≤ t3
        cases lv3
        · have := hd3 rfl; have := hT.2.2.1; have := hJ.2.1.lt (by omega); omega
        · have := hK rfl; omega) hst5 (fun h => (hK h).1) (fun _ => rfl) (fun h => absurd rfl h) (fun h => ?_)
      · rw [lo_eq]
        unfold lpK
        let Φ : Wd → Wd → Prop := fun fA fM => PLC kd (hdM stk) (C 0) n (d + 1) (t + 1) t2 fA fM ∧ CHNW kd fM 40 (ELT kd fA fM (hdM stk) (d + 1) t) xs (n + 1) t3 t4 (C4 0)
        have hus : STJ kd wr nm vv m z gA gM lv4 0 (C4 1) stk ((p, sg + 1, q) :: r) C4 TK SL t4 (d + 1) b fa4 eA eM := by
          cases lv4
          · exact hst6.dd rfl
          · rw [(hl6 rfl).2.2.2.2.2.2.1 1 (by omega)]; exact hst6
        have hG : lv4 = true → d + 1 ≤ 40 ∧ t + 3 ≤ t4 ∧ t4 ≤ m ∧ C4 0 + 2 * t ≤ C 0 + 2 * t4 ∧ n + 1 ≤ C4 0 ∧ C 0 ≤ n ∧ kd t2 = 50 ∧ t3 = t2 + 1 ∧ (∀ i, i ≠ 0 → C4 i = C i) ∧ PF C t stk ((p, sg + 1, q) :: r) obl wA wM C4 t4 eA eM ∧ PFA stk ((p, sg + 1, q) :: r) obl (C 0) C4 t4 (C4 0) Φ C4 t4 eA eM ∧ lv3 = true := fun h => by
          obtain ⟨g0, g1, g2, g3, g4, g5, g6, g7, g8⟩ := hl6 h
          obtain ⟨k1, k2, k3, k4, k5, k6, k7, k8, k9⟩ := hK g0
          rw [hC0] at g4
          have hs7 : STEP (upC C 0 (n + 1)) t3 stk ((p, sg + 1, q) :: r) obl oA oM C4 t4 eA eM := STEP.tr (STEP.slot hS5) g7
          have f1 := k9.2.2.wk (lo' := C 0) (Cf' := upC C 0 (n + 1)) (tf' := t2) (pd' := n + 1) (stk' := stk) (prs' := (p, sg + 1, q) :: r) (obl' := obl) (Nat.le_refl _) LEC.rf (Nat.le_refl _) (Or.inl rfl) (fun _ h _ => h) (fun y hy _ => pr_same y hy) (fun _ h _ => h)
          have f2 := (f1.step LEC.rf k9.2.1 hs7).wk (lo' := C 0) (Cf' := C4) (tf' := t4) (pd' := C4 0) (stk' := stk) (prs' := (p, sg + 1, q) :: r) (obl' := obl) (Nat.le_refl _) hs7.1 (by omega) (Or.inr (Or.inl (by rw [hC0]; exact g5))) (fun _ h _ => h) (fun y hy _ => ⟨y, hy, rfl⟩) (fun _ h _ => h)
          have f3 := g8.wk (lo' := C 0) (Cf' := C4) (tf' := t4) (pd' := C4 0) (stk' := stk) (prs' := (p, sg + 1, q) :: r) (obl' := obl) (by omega) LEC.rf (Nat.le_refl _) (Or.inl rfl) (fun _ h _ => h) (fun y hy _ => ⟨y, hy, rfl⟩) (fun _ h _ => h)
          exact ⟨k1, by omega, g2, by omega, g5, k7, k3, k4, fun i i0 => by rw [g6 i i0, hC1n i i0], STEP.tr k8.pr2 hs7, ⟨LEC.rf, Nat.le_refl _, f2.and f3⟩, g0⟩
        have hPF1 : STBJ stk ((p, sg + 1, q) :: r) obl (PF C t stk ((p, sg + 1, q) :: r) obl wA wM) := PF.stb (fun _ h _ => h) (fun y hy _ => ⟨y, hy, rfl⟩) (fun _ h _ => h)
        let P3 : (Nat → Nat) → Nat → Wd → Wd → Prop := fun C' t' a c => (lv4 = true → PF C t stk ((p, sg + 1, q) :: r) obl wA wM C' t' a c) ∧ (lv4 = true → PFA stk ((p, sg + 1, q) :: r) obl (C 0) C4 t4 (C4 0) Φ C' t' a c)
        have hS3 : STBJ stk ((p, sg + 1, q) :: r) obl P3 := STBJ.and (STBJ.if fun _ => hPF1) (STBJ.if fun _ => PFA.stb)
        refine J.need (P := P3) hT hS3 hus (fun h => ⟨fun _ => (hG h).2.2.2.2.2.2.2.2.2.1, fun _ => (hG h).2.2.2.2.2.2.2.2.2.2.1⟩) (c := 19) (by omega) (fun h => (hG h).1) hb (by omega) rfl (fun lv5 t5 fa5 iA iM hst7 hl7 hd7 => ?_)
        obtain ⟨pA, hp1, hp2⟩ := patchAll_ok (a := a7) (w := (fX0_put__ 33 iA).2)
        rw [hp1, bn_so]
        have hOp : OFF PRE pA iA := OFF.tr hp2 e_put__
        refine hin γ α wd S stkF B lv5 stk obl p (sg + 1) q r C4 TK SL t5 b fa5 pA iM P3 _ _ (fun h => absurd h (by decide)) hS3 (hst7.pre hT hOp) (fun h => hS3 _ _ _ _ _ _ _ _ (hl7 h).2.2.2.2 (STEP.pre hOp)) (fun h => ?_) hb hB (fun lv6 x6 t6 fa6 nA nM y C5 TK5 SL5 q5 hst9 hl9 hd9 => ?_)
        · obtain ⟨z1, z2, z3, z4, z5⟩ := hl7 h
          obtain ⟨g1, g2, g3, g4, g5, g6, g7, g8, g9, hG10, _⟩ := hG z1
          have hw := hT.2.2.2.2.2.2.1 t (by omega)
          have hw2 := hT.mono (t := t + 1) (t' := t5) (by omega) (by omega)
          have h3 : 3 * C 2 ≤ wr t := hJ.2.2.2.2.2.1.2.2.1
          have hwl : wlN (kd t) = 3 := by rw [hk]; rfl
          exact ⟨by show 3 * C4 2 + 3 ≤ wr t5; rw [g9 2 (by omega)]; omega, by omega, Or.inl g1, hob.le hG10.1⟩
        · have hO6 : OFF PRE (fX0_patch (fX0_put__ 33 iA).1 (fX0_put_ 38 (fX5_take (Int32.ofNat 1) oA).1 nA).2).2 nA := OFF.tr e_patch e_put_
          have hO7 : OFF PS6 (fX5_giveBack (fX5_take (Int32.ofNat 1) oA).1 (fX0_patch (fX0_put__ 33 iA).1 (fX0_put_ 38 (fX5_take (Int32.ofNat 1) oA).1 nA).2).2) _ := e_give
          have hM : lv6 = true → (lv5 = true ∧ lv4 = true ∧ lv3 = true) ∧ kd t4 = 19 ∧ t5 = t4 + 1 := fun h => by
            obtain ⟨o1, _⟩ := hl9 h
            obtain ⟨z1, z2, z3, z4, z5⟩ := hl7 o1
            exact ⟨⟨o1, z1, (hG z1).2.2.2.2.2.2.2.2.2.2.2⟩, z2, z3⟩
          have hst10 := J.give (sg' := sg) (hst9.pre hT hO6) (fun h => ⟨hx6 (hM h).1.2.2, by omega⟩)
          have hstep : ∀ {C' : Nat → Nat} {t' : Nat}, STEP C' t' stk ((p, sg + 1, q5) :: r) obl nA nM C' t' (fX5_giveBack (fX5_take (Int32.ofNat 1) oA).1 (fX0_patch (fX0_put__ 33 iA).1 (fX0_put_ 38 (fX5_take (Int32.ofNat 1) oA).1 nA).2).2) nM := STEP.tr (STEP.pre hO6) (STEP.slot hO7)
          let Ψ : Wd → Wd → Prop := fun fA fM => Φ fA fM ∧ INS9 fM (W fA fM) (d + 1) t5 t6 y stk ((p, sg + 1, q) :: r) q q5 C4 C5
          have hF : lv6 = true → t ≤ t6 ∧ t6 ≤ m ∧ LEC C C5 ∧ C5 0 + 2 * t ≤ C 0 + 2 * t6 ∧ C5 6 + C 4 = C5 4 + C 6 ∧ PF C t stk ((p, sg, q5) :: r) obl wA wM C5 t6 (fX5_giveBack (fX5_take (Int32.ofNat 1) oA).1 (fX0_patch (fX0_put__ 33 iA).1 (fX0_put_ 38 (fX5_take (Int32.ofNat 1) oA).1 nA).2).2) nM ∧ FACT stk ((p, sg, q5) :: r) obl (C 0) C5 t6 (C5 0) Ψ (fX5_giveBack (fX5_take (Int32.ofNat 1) oA).1 (fX0_patch (fX0_put__ 33 iA).1 (fX0_put_ 38 (fX5_take (Int32.ofNat 1) oA).1 nA).2).2) nM := fun h => by
            obtain ⟨o1, o2, o3, o4, o5, o6, ⟨o7, o12⟩, o8, o9, o10, o11⟩ := hl9 h
            obtain ⟨⟨m1, m2, m3⟩, m4, m5⟩ := hM h
            obtain ⟨g1, g2, g3, g4, g5, g6, g7, g8, g9, g10, g11, g12⟩ := hG m2
            have hp := o12 m2
            have f1 := ((hp.2.2.wk (lo' := C 0) (Cf' := C4) (tf' := t4) (pd' := C4 0) (stk' := stk) (prs' := (p, sg + 1, q5) :: r) (obl' := obl) (Nat.le_refl _) LEC.rf (Nat.le_refl _) (Or.inl rfl) (fun _ h _ => h) (fun y hy _ => pr_same y hy) (fun _ h _ => h)).step hp.1 hp.2.1 hstep).wk (lo' := C 0) (Cf' := C5) (tf' := t6) (pd' := C5 0) (stk' := stk) (prs' := (p, sg, q5) :: r) (obl' := obl) (Nat.le_refl _) hp.1 hp.2.1 (Or.inr (Or.inl (o4 0))) (fun _ h _ => h) (fun y hy _ => pr_same y hy) (fun _ h _ => h)
            have f2 := (o11.step LEC.rf (Nat.le_refl _) hstep).wk (lo' := C 0) (Cf' := C5) (tf' := t6) (pd' := C5 0) (stk' := stk) (prs' := (p, sg, q5) :: r) (obl' := obl) (by omega) LEC.rf (Nat.le_refl _) (Or.inr (Or.inl (Nat.le_refl _))) (fun _ h _ => h) (fun y hy _ => pr_same y hy) (fun _ h _ => h)
            have hCC : LEC C C4 := g10.1
            rw [g9 4 (by omega), g9 6 (by omega)] at o6
            exact ⟨by omega, o3, hCC.tr o4, by omega, o6, STEP.tr (o7 m2).pr2 hstep.pr2, f1.and f2⟩
          have hSq : STBJ stk ((p, sg, q5) :: r) obl (fun C' t' a c => (lv6 = true → PF C t stk ((p, sg, q5) :: r) obl wA wM C' t' a c) ∧ (lv6 = true → PFA stk ((p, sg, q5) :: r) obl (C 0) C5 t6 (C5 0) Ψ C' t' a c)) := STBJ.and (STBJ.if fun _ => PF.stb (fun _ h _ => h) (fun y hy _ => ⟨y, hy, rfl⟩) (fun _ h _ => h)) (STBJ.if fun _ => PFA.stb)
          refine J.dep (P := fun C' t' a c => (lv6 = true → PF C t stk ((p, sg, q5) :: r) obl wA wM C' t' a c) ∧ (lv6 = true → PFA stk ((p, sg, q5) :: r) obl (C 0) C5 t6 (C5 0) Ψ C' t' a c)) hT hSq hst10 (fun h => ⟨fun _ => (hF h).2.2.2.2.2.1, fun _ => ⟨LEC.rf, Nat.le_refl _, (hF h).2.2.2.2.2.2⟩⟩) (d' := d) (by omega) (dep_dn hst10) (fun c' hs' hl' => ?_)
          refine spl_end (C0 := C) (t0 := t) (q := q) (W := fun fA fM => PLNX kd fA fM (W fA fM) d) (Ψ := Ψ) (P := P) hT hS.pr2 hs' (fun h => ?_) hd9 (fun h fA fM v hy f7 f8 f9 f10 _ _ => ?_) H
          · obtain ⟨k1, k2, k3, k4, k5, k6, k7⟩ := hF h
            obtain ⟨j1, j2⟩ := hl' h
            exact ⟨k1, k2, k3, k4, hc, k5, hS _ _ _ _ _ _ _ _ hP (j1 h).pr2, (j2 h).2.2⟩
          · obtain ⟨⟨m1, m2, m3⟩, m4, m5⟩ := hM h
            obtain ⟨g1, g2, g3, g4, g5, g6, g7, g8, g9, _⟩ := hG m2
            obtain ⟨⟨h1, h2⟩, h3⟩ := hy
            have e7 : ∀ k, k ≠ 44 → gi (si fM 44 (C5 0) v) k (C5 0) = gi fM k (C5 0) := fun k hk => gi_si1 (by omega)
            have hC4 : C4 = upC C 0 (C4 0) := by
              funext i
              by_cases i0 : i = 0
              · rw [i0, upC_s]
              · rw [upC_n i0, g9 i i0]
            rw [m5, hC4] at h3
            rw [g8] at h2
            exact ⟨p, sg, q, r, rfl, Or.inr (Or.inr (Or.inr (Or.inr (Or.inr (Or.inl ⟨hk, by omega, (e7 7 (by omega)).trans f7, n, xs, y, t2, t4, C4 0, C5, (e7 8 (by omega)).trans f8, (e7 9 (by omega)).trans f9, (e7 10 (by omega)).trans f10, h1, g7, h2, m4, h3, rfl, rfl⟩)))))⟩
      · obtain ⟨k1, k2, k3, k4, k5, k6, k7, k8, k9⟩ := hK h
        exact ⟨⟨h, Nat.le_refl _, by rw [hC0]; omega⟩, Nat.le_refl _, by rw [hC0]; exact Nat.le_refl _, fun h => absurd rfl h, fun i _ => rfl, STEP.rf, fun _ _ _ _ _ => by rw [hC0]; exact CHK.nil⟩
end JT
