/-! BOTH SIDES: if -/
section JT
variable {kd wr nm : Nat → Nat} {vv : Nat → Int64} {m z : Nat} {gA gM : Wd} {lv : Bool} {sl us B : Nat} {stk obl stkF : List Nat} {prs : PRL} {C TK : Nat → Nat} {SL : Nat → List Nat} {t d b : Nat} {fa : Int32} {wA wM : Wd} {γ α : Type} {wd : γ → Wd} {S : γ → α → Wd → Prop} {P : (Nat → Nat) → Nat → Wd → Wd → Prop}
theorem J.exprR (hT : TOKS kd wr nm vv m z gA gM) (hS : STBJ stk prs obl P) (hst : STJ kd wr nm vv m z gA gM lv sl us stk prs C TK SL t d b fa wA wM) (hP : lv = true → P C t wA wM) (hd : d ≤ 41 ∧ (lv = true → d ≤ 40)) (hb : 2800 ≤ b) (hs1 : sl ≤ 1) {rA : Option (Int32 × Wd)} (hrun : RUN kd wr z rA wA t 0 (xw kd 41 d t) fa (QW kd 41 d t))
    {KA : Int32 → Wd → Option γ} {KM : Int32 → Wd → Option (Option α × Wd)}
    (H : ∀ lv' x t' fa' uA uM n cn, STJ kd wr nm vv m z gA gM lv' 0 us stk prs (upC C 0 (n + 1)) TK SL t' d b fa' uA uM → (lv' = true → lv = true ∧ t < t' ∧ t' ≤ m ∧ C 0 ≤ n ∧ n + 1 + t ≤ C 0 + t' ∧ P (upC C 0 (n + 1)) t' uA uM ∧ gi uM 11 n = -1 ∧ XPR kd (hdM stk) (C 0) n d t t' cn uA uM ∧ FACT stk prs obl (C 0) (upC C 0 (n + 1)) t' n (XPR kd (hdM stk) (C 0) n d t t' cn) uA uM) → (lv' = false → t' = z - 1) → GLJ kd wr nm z gA gM wd lv' stkF fa' B (KA x uA) (KM (Int32.ofNat n) uM) S) :
    GLJ kd wr nm z gA gM wd lv stkF fa B (bn2 rA KA) (be (RX12_variable 900 4 0 0 0 wM) KM) S := by
  have hin := hst.in1
  have hk0 : lv = false → kd t = 0 := fun h => by
    rcases hst with ⟨q, _⟩ | ⟨_, q, h3⟩
    · rw [h] at q; exact absurd q (by decide)
    · rw [q]; exact h3.1.zk
  refine J.sub (d' := d) (QM := fun e n uM => gi uM 11 n = -1 ∧ ∃ cn, PWR kd uM (hdM stk) 41 (C 0) n d t e cn) hT hS hst hP hb hs1 hrun (fun h => ⟨t, xw_0 (hk0 h) 41 d⟩) (fun hJ hl => ?_) (fun lv' x t' fa' uA uM n hst' hl' hd' => ?_)
  · obtain ⟨q1, q2⟩ := m_expr (sc := hdM stk) (hd.2 hl) wM t (C 0) hJ.ins
    refine ⟨q1, fun e he => ?_⟩
    obtain ⟨n, u, cn, v1, v2, v3, v4, v5, v6, v7, v8, v9, v10⟩ := q2 e he
    exact ⟨n, u, v1, v2, v3, v4, v5, v10, v8, cn, v9⟩
  · by_cases hlv : lv' = true
    · obtain ⟨y1, y2, y3, y4, y5, y6, y7, ⟨y8, cn, y9⟩, y10⟩ := hl' hlv
      refine H lv' x t' fa' uA uM n cn hst' (fun _ => ⟨y1, y3, y4, y5, y6, y10, y8, ⟨y7, y9⟩, fun fA fM hA hM hE => ⟨?_, ?_⟩⟩) hd'
      · exact fmW_agr 41 d t t' y2 y7 (AG9.ext hA (Nat.le_refl _))
      · exact (PWR.agr 41 fM uM _ _ _ _ _ _ y9).2 (AGR.ext hM (by rw [upC_s]; omega))
    · exact H lv' x t' fa' uA uM n 0 hst' (fun h => absurd h hlv) hd'
theorem a_test {a : Int32} {w : Wd} : RX2_typed 900 1 a 0 0 w = fX2_test (RX2_typed 899) a w := rfl
theorem tst_eq {rc : TX2_typed} {a1 : Int32} {w : Wd} {K : Int32 → Wd → Option γ} : bn2 (fX2_test rc a1 w) K = lt2 (fX9_open a1 w) fun x1 w2 => bn2 (rc 0 x1 2 0 w2) fun _ w4 => lt (fX9_need (Int32.ofNat 16) w4) fun w5 => K (fX0_put__ 34 w5).1 (fX0_put__ 34 w5).2 := by
  unfold fX2_test
  rcases fX9_open a1 w with ⟨x1, w2⟩
  rw [lt2q, lt2q]
  generalize rc 0 x1 2 0 w2 = R
  rcases R with _ | ⟨y, u⟩ <;> rfl
/-- what follows the test -/
def chK (rc : TX4_block) (a1 : Int32) (K : Int32 → Wd → Option γ) (x1 : Int32) (w2 : Wd) : Option γ := bn2 (rc 4 (a1 + 1) 0 0 w2) fun _ w4 => lt2 (fX9_take (Int32.ofNat 17) w4) fun x5 w6 => if x5 = true then (bn2 (rc 4 (a1 + 1) 0 0 (fX0_patch x1 (fX0_put__ 33 w6).2).2) fun _ w13 => K 0 (fX0_patch (fX0_put__ 33 w6).1 w13).2) else K 0 (fX0_patch x1 w6).2
theorem ch_eq {rc : TX4_block} {a1 : Int32} {p : Int32 × Wd} {K : Int32 → Wd → Option γ} : bn2 (lt2 p fun _ w21 => bn2 (fX4_choice rc a1 w21) fun _ w23 => some ((0 : Int32), w23)) K = bn2 (RX2_typed 900 1 a1 0 0 p.2) (chK rc a1 K) := by
  show bn2 (bn2 (fX4_choice rc a1 p.2) fun _ w23 => some ((0 : Int32), w23)) K = _
  unfold fX4_choice
  generalize RX2_typed 900 1 a1 0 0 p.2 = R
  rcases R with _ | ⟨x1, w2⟩
  · rfl
  · rw [bn2_so, bn2_so]
    unfold chK
    generalize rc 4 (a1 + 1) 0 0 w2 = R
    rcases R with _ | ⟨y, w4⟩
    · rfl
    · rw [bn2_so, bn2_so, show fX9_take 17 w4 = fX9_take (Int32.ofNat 17) w4 from rfl]
      rcases fX9_take (Int32.ofNat 17) w4 with ⟨c, w6⟩
      cases c
      · rfl
      · have hl : ∀ {δ : Type} (f : Bool → Wd → δ), lt2 (true, w6) f = f true w6 := fun _ => rfl
        rw [hl, hl, if_pos rfl, if_pos rfl]
        have e : (lt2 (fX0_put__ 33 w6) fun x8 w9 => lt2 (fX0_patch x1 w9) fun _ w11 => bn2 (rc 4 (a1 + 1) 0 0 w11) fun _ w13 => lt2 (fX0_patch x8 w13) fun _ w15 => some ((0 : Int32), w15)) = bn2 (rc 4 (a1 + 1) 0 0 (fX0_patch x1 (fX0_put__ 33 w6).2).2) fun _ w13 => some ((0 : Int32), (fX0_patch (fX0_put__ 33 w6).1 w13).2) := rfl
        rw [e]
        generalize rc 4 (a1 + 1) 0 0 (fX0_patch x1 (fX0_put__ 33 w6).2).2 = R
        rcases R with _ | ⟨v, w13⟩ <;> rfl
/-- if -/
theorem spl_if (hT : TOKS kd wr nm vv m z gA gM) {β : Nat} {rc : TX4_block} {rm : TX12_block} {W : Wd → Wd → PSTT} (hin : SPC kd wr nm vv m z gA gM (fun w => rc 4 (Int32.ofNat (d + 1)) 0 0 w) (fun w => rm 3 0 0 0 w) false (fun C t => 3 * C 2 + 3 ≤ wr t) (d + 1) β (fun fA fM => INS9 fM (W fA fM) (d + 1))) : SPL kd wr nm vv m z gA gM (fun w => lt2 (fX0_put__ 40 w) fun _ w21 => bn2 (fX4_choice rc (Int32.ofNat d) w21) fun _ w23 => some ((0 : Int32), w23))
    (fun w => be (fX12_taken w) fun _ w19 => lt (si w19 0 8 ((gi w19 0 8) + 1)) fun w21 => be (RX12_variable 900 4 0 0 0 w21) fun x22 w23 => be (fX12_expect 268 w23) fun _ w26 => be (rm 3 0 0 0 w26) fun x28 w29 => be (fX12_skip 269 w29) fun x31 w32 => if x31 = true then (be (rm 3 0 0 0 w32) fun x35 w36 => fX12_plain_201 rm x35 (gi w 0 7) x22 x28 w36) else (fX12_plain_201 rm (-1) (gi w 0 7) x22 x28 w32)) (fun t => kd t = 15) d β (PW kd d W) := by
  intro γ α wd S stkF B stk obl p sg q r C TK SL t b fa wA wM P KA KM hne hS hst hP hpre hb hB H
  obtain ⟨hk, hc, hd, hob⟩ := hpre
  have hd40 : d ≤ 40 := by omega
  have hJ := (hst.jl rfl).2
  have h7 : gi wM 0 7 = Int32.ofNat t := hJ.2.1.2.2.2.1
  have hst1 := hst.pre hT (e_put__ (a := 40) (w := wA))
  have hE := ex1_all (kd := kd) (wr := wr) (z := z) hT.1 hT.2.1 41
  show GLJ kd wr nm z gA gM wd true stkF fa B (bn2 (lt2 (fX0_put__ 40 wA) fun _ w21 => bn2 (fX4_choice rc (Int32.ofNat d) w21) fun _ w23 => some ((0 : Int32), w23)) KA) (be (be (fX12_taken wM) fun _ w19 => lt (si w19 0 8 ((gi w19 0 8) + 1)) fun w21 => be (RX12_variable 900 4 0 0 0 w21) fun x22 w23 => be (fX12_expect 268 w23) fun _ w26 => be (rm 3 0 0 0 w26) fun x28 w29 => be (fX12_skip 269 w29) fun x31 w32 => if x31 = true then (be (rm 3 0 0 0 w32) fun x35 w36 => fX12_plain_201 rm x35 (gi wM 0 7) x22 x28 w36) else (fX12_plain_201 rm (-1) (gi wM 0 7) x22 x28 w32)) KM) S
  rw [ch_eq, be_be, h7, a_test, tst_eq]
  have hPF : STBJ stk ((p, sg, q) :: r) obl (PF C t stk ((p, sg, q) :: r) obl wA wM) := PF.stb (fun _ h _ => h) (fun y hy _ => ⟨y, hy, rfl⟩) (fun _ h _ => h)
  refine J.opn (P := PF C t stk ((p, sg, q) :: r) obl wA wM) hT hPF hst1 (fun _ => STEP.pre e_put__) (by omega) (by omega) hd40 hb (by omega) (rT := fX12_taken wM) (m_taken hJ.2.1 hd40 (by omega)) (KM := fun _ w21 => be (be (RX12_variable 900 4 0 0 0 w21) fun x22 w23 => be (fX12_expect 268 w23) fun _ w26 => be (rm 3 0 0 0 w26) fun x28 w29 => be (fX12_skip 269 w29) fun x31 w32 => if x31 = true then (be (rm 3 0 0 0 w32) fun x35 w36 => fX12_plain_201 rm x35 (Int32.ofNat t) x22 x28 w36) else (fX12_plain_201 rm (-1) (Int32.ofNat t) x22 x28 w32)) KM) (fun yM hsm => ?_) (fun lv1 t1 fa1 uA uM hst2 hl1 hd1 => ?_)
  · rw [dp_expr (by omega) yM _ hsm]
    exact ⟨_, rfl, gi_si0 _ _ _ _, OFF.si (by unfold PMM; omega)⟩
  · rw [be_be]
    have hin2 := hst2.in1
    refine J.exprR (P := fun C' t' a c => lv1 = true → PF C t stk ((p, sg, q) :: r) obl wA wM C' t' a c) hT (STBJ.if fun _ => hPF) hst2 (fun h _ => (hl1 h).2.2.2.2) ⟨by omega, fun h => (hl1 h).2.1⟩ hb (by omega) (a2_tQ (rc := RX2_typed 898) (hE 898 (d + 1) (by omega) (by omega)) uA t1 0 fa1 hin2 (by omega) (by
      cases lv1
      · refine Or.inr ⟨by omega, ?_⟩
        rw [hd1 rfl]
        exact hin2.1.2.2.2.1 (z - 1) (by omega)
      · exact Or.inl (hl1 rfl).2.1)) (fun lv2 x t2 fa2 vA vM n cn hst3 hl2 hd2 => ?_)
    -- then
    rw [be_be]
    have hC0 : (upC C 0 (n + 1)) 0 = n + 1 := upC_s
    have hst3' : STJ kd wr nm vv m z gA gM lv2 0 ((upC C 0 (n + 1)) 1) stk ((p, sg, q) :: r) (upC C 0 (n + 1)) TK SL t2 (d + 1) b fa2 vA vM := by
      rw [upC_n (by omega)]; exact hst3
    let P2 : (Nat → Nat) → Nat → Wd → Wd → Prop := fun C' t' a c => (lv2 = true → PF C t stk ((p, sg, q) :: r) obl wA wM C' t' a c) ∧ (lv2 = true → PFA stk ((p, sg, q) :: r) obl (C 0) (upC C 0 (n + 1)) t2 (n + 1) (XPR kd (hdM stk) (C 0) n (d + 1) (t + 1) t2 cn) C' t' a c)
    have hS2 : STBJ stk ((p, sg, q) :: r) obl P2 := STBJ.and (STBJ.if fun _ => hPF) (STBJ.if fun _ => PFA.stb)
    refine J.need (P := P2) hT hS2 hst3' (fun h => ⟨fun _ => (hl2 h).2.2.2.2.2.1 (hl2 h).1, fun _ => ⟨LEC.rf, Nat.le_refl _, ?_⟩⟩) (c := 16) (by omega) (fun h => (hl1 (hl2 h).1).2.1) hb (by omega) rfl (fun lv3 t3 fa3 oA oM hst4 hl3 hd3 => ?_)
    · have y9 := (hl2 h).2.2.2.2.2.2.2.2
      rw [(hl1 (hl2 h).1).2.2.1] at y9
      exact y9.wk (Nat.le_refl _) LEC.rf (Nat.le_refl _) (Or.inr (Or.inl (by omega))) (fun _ h _ => h) (fun y hy _ => ⟨y, hy, rfl⟩) (fun _ h _ => h)
    · rw [be_be]
      unfold chK
      rw [ad1_iN d]
      have hst5 := hst4.pre hT (e_put__ (a := 34) (w := oA))
      refine hin γ α wd S stkF B lv3 stk obl p sg q r (upC C 0 (n + 1)) TK SL t3 b fa3 (fX0_put__ 34 oA).2 oM P2 _ _ (fun h => absurd h (by decide)) hS2 hst5 (fun h => hS2 _ _ _ _ _ _ _ _ (hl3 h).2.2.2.2 (STEP.pre e_put__)) (fun h => ?_) hb hB (fun lv4 x4 t4 fa4 eA eM y C2 TK2 SL2 q2 hst6 hl4 hd4 => ?_)
      · obtain ⟨z1, z2, z3, z4, z5⟩ := hl3 h
        obtain ⟨w1, w2, w3, w4, w5, _⟩ := hl2 z1
        obtain ⟨v1, v2, v3, v4, v5⟩ := hl1 w1
        have hJ5 := (hst3.jl z1).2
        have hw := hT.2.2.2.2.2.2.1 t2 (by omega)
        have h3 : 3 * C 2 ≤ wr t2 := hJ5.2.2.2.2.2.1.2.2.1
        refine ⟨?_, by rw [hC0]; omega, Or.inl v2, hob.le (upC_le (by omega))⟩
        show 3 * (upC C 0 (n + 1)) 2 + 3 ≤ wr t3
        rw [upC_n (by omega), z3]
        have hwl : wlN (kd t2) = 4 := by rw [z2]; rfl
        omega
      · -- the whole's node
        have hfin : ∀ (lv' : Bool) (qq : Nat) (C' TK' : Nat → Nat) (SL' : Nat → List Nat) (t' : Nat) (fa' : Int32) (a c : Wd) (s0 : Int32) (Ψ : Wd → Wd → Prop), STJ kd wr nm vv m z gA gM lv' 0 (C' 1) stk ((p, sg, qq) :: r) C' TK' SL' t' (d + 1) (b + β) fa' a c → (lv' = true → t ≤ t' ∧ t' ≤ m ∧ LEC C C' ∧ C' 0 + 2 * t ≤ C 0 + 2 * t' ∧ C' 6 + C 4 = C' 4 + C 6 ∧ PF C t stk ((p, sg, q) :: r) obl wA wM C' t' a c ∧ FACT stk ((p, sg, qq) :: r) obl (C 0) C' t' (C' 0) Ψ a c) → (lv' = false → t' = z - 1) → (lv' = true → ∀ fA fM v, Ψ fA (si fM 44 (C' 0) v) → gi fM 7 (C' 0) = 25 → gi fM 8 (C' 0) = Int32.ofNat n → gi fM 9 (C' 0) = Int32.ofNat y → gi fM 10 (C' 0) = s0 → PLNX kd fA (si fM 44 (C' 0) v) (W fA (si fM 44 (C' 0) v)) d t t' (C' 0) stk ((p, sg, q) :: r) q qq C (upC C' 0 (C' 0 + 1))) → GLJ kd wr nm z gA gM wd lv' stkF fa' B (KA 0 a) (be (fX12_plain_201 rm s0 (Int32.ofNat t) (Int32.ofNat n) (Int32.ofNat y) c) KM) S := by
          intro lv' qq C' TK' SL' t' fa' a c s0 Ψ hs hl hdd hp
          have hSq : STBJ stk ((p, sg, qq) :: r) obl (fun C2' t2' a2' c2' => (lv' = true → PF C t stk ((p, sg, q) :: r) obl wA wM C2' t2' a2' c2') ∧ (lv' = true → PFA stk ((p, sg, qq) :: r) obl (C 0) C' t' (C' 0) Ψ C2' t2' a2' c2')) := STBJ.and (STBJ.if fun _ => PF.stb (fun _ h _ => h) (fun y hy _ => pr_same y hy) (fun _ h _ => h)) (STBJ.if fun _ => PFA.stb)
          show GLJ kd wr nm z gA gM wd lv' stkF fa' B (KA 0 a) (lt (si c 0 8 (gi c 0 8 - 1)) fun w1 => be (bn2 (fX12_node 25 (Int32.ofNat n) (Int32.ofNat y) s0 (Int32.ofNat t) w1) fun x2 w3 => some (some x2, w3)) KM) S
          refine J.dep (P := fun C2' t2' a2' c2' => (lv' = true → PF C t stk ((p, sg, q) :: r) obl wA wM C2' t2' a2' c2') ∧ (lv' = true → PFA stk ((p, sg, qq) :: r) obl (C 0) C' t' (C' 0) Ψ C2' t2' a2' c2')) hT hSq hs (fun h => ⟨fun _ => (hl h).2.2.2.2.2.1, fun _ => ⟨LEC.rf, Nat.le_refl _, (hl h).2.2.2.2.2.2⟩⟩) (d' := d) (by omega) (dep_dn hs) (fun c' hs' hl' => ?_)
          rw [m_some (x := 0) (w := c') (f := fun w => fX12_node 25 (Int32.ofNat n) (Int32.ofNat y) s0 (Int32.ofNat t) w)]
          refine spl_end (C0 := C) (t0 := t) (q := q) (W := fun fA fM => PLNX kd fA fM (W fA fM) d) (Ψ := Ψ) (P := P) hT (hS.pr (fun y hy => pr_same y hy)) hs' (fun h => ?_) hdd (fun h fA fM v hy g7 g8 g9 g10 _ _ => hp h fA fM v hy g7 g8 g9 g10) H
          obtain ⟨k1, k2, k3, k4, k5, k6, k7⟩ := hl h
          obtain ⟨j1, j2⟩ := hl' h
          exact ⟨k1, k2, k3, k4, hc, k5, hS _ _ _ _ _ _ _ _ hP (j1 h), (j2 h).2.2⟩
        -- what's known behind the first
        have hF : lv4 = true → d + 1 ≤ 40 ∧ t + 2 ≤ t2 ∧ kd t2 = 16 ∧ t3 = t2 + 1 ∧ t3 ≤ t4 ∧ t4 ≤ m ∧ LEC C C2 ∧ C2 0 + 2 * t3 ≤ n + 1 + 2 * t4 + 1 ∧ n + 1 + (t + 1) ≤ C 0 + t2 ∧ C2 6 + C 4 = C2 4 + C 6 ∧ C 0 ≤ n ∧ PF C t stk ((p, sg, q) :: r) obl wA wM C2 t4 eA eM ∧ FACT stk ((p, sg, q2) :: r) obl (C 0) C2 t4 (C2 0) (fun fA fM => XPR kd (hdM stk) (C 0) n (d + 1) (t + 1) t2 cn fA fM ∧ INS9 fM (W fA fM) (d + 1) t3 t4 y stk ((p, sg, q) :: r) q q2 (upC C 0 (n + 1)) C2) eA eM := fun h => by
          obtain ⟨o1, o2, o3, o4, o5, o6, o7, o8, o9, o10, o11⟩ := hl4 h
          obtain ⟨z1, z2, z3, z4, z5⟩ := hl3 o1
          obtain ⟨w1, w2, w3, w4, w5, _⟩ := hl2 z1
          obtain ⟨v1, v2, v3, v4, v5⟩ := hl1 w1
          rw [hC0] at o5
          rw [upC_n (by omega), upC_n (by omega)] at o6
          have f1 := (o7.2 z1).2.2.wk (lo' := C 0) (Cf' := C2) (tf' := t4) (pd' := C2 0) (stk' := stk) (prs' := (p, sg, q2) :: r) (obl' := obl) (Nat.le_refl _) o4 (by omega) (Or.inr (Or.inl (o4 0))) (fun _ h _ => h) (fun y hy _ => pr_same y hy) (fun _ h _ => h)
          have f2 := o11.wk (lo' := C 0) (Cf' := C2) (tf' := t4) (pd' := C2 0) (stk' := stk) (prs' := (p, sg, q2) :: r) (obl' := obl) (by rw [hC0]; omega) LEC.rf (Nat.le_refl _) (Or.inr (Or.inl (Nat.le_refl _))) (fun _ h _ => h) (fun y hy _ => ⟨y, hy, rfl⟩) (fun _ h _ => h)
          exact ⟨v2, by omega, z2, z3, o2, o3, (upC_le (by omega)).tr o4, o5, by omega, o6, w4, o7.1 z1, f1.and f2⟩
        rw [be_be]
        have hS4 : STBJ stk ((p, sg, q2) :: r) obl (fun C' t' a c => lv4 = true → PF C t stk ((p, sg, q) :: r) obl wA wM C' t' a c ∧ PFA stk ((p, sg, q2) :: r) obl (C 0) C2 t4 (C2 0) (fun fA fM => XPR kd (hdM stk) (C 0) n (d + 1) (t + 1) t2 cn fA fM ∧ INS9 fM (W fA fM) (d + 1) t3 t4 y stk ((p, sg, q) :: r) q q2 (upC C 0 (n + 1)) C2) C' t' a c) := STBJ.if fun _ => STBJ.and (PF.stb (fun _ h _ => h) (fun y hy _ => pr_same y hy) (fun _ h _ => h)) PFA.stb
        refine J.take (c := 17) (P := fun C' t' a c => lv4 = true → PF C t stk ((p, sg, q) :: r) obl wA wM C' t' a c ∧ PFA stk ((p, sg, q2) :: r) obl (C 0) C2 t4 (C2 0) (fun fA fM => XPR kd (hdM stk) (C 0) n (d + 1) (t + 1) t2 cn fA fM ∧ INS9 fM (W fA fM) (d + 1) t3 t4 y stk ((p, sg, q) :: r) q q2 (upC C 0 (n + 1)) C2) C' t' a c) hT hS4 hst6 (fun h _ => ⟨(hF h).2.2.2.2.2.2.2.2.2.2.2.1, LEC.rf, Nat.le_refl _, (hF h).2.2.2.2.2.2.2.2.2.2.2.2⟩) (by omega) (fun h => (hF h).1) (by omega) rfl (fun h17 sA sM hst7 hl7 => ?_) (fun h17 => ?_)
        · -- else
          obtain ⟨hlv, _, hJ6⟩ := hst6.live (by omega)
          subst hlv
          obtain ⟨g1, g2, g3, g4, g5, g6, g7, g8, g9, g10, g11, g12, g13⟩ := hF rfl
          rw [if_pos rfl, if_pos rfl, be_be]
          obtain ⟨k1, k2⟩ := hl7 rfl
          have hO : OFF PRE (fX0_patch (fX0_put__ 34 oA).1 (fX0_put__ 33 sA).2).2 sA := OFF.tr e_patch e_put__
          have hst8 := (hst7.pre hT hO).bw (b' := b) (Or.inr rfl)
          have hS5 : STBJ stk ((p, sg, q2) :: r) obl (fun C' t' a c => PF C t stk ((p, sg, q) :: r) obl wA wM C' t' a c ∧ PFA stk ((p, sg, q2) :: r) obl (C 0) C2 t4 (C2 0) (fun fA fM => XPR kd (hdM stk) (C 0) n (d + 1) (t + 1) t2 cn fA fM ∧ INS9 fM (W fA fM) (d + 1) t3 t4 y stk ((p, sg, q) :: r) q q2 (upC C 0 (n + 1)) C2) C' t' a c) := STBJ.and (PF.stb (fun _ h _ => h) (fun y hy _ => pr_same y hy) (fun _ h _ => h)) PFA.stb
          refine hin γ α wd S stkF B true stk obl p sg q2 r C2 TK2 SL2 (t4 + 1) b fa4 _ sM _ _ _ (fun h => absurd h (by decide)) hS5 hst8 (fun _ => hS5 _ _ _ _ _ _ _ _ (k2 rfl) (STEP.pre hO)) (fun _ => ?_) hb hB (fun lv5 x5 t5 fa5 iA iM y2 C3 TK3 SL3 q3 hst9 hl9 hd9 => ?_)
          · have hw := hT.2.2.2.2.2.2.1 t4 (by omega)
            have h3 : 3 * C2 2 ≤ wr t4 := hJ6.2.2.2.2.2.1.2.2.1
            have hwl : wlN (kd t4) = 4 := by rw [h17]; rfl
            exact ⟨by show 3 * C2 2 + 3 ≤ wr (t4 + 1); omega, by omega, Or.inl g1, hob.le g7⟩
          · have hO2 : OFF PRE (fX0_patch (fX0_put__ 33 sA).1 iA).2 iA := e_patch
            refine hfin lv5 q3 C3 TK3 SL3 t5 fa5 _ iM (Int32.ofNat y2) (fun fA fM => (XPR kd (hdM stk) (C 0) n (d + 1) (t + 1) t2 cn fA fM ∧ INS9 fM (W fA fM) (d + 1) t3 t4 y stk ((p, sg, q) :: r) q q2 (upC C 0 (n + 1)) C2) ∧ INS9 fM (W fA fM) (d + 1) (t4 + 1) t5 y2 stk ((p, sg, q2) :: r) q2 q3 C2 C3) (hst9.pre hT hO2) (fun h => ?_) hd9 (fun h fA fM v hy f7 f8 f9 f10 => ?_)
            · obtain ⟨o1, o2, o3, o4, o5, o6, ⟨o7, o12⟩, o8, o9, o10, o11⟩ := hl9 h
              have f1 := (o12.2.2.step o12.1 o12.2.1 (STEP.pre (t := t5) hO2)).wk (lo' := C 0) (Cf' := C3) (tf' := t5) (pd' := C3 0) (stk' := stk) (prs' := (p, sg, q3) :: r) (obl' := obl) (Nat.le_refl _) o4 (by omega) (Or.inr (Or.inl (o4 0))) (fun _ h _ => h) (fun y hy _ => pr_same y hy) (fun _ h _ => h)
              have f2 := (o11.step LEC.rf (Nat.le_refl _) (STEP.pre (t := t5) hO2)).wk (lo' := C 0) (Cf' := C3) (tf' := t5) (pd' := C3 0) (stk' := stk) (prs' := (p, sg, q3) :: r) (obl' := obl) (g7 0) LEC.rf (Nat.le_refl _) (Or.inr (Or.inl (Nat.le_refl _))) (fun _ h _ => h) (fun y hy _ => ⟨y, hy, rfl⟩) (fun _ h _ => h)
              exact ⟨by omega, o3, g7.tr o4, by omega, by omega, STEP.tr o7 (STEP.pre hO2), f1.and f2⟩
            · obtain ⟨⟨h1, h2⟩, h3⟩ := hy
              have e7 : ∀ k, k ≠ 44 → gi (si fM 44 (C3 0) v) k (C3 0) = gi fM k (C3 0) := fun k hk => gi_si1 (by omega)
              refine ⟨p, sg, q, r, rfl, Or.inr (Or.inr (Or.inr (Or.inr (Or.inl ⟨hk, by omega, (e7 7 (by omega)).trans f7, n, y, t2, t4, cn, q2, C2, (e7 8 (by omega)).trans f8, (e7 9 (by omega)).trans f9, h1, g3, by rw [← g4]; exact h2, Or.inr ⟨h17, y2, C3, (e7 10 (by omega)).trans f10, h3, rfl, rfl⟩⟩))))⟩
        · -- no else
          rw [if_neg (show ¬ (false = true) by decide), if_neg (show ¬ (false = true) by decide)]
          have hO2 : OFF PRE (fX0_patch (fX0_put__ 34 oA).1 eA).2 eA := e_patch
          refine hfin lv4 q2 C2 TK2 SL2 t4 fa4 _ eM (-1) (fun fA fM => XPR kd (hdM stk) (C 0) n (d + 1) (t + 1) t2 cn fA fM ∧ INS9 fM (W fA fM) (d + 1) t3 t4 y stk ((p, sg, q) :: r) q q2 (upC C 0 (n + 1)) C2) (hst6.pre hT hO2) (fun h => ?_) hd4 (fun h fA fM v hy f7 f8 f9 f10 => ?_)
          · obtain ⟨g1, g2, g3, g4, g5, g6, g7, g8, g9, g10, g11, g12, g13⟩ := hF h
            exact ⟨by omega, g6, g7, by omega, g10, STEP.tr g12 (STEP.pre hO2), g13.step LEC.rf (Nat.le_refl _) (STEP.pre hO2)⟩
          · obtain ⟨g1, g2, g3, g4, g5, g6, g7, g8, g9, g10, g11, g12, g13⟩ := hF h
            obtain ⟨h1, h2⟩ := hy
            have e7 : ∀ k, k ≠ 44 → gi (si fM 44 (C2 0) v) k (C2 0) = gi fM k (C2 0) := fun k hk => gi_si1 (by omega)
            refine ⟨p, sg, q, r, rfl, Or.inr (Or.inr (Or.inr (Or.inr (Or.inl ⟨hk, by omega, (e7 7 (by omega)).trans f7, n, y, t2, t4, cn, q2, C2, (e7 8 (by omega)).trans f8, (e7 9 (by omega)).trans f9, h1, g3, by rw [← g4]; exact h2, Or.inl ⟨h17, (e7 10 (by omega)).trans f10, rfl, rfl, rfl, rfl⟩⟩))))⟩
end JT
