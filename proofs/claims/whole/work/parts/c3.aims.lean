/-! BOTH SIDES: the AIMS of a switch -/
section JT
variable {kd wr nm : Nat → Nat} {vv : Nat → Int64} {m z : Nat} {gA gM : Wd} {lv : Bool} {sl us B : Nat} {stk obl stkF : List Nat} {prs : PRL} {C TK : Nat → Nat} {SL : Nat → List Nat} {t d b : Nat} {fa : Int32} {wA wM : Wd} {γ α : Type} {wd : γ → Wd} {S : γ → α → Wd → Prop} {P : (Nat → Nat) → Nat → Wd → Wd → Prop}
def aiW (x1 : Int32) (w4 : Wd) : Wd := fX0_set x1 (Int32.toInt64 (fX0_here (fX0_put__ 46 w4).2)) (fX0_put__ 46 w4).2
def aiE (a3 a4 a5 : Int32) (w : Wd) : Wd := (fX0_patch a3 (fX0_set a4 (Int32.toInt64 a5) w)).2
theorem e_aiW {x1 : Int32} {w : Wd} : OFF PRE (aiW x1 w) w := by
  unfold aiW
  have h1 : OFF PRE (fX0_put__ 46 w).2 w := e_put__
  generalize (fX0_put__ 46 w).2 = w1 at h1 ⊢
  exact OFF.tr e_set h1
theorem e_aiE {a3 a4 a5 : Int32} {w : Wd} : OFF PRE (aiE a3 a4 a5 w) w := OFF.tr e_patch e_set
theorem a_81 {k : Int32 → Int32 → Int32 → Int32 → Wd → Option Wd} {a1 a3 a4 : Int32} {j : Nat} {w : Wd} {K : Wd → Option γ} : bn (fX4_aims_81 k a1 a3 a4 (Int32.ofNat j) w) K = bn2 (RX2_typed 900 11 a1 1 0 (fX0_word 0 w).2) fun _ w4 => bn (k a1 a3 a4 (Int32.ofNat (j + 1)) (aiW (fX0_word 0 w).1 w4)) K := by
  unfold fX4_aims_81
  rw [lt2q, bn_bn2]
  refine bn2_cg fun x w4 => ?_
  rw [← ad1_iN j]
  rfl
theorem a_56 {n j base : Nat} {a1 a3 a4 : Int32} {w : Wd} {K : Wd → Option γ} (h : IN1 kd wr z w t base fa) (hj : j + 1 ≤ 8192) : bn (oX4_aims_56 (n + 1) a1 a3 a4 (Int32.ofNat (j + 1)) w) K = lt2 (fX9_take (Int32.ofNat 40) w) fun c w4 => if c = true then bn (fX4_aims_81 (oX4_aims_56 n) a1 a3 a4 (Int32.ofNat (j + 1)) w4) K else K (aiE a3 a4 (Int32.ofNat (j + 1)) w4) := by
  show bn (fX4_aims_56 (oX4_aims_56 n) a1 a3 a4 (Int32.ofNat (j + 1)) w) K = _
  unfold fX4_aims_56
  rw [if_neg (show ¬ ((8193 : Int32) ≤ Int32.ofNat (j + 1)) from nle_iN (a := 8193) (by omega) (by omega)), if_neg (show ¬ (Int32.ofNat (j + 1) = 0) from fun h => absurd ((eq_iN (a := j + 1) (b := 0) (by omega) (by omega)).mp h) (by omega)), show (40 : Int32) = Int32.ofNat 40 from rfl]
  rcases fX9_take (Int32.ofNat 40) w with ⟨_ | _, u⟩
  · dsimp only [lt2]
    rw [if_neg (show ¬ (false = true) by decide), if_neg (show ¬ (false = true) by decide)]
    rfl
  · dsimp only [lt2]
    rw [if_pos rfl, if_pos rfl]
theorem a_560 {n : Nat} {a1 a3 a4 : Int32} {w : Wd} : oX4_aims_56 (n + 1) a1 a3 a4 0 w = fX4_aims_81 (oX4_aims_56 n) a1 a3 a4 (Int32.ofNat 0) w := by
  show fX4_aims_56 (oX4_aims_56 n) a1 a3 a4 0 w = _
  unfold fX4_aims_56
  rw [if_neg (by decide), if_pos rfl]
  rfl
theorem m_s33 {k : Int32 → Int32 → Wd → Option (Option Unit × Wd)} {a2 a3 : Int32} {w : Wd} {K : Unit → Wd → Option (Option α × Wd)} : be (fX12_aSwitch_33 k a2 a3 w) K = be (RX12_variable 900 3 0 0 0 w) fun x1 w2 => be (if 0 ≤ a3 then (if inb a3 24000 = true then lt (si w2 11 (Int32.toNatClampNeg a3) x1) fun w6 => be (fX12_skip 44 w6) fun x7 w8 => if x7 = true then (k a2 x1 w8) else (some (some (), w8)) else none) else (if inb a2 5000 = true then lt (si w2 25 (Int32.toNatClampNeg a2) x1) fun w12 => be (fX12_skip 44 w12) fun x13 w14 => if x13 = true then (k a2 x1 w14) else (some (some (), w14)) else none)) K := by
  unfold fX12_aSwitch_33
  rw [be_be]
theorem sw_fin {k : Int32 → Int32 → Wd → Option (Option Unit × Wd)} {a2 x1 : Int32} {w6 : Wd} {K : Unit → Wd → Option (Option α × Wd)} : be (be (fX12_skip 44 w6) fun x7 w8 => if x7 = true then (k a2 x1 w8) else (some (some (), w8))) K = be (fX12_skip 44 w6) fun c w8 => if c = true then be (k a2 x1 w8) K else K () w8 := by
  rw [be_be]
  refine be_cg fun c w8 => ?_
  cases c
  · rw [if_neg (show ¬ (false = true) by decide), if_neg (show ¬ (false = true) by decide)]
    rfl
  · rw [if_pos rfl, if_pos rfl]
theorem PAM_am {sc : Int32} {w : Wd} : ∀ (k : Nat) {lo n d s e : Nat}, PAM kd w sc k lo n d s e → amX kd k d s = .inr e := by
  intro k
  induction k with
  | zero => exact fun h => h.elim
  | succ k ih =>
    intro lo n d s e h
    obtain ⟨_, _, _, h4⟩ := h
    unfold amX
    rcases h4 with ⟨a1, a2, _, c, y, z, e1, e2, cc, _, _, _, _, _, _, c1, c2, c3, c4, c5⟩ | ⟨a1, a2, _, x, e1, _, _, b3, b4, b5⟩ | ⟨a1, a2, a3, _, _, x, e1, cx, _, _, b3, b4, b5⟩ | ⟨a1, a2, _, a4⟩
    · rw [if_pos a1, if_neg (by omega), PWR_xw k c1]
      dsimp only
      rw [if_pos c2, ih c3]
      dsimp only
      rw [if_pos c4, ih c5]
    · rw [if_neg (by omega), if_pos a1, if_neg (by omega), ih b3]
      dsimp only
      rw [if_pos b4, b5]
    · rw [if_neg (by omega), if_neg (by omega), if_pos a1, if_pos a2, if_neg (by omega), PWR_xw k b3]
      dsimp only
      rw [if_pos b4, b5]
    · rw [if_neg (by omega), if_neg (by omega), if_pos a1, if_neg a2, a4]
/-- one of the AIMS -/
def AIX (kd : Nat → Nat) (sc : Int32) (d : Nat) (fA fM : Wd) (lo x s e lo' : Nat) : Prop := XAM kd sc lo x d s e fA fM ∧ lo' = x + 1
theorem aims_loop (hT : TOKS kd wr nm vv m z gA gM) {t0 lo0 s0 us i0 s : Nat} {C0 C1 : Nat → Nat} {wA0 wM0 : Wd} {KA : Wd → Option γ} {KM : Unit → Wd → Option (Option α × Wd)} {x3 x4 : Int32} {Q : Prop} {R : Wd → Wd → Prop} (hR1 : ∀ C t wA wM C' t' uA uM, C 1 = i0 + 1 → s0 ≤ t → R wA wM → STEP C t (s :: stk) prs [] wA wM C' t' uA uM → R uA uM) (hR2 : ∀ wA wM k j x, k = 25 ∨ k = 11 → R wA wM → R wA (si wM k j x)) (hd41 : d ≤ 41) (hb : 2800 ≤ b) (hi5 : i0 < 5000) (hus : us = i0) (hC1 : C1 1 = i0 + 1) (hC01 : C0 1 = i0) (hlo0 : C0 0 ≤ lo0)
    (HX : ∀ lv' t' fa' uA uM C' xs, STJ kd wr nm vv m z gA gM lv' 0 us (s :: stk) prs C' TK SL t' d b fa' uA uM → (lv' = true → Q ∧ t0 < t' ∧ t' ≤ m ∧ xs ≠ [] ∧ C' 0 + 2 * t0 ≤ C0 0 + 2 * t' ∧ (∀ i, i ≠ 0 → C' i = C1 i) ∧ STEP C0 t0 (s :: stk) prs obl wA0 wM0 C' t' uA uM ∧ kd t' ≠ 40 ∧ gi uM 25 i0 = Int32.ofNat (xs.headD 0) ∧ R uA uM ∧ FACT (s :: stk) prs obl lo0 C' t' (C' 0) (fun fA fM => CHNW kd fM 40 (AIX kd (hdM (s :: stk)) d fA fM) xs lo0 s0 t' (C' 0)) uA uM) → (lv' = false → t' = z - 1) → GLJ kd wr nm z gA gM wd lv' stkF fa' B (KA uA) (KM () uM) S)
    {fo fm : Nat} : ∀ (n : Nat) (lv : Bool) (C : Nat → Nat) (t : Nat) (fa : Int32) (wA wM : Wd) (a3 : Int32) (xs : List Nat) (xl : Nat), z ≤ t + n → xs.length + 1 ≤ t → STJ kd wr nm vv m z gA gM lv 0 us (s :: stk) prs C TK SL t d b fa wA wM → (lv = true → d ≤ 40) → (xs = [] → a3 = -1) → (xs ≠ [] → a3 = Int32.ofNat xl) →
      (xs = [] → lv = true → C 0 = lo0 ∧ t = s0) → (lv = true → (Q ∧ t0 < t) ∧ C 0 + 2 * t0 ≤ C0 0 + 2 * t ∧ lo0 ≤ C 0 ∧ (xs ≠ [] → lo0 ≤ xl ∧ xl < C 0) ∧ (∀ i, i ≠ 0 → C i = C1 i) ∧ STEP C0 t0 (s :: stk) prs obl wA0 wM0 C t wA wM ∧ (xs ≠ [] → gi wM 25 i0 = Int32.ofNat (xs.headD 0)) ∧ (R wA wM ∧ s0 ≤ t) ∧ FACT (s :: stk) prs obl lo0 C t xl (fun fA fM => CHK kd 40 (AIX kd (hdM (s :: stk)) d fA fM) lo0 s0 xs xl (C 0) t fM) wA wM) → (lv = false → t = z - 1) →
      GLJ kd wr nm z gA gM wd lv stkF fa B (bn (fX4_aims_81 (oX4_aims_56 (fo + n + 1)) (Int32.ofNat d) x3 x4 (Int32.ofNat xs.length) wA) fun w => KA w) (be (fX12_aSwitch_33 (oX12_aSwitch_33 (fm + n)) (Int32.ofNat i0) a3 wM) KM) S := by
  intro n
  induction n with
  | zero =>
    intro lv C t fa wA wM a3 xs xl hz hj hst
    have := hst.in1.tz
    omega
  | succ n ih =>
    intro lv C t fa wA wM a3 xs xl hz hj hst hd40 ha0 ha1 hn0 hl hdd
    have hin := hst.in1
    have htz := hin.tz
    have hz9 := hin.z9
    rw [a_81, m_s33]
    have hOw : OFF PRE (fX0_word 0 wA).2 wA := e_word
    refine J.aim (P := fun C' t' a c => lv = true → PF C t (s :: stk) prs [] (fX0_word 0 wA).2 wM C' t' a c) (obl := []) hT (STBJ.if fun _ => PF.st0) (hst.pre hT hOw) (fun _ _ => STEP.rf) ⟨by omega, hd40⟩ hb (by omega) (fun lv1 x t2 fa2 vA vM y hst1 hl1 hd1 => ?_)
    have hin2 := hst1.in1
    have hO2 : OFF PRE (aiW (fX0_word 0 wA).1 vA) vA := e_aiW
    generalize aiW (fX0_word 0 wA).1 vA = yA at hO2 ⊢
    have hst2 := hst1.pre hT hO2
    rw [show fo + (n + 1) + 1 = (fo + n + 1) + 1 by omega, a_56 hst2.in1 (by omega)]
    cases lv1
    · have ht2 := hd1 rfl
      refine GLJ.ref (rM' := KM () vM) (fun h => absurd h (by decide)) ?_
      have hOe : OFF PRE (aiE x3 x4 (Int32.ofNat (xs.length + 1)) yA) yA := e_aiE
      rw [a_take_no hst2.in1.1 (by omega) (by rw [ht2]; have := hin2.1.2.2.2.1 (z - 1) (by omega); omega), lt2q, if_neg (show ¬ (false = true) by decide)]
      exact HX false t2 fa2 _ vM _ (xs ++ [y]) (hst2.pre hT hOe) (fun h => absurd h (by decide)) hd1
    · obtain ⟨w1, w2, w3, w4, w5, w6, w7, w8⟩ := hl1 rfl
      have u1 := w6 w1
      obtain ⟨⟨y0, y1⟩, y2, y3, y4, y5, y6, y7, ⟨yR, ys0⟩, y8⟩ := hl w1
      have hJ2 := (hst1.jl rfl).2
      have hC1s : (upC C 0 (y + 1)) 0 = y + 1 := upC_s
      have hC1n : ∀ i, i ≠ 0 → (upC C 0 (y + 1)) i = C1 i := fun i i0 => by rw [upC_n i0, y5 i i0]
      have hhd : (xs ++ [y]).headD 0 = if xs = [] then y else xs.headD 0 := by
        cases xs with
        | nil => rfl
        | cons a r => rfl
      have hy24 : y < 24000 := by have := hJ2.2.2.2.2.2.1.1; have := hJ2.2.1.1.1; rw [upC_s] at *; omega
      have hLC : LEC C (upC C 0 (y + 1)) := upC_le (by omega)
      have hstw : STEP C t (s :: stk) prs obl wA wM (upC C 0 (y + 1)) t2 vA vM := STEP.tr (STEP.pre hOw) u1.ob
      have hb1 : STEP C0 t0 (s :: stk) prs obl wA0 wM0 (upC C 0 (y + 1)) t2 yA vM := STEP.tr (STEP.tr y6 hstw) (STEP.pre hO2)
      have hpam := w8.now
      have hRv : R yA vM := hR1 (upC C 0 (y + 1)) t2 _ _ _ _ _ _ (by rw [hC1n 1 (by omega), hC1]) (by omega) (hR1 C t _ _ _ _ _ _ (by rw [y5 1 (by omega), hC1]) ys0 (hR1 C t _ _ _ _ _ _ (by rw [y5 1 (by omega), hC1]) ys0 yR (STEP.pre hOw)) u1) (STEP.pre (t := t2) hO2)
      have hchk : FACT (s :: stk) prs obl lo0 C t xl (fun fA fM => CHK kd 40 (AIX kd (hdM (s :: stk)) d fA fM) lo0 s0 xs xl (C 0) t fM) yA vM := (y8.step LEC.rf (Nat.le_refl _) (STEP.tr hstw (STEP.pre hO2)))
      have o25 : xs ≠ [] → gi vM 25 i0 = Int32.ofNat (xs.headD 0) := fun h => ((u1.2.2.2.1 25 i0 (Or.inr (Or.inr (Or.inr (Or.inr (Or.inl ⟨by omega, by omega, by rw [y5 1 (by omega), hC1]; omega⟩)))))).1).trans (y7 h)
      have hgo : ∀ wM', STJ kd wr nm vv m z gA gM true 0 us (s :: stk) prs (upC C 0 (y + 1)) TK SL t2 d b fa2 yA wM' → OFF (fun k j => (xs ≠ [] ∧ k = 11 ∧ j = xl) ∨ (xs = [] ∧ k = 25 ∧ j = i0)) wM' vM → (xs ≠ [] → gi wM' 11 xl = Int32.ofNat y) → gi wM' 25 i0 = Int32.ofNat ((xs ++ [y]).headD 0) → R yA wM' → GLJ kd wr nm z gA gM wd true stkF fa2 B (lt2 (fX9_take (Int32.ofNat 40) yA) fun c w4 => if c = true then bn (fX4_aims_81 (oX4_aims_56 (fo + n + 1)) (Int32.ofNat d) x3 x4 (Int32.ofNat (xs.length + 1)) w4) (fun w => KA w) else KA (aiE x3 x4 (Int32.ofNat (xs.length + 1)) w4)) (be (fX12_skip 44 wM') fun c w8 => if c = true then be (oX12_aSwitch_33 (fm + (n + 1)) (Int32.ofNat i0) (Int32.ofNat y) w8) KM else KM () w8) S := by
        intro wM' hst3 hO hset h25 hRw
        have hne : xs ≠ [] → xl ≠ y := fun h => by have := y4 h; omega
        have hS2 : STEP C0 t0 (s :: stk) prs obl wA0 wM0 (upC C 0 (y + 1)) t2 yA wM' := by
          refine ⟨hb1.1, hb1.2.1, hb1.2.2.1, fun k j hk => ?_, hb1.2.2.2.2.tr (EXF.off hO (fun k j hk => by omega))⟩
          have h1 := hb1.2.2.2.1 k j hk
          have h2 := hO k j (fun hq => by
            rcases hq with hq | hq
            · have := y4 hq.1
              rcases hk with hk | hk | hk | hk | hk | hk | hk | hk | hk <;> omega
            · rcases hk with hk | hk | hk | hk | hk | hk | hk | hk | hk <;> omega)
          exact ⟨h2.1.trans h1.1, h2.2.trans h1.2⟩
        have h11 : gi wM' 11 y = -1 := (hO 11 y (fun hq => by
          rcases hq with hq | hq
          · exact hne hq.1 hq.2.2.symm
          · omega)).1.trans w7
        have hpam' : PAM kd wM' (hdM (s :: stk)) 41 (C 0) y d t t2 := (PAM.agr 41 wM' vM _ _ _ _ _ hpam.2).2 (fun k j hk hl' hj => (hO k j (fun hq => by
          rcases hq with hq | hq
          · have := y4 hq.1; omega
          · omega)).1)
        have hF : FACT (s :: stk) prs obl lo0 (upC C 0 (y + 1)) t2 y (fun fA fM => CHK kd 40 (AIX kd (hdM (s :: stk)) d fA fM) lo0 s0 xs xl (C 0) t fM ∧ AIX kd (hdM (s :: stk)) d fA fM (C 0) y t t2 (y + 1) ∧ (xs ≠ [] → gi fM 11 xl = Int32.ofNat y)) yA wM' := fun fA fM hA hM hE => by
          refine ⟨?_, ⟨⟨fmA_agr 41 d t t2 (PAM_am 41 hpam.2) hpam.1 (fun k j a b _ c => (hA k j (Or.inr (Or.inr (Or.inl ⟨a, b, c⟩)))).trans (hO2 k j (by unfold PRE; omega)).1), (PAM.agr 41 fM wM' _ _ _ _ _ hpam').2 (AGR.ext (hM.wk (lo := C 0) (C := upC C 0 (y + 1)) (pd := y) y3 LEC.rf (Or.inl rfl)) (by rw [hC1s]; omega))⟩, rfl⟩, fun h => ?_⟩
          · by_cases q : xs = []
            · obtain ⟨e1, e2⟩ := hn0 q w1
              rw [q, e1, e2]
              exact CHK.nil
            · have hM2 : EXTL lo0 C (s :: stk) prs obl xl vM fM := fun k j hk => by
                have hk' := (hM.wk (lo := lo0) (C := C) (pd := xl) (Nat.le_refl _) hLC (Or.inr (Or.inl (by omega)))) k j hk
                have h2 := hO k j (fun hq => by
                  rcases hq with hq | hq
                  · rcases hk with hk | hk | hk | hk | hk | hk | hk | hk | hk <;> omega
                  · exact q hq.1)
                exact ⟨hk'.1.trans h2.1, hk'.2.trans h2.2⟩
              exact hchk fA fM (EXTA.wk hA hLC (by omega) (fun _ h _ => h)) hM2 ((EXF.off hO (fun k j hk => by omega)).tr hE)
          · rw [(hM 11 xl (Or.inr (Or.inl ⟨rfl, (y4 h).1, by rw [hC1s]; have := y4 h; omega, hne h⟩))).1]
            exact hset h
        refine J.take (c := 40) (P := fun C' t' a c => PF C0 t0 (s :: stk) prs obl wA0 wM0 C' t' a c ∧ PFA (s :: stk) prs obl lo0 (upC C 0 (y + 1)) t2 y (fun fA fM => CHK kd 40 (AIX kd (hdM (s :: stk)) d fA fM) lo0 s0 xs xl (C 0) t fM ∧ AIX kd (hdM (s :: stk)) d fA fM (C 0) y t t2 (y + 1) ∧ (xs ≠ [] → gi fM 11 xl = Int32.ofNat y)) C' t' a c ∧ PF (upC C 0 (y + 1)) t2 (s :: stk) prs [] yA wM' C' t' a c) (obl := []) hT (STBJ.and PF.st0.ob (STBJ.and PFA.ob PF.st0)) hst3 (fun _ => ⟨hS2, ⟨LEC.rf, Nat.le_refl _, hF⟩, STEP.rf⟩) (by omega) (fun _ => hd40 w1) (by omega) rfl (fun h40 sA sM hst4 hl4 => ?_) (fun h40 => ?_)
        · obtain ⟨k1, k2, k3, k4⟩ := hl4 rfl
          rw [if_pos rfl, if_pos rfl]
          have e3 : ∀ a3 w, oX12_aSwitch_33 (fm + (n + 1)) (Int32.ofNat i0) a3 w = fX12_aSwitch_33 (oX12_aSwitch_33 (fm + n)) (Int32.ofNat i0) a3 w := fun _ _ => rfl
          rw [e3]
          have hlen : (xs ++ [y]).length = xs.length + 1 := by simp
          have hgi : gi sM 25 i0 = Int32.ofNat ((xs ++ [y]).headD 0) := ((k4.2.2.2.1 25 i0 (Or.inr (Or.inr (Or.inr (Or.inr (Or.inl ⟨by omega, by omega, by rw [hC1n 1 (by omega), hC1]; omega⟩)))))).1).trans h25
          have := ih true (upC C 0 (y + 1)) (t2 + 1) fa2 sA sM (Int32.ofNat y) (xs ++ [y]) y (by omega) (by rw [hlen]; omega) hst4 (fun _ => hd40 w1) (fun h => by simp at h) (fun _ => rfl) (fun h => by simp at h) (fun _ => ⟨⟨y0, by omega⟩, by rw [hC1s]; omega, by rw [hC1s]; omega, fun _ => ⟨by omega, by rw [hC1s]; omega⟩, hC1n, k2, fun _ => hgi, ⟨hR1 (upC C 0 (y + 1)) t2 _ _ _ _ _ _ (by rw [hC1n 1 (by omega), hC1]) (by omega) hRw k4, by omega⟩, ?_⟩) (fun h => absurd h (by decide))
          · rw [hlen] at this
            exact this
          · exact (k3.2.2.wk (Nat.le_refl _) LEC.rf (by omega) (Or.inl rfl) (fun _ h _ => h) (fun y hy _ => ⟨y, hy, rfl⟩) (fun _ h _ => h)).imp (fun fA fM hh => by
              rw [hC1s]
              exact hh.1.next hh.2.2 hh.2.1 h40)
        · rw [if_neg (show ¬ (false = true) by decide), if_neg (show ¬ (false = true) by decide)]
          have hOe : OFF PRE (aiE x3 x4 (Int32.ofNat (xs.length + 1)) yA) yA := e_aiE
          refine HX true t2 fa2 _ wM' _ (xs ++ [y]) (hst3.pre hT hOe) (fun _ => ⟨y0, by omega, w3, by simp, by rw [hC1s]; omega, hC1n, STEP.tr hS2 (STEP.pre hOe), h40, h25, hR1 (upC C 0 (y + 1)) t2 _ _ _ _ _ _ (by rw [hC1n 1 (by omega), hC1]) (by omega) hRw (STEP.pre hOe), ?_⟩) (fun h => absurd h (by decide))
          have h1 : FACT (s :: stk) prs obl lo0 (upC C 0 (y + 1)) t2 ((upC C 0 (y + 1)) 0) (fun _ fM => gi fM 11 y = -1) yA wM' := fun fA fM hA hM hE => (hM 11 y (Or.inr (Or.inl ⟨rfl, by omega, by rw [hC1s]; omega, by rw [hC1s]; omega⟩))).1.trans h11
          have h2 := hF.wk (lo' := lo0) (Cf' := upC C 0 (y + 1)) (tf' := t2) (pd' := (upC C 0 (y + 1)) 0) (stk' := s :: stk) (prs' := prs) (obl' := obl) (Nat.le_refl _) LEC.rf (Nat.le_refl _) (Or.inr (Or.inl (Nat.le_refl _))) (fun _ h _ => h) (fun y hy _ => ⟨y, hy, rfl⟩) (fun _ h _ => h)
          exact ((h2.and h1).step LEC.rf (Nat.le_refl _) (STEP.pre (t := t2) hOe)).imp (fun fA fM hh => by
            rw [hC1s]
            exact hh.1.1.end hh.1.2.2 hh.1.2.1 hh.2)
      by_cases q : xs = []
      · rw [ha0 q, if_neg (show ¬ ((0 : Int32) ≤ -1) by decide), if_pos (inb_iN hi5 (by omega)), tc_iN (by omega)]
        have hse : ∀ f : Wd → Option (Option Unit × Wd), be (lt (si vM 25 i0 (Int32.ofNat y)) f) KM = lt (si vM 25 i0 (Int32.ofNat y)) fun w => be (f w) KM := fun _ => rfl
        rw [hse]
        refine J.setM (obl := []) (P := fun _ _ _ _ => True) hT (fun _ _ _ _ _ _ _ _ _ _ => trivial) hst2 (fun _ => trivial) (fun _ => Or.inr (Or.inr (Or.inl ⟨rfl, by rw [hC1n 1 (by omega), hC1]; omega, by omega⟩))) (fun _ => trivial) (fun hst3 => ?_)
        rw [sw_fin]
        exact hgo _ hst3 (OFF.si (Or.inr ⟨q, rfl, rfl⟩)) (fun h => absurd q h) (by rw [hhd, if_pos q]; exact gi_si0 _ _ _ _) (hR2 _ _ _ _ _ (Or.inl rfl) hRv)
      · have hxl := y4 q
        rw [ha1 q, if_pos (zl_iN (by omega)), if_pos (inb_iN (by omega) (by omega)), tc_iN (by omega)]
        have hse : ∀ f : Wd → Option (Option Unit × Wd), be (lt (si vM 11 xl (Int32.ofNat y)) f) KM = lt (si vM 11 xl (Int32.ofNat y)) fun w => be (f w) KM := fun _ => rfl
        rw [hse]
        refine J.setM (obl := []) (P := fun _ _ _ _ => True) hT (fun _ _ _ _ _ _ _ _ _ _ => trivial) hst2 (fun _ => trivial) (fun _ => Or.inr (Or.inr (Or.inr rfl))) (fun _ => trivial) (fun hst3 => ?_)
        rw [sw_fin]
        exact hgo _ hst3 (OFF.si (Or.inl ⟨q, rfl, rfl⟩)) (fun _ => gi_si0 _ _ _ _) (by rw [gi_si1 (by omega), hhd, if_neg q]; exact o25 q) (hR2 _ _ _ _ _ (Or.inr rfl) hRv)
end JT
