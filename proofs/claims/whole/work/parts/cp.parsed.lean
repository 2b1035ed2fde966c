/-! BOTH SIDES: the first pass, whole: how it ends -/
section TOP
variable {kd wr nm : Nat → Nat} {vv : Nat → Int64} {m z : Nat} {gA gM : Wd}
/-- the class's end of a pass -/
def ps64 (x : Int32) (w : Wd) : Wd := fX0_set (x + 1) (Int32.toInt64 (fX5_size (fX0_put__ 51 w).2)) (fX0_put__ 51 w).2
theorem e_ps64 {x : Int32} {w : Wd} : OFF PRE (ps64 x w) w := by
  unfold ps64
  have h1 : OFF PRE (fX0_put__ 51 w).2 w := e_put__
  generalize (fX0_put__ 51 w).2 = w1 at h1 ⊢
  exact OFF.tr e_set h1
theorem a_47 {x : Int32} {w : Wd} : fX4_pass_47 x w = if fX9_kind w = 0 then some (ps64 x w) else some (ps64 x (fX9_fail w)) := by
  have h : ∀ u, fX4_pass_64 x u = some (ps64 x u) := fun u => rfl
  unfold fX4_pass_47
  rw [ltq, h, ltq, h]
/-- the class in a pass, behind the PROGRAM's head -/
def ps4 (R : TX4_block) (x : Int32) (w : Wd) : Option Wd := if fX9_kind w = 4 then (bn2 (R 0 0 0 0 w) fun _ w8 => fX4_pass_47 x w8) else fX4_pass_47 x (fX9_fail w)
theorem a_pass {bb : Bool} {w : Wd} : fX4_pass bb w = ps4 (RX4_block 900) (fX4_head 0 (fX2_clear (fX1_restart bb w))).1 (fX4_head 0 (fX2_clear (fX1_restart bb w))).2 := by
  unfold fX4_pass ps4
  generalize RX4_block 900 = R
  rw [ltq, ltq, lt2q, ltq, ltq]
/-- the first pass went through: at the end of all TOKENS; the BLOCK is node n -/
def PDONE (kd wr nm : Nat → Nat) (vv : Nat → Int64) (m z : Nat) (gA gM : Wd) (n : Nat) (uA uM : Wd) : Prop :=
  ∃ (C TK : Nat → Nat) (SL : Nat → List Nat) (q : Nat), JL kd wr nm vv m z gA gM 0 (C 1) [] [(0, 6, q)] C TK SL m 0 uA uM ∧ kd m = 0 ∧ C 6 + 1 = C 4 ∧ C 0 ≤ 2 * m + 1 ∧ n < C 0 ∧ BLKX kd uA uM (PSTX kd uA uM 41) 0 0 m n [] [(0, 6, 1)] 1 q Cb0 C
theorem parse_all {wA wM : Wd} (hT : TOKS kd wr nm vv m z wA wM) (hV : TV kd wr m wM) (hz : gi wA 4 8 = Int32.ofNat z) (hz1 : 1 ≤ z) (hk50 : ∀ i, kd i ≤ 50) (hk0 : ∀ i, z ≤ i + 1 → kd i = 0) (hti : ∀ i, i < z → gi wA 5 i = Int32.ofNat (kd i) ∧ gi wA 6 i = Int32.ofNat (wr i) ∧ wr i ≤ 8192 ∧ gi wA 8 i = 0 ∧ gi wA 9 i = 0 ∧ gi wA 10 i = Int32.ofNat i) (hf : gi wA 4 10 = -1) (hC : CLR z wA) :
    ∃ uA, fX4_pass false wA = some uA ∧ ((∃ p v, DI kd wr nm z wA [] (Int32.ofNat (wr p)) 3900 uA ∧ wr p ≤ 8192 ∧ fX12_program wM = some (none, v) ∧ gi v 0 9 = Int32.ofNat (wr p) ∧ OFF PMM v wM) ∨ ∃ n v, fX12_program wM = some (some (Int32.ofNat n), v) ∧ PDONE kd wr nm vv m z wA wM n uA v) := by
  obtain ⟨u1, h1, r1, r2, r3, r4, r5, r6, r7, r8, r9, r10, r11, r12, r13⟩ := restart_ok (w := wA) (bb := false)
  have hcl : fX2_clear u1 = si (si u1 43 4 0) 43 5 0 := rfl
  have hO1 : OFF (fun k j => k = 43) (si (si u1 43 4 0) 43 5 0) u1 := OFF.tr (OFF.si rfl) (OFF.si rfl)
  have h434 : gi (si (si u1 43 4 0) 43 5 0) 43 4 = 0 := by rw [gi_si1 (by omega), gi_si0]
  rw [a_pass, h1, hcl, prg_ok]
  generalize si (si u1 43 4 0) 43 5 0 = u2 at hO1 h434 ⊢
  have hO2 : OFF PRE (fX4_head 0 u2).2 u2 := e_head4
  generalize (fX4_head 0 u2).1 = xh
  generalize (fX4_head 0 u2).2 = yA at hO2 ⊢
  have hPp : ∀ k j, PRE k j → ¬ (k = 3 ∨ k = 4 ∨ k = 26 ∨ k = 34 ∨ k = 36 ∨ k = 38 ∨ (k = 43 ∧ j = 4)) := fun k j hk => by unfold PRE at hk; omega
  have gy : ∀ k j, (k = 3 ∨ k = 4 ∨ k = 26 ∨ k = 34 ∨ k = 36 ∨ k = 38) → gi yA k j = gi u1 k j := fun k j hk => by
    rw [(hO2 k j (fun h => hPp k j h (by omega))).1, (hO1 k j (by omega)).1]
  have hy43 : gi yA 43 4 = 0 := by rw [(hO2 43 4 (fun h => hPp _ _ h (by omega))).1]; exact h434
  have hJ : JL kd wr nm vv m z wA wM 0 0 [] [(0, 6, 1)] Cb0 (fun _ => 0) (fun _ => []) 0 0 yA (prg wM) := start_ok hT hV hz hz1 hk50 hk0 hti hf hC (OFF.tr (hO2.mono fun k j hk => by unfold PRE at hk; omega) (OFF.tr (hO1.mono fun k j hk => by omega) (r13.mono fun k j hk => by omega))) (by rw [gy 3 5 (by omega)]; exact r1) (by rw [gy 4 9 (by omega)]; exact r2) (by rw [gy 26 8 (by omega)]; exact r3) (by rw [gy 26 9 (by omega)]; exact r4) (by rw [gy 26 10 (by omega)]; exact r5) (by rw [gy 34 5 (by omega)]; exact r6) (by rw [gy 36 0 (by omega)]; exact r8) (by rw [gy 38 0 (by omega)]; exact r10) hy43
  have hin := hJ.1
  have hsm := hJ.2.1
  have hzm := hT.2.2.1
  -- where the class fails alone, the reference throws
  have hbad : ∀ (stk : List Nat) (prs : PRL) (C TK : Nat → Nat) (SL : Nat → List Nat) (t us : Nat) (a c : Wd), JL kd wr nm vv m z wA wM 0 us stk prs C TK SL t 0 a c → DI kd wr nm z wA stk (Int32.ofNat (wr t)) 2800 (ps64 xh (fX9_fail a)) := fun stk prs C TK SL t us a c h => by
    obtain ⟨f1, f2⟩ := a_fail h.1.1
    rw [FA_1] at f1
    exact (h.dead (Nat.le_refl _) (h.1.tok f2 f1) (hT.1 t) f2).pre e_ps64
  by_cases q4 : kd 0 = 4
  · -- a BLOCK
    have hz2 : 2 ≤ z := by
      have := hsm.lt (by omega)
      omega
    have hk4 : fX9_kind yA = 4 := by rw [a_kind hin.1, q4]; rfl
    unfold ps4
    rw [if_pos hk4, show 900 = (895 + 1 + 1 + 1 + 1) + 1 from rfl]
    have hA0 : ∀ w, RX4_block ((895 + 1 + 1 + 1 + 1) + 1) 0 0 0 0 w = fX4_block (RX4_block (895 + 1 + 1 + 1 + 1)) (Int32.ofNat 0) w := fun w => RB0
    have hM0 : ∀ w, RX12_block ((896 + 1 + 1 + 1) + 1) 0 0 0 0 w = fX12_block (RX12_block (896 + 1 + 1 + 1)) w := fun w => RN0
    have hPR : PRH kd wr nm vv m z wA wM := fun d β rc rc1 rm W hd hrc hSP => prc_of hT hz2 hd hrc hSP
    have hB := block_all (d := 0) (n1 := 40) (k1 := 41) (F6 := 895) (G6 := 896) hT hz2 hPR (by omega) (by omega) (by omega) (by omega)
    have key := hB Wd Int32 id (fun g y v => ∃ n, y = Int32.ofNat n ∧ PDONE kd wr nm vv m z wA wM n g v) [] 2881 [] [] 0 6 1 [] Cb0 (fun _ => 0) (fun _ => []) 0 2800 (-1) yA (prg wM) (fun _ _ _ _ => True) (fun _ w8 => fX4_pass_47 xh w8) (fun x w21 => bn2 (fX12_kind w21) fun x23 w24 => if x23 = 291 then (some (some x, w24)) else (bn (fX12_bad w24) fun w26 => some (none, w26))) (fun _ _ _ _ _ _ _ _ _ _ => trivial) (Or.inl ⟨rfl, rfl, by rw [Cb0_n (i := 1) (by omega)]; exact hJ⟩) trivial ⟨q4, by rw [Cb0_n (i := 0) (by omega)]; omega, Or.inl (by omega), by show 0 ≤ 0; omega, fun x hx => absurd hx (by simp)⟩ (by omega) (by omega) (fun lv' x t' fa' uA uM n C' TK' SL' q' h1 h2 h3 => by
      rw [a_47]
      cases lv'
      · rcases h1 with ⟨h, _⟩ | ⟨_, g2, g3⟩
        · exact absurd h (by decide)
        · have hk : fX9_kind uA = 0 := by rw [a_kind g3.1.1]; show Int32.ofNat (kd (z - 1)) = 0; rw [g3.1.zk]; rfl
          rw [if_pos hk]
          exact ⟨fun _ => ⟨_, rfl, DI.pre g3 e_ps64⟩, fun h => absurd h (by decide)⟩
      · obtain ⟨hfa, hJ'⟩ := h1.jl rfl
        obtain ⟨_, b2, b3, b4, b5, b6, _, b8, b9, b10, b11⟩ := h2 rfl
        have h50 := hJ'.2.1.1.2.2.2.1
        refine ⟨fun h => absurd h (by decide), fun _ => ?_⟩
        rw [m_kind hJ'.2.1, bn2_so, a_kind hJ'.1.1]
        by_cases q0 : kd t' = 0
        · have htm : t' = m := by
            have h1 := hJ'.2.1.1.2.2.1
            have h2 := hJ'.2.1.2.1
            by_cases q : t' < m
            · have := h1 t' q; omega
            · omega
          subst htm
          have hfx := b11.step (C := C') (C' := C') (t := t') (t' := t') LEC.rf (Nat.le_refl _) (STEP.pre (uA := ps64 xh uA) e_ps64)
          have hb := hfx.now (gi uM 44 n)
          have hsb : si uM 44 n (gi uM 44 n) = uM := by rw [← si_2 (a := 0), si_back]
          rw [hsb] at hb
          refine Or.inr ⟨ps64 xh uA, Int32.ofNat n, uM, by rw [if_pos (show Int32.ofNat (kd t') = 0 by rw [q0]; rfl)], by rw [if_pos (show Int32.ofNat (kM (kd t')) = 291 by rw [q0]; rfl)], n, rfl, C', TK', SL', q', hJ'.pre hT e_ps64, q0, ?_, ?_, b9, hb⟩
          · rw [Cb0_4, Cb0_n (i := 6) (by omega)] at b6; omega
          · rw [Cb0_n (i := 0) (by omega)] at b5; omega
        · have hne : ¬ (Int32.ofNat (kM (kd t')) = 291) := fun e => q0 ((kq h50 (t := t') (k := 0) (x := 291) rfl (by omega)).mp e)
          rw [if_neg (show ¬ (Int32.ofNat (kd t') = 0) from of_ne (n := kd t') (k := 0) (by have := h50 t'; omega) (by omega) q0), if_neg hne, m_bad hJ'.2.1, bn_so]
          have hD := hbad _ _ _ _ _ _ _ _ _ hJ'
          obtain ⟨a, c, e, TK2, SL2, ns, nsc, f, g⟩ := hD
          exact Or.inl ⟨t', _, _, rfl, ⟨a, c, e, TK2, SL2, ns, nsc, f, by omega⟩, rfl, gi_si0 _ _ _ _, hJ'.2.2.2.1.pmm (OFF.si ⟨rfl, by omega⟩)⟩)
    rw [hA0]
    have hM9 : RX12_block (895 + 1 + 1 + 1 + 1 + 1) 0 0 0 0 (prg wM) = fX12_block (RX12_block (896 + 1 + 1 + 1)) (prg wM) := hM0 _
    rw [hM9]
    rcases key.2 rfl with ⟨p, g, v, k1, k2, k3, k4, k5⟩ | ⟨g, y, v, k1, k2, n, k3, k4⟩
    · refine ⟨g, k1, Or.inl ⟨p, v, ?_, hT.1 p, k3, k4, k5⟩⟩
      obtain ⟨a, c, e, TK2, SL2, ns, nsc, f, g'⟩ := k2
      exact ⟨a, c, e, TK2, SL2, ns, nsc, f, by omega⟩
    · exact ⟨g, k1, Or.inr ⟨n, v, by rw [k2, k3], k4⟩⟩
  · -- no BLOCK
    have hk4 : ¬ (fX9_kind yA = 4) := by rw [a_kind hin.1]; exact of_ne (n := kd 0) (k := 4) (by have := hk50 0; omega) (by omega) q4
    unfold ps4
    rw [if_neg hk4, a_47]
    obtain ⟨f1, f2⟩ := a_fail hin.1
    have hk : fX9_kind (fX9_fail yA) = 0 := by
      rw [a_kind f1, hk0 (z - 1) (by omega)]
      rfl
    rw [if_pos hk]
    have hM0 : RX12_block 900 0 0 0 0 (prg wM) = fX12_block (RX12_block 899) (prg wM) := RN0 (n := 899)
    have hbl : fX12_block (RX12_block 899) (prg wM) = some (none, si (prg wM) 0 9 (Int32.ofNat (wr 0))) := by
      unfold fX12_block
      rw [m_expect_no (x := 256) (k := 4) hsm rfl (by omega) (Or.inr q4) (by omega), be_no]
    have hD := hbad _ _ _ _ _ _ _ _ _ hJ
    obtain ⟨a, c, e, TK2, SL2, ns, nsc, f, g⟩ := hD
    refine ⟨_, rfl, Or.inl ⟨0, si (prg wM) 0 9 (Int32.ofNat (wr 0)), ⟨a, c, e, TK2, SL2, ns, nsc, f, by omega⟩, hT.1 0, by rw [hM0, hbl, be_no], gi_si0 _ _ _ _, hJ.2.2.2.1.pmm (OFF.si ⟨rfl, by omega⟩)⟩⟩
end TOP
