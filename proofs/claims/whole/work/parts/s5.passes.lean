/-! THE SECOND PASS OF BOTH SIDES, whole -/
section SF5
variable {kd wr nm TK ph : Nat → Nat} {vv : Nat → Int64} {m z n q : Nat} {C : CV} {SL : Nat → List Nat} {gA gM uA uM : Wd} {pi : Nat → PIF}
/-- procedures j .. j + k - 1, as codeOf goes over them -/
def prW (uM : Wd) (pi : Nat → PIF) (nn : Nat → (Nat → Nat) × List Nat) : Nat → Nat → List PRE8
  | 0, _ => []
  | k + 1, j => ((pi j).1.1, (pi j).2.1, PPR uM j ((nn j).1 8 + 1) ((nn j).1 0) ((nn j).1 2) (pi j).2.2.2) :: prW uM pi nn k (j + 1)
theorem prW_T {nn : Nat → (Nat → Nat) × List Nat} : ∀ k j, prsT (prW uM pi nn k j) = rsm (fun j => (pi j).1.1) j (j + k) := by
  intro k
  induction k with
  | zero => intro j; rw [rsm_z (by omega)]; rfl
  | succ k ih =>
    intro j
    show (pi j).1.1 + prsT (prW uM pi nn k (j + 1)) = _
    rw [ih, rsm_two (f := fun j => (pi j).1.1) (show j ≤ j + 1 by omega) (show j + 1 ≤ j + (k + 1) by omega), rsm_one, show j + 1 + k = j + (k + 1) by omega]
theorem prW_L {nn : Nat → (Nat → Nat) × List Nat} : ∀ k j, prsL (prW uM pi nn k j) = prF pi j (j + k) := by
  intro k
  induction k with
  | zero => intro j; rw [prF_z (by omega)]; rfl
  | succ k ih =>
    intro j
    show (pi j).2.1 ++ prsL (prW uM pi nn k (j + 1)) = _
    rw [ih, prF_two (show j ≤ j + 1 by omega) (show j + 1 ≤ j + (k + 1) by omega), prF_s (Nat.le_refl j), prF_z (Nat.le_refl j), List.nil_append, show j + 1 + k = j + (k + 1) by omega]
theorem prW_P {nn : Nat → (Nat → Nat) × List Nat} {g : Wd} : ∀ k j, prsP (prW uM pi nn k j) g → ∀ i, j ≤ i → i < j + k → PPR uM i ((nn i).1 8 + 1) ((nn i).1 0) ((nn i).1 2) (pi i).2.2.2 g := by
  intro k
  induction k with
  | zero => exact fun j _ i a b => absurd b (by omega)
  | succ k ih =>
    intro j h i a b
    by_cases c : i = j
    · subst c; exact h.1
    · exact ih (j + 1) h.2 i (by omega) (by omega)
theorem prW_S {nn : Nat → (Nat → Nat) × List Nat} : ∀ k j, (∀ i, j ≤ i → i < j + k → PRQ kd wr m uM i (pi i).1.1 (pi i).2.1 (PPR uM i ((nn i).1 8 + 1) ((nn i).1 0) ((nn i).1 2) (pi i).2.2.2)) → gi uM 0 53 = Int32.ofNat (j + k) → prsS kd wr m uM (prW uM pi nn k j) j := by
  intro k
  induction k with
  | zero => exact fun j _ h => h
  | succ k ih => exact fun j h h53 => ⟨h j (Nat.le_refl _) (by omega), ih (j + 1) (fun i a b => h i (by omega) (by omega)) (by rw [h53]; congr 1; omega)⟩
theorem prW_len {nn : Nat → (Nat → Nat) × List Nat} : ∀ k j, (prW uM pi nn k j).length = k := by
  intro k
  induction k with
  | zero => exact fun _ => rfl
  | succ k ih => exact fun j => by show (prW uM pi nn k (j + 1)).length + 1 = _; rw [ih]
/-- the second pass of both: the class in v, the reference in u -/
def TWO (kd wr nm TK ph : Nat → Nat) (m n q : Nat) (C : CV) (SL : Nat → List Nat) (uA uM v u : Wd) (SG : Nat → Nat) (pi : Nat → PIF) (nn : Nat → (Nat → Nat) × List Nat) (T F a' sz' : Nat) (c' : Nat → Nat) (PA : Nat → Nat → Nat → Wd → Prop) (PM : Nat → Nat → Nat → Nat → Wd → Prop) (LA LM : List (Nat × Int32)) : Prop :=
  (fX4_pass true uA = some v ∧ fX12_codeOf (Int32.ofNat n) uM = some u) ∧
  (FLA v = FNL wr LA (FLA uA) ∧ FLM u = FNL wr (LM ++ prF pi 1 (C 4)) (FLM uM) ∧ FAU (FLA v) (FLM u) ∧ (∀ x ∈ LA, x.2 ≠ 0) ∧ ∀ x ∈ LM ++ prF pi 1 (C 4), x.2 ≠ 0) ∧
  (gi v 40 1 = Int32.ofNat (a' + 1) ∧ a' < 36872 ∧ sz' ≤ SZf uM ∧ gl v 41 0 = Int32.toInt64 (Int32.ofNat (C 1 + 1)) ∧ gl v 41 (C 1 + 2) = Int32.toInt64 (Int32.ofNat sz') ∧ PA (C 1 + 3) a' sz' v ∧ gl v 41 a' = wdC 51 0 0 ∧ OFF (fun k j => FS2 0 0 0 (C 1) k j ∨ (k = 3 ∧ j = 5) ∨ k = 26 ∨ (34 ≤ k ∧ k ≤ 40) ∨ k = 43) v uA) ∧
  (OFF PGM u uM ∧ (c' 0 < 60000 ∧ c' 1 < 6000 ∧ c' 2 < 4300 ∧ c' 3 < 6000 ∧ c' 4 < 24000) ∧ TGW kd wr m uM c' u ∧ ∀ g, SAT uM 0 (C 4) (fun _ => 0) c' g u → (∃ b q', PM 0 q b q' g ∧ opW g b 0 0 0 0 ∧ gi g 35 0 = Int32.ofNat q' ∧ b < 60000) ∧ ∀ j, 1 ≤ j → j < C 4 → PPR uM j ((nn j).1 8 + 1) ((nn j).1 0) ((nn j).1 2) (pi j).2.2.2 g) ∧
  (∀ j, 1 ≤ j → j < C 4 → PIS kd wr nm TK SG m C SL uA uM (C 2) (C 1) (SZf uM) (pi j) (nn j).1 (nn j).2 j) ∧
  (LM = [] → RCD nm TK SG SL uA uM (C 2) (C 1) (SZf uM) 0 0 2 [] Cb0 C pi PA PM) ∧
  (T + rsm (fun j => (pi j).1.1) 1 (C 4) ≤ wr m - wr 0 ∧ 10 * C 3 + 9 * (F + rsm (fun j => (pi j).1.2) 1 (C 4)) + 2 * C 5 ≤ ph m - ph 0) ∧
  (∀ E : SENV, EQJ E nm TK SG SL uA uM (C 2) (C 1) [] 0 0 2 → LM = [] → SYS E → SPM E F PA PM) ∧
  ∀ (E : SENV) (s0 Lim : Nat), EQJ E nm TK SG SL uA uM (C 2) (C 1) [] 0 0 2 → q ≤ s0 → LM = [] → SOK E Lim → SPQ E Lim [] 0 6 1 s0 PA PM
theorem both_two (hT : TOKS kd wr nm vv m z gA gM) (hJ : JL kd wr nm vv m z gA gM 0 (C 1) [] [(0, 6, q)] C TK SL m 0 uA uM) (h0 : C 0 ≤ 2 * m + 1) (hn : n < C 0) (hB : BLKX kd uA uM (PSTX kd uA uM 41) 0 0 m n [] [(0, 6, 1)] 1 q Cb0 C) (hkm : kd m = 0) (hPH : PHW kd ph m) (h84 : gi uM 0 84 = 0) :
    ∃ v u SG pi nn T F a' sz' c' PA PM LA LM, TWO kd wr nm TK ph m n q C SL uA uM v u SG pi nn T F a' sz' c' PA PM LA LM := by
  obtain ⟨hCT, hMC, hO, h30, hC5, hCSC⟩ := pd_mc hT hJ h0 hB hkm hPH
  obtain ⟨w1, w2, hLE, w4⟩ := pd_walk hB
  have hTB := hCT.1
  have e0 : Cb0 0 = 0 := Cb0_n (by decide)
  have e1 : Cb0 1 = 0 := Cb0_n (by decide)
  have e2 : Cb0 2 = 0 := Cb0_n (by decide)
  have e3 : Cb0 3 = 0 := Cb0_n (by decide)
  have e4 : Cb0 4 = 1 := Cb0_4
  have e5 : Cb0 5 = 0 := Cb0_n (by decide)
  have e7 : Cb0 7 = 0 := Cb0_n (by decide)
  obtain ⟨SG, hSG, hBG⟩ := blkg_of hB
  have hSG : SG (Cb0 2) = 6 := hSG
  have hc0 := hTB.2.2.2.1
  obtain ⟨⟨_, _, hns4, hcf3, hSZ1, h53⟩, _⟩ := id hMC
  have hW : WAL kd uA uM (PSTG kd uA uM SG 41) := ⟨41, fun _ _ _ _ _ _ _ _ _ _ h => pstg_x 41 _ _ _ _ _ _ _ _ _ _ h⟩
  obtain ⟨T, F, hJB⟩ := jm_blk0 (SG := SG) (kp := 2) (N := 200) (F0 := 900) hMC hW (mih hMC 41) (rfl : 0 = ([] : PRL).length) hCT (by omega) (Nat.le_refl 0) h30 (by omega) (fun t ht => absurd ht (by simp)) (fun t ht => absurd ht (by simp)) (by simp) (fun t ht => absurd ht (by simp)) hO ⟨Nat.le_refl _, by omega⟩ LEC.rf (fun _ => rfl) (by omega) (Nat.le_refl m) (by omega) (by omega) (by omega) hSG hBG
  rw [JBK, e1, e2, e3] at hJB
  obtain ⟨⟨hq, hTm⟩, PA, PM, LA, LM, hSSC, hEST, hR, hmon, hsim⟩ := hJB
  obtain ⟨pi, r1, r2, r3, r4, r5, r6⟩ := hR
  rw [e4] at r1 r2 r3 r5
  rw [e3, e5] at r5
  obtain ⟨hTs, hJ'⟩ := And.intro hT hJ
  obtain ⟨j1, j2, j3, j4, j5, ⟨k1, k2, k3, k4, k5, k6, k7, k8⟩, j7, j8, j9, ⟨_, _, _, _, _, _, j12⟩, j11, _, j13, j14, j15⟩ := hJ'
  obtain ⟨t1, t2, t3, t4, t5, t6, t7, t8, t9⟩ := hTs
  have hw := t1 m
  have hk4 : kd 0 = 4 := by
    obtain ⟨p, sg, q0, r, hp, b2, b3, _⟩ := hB
    exact b3
  have h8n : gi uM 8 n = Int32.ofNat 0 := by
    obtain ⟨p, sg, q0, r, hp, b2, b3, b4, b5, _⟩ := hB
    rw [b5, e3]
  -- procedures
  have hex : ∀ j, ∃ y : (Nat → Nat) × List Nat, 1 ≤ j → j < C 4 → PIS kd wr nm TK SG m C SL uA uM (C 2) (C 1) (SZf uM) (pi j) y.1 y.2 j := fun j => by
    by_cases c : 1 ≤ j ∧ j < C 4
    · obtain ⟨a, b, h⟩ := r1 j c.1 c.2
      exact ⟨(a, b), fun _ _ => h⟩
    · exact ⟨(fun _ => 0, []), fun a b => absurd ⟨a, b⟩ c⟩
  obtain ⟨nn, hnn⟩ := Classical.skolem.mp hex
  have h4le : 1 ≤ C 4 := by have := hLE 4; omega
  -- the reference
  obtain ⟨u, c', u1, u2, u3, u4, u5, u6⟩ := code_all (Tm := T + 1) (q0 := q) (l := prW uM pi nn (C 4 - 1) 1) (P := PM) (Lm := LM) (i0 := 0) (i1 := C 1) hTB.2.1 h84 (show n < 24000 by omega) h8n j13.2.1 (by have := j13.2.2.2.2.2.2.2.2.1; omega) (fun c w hG hf => by
    obtain ⟨u, c', x1, x2⟩ := hEST c w hG (by unfold FITS at hf ⊢; omega)
    exact ⟨u, c', x1, x2.wk (fun _ _ _ _ _ g => g) (by omega)⟩) (Nat.zero_le _) (prW_S (C 4 - 1) 1 (fun i a b => by
      obtain ⟨_, _, _, _, p5, _⟩ := hnn i a (by omega)
      exact p5) (by rw [h53]; congr 1; omega)) (by rw [prW_len]; omega) (by rw [prW_T, show 1 + (C 4 - 1) = C 4 by omega]; omega) ⟨C 1, hTB.1.2.1, Nat.le_refl _, by omega⟩
  rw [prW_L, show 1 + (C 4 - 1) = C 4 by omega] at u3
  -- the class
  obtain ⟨v, a', sz', v1, v2, v3, v4, v5, v6, v7, v8, v9, v10, v11⟩ := pass2 (SZ := SZf uM) j1.1 hCSC j12 (fun tk hk => ⟨by
    have : tk < z := by
      refine Classical.byContradiction fun c => ?_
      have := j1.1.2.2.2.1 tk (by omega)
      rw [this] at hk
      exact absurd hk (by decide)
    rw [(j3 7 tk (by unfold PAA; omega)).2]
    exact t8 tk this hk, t5 tk⟩) ⟨hSZ1, by unfold SZf; split <;> omega⟩ hk4 hkm (by omega) hSSC
  have hFA : FAU (FLA v) (FLM u) := by
    rw [v2, u3]
    exact faults_same t1 j5 r3 v11 (fun c7 => r4 e7 c7)
  refine ⟨v, u, SG, pi, nn, T, F, a', sz', c', PA, PM, LA, LM, ⟨v1, u1⟩, ⟨v2, u3, hFA, v11, (r3.same t1 v11).2⟩, ⟨v3, v4, v5, v6, v7, v8, v9, v10⟩, ⟨u4, u5, u2, fun g hg => ?_⟩, hnn, fun hLM => r6 hLM, ⟨r2, by omega⟩, hmon, hsim⟩
  obtain ⟨g1, g4⟩ := u6 g (by rw [prW_len, show 1 + (C 4 - 1) = C 4 by omega]; exact hg)
  exact ⟨g1, fun j a b => prW_P (C 4 - 1) 1 g4 j a (by omega)⟩
end SF5
