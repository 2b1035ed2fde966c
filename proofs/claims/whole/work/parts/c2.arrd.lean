/-! BOTH SIDES: a DECL of ARRAYS -/
section JT
variable {kd wr nm : Nat → Nat} {vv : Nat → Int64} {m z : Nat} {gA gM : Wd} {lv : Bool} {sl us B : Nat} {stk obl stkF : List Nat} {prs : PRL} {C TK : Nat → Nat} {SL : Nat → List Nat} {t d b : Nat} {fa : Int32} {wA wM : Wd} {γ α : Type} {wd : γ → Wd} {S : γ → α → Wd → Prop} {P : (Nat → Nat) → Nat → Wd → Wd → Prop}
theorem J.arrs (hT : TOKS kd wr nm vv m z gA gM) {s p sg q ty t0 : Nat} {r : PRL} {wA0 wM0 : Wd} {W : Wd → Wd → PSTT} {KA : Int32 → Wd → Option γ} {KM : Int32 → Wd → Option (Option α × Wd)} (hty : 1 ≤ ty ∧ ty ≤ 2) (hb : 2800 ≤ b) (hst : STJ kd wr nm vv m z gA gM true 0 (C 1) (s :: stk) ((p, sg, q) :: r) C TK SL t d b fa wA wM) (hz2 : 2 ≤ z) (hd40 : d ≤ 40) (hpf : kd t0 = 9 ∧ t = t0 ∧ ty = 1 ∨ kd t0 = 6 + ty ∧ t = t0 + 1) (hc0 : C 0 ≤ 2 * t0 + 98) (hstep : STEP C t0 (s :: stk) ((p, sg, q) :: r) obl wA0 wM0 C t wA wM)
    (H : ∀ lv' x t' fa' uA uM C' TK' SL' sg' q' (an : Option Nat), STJ kd wr nm vv m z gA gM lv' 1 (C' 1) (s :: stk) ((p, sg', q') :: r) C' TK' SL' t' d b fa' uA uM → (lv' = true → t0 < t' ∧ t' ≤ m ∧ LEC C C' ∧ C' 0 + 2 * t0 ≤ C 0 + 2 * t' ∧ C' 6 + C 4 = C' 4 + C 6 ∧ sg ≤ sg' ∧ STEP C t0 (s :: stk) ((p, sg, q) :: r) obl wA0 wM0 C' t' uA uM ∧ (∀ x, an = some x → gi uM 11 x = -1 ∧ C 0 ≤ x ∧ x < C' 0) ∧ FACT (s :: stk) ((p, sg', q') :: r) obl (C 0) C' t' (an.getD (C' 0)) (fun fA fM => DCLX kd fA fM (W fA fM) d (s :: stk) (hdM stk) p r t0 t' sg sg' q q' an C C') uA uM) → (lv' = false → t' = z - 1) → GLJ kd wr nm z gA gM wd lv' stkF fa' B (KA x uA) (KM (match an with | none => -1 | some x => Int32.ofNat x) uM) S) :
    GLJ kd wr nm z gA gM wd true stkF fa B (bn (fX4_arrays (Int32.ofNat d) (Int32.ofNat ty) wA) fun w => KA 0 w) (be (fX12_expect 261 wM) fun _ w2 => be (oX12_arrays_11 FU (Int32.ofNat ty) (hdM stk) (gi w2 0 42) w2) KM) S := by
  have hJ := (hst.jl rfl).2
  have hcc := hJ.2.2.2.2.2.1
  have hwt := hT.1 t
  have hsgb := hJ.top.2.2.2
  have hqb := hJ.topq.1
  have hm9 := hJ.2.1.1.1
  obtain ⟨n9, hn9⟩ : ∃ n, n = 9000 := ⟨_, rfl⟩
  obtain ⟨fo, hfo⟩ := FU_ge (k := 9002) (by omega)
  obtain ⟨N, hN⟩ : ∃ N, N = FU := ⟨_, rfl⟩
  have eA : bn (fX4_arrays (Int32.ofNat d) (Int32.ofNat ty) wA) (fun w => KA 0 w) = lt (fX9_need (Int32.ofNat 9) wA) fun w1 => bn (oX4_arrays_20 N (Int32.ofNat d) (Int32.ofNat ty) (fX9_at w1) 0 w1) fun w => KA 0 w := by
    unfold fX4_arrays
    rw [← hN]
    rfl
  rw [eA, ← hN]
  rw [← hN] at hfo
  have hPF : STBJ (s :: stk) ((p, sg, q) :: r) obl (PF C t0 (s :: stk) ((p, sg, q) :: r) obl wA0 wM0) := PF.st0
  refine (J.need (c := 9) (x := 261) (P := PF C t0 (s :: stk) ((p, sg, q) :: r) obl wA0 wM0) hT hPF hst (fun _ => hstep) (by omega) (fun _ => hd40) hb (by omega) rfl (fun lv1 t1 fa1 uA uM hst1 hl1 hd1 => ?_))
  have ht1 : 1 ≤ t1 := by
    cases lv1
    · have := hd1 rfl; omega
    · have := (hl1 rfl).2.2.1; omega
  rw [a_at hst1.in1.1, show N = (fo + n9 + 1) + 1 by omega, a_a200]
  have e11 : ∀ a w, oX12_arrays_11 ((fo + n9 + 1) + 1) (Int32.ofNat ty) (hdM stk) a w = fX12_arrays_11 (oX12_arrays_11 ((fo + 1) + n9)) (Int32.ofNat ty) (hdM stk) a w := fun a w => by
    rw [show (fo + n9 + 1) + 1 = ((fo + 1) + n9) + 1 by omega]
    rfl
  rw [e11]
  refine arr_loop (C0 := C) (t0 := t0) (s1 := t1) (wA0 := wA0) (wM0 := wM0) (obl := obl) (Q := lv1 = true) (KM := KM) (KA := fun w => KA 0 w) (N := N) (a2 := hdM stk) (a4 := gi uM 0 42) (a3 := Int32.ofNat t1) hT hN hb (fun lv2 t2 fa2 vA vM C2 TK2 SL2 j hst2 hl2 hd2 hj2 => ?_) (fo := fo) (fm := fo + 1) n9 lv1 C TK SL t1 fa1 uA uM 0 (by have := hst1.in1.z9; omega) (by omega) hst1 (fun h => ⟨⟨h, hd40⟩, rfl, ?_, (hl1 h).2.2.2.2, fun i hi => absurd hi (by omega), fun _ _ _ _ _ => fun i hi => absurd hi (by omega)⟩) hd1
  · -- bounds
    have hx0 : lv2 = true → lv1 = true ∧ t1 = t + 1 ∧ C2 0 = C 0 ∧ C2 1 = C 1 + j + 1 ∧ gi uM 0 42 = Int32.ofNat (C 1) := fun h => by
      obtain ⟨y0, y1, y2, y3, y4, _⟩ := hl2 h
      refine ⟨y0, (hl1 y0).2.2.1, by rw [y4, upC_n (by omega)], by rw [y4, upC_s], ?_⟩
      exact (hst1.jl y0).2.2.2.2.2.2.2.2.1.2.1
    refine J.bnds (P := fun C' t' a c => lv2 = true → PF C t0 (s :: stk) ((p, sg, q) :: r) obl wA0 wM0 C' t' a c ∧ PFA (s :: stk) ((p, sg, q) :: r) obl (C 0) C2 t2 (C2 0) (fun fA fM => ARX kd s ty t1 (C 1) r.length p j fA fM ∧ AR1 s ty (t1 + 2 * j) (C 1 + j) r.length p fA fM) C' t' a c) (obl := obl) hT (STBJ.if fun _ => STBJ.and hPF PFA.stb) hst2 (fun h _ => ⟨(hl2 h).2.2.2.2.2.1, LEC.rf, Nat.le_refl _, (hl2 h).2.2.2.2.2.2.2.2.2⟩) ⟨by omega, fun h => ⟨hd40, by have := hx0 h; have := (hl2 h).2.2.1; omega⟩⟩ hb (by omega) hN (fun lv3 x t3 fa3 eA' eM' n hst3 hl3 hd3 => ?_)
    have hfoN : N = fo + 1 + n9 + 1 := by omega
    cases lv3
    · -- the class alone
      obtain ⟨u, u1, u2⟩ := ar_dead (fo := fo + 1) (jn := j + 1) (a3 := Int32.ofNat t1) (a5 := x) (by have := hst2.in1.tz; have := hst2.in1.z9; omega) n9 0 eA' (by have := hst2.in1.tz; have := hst2.in1.z9; omega) (Nat.zero_le _) hst3.in1.2.1
      rw [hfoN, show (0 : Int32) = Int32.ofNat 0 from rfl, u1, bn_so]
      refine GLJ.ref (rM' := KM (-1) eM') (fun h => absurd h (by decide)) ?_
      exact H false 0 t3 fa3 u eM' C TK SL sg q none (hst3.deadO rfl u2) (fun h => absurd h (by decide)) hd3
    · obtain ⟨w1, w2, w3, w4, w5, w6, xs, e0, bb, w7, w8, w9, w10, w11, w12, w13, w14, w15, w16, w17, w18, w19, w20⟩ := hl3 rfl
      obtain ⟨x1, x2, x3, x4, x5⟩ := hx0 w1
      obtain ⟨y0, y1, y2, y3, y4, y5, y6, y7, y8, y9⟩ := hl2 w1
      obtain ⟨v1, v2⟩ := w6 w1
      obtain ⟨hAR0, hAR1⟩ := v2.2.2.now
      have hCe : ∀ i, i ≠ 0 → i ≠ 1 → (upC C2 0 (n + 1)) i = C i := fun i h0 h1 => by rw [upC_n h0, y4, upC_n h1]
      have hCe1 : (upC C2 0 (n + 1)) 1 = C 1 + (j + 1) := by rw [upC_n (by omega), x4]; omega
      have hCe0 : (upC C2 0 (n + 1)) 0 = n + 1 := upC_s
      have hJ3 := (hst3.jl rfl).2
      have hkk : ∀ i, i < j + 1 → AR1 s ty (t1 + 2 * i) (C 1 + i) r.length p eA' eM' ∧ TK2 (C 1 + i) = t1 + 2 * i ∧ kd (t1 + 2 * i) = 2 ∧ t1 + 2 * i < m := fun i hi => by
        refine ⟨?_, y8 i (by omega), ?_, by omega⟩
        · by_cases q9 : i = j
          · rw [q9]; exact hAR1
          · exact (hAR0 i (by omega)).2.2
        · by_cases q9 : i = j
          · rw [q9]; exact y7
          · exact (hAR0 i (by omega)).1
      have hsg3 : sg ≤ 6 + 8 * C 1 + (upC C2 0 (n + 1)) 3 + (upC C2 0 (n + 1)) 0 := by rw [hCe 3 (by omega) (by omega), hCe0]; omega
      have hq3 : q ≤ 1 + 8 * C 1 + 2 * (upC C2 0 (n + 1)) 3 := by rw [hCe 3 (by omega) (by omega)]; omega
      have h10 : C2 1 = C 1 + (j + 1) := by omega
      rw [w7, hfoN, x5, h10, show (0 : Int32) = Int32.ofNat 0 from rfl, show Int32.ofNat (C 1) = Int32.ofNat (C 1 + 0) from rfl]
      refine arr_settle (i0 := C 1) (jn := j + 1) (bb := bb) (sg0 := sg) (q0 := q) (s1 := t1) (ty := ty) (p := p) (vA := eA') (vM := eM') (KM := KM) (KA := fun w => KA 0 w) hT ⟨w13, w14⟩ hty hCe1 hsg3 hq3 hkk (fun fA' fM' hst4 hOA hOM hv => ?_) (fo := fo + 1) (fm := fo + 1) n9 0 eA' eM' (by omega) (Nat.zero_le _) (by rw [Nat.zero_mul, Nat.zero_mul]; exact hst3) OFF.rf OFF.rf (fun i hi => absurd hi (by omega))
      -- the end
      have hsl := hst4.sl1
      rw [← hCe1] at hsl
      have hLC : LEC C (upC C2 0 (n + 1)) := v1.1
      have hxu : EXF eM' fM' := EXF.slot hOM (fun k j hk => by unfold QAM at hk; omega) ((hst3.jl rfl).2.sl35 hT).1 ((hst4.jl rfl).2.sl35 hT).1 ⟨by omega, ((hst4.jl rfl).2.sl35 hT).2.1⟩ (fun hh => by rw [(hOM 0 10 (by unfold QAM; omega)).1]; exact hh)
      have hfin : STEP C t0 (s :: stk) ((p, sg, q) :: r) obl wA0 wM0 (upC C2 0 (n + 1)) t3 fA' fM' := STEP.att (pz := p) ⟨_, List.mem_cons_self, rfl⟩ v1 (hOA.mono fun k j hk => by unfold QAA PS6 PRE at hk; unfold NQA; omega) (hOM.mono fun k j hk => by unfold QAM at hk; unfold NQM; omega) hLC hxu
      have gM : ∀ k j', ¬ (((k = 24 ∨ k = 26) ∧ C 1 ≤ j' ∧ j' < C 1 + (j + 1)) ∨ (k = 35 ∧ j' = p)) → gi fM' k j' = gi eM' k j' := fun k j' hk => (hOM k j' hk).1
      have h02 : C 0 = C2 0 := x3.symm
      rw [← h02] at w15 w16 w17 w18 w19 w20
      rw [← h02]
      refine H true 0 t3 fa3 fA' fM' (upC C2 0 (n + 1)) TK2 SL2 _ _ (some (C 0)) hsl (fun _ => ⟨by omega, w3, hLC, by rw [hCe0]; omega, by rw [hCe 6 (by omega) (by omega), hCe 4 (by omega) (by omega)]; omega, Nat.le_add_right _ _, hfin, fun x' hx' => ?_, ?_⟩) (fun h => absurd h (by decide))
      · cases hx'
        exact ⟨by rw [gM 11 _ (by omega)]; exact w19, Nat.le_refl _, by rw [hCe0]; omega⟩
      · show FACT (s :: stk) _ obl (C 0) (upC C2 0 (n + 1)) t3 (C 0) _ fA' fM'
        intro fA fM hA hM hE
        have gs : ∀ k i, 18 ≤ k ∧ k ≤ 28 → i < j + 1 → gi fM k (C 1 + i) = gi fM' k (C 1 + i) := fun k i hk hi => (hM k (C 1 + i) (Or.inr (Or.inr (Or.inr (Or.inr (Or.inl ⟨hk.1, hk.2, by rw [hCe1]; omega⟩)))))).1
        have ga : ∀ k i, 14 ≤ k ∧ k ≤ 24 → i < j + 1 → gi fA k (C 1 + i + 1) = gi fA' k (C 1 + i + 1) := fun k i hk hi => hA k (C 1 + i + 1) (Or.inl ⟨hk.1, hk.2, by rw [hCe1]; omega⟩)
        have gn : ∀ k, 7 ≤ k ∧ k ≤ 10 → gi fM k (C 0) = gi eM' k (C 0) := fun k hk => ((hM k (C 0) (Or.inl ⟨by omega, Nat.le_refl _, by rw [hCe0]; omega⟩)).1).trans (gM k (C 0) (by omega))
        have hpr : PRSX kd fA fM (hdM stk) (d + 1) xs (C 0 + 1) (t2 + 1) e0 (n + 1) := by
          have hA2 : EXTA (upC (upC C2 0 (n + 1)) 1 (C 1)) t3 (s :: stk) obl eA' fA := fun k j' hk => by
            have hle : LEC (upC (upC C2 0 (n + 1)) 1 (C 1)) (upC C2 0 (n + 1)) := fun i => by
              by_cases i1 : i = 1
              · rw [i1, upC_s, hCe1]; omega
              · rw [upC_n i1]; exact Nat.le_refl _
            have h1 := (hA.wk hle (Nat.le_refl _) (fun _ h _ => h)) k j' hk
            refine h1.trans (hOA k j' (fun hq => ?_)).1
            unfold QAA PS6 PRE at hq
            rcases hk with hk | hk | hk | hk | hk | hk | hk
            · rw [upC_s] at hk; omega
            · omega
            · omega
            · omega
            · omega
            · omega
            · omega
          have hM2 : EXTL (C 0) (upC (upC C2 0 (n + 1)) 1 (C 1)) (s :: stk) ((p, sg + (j + 1) * (2 + 2 * bb), q + (j + 1) * 8) :: r) obl (C 0) eM' fM := fun k j' hk => by
            have hle : LEC (upC (upC C2 0 (n + 1)) 1 (C 1)) (upC C2 0 (n + 1)) := fun i => by
              by_cases i1 : i = 1
              · rw [i1, upC_s, hCe1]; omega
              · rw [upC_n i1]; exact Nat.le_refl _
            have h1 := (hM.wk (lo := C 0) (pd := C 0) (Nat.le_refl _) hle (Or.inl rfl)) k j' hk
            have h2 := hOM k j' (fun hq => by
              unfold QAM at hq
              rcases hk with hk | hk | hk | hk | hk | hk | hk | hk | hk
              · omega
              · omega
              · omega
              · omega
              · rw [upC_s] at hk; omega
              · by_cases c : k = 35
                · exact hk.2.2 (Or.inr (Or.inl c)) _ List.mem_cons_self (by omega)
                · omega
              · omega
              · omega
              · omega)
            exact ⟨h1.1.trans h2.1, h1.2.trans h2.2⟩
          exact PRSX.ext hA2 hM2 xs.length xs _ _ _ _ (Nat.le_refl _) w20 (by omega) (by rw [upC_n (by omega), hCe0]; exact Nat.le_refl _) (by omega) (by omega)
        refine Or.inr (Or.inl ⟨t1, ty, j + 1, C 0, xs, e0, bb, ?_, by omega, ?_, ?_, rfl, rfl, ?_, ?_, ?_, ?_, w9, w12, w13, w14, ?_, w11, w10, ?_, fun i hi => ?_, rfl, rfl, ?_⟩)
        · rcases hpf with ⟨h1, h2, h3⟩ | ⟨h1, h2⟩
          · exact Or.inl ⟨h1, by omega, h3⟩
          · exact Or.inr ⟨h1, hty.1, hty.2, by rw [← h2]; exact (hl1 x1).2.1, by omega⟩
        · intro i hi
          obtain ⟨⟨a1, a2, a3, a4, a5, a6, a7, a8, a9, a10⟩, hTK, hk2, hsm⟩ := hkk i hi
          refine ⟨hk2, fun h => ?_, ?_⟩
          · exact (hAR0 i (by omega)).2.1
          · rw [gs 22 i (by omega) hi, gM 22 _ (by omega)]
            exact a9
        · rw [show t1 + 2 * (j + 1) - 1 = t2 by omega]
          exact w8
        · rw [gn 7 (by omega)]; exact w15
        · rw [gn 8 (by omega), w16]; exact x5
        · rw [gn 9 (by omega), w17, h10]
        · rw [gn 10 (by omega)]; exact w18
        · rw [hCe0, show t1 + 2 * (j + 1) = t2 + 1 by omega]
          exact hpr
        · intro i hi
          obtain ⟨⟨a1, a2, a3, a4, a5, a6, a7, a8, a9, a10⟩, hTK, hk2, hsm⟩ := hkk i hi
          obtain ⟨b1, b2, b3, b4⟩ := hv i hi
          rw [gs 19 i (by omega) hi, gs 20 i (by omega) hi, gs 24 i (by omega) hi, gs 26 i (by omega) hi, ga 18 i (by omega) hi, gM 19 _ (by omega), gM 20 _ (by omega)]
          exact ⟨a7, a8, b3, b2, b4⟩
        · obtain ⟨⟨a1, a2, a3, a4, a5, a6, a7, a8, a9, a10⟩, hTK, hk2, hsm⟩ := hkk i hi
          exact a10.ext ((gs 23 i (by omega) hi).trans (gM 23 _ (by omega))) ((hA 29 (C 1 + i + 1) (Or.inr (Or.inr (Or.inr (Or.inl ⟨by omega, by omega, by rw [hCe1]; omega⟩))))).trans (hOA 29 _ (by unfold QAA PS6 PRE; omega)).1) (hxu.tr hE)
        · funext i
          by_cases i0 : i = 0
          · rw [i0, upC_s, upC_s]
          · by_cases i1 : i = 1
            · rw [i1, hCe1, upC_n (by omega), upD_s]
            · rw [hCe i i0 i1, upC_n i0, upD_n i1]
  · rw [show C 1 + 0 = C 1 from rfl, upC_id]
end JT
