/-! BOTH SIDES: a procedure, whole -/
section JT
variable {kd wr nm : Nat → Nat} {vv : Nat → Int64} {m z : Nat} {gA gM : Wd} {lv : Bool} {sl us B : Nat} {stk obl stkF : List Nat} {prs : PRL} {C TK : Nat → Nat} {SL : Nat → List Nat} {t d b : Nat} {fa : Int32} {wA wM : Wd} {γ α : Type} {wd : γ → Wd} {S : γ → α → Wd → Prop} {P : (Nat → Nat) → Nat → Wd → Wd → Prop}
/-- behind a heading: the STATEMENT and the end -/
theorem J.pbody (hT : TOKS kd wr nm vv m z gA gM) {β s s2 p sg q ty t0 tok nf o f : Nat} {r : PRL} {rc rc1 : TX4_block} {rm : TX12_block} {W : Wd → Wd → PSTT} {C5 TK5 : Nat → Nat} {SL5 : Nat → List Nat} {t5 : Nat} {fa5 x y : Int32} {sA sM wA0 wM0 : Wd} {b4 b5 : Int32} {KA : Wd → Option γ} {KM : Wd → Option (Option α × Wd)}
    (hrc : ∀ w, rc 4 (Int32.ofNat (d + 1)) 0 0 w = fX4_scoped rc1 (Int32.ofNat (d + 1)) w) (hSP : SPC kd wr nm vv m z gA gM (fun w => rc1 5 (Int32.ofNat (d + 1)) 0 0 w) (fun w => rm 4 0 0 0 w) true (fun _ _ => True) (d + 1) β (fun fA fM => W fA fM (d + 1)))
    (hb : 2800 ≤ b) (hbb : b + (β + 2) ≤ 3900) (hd40 : d ≤ 40)
    (hst5 : STJ kd wr nm vv m z gA gM lv 0 (C 1) (s2 :: s :: stk) ((C 4, 6 + o, 1 + 2 * nf) :: (p, sg, q) :: r) C5 TK5 SL5 t5 (d + 1) (b + 1) fa5 sA sM)
    (hl5 : lv = true → d + 1 ≤ 40 ∧ s2 = C 2 ∧ b4 = Int32.ofNat p ∧ b5 = hdM (s :: stk) ∧ kd tok = 2 ∧ ty ≤ 2 ∧ tok + 2 ≤ t5 ∧ t5 ≤ m ∧ 3 * C 2 + 9 ≤ wr t5 ∧ 1 ≤ C 4 ∧ C 0 ≤ 2 * t5 + 98 ∧ OBK d r C obl ∧ KEP (upD (upD (upD C 2 1) 4 1) 6 1) (C 1) tok C5 TK5 ∧ HDZ kd wr nm TK5 (C 1) (C 4) p s (C 2) r.length ty tok nf o C5 t5 sA sM ∧ gi sM 14 (C 2) = hdM (s :: stk) ∧ gi sM 17 (C 2) = -1 ∧ gi sM 15 (C 2) = Int32.ofNat (C 4) ∧ PF C t0 (s :: stk) ((p, sg, q) :: r) obl wA0 wM0 C5 t5 sA sM) (hd5 : lv = false → t5 = z - 1)
    (H : ∀ lv' t' fa' uA uM C' TK' SL', STJ kd wr nm vv m z gA gM lv' 1 (C' 1) (s :: stk) ((p, sg, q) :: r) C' TK' SL' t' d (b + (β + 2)) fa' uA uM → (lv' = true → lv = true ∧ t5 ≤ t' ∧ t' ≤ m ∧ LEC C C' ∧ C' 0 + 2 * t5 ≤ C 0 + 2 * t' + 1 ∧ C' 6 + C 4 = C' 4 + C 6 ∧ PF C t0 (s :: stk) ((p, sg, q) :: r) obl wA0 wM0 C' t' uA uM ∧ FACT (s :: stk) ((p, sg, q) :: r) obl (C 0) C' t' (C' 0) (fun fA fM => PRX kd C s stk p r.length ty tok t5 nf o fA fM ∧ ∃ nb q1, gi fM 33 (C 4) = Int32.ofNat nb ∧ W fA fM (d + 1) t5 t' nb ((C 2 + 1) :: C 2 :: s :: stk) ((C 4, 6 + o, 1 + 2 * nf) :: (p, sg, q) :: r) (1 + 2 * nf) q1 (upD (upD (upD (upD C 1 (1 + nf)) 2 2) 4 1) 6 1) C' ∧ gi fM 35 (C 4) = Int32.ofNat q1) uA uM) → (lv' = false → t' = z - 1) → GLJ kd wr nm z gA gM wd lv' stkF fa' B (KA uA) (KM uM) S) :
    GLJ kd wr nm z gA gM wd lv stkF fa5 B (bn2 (fX4_procedure_97 rc (Int32.ofNat (d + 1)) x y sA) fun _ w => KA w) (be (oX12_procedure_487 rm (f + 1) b4 b5 (Int32.ofNat (C 1 + 1 + nf)) (Int32.ofNat (C 1 + 1 + nf)) sM) fun _ w => KM w) S := by
  have hC51 : lv = true → C5 1 = C 1 + 1 + nf := fun h => (hl5 h).2.2.2.2.2.2.2.2.2.2.2.2.2.1.1.1
  have hc100 : lv = true → C 1 + 1 + nf ≤ 8900 := fun h => by
    have h1 := hC51 h
    have h2 := (hst5.jl h).2.2.2.2.2.2.1.2.1
    have := hT.1 t5
    omega
  rw [a_97 hrc]
  by_cases hnf9 : lv = false
  · -- only the class
    subst hnf9
    refine GLJ.ref (rM' := bn2 (fX12_newScope (gi sM 0 29) (-1) sM) fun x w3 => lt (si w3 0 29 x) fun w4 => be (rm 4 0 0 0 w4) fun _ w8 => pbE b4 b5 (fun _ w => KM w) w8) (fun h => absurd h (by decide)) ?_
    have hst6 : STJ kd wr nm vv m z gA gM false 0 (C 1) (s2 :: s :: stk) ((C 4, 6 + o, 1 + 2 * nf) :: (p, sg, q) :: r) C TK5 SL5 t5 (d + 1) (b + 1) fa5 (fX4_head x sA).2 sM := (hst5.pre hT e_head4).dd rfl
    refine J.enter (P := fun _ _ _ _ => True) (obl := obl) (KM := fun _ w4 => be (rm 4 0 0 0 w4) fun _ w8 => pbE b4 b5 (fun _ w => KM w) w8) hT (fun _ _ _ _ _ _ _ _ _ _ => trivial) hst6 (fun _ => trivial) (by omega) (by omega) (fun h => absurd h (by decide)) (fun s3 hA hM hst8 hs8 hl8 => ?_)
    refine hSP γ α wd S stkF B false (s3 :: s2 :: s :: stk) obl (C 4) (6 + o) (1 + 2 * nf) ((p, sg, q) :: r) C TK5 SL5 t5 (b + 1 + 1) fa5 hA hM (fun _ _ _ _ => True) _ _ (fun _ => by simp) (fun _ _ _ _ _ _ _ _ _ _ => trivial) (hst8.dd rfl) (fun _ => trivial) (fun h => absurd h (by decide)) (by omega) (by omega) (fun lv6 x6 t6 fa6 uA uM n C6 TK6 SL6 q6 hst10 hl10 hd10 => ?_)
    cases lv6
    · refine GLJ.ref (rM' := lt (si uM 0 29 (Int32.ofNat s2)) (pbE b4 b5 fun _ w => KM w)) (fun h => absurd h (by decide)) ?_
      refine J.leave (P := fun _ _ _ _ => True) (obl := obl) hT (fun _ _ _ _ _ _ _ _ _ _ => trivial) hst10 (fun _ => trivial) (by omega) (fun h => absurd h (by decide)) (fun lA lM hst12 hl12 => ?_)
      unfold pbE
      refine J.leave (P := fun _ _ _ _ => True) (obl := obl) hT (fun _ _ _ _ _ _ _ _ _ _ => trivial) (hst12.pre hT e_p97) (fun _ => trivial) (by omega) (fun h => absurd h (by decide)) (fun kA kM hst14 hl14 => ?_)
      have hst15 : STJ kd wr nm vv m z gA gM false 0 (C6 1) (s :: stk) ((p, sg, q) :: r) C6 TK6 SL6 t6 (d + 1) (b + 1 + 1 + β) fa6 (fX5_leave kA) (si kM 0 30 b4) := hst14.endp (by unfold fX5_leave; exact OFF.si ⟨rfl, rfl⟩) (fun h => absurd h (by decide))
      rw [ltq]
      refine J.dep (d' := d) (P := fun _ _ _ _ => True) (obl := obl) hT (fun _ _ _ _ _ _ _ _ _ _ => trivial) hst15 (fun _ => trivial) (by omega) (dep_dn hst15) (fun oM hst16 hl16 => ?_)
      exact H false t6 fa6 (fX5_leave kA) oM C6 TK6 SL6 ((hst16.dd rfl).bw (Or.inl (by omega))) (fun h => absurd h (by decide)) hd10
    · exact absurd (hl10 rfl).1 (by decide)
  have hlv : lv = true := by
    cases lv
    · exact absurd rfl hnf9
    · rfl
  subst hlv
  obtain ⟨d39, e2, e4, e5, hkt, hty, ht52, ht5m, hw5, h14, hc0, hob, hkep, hz, f14, f17, f15, hpf⟩ := hl5 rfl
  subst e2 e4 e5
  have hC5 : ∀ i, i ≠ 1 → C5 i = upD (upD (upD C 2 1) 4 1) 6 1 i := hkep.1
  have hC52 : C5 2 = C 2 + 1 := by rw [hC5 2 (by omega), upD_n (by omega), upD_n (by omega), upD_s]
  have hC54 : C5 4 = C 4 + 1 := by rw [hC5 4 (by omega), upD_n (by omega), upD_s, upD_n (by omega)]
  have hC56 : C5 6 = C 6 + 1 := by rw [hC5 6 (by omega), upD_s, upD_n (by omega), upD_n (by omega)]
  have hC50 : C5 0 = C 0 := by rw [hC5 0 (by omega), upD_n (by omega), upD_n (by omega), upD_n (by omega)]
  have hC53 : C5 3 = C 3 := by rw [hC5 3 (by omega), upD_n (by omega), upD_n (by omega), upD_n (by omega)]
  have hC51' := hC51 rfl
  have hc1' := hc100 rfl
  have hJ5 := (hst5.jl rfl).2
  have htq5 := hJ5.topq
  have hnst := hJ5.2.2.2.2.2.2.2.2.2.2.2.2.1
  have hp4 : p < C 4 := hnst.2.2.2.2.2.2.1 (p, sg, q) List.mem_cons_self
  have hlp : gi sM 30 p = Int32.ofNat r.length := (hnst.2.2.2.2.2.2.2.2.2).2.2.2.1
  rw [m_487e (by omega)]
  -- all symbols are settled
  have hst6 : STJ kd wr nm vv m z gA gM true 0 (C5 1) (C 2 :: s :: stk) ((C 4, 6 + o, 1 + 2 * nf) :: (p, sg, q) :: r) C5 TK5 SL5 t5 (d + 1) (b + 1) fa5 sA sM := hst5.usn (fun _ => ⟨by omega, Nat.le_refl _, by rw [hC51']; exact hz.sym hkep ht5m hkt hty (by omega) h14 hlp, fun i hi1 hi2 g1 g2 => by
    rw [hC51'] at hi2
    by_cases q : i = C 1
    · rw [q, hz.1.2.2.2.1.2.1.1] at g1
      exact absurd g1 (by decide)
    · have h9 := hz.2.2.2.2.2 (i - (C 1 + 1)) (by omega)
      rw [show C 1 + 1 + (i - (C 1 + 1)) = i by omega] at h9
      exact h9 g2⟩)
  have hO4 : OFF PRE (fX4_head x sA).2 sA := e_head4
  generalize (fX4_head x sA).1 = xh
  generalize hyA : (fX4_head x sA).2 = yA at hO4 ⊢
  have hst7 := hst6.pre hT hO4
  refine J.enter (P := fun C' t' a c => PF C5 t5 (C 2 :: s :: stk) ((C 4, 6 + o, 1 + 2 * nf) :: (p, sg, q) :: r) obl sA sM C' t' a c) (KM := fun _ w4 => pbM rm (Int32.ofNat p) (hdM (s :: stk)) (fun _ w => KM w) w4) hT PF.st0 hst7 (fun _ => STEP.pre hO4) (by omega) (by omega) (fun _ => by rw [hC52]; omega) (fun s3 hA hM hst8 hs8 hl8 => ?_)
  have hs3 := hs8 rfl
  subst hs3
  obtain ⟨g1, g2, g3, g4, g5, g6⟩ := hl8 rfl
  have h30 : gi hM 0 30 = Int32.ofNat (C 4) := by rw [(g6 0 30 (by omega)).1]; exact htq5.2.1
  have hp12 : C 4 < 1200 := by
    have := hJ5.2.2.2.2.2.1.2.2.2.2.1
    have := hT.1 t5
    omega
  have hPB : pbM rm (Int32.ofNat p) (hdM (s :: stk)) (fun _ w => KM w) hM = be (rm 4 0 0 0 (si hM 38 (C 4) (gi hM 0 29))) fun x7 w8 => lt (si w8 33 (C 4) x7) (pbE (Int32.ofNat p) (hdM (s :: stk)) fun _ w => KM w) := by
    unfold pbM
    have e1 : gi (si hM 38 (C 4) (gi hM 0 29)) 0 30 = Int32.ofNat (C 4) := by rw [gi_si1 (by omega)]; exact h30
    rw [h30, if_pos (inb_iN hp12 (by omega)), tc_iN (by omega), ltq, e1]
    refine be_cg fun x7 w8 => ?_
    rw [if_pos (inb_iN hp12 (by omega)), tc_iN (by omega)]
  rw [hPB]
  have hOi : OFF (fun k j => (k = 33 ∨ k = 38) ∧ j = C 4) (si hM 38 (C 4) (gi hM 0 29)) hM := OFF.si ⟨Or.inr rfl, rfl⟩
  generalize si hM 38 (C 4) (gi hM 0 29) = iM at hOi ⊢
  have o33 : ∀ (C' : Nat → Nat) (TK' : Nat → Nat) (SL' : Nat → List Nat) (stk' : List Nat) (us' d' b' q' t' : Nat) (fa' : Int32) (a c c' : Wd), STJ kd wr nm vv m z gA gM true 0 us' stk' ((C 4, 6 + o, q') :: (p, sg, q) :: r) C' TK' SL' t' d' b' fa' a c → OFF (fun k j => (k = 33 ∨ k = 38) ∧ j = C 4) c' c → STJ kd wr nm vv m z gA gM true 0 us' stk' ((C 4, 6 + o, q') :: (p, sg, q) :: r) C' TK' SL' t' d' b' fa' a c' := fun C' TK' SL' stk' us' d' b' q' t' fa' a c c' h hO => by
    have hJ := (h.jl rfl).2
    exact h.updG (fun h => absurd h (by decide)) (fun _ => ⟨OFF.rf, hO.mono fun k j hk => by unfold PMU; omega, Or.inl ⟨rfl, by unfold FLM; rw [(hO 0 10 (by omega)).1, (hO 0 11 (by omega)).1]⟩, fun _ _ => rfl, hJ.top.2.2.1, hJ.top.2.2.2, by rw [(hO 35 _ (by omega)).1]; exact hJ.lev.2, hJ.topq.1, fun i hi e => ⟨(hO 31 _ (by omega)).1, (hO 32 _ (by omega)).1⟩, Or.inl (hO 31 _ (by omega)).1⟩)
  have hst9 := o33 _ _ _ _ _ _ _ _ _ _ _ _ _ hst8 hOi
  have hC9 : upC C5 2 (C5 2 + 1) = upD (upD (upD (upD C 1 (1 + nf)) 2 2) 4 1) 6 1 := by
    funext i
    by_cases i2 : i = 2
    · rw [i2, upC_s, hC52, upD_n (by omega), upD_n (by omega), upD_s, upD_n (by omega)]
    · rw [upC_n i2]
      by_cases i1 : i = 1
      · rw [i1, hC51', upD_n (by omega), upD_n (by omega), upD_n (by omega), upD_s]
        omega
      · rw [hC5 i i1]
        unfold upD upC
        by_cases i4 : i = 4
        · subst i4
          simp
        · by_cases i6 : i = 6
          · subst i6
            simp
          · simp [i1, i2, i4, i6]
  have hC91 : (upD (upD (upD (upD C 1 (1 + nf)) 2 2) 4 1) 6 1) 1 = C5 1 := by rw [← hC9, upC_n (by omega)]
  have hC90 : (upD (upD (upD (upD C 1 (1 + nf)) 2 2) 4 1) 6 1) 0 = C 0 := by rw [← hC9, upC_n (by omega), hC50]
  have hC92 : (upD (upD (upD (upD C 1 (1 + nf)) 2 2) 4 1) 6 1) 2 = C 2 + 2 := by rw [← hC9, upC_s, hC52]
  have hC93 : (upD (upD (upD (upD C 1 (1 + nf)) 2 2) 4 1) 6 1) 3 = C 3 := by rw [← hC9, upC_n (by omega), hC53]
  have hC94 : (upD (upD (upD (upD C 1 (1 + nf)) 2 2) 4 1) 6 1) 4 = C 4 + 1 := by rw [← hC9, upC_n (by omega), hC54]
  have hC96 : (upD (upD (upD (upD C 1 (1 + nf)) 2 2) 4 1) 6 1) 6 = C 6 + 1 := by rw [← hC9, upC_n (by omega), hC56]
  have hLC : LEC C (upD (upD (upD (upD C 1 (1 + nf)) 2 2) 4 1) 6 1) := fun i => by
    unfold upD upC
    by_cases i1 : i = 1
    · subst i1; simp
    · by_cases i2 : i = 2
      · subst i2; simp
      · by_cases i4 : i = 4
        · subst i4; simp
        · by_cases i6 : i = 6
          · subst i6; simp
          · simp [i1, i2, i4, i6]
  rw [hC9] at hst9 g1
  generalize hC9e : upD (upD (upD (upD C 1 (1 + nf)) 2 2) 4 1) 6 1 = C9 at hst9 g1 hC91 hC90 hC92 hC93 hC94 hC96 hLC H
  rw [← hC91] at hst9
  -- what's told of the DECL by now
  have hPX : PRX kd C s stk p r.length ty tok t5 nf o hA iM := by
    obtain ⟨⟨a1, a2, a3, ⟨⟨p1, p2, p3, p4, p5, p6⟩, ⟨q1, q2, q3, q4, q5⟩, r1, r2, r3, r4, r5⟩, ⟨a5, a6, a7⟩, a8⟩, h28, hsl, z1, z2, _⟩ := hz
    have hPs : PRX kd C s stk p r.length ty tok t5 nf o sA (si (si (si sM 14 (C 2 + 1) (Int32.ofNat (C 2))) 17 (C 2 + 1) (-1)) 15 (C 2 + 1) (Int32.ofNat (C 4))) := by
      have fM : ∀ k j, ¬ ((k = 14 ∨ k = 15 ∨ k = 17) ∧ j = C 2 + 1) → gi (si (si (si sM 14 (C 2 + 1) (Int32.ofNat (C 2))) 17 (C 2 + 1) (-1)) 15 (C 2 + 1) (Int32.ofNat (C 4))) k j = gi sM k j := fun k j hk => by
        rw [gi_si1 (by omega), gi_si1 (by omega), gi_si1 (by omega)]
      have hxs : EXF sM (si (si (si sM 14 (C 2 + 1) (Int32.ofNat (C 2))) 17 (C 2 + 1) (-1)) 15 (C 2 + 1) (Int32.ofNat (C 4))) := EXF.mk (P := fun k j => k = 14 ∨ k = 17 ∨ k = 15) (OFF.tr (OFF.si (by omega)) (OFF.tr (OFF.si (by omega)) (OFF.si (by omega)))) (fun k j hk => by omega) fun hh => by
        rw [fM 0 10 (by omega)]
        exact hh
      unfold PRX
      rw [fM 22 _ (by omega), fM 19 _ (by omega), fM 20 _ (by omega), fM 24 _ (by omega), fM 29 _ (by omega), fM 30 _ (by omega), fM 37 _ (by omega), fM 31 _ (by omega), fM 32 _ (by omega), fM 14 (C 2) (by omega), fM 17 (C 2) (by omega), fM 15 (C 2) (by omega)]
      refine ⟨q3, q1, q2, q5, r1, r2, r4, a7, r3, z2, z1, fun i hi => ?_, ?_, f14, f17, ?_, ?_, f15, gi_si0 _ _ _ _, r5.ext (fM 23 _ (by omega)) rfl hxs, fun i hi => (a8 i hi).2.2.1.2.2.2.2.2.2.2.2.ext (fM 23 _ (by omega)) rfl hxs, ((hst5.jl rfl).2.ge35 hT).ext hxs⟩
      · rw [fM 19 _ (by omega), fM 26 _ (by omega), fM 22 _ (by omega)]
        exact ⟨(a8 i hi).2.2.1.2.2.2.2.1, (a8 i hi).2.2.1.2.2.2.2.2.2.2.1, _, (a8 i hi).2.1, (a8 i hi).2.2.1.2.2.2.2.2.1⟩
      · obtain ⟨f, f1, f2, f3⟩ := hsl
        refine ⟨f, f1, f2, fun j hj => ?_⟩
        obtain ⟨w, w1, w2, w3, w4⟩ := f3 j hj
        exact ⟨w, w1, w2, w3, by rw [fM 28 _ (by omega), fM 24 _ (by omega)]; exact w4⟩
      · rw [gi_si1 (by omega), gi_si1 (by omega), gi_si0]
      · rw [gi_si1 (by omega), gi_si0]
    refine hPs.agr (fun k j hk hj => ?_) (fun k j hk1 hk2 hj => ?_) (fun k hk => ?_) (fun k j hk hj => ?_) (EXF.tr (u := sM) (EXF.off (u := sM) (P := fun k j => k = 14 ∨ k = 17 ∨ k = 15) (fun k j (hk : ¬ (k = 14 ∨ k = 17 ∨ k = 15)) => ⟨by rw [gi_si1 (by omega), gi_si1 (by omega), gi_si1 (by omega)], by rfl⟩) (fun k j hk => by omega)) (g1.2.2.2.2.tr (EXF.off hOi (fun k j hk => by omega))))
    · rw [(g5 k j (by omega)).1, (hO4 k j (by unfold PRE; omega)).1]
    · rw [(hOi k j (by omega)).1, (g6 k j (by omega)).1, gi_si1 (by omega), gi_si1 (by omega), gi_si1 (by omega)]
    · rw [(hOi k _ (by omega)).1, (g6 k _ (by omega)).1, gi_si1 (by omega), gi_si1 (by omega), gi_si1 (by omega)]
    · rw [(hOi k j (by omega)).1]
      rw [hC52] at g2 g3 g4 g6
      by_cases qj : j = C 2 + 1
      · subst qj
        rcases hk with hk | hk | hk
        · subst hk
          rw [g2, gi_si1 (by omega), gi_si1 (by omega), gi_si0]
          rfl
        · subst hk
          rw [g3, gi_si0]
          exact htq5.2.1
        · subst hk
          rw [g4, gi_si1 (by omega), gi_si0]
      · rw [(g6 k j (by omega)).1, gi_si1 (by omega), gi_si1 (by omega), gi_si1 (by omega)]
  have hPFc : STBJ (C 2 :: s :: stk) ((C 4, 6 + o, 1 + 2 * nf) :: (p, sg, q) :: r) obl (PF C t0 (s :: stk) ((p, sg, q) :: r) obl wA0 wM0) := PF.stb (fun s' hs' hlt => by
    rcases List.mem_cons.mp hs' with rfl | hs'
    · omega
    · exact hs') (fun y hy hlt => by
    rcases List.mem_cons.mp hy with rfl | hy
    · exact absurd hlt (by show ¬ C 4 < C 4; omega)
    · exact ⟨y, hy, rfl⟩) (fun _ h _ => h)
  have hPFi : PF C t0 (s :: stk) ((p, sg, q) :: r) obl wA0 wM0 C9 t5 hA iM := STEP.at2 (hPFc _ _ _ _ _ _ _ _ hpf g1) OFF.rf (hOi.mono fun k j hk => by unfold NQM2; omega) hLC hpf.2.1 (EXF.off hOi (fun k j hk => by omega))
  have hPFb : STBJ (C5 2 :: C 2 :: s :: stk) ((C 4, 6 + o, 1 + 2 * nf) :: (p, sg, q) :: r) obl (PF C t0 (s :: stk) ((p, sg, q) :: r) obl wA0 wM0) := PF.stb (fun s' hs' hlt => by
    rcases List.mem_cons.mp hs' with rfl | hs'
    · omega
    · rcases List.mem_cons.mp hs' with rfl | hs'
      · omega
      · exact hs') (fun y hy hlt => by
    rcases List.mem_cons.mp hy with rfl | hy
    · exact absurd hlt (by show ¬ C 4 < C 4; omega)
    · exact ⟨y, hy, rfl⟩) (fun _ h _ => h)
  have hFX : FACT (C5 2 :: C 2 :: s :: stk) ((C 4, 6 + o, 1 + 2 * nf) :: (p, sg, q) :: r) obl (C 0) C9 t5 (C9 0) (fun fA fM => PRX kd C s stk p r.length ty tok t5 nf o fA fM) hA iM := fun fA fM gA' gM' gE' => hPX.agr (fun k j hk hj => if h29 : k = 29 then gA' k j (Or.inr (Or.inr (Or.inr (Or.inl ⟨by omega, by omega, by omega⟩)))) else gA' k j (Or.inl ⟨by omega, by omega, by omega⟩)) (fun k j hk1 hk2 hj => (gM' k j (Or.inr (Or.inr (Or.inr (Or.inr (Or.inl ⟨by omega, by omega, by omega⟩)))))).1) (fun k hk => (gM' k _ (Or.inr (Or.inr (Or.inr (Or.inr (Or.inr (Or.inl ⟨by omega, by omega, fun hh => by omega⟩))))))).1) (fun k j hk hj => (gM' k j (Or.inr (Or.inr (Or.inl ⟨by omega, by omega⟩)))).1) gE'
  refine hSP γ α wd S stkF B true (C5 2 :: C 2 :: s :: stk) obl (C 4) (6 + o) (1 + 2 * nf) ((p, sg, q) :: r) C9 TK5 SL5 t5 (b + 1 + 1) fa5 hA iM (fun C' t' a c => PF C t0 (s :: stk) ((p, sg, q) :: r) obl wA0 wM0 C' t' a c ∧ PFA (C5 2 :: C 2 :: s :: stk) ((C 4, 6 + o, 1 + 2 * nf) :: (p, sg, q) :: r) obl (C 0) C9 t5 (C9 0) (fun fA fM => PRX kd C s stk p r.length ty tok t5 nf o fA fM) C' t' a c) _ _ (fun _ => by simp) (STBJ.and hPFb PFA.stb) hst9 (fun _ => ⟨hPFi, LEC.rf, Nat.le_refl _, hFX⟩) (fun _ => ⟨trivial, by omega, Or.inl d39, by rw [List.length_cons]; have := hob.1; omega, fun x hx => by have := hob.2 x hx; omega⟩) (by omega) (by omega) (fun lv6 x6 t6 fa6 uA uM n C6 TK6 SL6 q6 hst10 hl10 hd10 => ?_)
  rw [ltq]
  have hOu : OFF (fun k j => (k = 33 ∨ k = 38) ∧ j = C 4) (si uM 33 (C 4) (Int32.ofNat n)) uM := OFF.si ⟨Or.inl rfl, rfl⟩
  have h33 : gi (si uM 33 (C 4) (Int32.ofNat n)) 33 (C 4) = Int32.ofNat n := gi_si0 _ _ _ _
  generalize si uM 33 (C 4) (Int32.ofNat n) = zM at hOu h33 ⊢
  have hst11 : STJ kd wr nm vv m z gA gM lv6 0 (C6 1) (C5 2 :: C 2 :: s :: stk) ((C 4, 6 + o, q6) :: (p, sg, q) :: r) C6 TK6 SL6 t6 (d + 1) (b + 1 + 1 + β) fa6 uA zM := by
    cases lv6
    · exact hst10.dd rfl
    · exact o33 _ _ _ _ _ _ _ _ _ _ _ _ _ hst10 hOu
  refine GLJ.ref (rM' := lt (si zM 0 29 (hdM (C 2 :: s :: stk))) (pbE (Int32.ofNat p) (hdM (s :: stk)) fun _ w => KM w)) (fun _ => by
    have e : si (si zM 0 29 (hdM (C 2 :: s :: stk))) 0 29 (hdM (s :: stk)) = si zM 0 29 (hdM (s :: stk)) := si_2
    unfold pbE
    rw [ltq (si zM 0 29 (hdM (C 2 :: s :: stk))), e]) ?_
  refine J.leave (P := fun _ _ _ _ => True) (obl := obl) hT (fun _ _ _ _ _ _ _ _ _ _ => trivial) hst11 (fun _ => trivial) (by omega) (fun _ => rfl) (fun lA lM hst12 hl12 => ?_)
  unfold pbE
  have hO97 : OFF PRE (p97 xh y lA) lA := e_p97
  generalize p97 xh y lA = jA at hO97 ⊢
  refine J.leave (P := fun _ _ _ _ => True) (obl := obl) hT (fun _ _ _ _ _ _ _ _ _ _ => trivial) (hst12.pre hT hO97) (fun _ => trivial) (by omega) (fun _ => rfl) (fun kA kM hst14 hl14 => ?_)
  have hO5 : OFF (fun k j => k = 34 ∧ j = 5) (fX5_leave kA) kA := by unfold fX5_leave; exact OFF.si ⟨rfl, rfl⟩
  have hst15 : STJ kd wr nm vv m z gA gM lv6 0 (C6 1) (s :: stk) ((p, sg, q) :: r) C6 TK6 SL6 t6 (d + 1) (b + 1 + 1 + β) fa6 (fX5_leave kA) (si kM 0 30 (Int32.ofNat p)) := hst14.endp hO5 (fun h => by
    have htop := (hst14.jl h).2.top
    refine ⟨?_, OFF.si ⟨rfl, rfl⟩, gi_si0 _ _ _ _⟩
    unfold fX5_leave
    rw [ltq, gi_si0, htop.1, List.length_cons, show (1 : Int32) = Int32.ofNat 1 from rfl, sub_iN (by omega) (by have := htop.2.1; rw [List.length_cons] at this; omega)]
    rfl)
  have hO30 : OFF (fun k j => k = 0 ∧ j = 30) (si kM 0 30 (Int32.ofNat p)) kM := OFF.si ⟨rfl, rfl⟩
  rw [ltq]
  generalize fX5_leave kA = gA5 at hO5 hst15 ⊢
  generalize si kM 0 30 (Int32.ofNat p) = gM5 at hO30 hst15 ⊢
  refine J.dep (d' := d) (P := fun C' t' a c => lv6 = true → PF C6 t6 (s :: stk) ((p, sg, q) :: r) [] gA5 gM5 C' t' a c) hT (STBJ.if fun _ => PF.st0) hst15 (fun _ _ => STEP.rf) (by omega) (dep_dn hst15) (fun oM hst16 hl16 => ?_)
  refine H lv6 t6 fa6 gA5 oM C6 TK6 SL6 (hst16.sl1.bw (Or.inl (by omega))) (fun h => ?_) hd10
  obtain ⟨_, b2, b3, b4', b5', b6', ⟨b7, b7'⟩, b8, b9, b10, b11⟩ := hl10 h
  obtain ⟨_, y1, y2⟩ := hl12 h
  obtain ⟨_, y3, y4⟩ := hl14 h
  have hs16 := hl16 h h
  have hOA : OFF (fun k j => k = 26 ∨ k = 27 ∨ 34 ≤ k) gA5 uA := OFF.tr (hO5.mono fun k j hk => by omega) (OFF.tr (y3.mono fun k j hk => by omega) (OFF.tr (hO97.mono fun k j hk => by unfold PRE at hk; omega) (y1.mono fun k j hk => by omega)))
  have hOM : OFF (fun k j => k = 0) gM5 zM := OFF.tr (hO30.mono fun k j hk => by omega) (OFF.tr (y4.mono fun k j hk => by omega) (y2.mono fun k j hk => by omega))
  have hxM : EXF zM gM5 := (EXF.off y2 (fun k j hk => by omega)).tr ((EXF.off y4 (fun k j hk => by omega)).tr (EXF.off hO30 (fun k j hk => by omega)))
  have hC69 : LEC C C6 := hLC.tr b4'
  have h64 := b4' 4
  have h66 := b4' 6
  refine ⟨rfl, b2, b3, hC69, by omega, by omega, ?_, ?_⟩
  · have k1 : PF C t0 (s :: stk) ((p, sg, q) :: r) obl wA0 wM0 C6 t6 gA5 gM5 := STEP.at2 b7 (hOA.mono fun k j hk => by unfold NQA2; omega) (OFF.tr (hOM.mono fun k j hk => by unfold NQM2; omega) (hOu.mono fun k j hk => by unfold NQM2; omega)) hC69 b7.2.1 ((EXF.off hOu (fun k j hk => by omega)).tr hxM)
    exact STEP.tr k1 hs16.ob
  · have hmem : ∃ y ∈ ((C 4, 6 + o, q6) :: (p, sg, q) :: r : PRL), y.1 = C 4 := ⟨_, List.mem_cons_self, rfl⟩
    have hmem1 : ∃ y ∈ ((C 4, 6 + o, 1 + 2 * nf) :: (p, sg, q) :: r : PRL), y.1 = C 4 := ⟨_, List.mem_cons_self, rfl⟩
    have hps : ∀ y ∈ ((p, sg, q) :: r : PRL), y.1 ≠ C 4 := fun y hy => by
      have := hnst.2.2.2.2.2.2.1 y hy
      omega
    have F1 := (((b7'.2.2.o33 hmem1 hOu).att (pz := C 4) (vA := gA5) (vM := gM5) hmem1 (hOA.mono fun k j hk => by unfold NQA; omega) (hOM.mono fun k j hk => Or.inl hk) hxM).wk (stk' := s :: stk) (prs' := (p, sg, q) :: r) (obl' := obl) (lo' := C 0) (Cf' := C6) (tf' := t6) (pd' := C6 0) (Nat.le_refl _) b4' b2 (Or.inr (Or.inl (b4' 0))) (fun s' h _ => List.mem_cons_of_mem _ (List.mem_cons_of_mem _ h)) (fun y hy _ => ⟨y, List.mem_cons_of_mem _ hy, rfl⟩) (fun _ h _ => h)).step LEC.rf (Nat.le_refl _) hs16.ob
    have F2 := (((b11.o33 hmem hOu).att (pz := C 4) (vA := gA5) (vM := gM5) hmem (hOA.mono fun k j hk => by unfold NQA; omega) (hOM.mono fun k j hk => Or.inl hk) hxM).wk (stk' := s :: stk) (prs' := (p, sg, q) :: r) (obl' := obl) (lo' := C 0) (Cf' := C6) (tf' := t6) (pd' := C6 0) (by omega) LEC.rf (Nat.le_refl _) (Or.inr (Or.inl (Nat.le_refl _))) (fun s' h _ => List.mem_cons_of_mem _ (List.mem_cons_of_mem _ h)) (fun y hy _ => ⟨y, List.mem_cons_of_mem _ hy, rfl⟩) (fun _ h _ => h)).step LEC.rf (Nat.le_refl _) hs16.ob
    have F3 : FACT (s :: stk) ((p, sg, q) :: r) obl (C 0) C6 t6 (C6 0) (fun _ fM => gi fM 33 (C 4) = Int32.ofNat n ∧ gi fM 35 (C 4) = Int32.ofNat q6) gA5 oM := FACT.step (fun fA fM _ gM' _ => by
      have h35 := (hst10.jl h).2.lev.2
      refine ⟨?_, by rw [(gM' 35 (C 4) (Or.inr (Or.inr (Or.inr (Or.inr (Or.inr (Or.inl ⟨by omega, by omega, fun _ => hps⟩))))))).1, (hOM 35 _ (by omega)).1, (hOu 35 _ (by omega)).1]; exact h35⟩
      rw [(gM' 33 (C 4) (Or.inr (Or.inr (Or.inr (Or.inr (Or.inr (Or.inl ⟨by omega, by omega, fun _ => hps⟩))))))).1, (hOM 33 _ (by omega)).1]
      exact h33) LEC.rf (Nat.le_refl _) hs16.ob
    rw [hC52] at F2
    exact ((F1.and F2).and F3).imp (fun fA fM hh => ⟨hh.1.1, n, q6, hh.2.1, hh.1.2, hh.2.2⟩)
end JT
