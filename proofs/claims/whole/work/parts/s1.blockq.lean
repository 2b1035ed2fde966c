/-! THE MASTER: the PROGRAM's BLOCK -/
section SF1
variable {kd wr nm TK SG ph : Nat → Nat} {vv : Nat → Int64} {m z : Nat} {Cf : CV} {SL : Nat → List Nat} {fA fM : Wd} {NS ns SZ : Nat} {q0 : Int32 × Int32} {d lev p sg s e j n q q' qq F0 N kp : Nat} {stk : List Nat} {pn : Nat → Int32} {C C' : CV} {W : PSTT} {r : PRL} {rc : TX4_block}
theorem jm_blk0 (hC : MC kd wr TK ph m Cf SL fM NS ns SZ q0) (hW : WAL kd fA fM W) (ih : MIH kd wr nm TK SG ph vv m z Cf SL fA fM NS ns SZ q0 W) (hl : lev = r.length) (hCT : CTJ kd wr nm TK vv m z Cf SL fA fM stk lev p pn) (hd40 : d ≤ 40) (hlev : lev ≤ d) (h30p : gi fM 30 p = Int32.ofNat lev) (hp4' : p < C 4) (hstk : ∀ t ∈ stk, t < C 2) (h15a : ∀ t ∈ stk, ∃ j, j < C 4 ∧ gi fM 15 t = Int32.ofNat j) (hlen : stk.length ≤ 2 * d + 2) (hfo : ∀ t ∈ stk, ∀ i ∈ SL t, gi fM 19 i = 6 → ∃ tk, tk < s ∧ gi fM 22 i = Int32.ofNat tk) (hO : OUT SL C C') (hsg : 6 ≤ sg ∧ sg ≤ 6 + 8 * cntP fM p (C 1) + d) (hL : LEC C' Cf) (h7f : C' 7 ≠ 0 → Cf 7 = C' 7) (h7s : C 7 ≤ s) (hem : e ≤ m) (hn : n < 24000) (hN : 3 * (41 - d) ≤ N) (hF : 3 * (41 - d) + 7 ≤ F0) (hSGe : SG (C 2) = sg) (h : BLKX kd fA fM W d s e n stk ((p, sg, qq) :: r) q q' C C') :
    ∃ T F, JBK kd wr nm TK SG m z SL fA fM NS ns SZ lev pn (RXS kd wr nm TK SG ph m Cf SL fA fM NS ns SZ q0 lev p kp stk s e C C' T F) p sg kp N s e (C 3) stk q q' C C' T F (fX4_block (RX4_block (F0 - 1)) (Int32.ofNat d)) := by
  have hwsB := blk_ws (H := fun _ => False) hW.ws h
  obtain ⟨p', sg', q0', r', hp, hnC, h4, h7, h8, h41, h42, h17, h15, h14, jd, s1, sg1, q1, al, C1, xs, e1, h40, h39, h33, hsg1, hD, hS, h5, hee, hdd, hG⟩ := h
  injection hp with hp1 hp2
  injection hp1 with hp1 hp3
  injection hp3 with hp3 hp4
  subst hp1
  subst hp3
  subst hp2
  obtain ⟨hT, hB, hcu, hU, hl9, hSY, hFM, hPN, hwr, _⟩ := id hCT
  have hm9 := hCT.m9
  obtain ⟨⟨hNS, hns, hns4, hcf3, hSZ1, h53⟩, hPH, ⟨hSZ, h200⟩, _⟩ := id hC
  have hb5 := hT.2.2.2.1
  let Cd : CV := upD (upD (upD C 0 1) 2 1) 3 1
  have u1 : Cd 1 = C 1 := by
    show upD (upD (upD C 0 1) 2 1) 3 1 1 = _
    rw [upD_n (by decide), upD_n (by decide), upD_n (by decide)]
  have u2 : Cd 2 = C 2 + 1 := by
    show upD (upD (upD C 0 1) 2 1) 3 1 2 = _
    rw [upD_n (by decide), upD_s, upD_n (by decide)]
  have u3 : Cd 3 = C 3 + 1 := by
    show upD (upD (upD C 0 1) 2 1) 3 1 3 = _
    rw [upD_s, upD_n (by decide), upD_n (by decide)]
  have u4 : Cd 4 = C 4 := by
    show upD (upD (upD C 0 1) 2 1) 3 1 4 = _
    rw [upD_n (by decide), upD_n (by decide), upD_n (by decide)]
  have u5 : Cd 5 = C 5 := by
    show upD (upD (upD C 0 1) 2 1) 3 1 5 = _
    rw [upD_n (by decide), upD_n (by decide), upD_n (by decide)]
  have u7 : Cd 7 = C 7 := by
    show upD (upD (upD C 0 1) 2 1) 3 1 7 = _
    rw [upD_n (by decide), upD_n (by decide), upD_n (by decide)]
  have hD : DCSX kd fA fM W (d + 1) (C 2 :: stk) (hdM stk) p r jd (s + 1) s1 (sg + 1) sg1 (q + 2) q1 al Cd C1 := hD
  have hLCd : LEC (upD C 2 1) Cd := by
    intro i
    show upD C 2 1 i ≤ upD (upD (upD C 0 1) 2 1) 3 1 i
    have : upD C 2 1 i ≤ upD (upD C 0 1) 2 1 i := by
      unfold upD upC
      by_cases c2 : i = 2
      · subst c2; simp
      · by_cases c0 : i = 0
        · subst c0; simp
        · simp [c2, c0]
    exact Nat.le_trans this (LEC.upD i)
  obtain ⟨a1, a2, _, a4⟩ := dcs_tp hW.tp _ _ _ _ _ _ _ _ _ _ hD
  obtain ⟨b1, b2, _, b4, b5, _⟩ := sts_tp hW.tp _ _ _ _ _ _ _ hS
  have wD := dcs_ws hW.ws _ _ _ _ _ _ _ _ _ _ hD
  have wS := sts_ws hW.ws _ _ _ _ _ _ _ hS
  have xD := dcs_9 hW.w9 hW.tp _ _ _ _ _ _ _ _ _ _ hD
  have xS := sts_9 hW.w9 hW.tp _ _ _ _ _ _ _ hS
  obtain ⟨d1, d2, d3, d4⟩ := dcs_sd hW.tp _ _ _ _ _ _ _ _ _ _ hD
  rw [u1] at d3 d4
  obtain ⟨c4', Q', _, _, _, _, e2', e3'⟩ := hG
  have l1 := a2 1
  rw [u1] at l1
  have l2 := a2 2
  rw [u2] at l2
  have l3 := a2 3
  rw [u3] at l3
  have l4 := a2 4
  rw [u4] at l4
  have l5 := a2 5
  rw [u5] at l5
  have k1 := b2 1
  have k2 := b2 2
  have k3 := b2 3
  have k4 := b2 4
  have k5 := b2 5
  have f0 := hL 0
  have f1 := hL 1
  have f2 := hL 2
  have f3 := hL 3
  have f4 := hL 4
  have cm1 := cntP_mono (w := fM) (p := p) (show C1 1 ≤ Cf 1 by omega)
  have hz := hSZ p (by omega)
  have hpl : C 2 < C' 2 := by omega
  have hnil : ∀ i ∈ SL (C 2), (C 1 ≤ i ∧ i < C' 1) ∧ ∃ t, NIL fM i t := fun i hi => by
    have o := hO (C 2) i (Nat.le_refl _) hpl hi
    obtain ⟨t, pp, g1, _⟩ := hwsB.2.1 i o.1 o.2
    exact ⟨o, t, g1.2.2⟩
  have hDSL := dcs_dsl hW.ws hW.tp (stk := C 2 :: stk) (h := fun y => y ∈ SL (C 2)) (fun y t h1 (h2 : y ∈ SL (C 2)) => show t = C 2 from nil_in hT h1 (by omega) h2) _ _ _ _ _ _ _ _ _ _ (show (C 2 :: stk).headD 0 < Cd 2 by show C 2 < Cd 2; omega) ⟨by omega, by omega⟩ hD
  rw [u1] at hDSL
  have hlab : ∀ i ∈ SL (C 2), C1 1 ≤ i → gi fM 19 i = 4 := fun i hi h1 => by
    obtain ⟨o, _⟩ := hnil i hi
    rcases sts_lb hW _ _ _ _ _ _ _ hS i h1 o.2 with g | ⟨t, t1, t2⟩
    · exact g
    · have := nil_in hT t2 (by omega) hi
      omega
  have h6 : ∀ i ∈ SL (C 2), gi fM 19 i ≠ 6 := fun i hi => by
    obtain ⟨o, _⟩ := hnil i hi
    by_cases c : i < C1 1
    · exact (hDSL.1 i hi o.1 c).1.1
    · rw [hlab i hi (by omega)]; decide
  have hsc : ∀ i ∈ SL (C 2), (gi fM 19 i = 5 ∨ gi fM 19 i = 2 → C 1 ≤ i ∧ i < C1 1) ∧ (gi fM 19 i = 4 → C1 1 ≤ i ∧ i < C' 1) := fun i hi => by
    obtain ⟨o, _⟩ := hnil i hi
    refine ⟨fun h => ⟨o.1, ?_⟩, fun h => ⟨?_, o.2⟩⟩
    · refine Classical.byContradiction fun c => ?_
      have := hlab i hi (by omega)
      rcases h with h | h <;> exact absurd (h.symm.trans this) (by decide)
    · refine Classical.byContradiction fun c => ?_
      exact (hDSL.1 i hi o.1 (by omega)).1.2.1 h
  -- what's round the parts
  have v1 : upD C 2 1 1 = C 1 := upD_n (by decide)
  have v2 : upD C 2 1 2 = C 2 + 1 := upD_s
  have v4 : upD C 2 1 4 = C 4 := upD_n (by decide)
  have v7 : upD C 2 1 7 = C 7 := upD_n (by decide)
  have hMi : MH kd wr nm TK vv m z Cf SL fA fM (d + 1) (s + 1) e1 (C 2 :: stk) lev p sg pn (upD C 2 1) C' := by
    refine ⟨hCT.mv ⟨h14, by omega, hU⟩ (by rw [List.length_cons]; omega), ⟨by omega, hdd.elim (fun c => Or.inl c) (fun c => ?_), by omega, h30p, by omega⟩, ⟨by simp, fun t ht => ?_, h15, fun t ht => ?_, by rw [List.length_cons]; omega, fun t ht i hi h => ?_⟩, hO.sub v1 (by omega) rfl (Nat.le_refl _), ⟨hsg.1, by rw [v1]; omega⟩, ⟨hL, h7f, by omega, by omega, by rw [h5]; decide⟩⟩
    · by_cases q9 : d + 1 ≤ 40
      · exact Or.inl q9
      · exact Or.inr ⟨by omega, c⟩
    · rcases List.mem_cons.mp ht with rfl | ht
      · omega
      · have := hstk t ht; omega
    · rcases List.mem_cons.mp ht with rfl | ht
      · exact ⟨p, by omega, h15⟩
      · obtain ⟨jj, j1, j2⟩ := h15a t ht
        exact ⟨jj, by omega, j2⟩
    · rcases List.mem_cons.mp ht with rfl | ht
      · exact absurd h (h6 i hi)
      · obtain ⟨tk, t1, t2⟩ := hfo t ht i hi h
        exact ⟨tk, by omega, t2⟩
  have hOi : OUT SL Cd C' := hO.sub u1 (by omega) rfl (Nat.le_refl _)
  have hMD : MH kd wr nm TK vv m z Cf SL fA fM (d + 1) (s + 1) e1 (C 2 :: stk) lev p (sg + 1) pn Cd C1 := hMi.mv ⟨Nat.le_refl _, hMi.2.1.2.1⟩ (Nat.le_refl _) hLCd (hOi.ll hT wS (fun t ht => by rw [ht]; show C 2 < Cd 2; omega) (a2 2) f2) ⟨by omega, by rw [u1]; omega⟩ ⟨b2.tr3 hL, c7_in h7f xS.2.1, by rw [u7]; omega, by omega, by rw [h5]; decide⟩
  have c17 : C1 7 ≤ s1 := xD.2.2.1 (by rw [u7]; omega) (by omega)
  have hMS : MH kd wr nm TK vv m z Cf SL fA fM (d + 1) s1 e1 (C 2 :: stk) lev p sg1 pn C1 C' := hMi.mv ⟨Nat.le_refl _, by
    rcases hMi.2.1.2.1 with c | c
    · exact Or.inl c
    · exact Or.inr ⟨c.1, by rw [dcs_no hD c.2]; exact c.2⟩⟩ (by omega) (hLCd.tr3 a2) (hOi.rr hT wD (fun t ht => by rw [ht]; show C 2 < C1 2; omega) (b2 2) f2) ⟨by omega, by omega⟩ ⟨hL, h7f, c17, by omega, by rw [h5]; decide⟩
  obtain ⟨N1, rfl⟩ : ∃ N1, N = N1 + 2 := ⟨N - 2, by omega⟩
  obtain ⟨F1, rfl⟩ : ∃ F1, F0 = F1 + 2 := ⟨F0 - 2, by omega⟩
  obtain ⟨T, hJD⟩ := dcs_j (SG := SG) (sg := sg) (WW := sg1 - sg) (F0 := F1) hC hW ih hl (by omega) _ _ _ _ _ _ _ _ _ _ _ hMD b1 hD
  obtain ⟨T', F, hJS⟩ := sts_j (SG := SG) (kp := sg) (N := N1) (F0 := F1 + 1) hC hW ih hl (by omega) (by omega) _ _ _ _ _ _ _ hMS (by omega) hS
  have eW : sg + (sg1 - sg) = sg1 := by omega
  have hp5 := (hPH e1 (by omega)).2.2.1 h5
  have hp4 := (hPH s (by omega)).2.1 h4
  have hw1 : wr s ≤ wr (s + 1) ∧ wr (s + 1) ≤ wr s1 ∧ wr s1 ≤ wr e1 ∧ wr e1 ≤ wr e := ⟨hB.mono (by omega) (by omega), hB.mono (by omega) (by omega), hB.mono b1 (by omega), hB.mono (by omega) hem⟩
  have hph1 : ph s + 6 ≤ ph (s + 1) ∧ ph (s + 1) ≤ ph s1 ∧ ph s1 ≤ ph e1 ∧ ph e1 + 4 ≤ ph e := ⟨hp4, hPH.mono (by omega) (by omega), hPH.mono b1 (by omega), by rw [hee]; exact hp5⟩
  refine ⟨_, F, jp_blk0 (xs := xs) (al := al) (T := T) (T' := T') (F := F) (W := sg1 - sg) (q1 := q1) (s1 := s1) (C1 := C1) (Cd := Cd) (jd := jd) (RD := RXD kd wr nm TK SG ph m Cf SL fA fM NS ns SZ q0 lev p sg (C 2) stk (s + 1) s1 Cd C1 T) (RS := RXS kd wr nm TK SG ph m Cf SL fA fM NS ns SZ q0 lev p sg (C 2 :: stk) s1 e1 C1 C' T' F) (rcB := RX4_block (F1 + 1)) (rcD := RX4_block F1) hCT (fun PD ars swl LA PS sts LA' g1 g2 g3 g4 g5 g6 => rx_blk (W := sg1 - sg) g1 g2 g3 g4 ⟨u1, u3, u4, u5, u7⟩ ⟨a2 3, k3⟩ ⟨a2 4, k4⟩ ⟨a2 5, k5⟩ xS.2.1 hw1 hph1 g5 g6) h4 ?_ h7 h8 hn (by omega) ?_ ?_ h42 h17 h15 h14 h33 (by omega) (by omega) (by omega) hNS hns4 (by rw [List.length_cons]; omega) (fun hc => by have := hstk _ hc; omega) (sl_down hT (by omega) (fun i hi => (hnil i hi).2)) hsc (by omega) (by omega) (fun E hEQ => ?_) (fun E Lim hEQ hSO hZ hQ => ?_) (by omega) ⟨u1, u2⟩ h5 hee hem (by omega) hJD (by rw [eW]; exact hJS) (fun w => RB1)⟩
  · rcases hdd with c | c
    · exact Or.inl (by omega)
    · by_cases q9 : d < 40
      · exact Or.inl q9
      · exact Or.inr ⟨by omega, c⟩
  · have := a4 (by have := b2 0; omega)
    rw [h40]
    cases al with
    | nil => exact this
    | cons x l => exact this
  · rw [h39]
    exact b4 (by omega)
  · obtain ⟨q1', q2', q3', q4', q5', q6', q7', ⟨_, _, _, _, _⟩, q9', q10', q11', _⟩ := hEQ
    rw [q11' _ (by omega)]
    exact hSGe
  · have h10 : gi fM 0 10 = 0 := by
      have := hEQ.2.2.2.2.2.2.2.2.2.1
      rw [hEQ.1] at this
      exact this
    have hc200 := h200 h10 p (by omega)
    exact bls_of hEQ hSO h17 (by omega) h15 hSGe h41 (by omega) (by omega) hZ (by omega) hsg.1 hQ (by omega) (by rw [eW]; exact hDSL) (fun y hy => ⟨(hnil y hy).1.1, by have := (hnil y hy).1.2; omega, hlab y hy⟩)
end SF1
