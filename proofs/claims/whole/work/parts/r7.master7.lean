/-! THE MASTER: BLOCKS; all STATEMENTS -/
section RR7
variable {kd wr nm TK SG ph : Nat → Nat} {vv : Nat → Int64} {m z : Nat} {Cf : CV} {SL : Nat → List Nat} {fA fM : Wd} {NS ns SZ : Nat} {q0 : Int32 × Int32} {d lev p sg s e j n q q' qq F0 N kp : Nat} {stk : List Nat} {pn : Nat → Int32} {C C' : CV} {W : PSTT} {r : PRL} {rc : TX4_block}
/-- symbols of STATEMENTS in a row: LABELS, or in SCOPES begun there -/
theorem sts_lb (hW : WAL kd fA fM W) : ∀ (xs : List Nat) (s e q q' : Nat) (C C' : CV), STSX kd fM W d stk p sg r xs s e q q' C C' → ∀ i, C 1 ≤ i → i < C' 1 → gi fM 19 i = 4 ∨ ∃ t, C 2 ≤ t ∧ NIL fM i t := by
  have one : ∀ {s e n q q' prs} {C C' : CV}, W d s e n stk prs q q' C C' → ∀ i, C 1 ≤ i → i < C' 1 → gi fM 19 i = 4 ∨ ∃ t, C 2 ≤ t ∧ NIL fM i t := fun {s e n q q' prs C C'} h i h1 h2 => by
    obtain ⟨j, g1, _, g2, _⟩ := hW.lb _ _ _ _ _ _ _ _ _ _ h
    by_cases c : i < C 1 + j
    · have := g1 (i - C 1) (by omega)
      rw [show C 1 + (i - C 1) = i by omega] at this
      exact Or.inl this
    · have u1 : upD C 1 j 1 = C 1 + j := upD_s
      have u2 : upD C 1 j 2 = C 2 := upD_n (by decide)
      obtain ⟨t, pp, k1, k2⟩ := g2 i (by omega) h2
      rcases k2 with k2 | k2
      · exact k2.elim
      · exact Or.inr ⟨t, by omega, k1.2.2⟩
  intro xs
  induction xs with
  | nil => exact fun _ _ _ _ _ _ h => h.elim
  | cons x xr ih =>
    intro s e q q' C C' h i h1 h2
    cases xr with
    | nil => exact one h.1 i h1 h2
    | cons y yr =>
      obtain ⟨e1, q1, C1, hX, _, _, hR⟩ := h
      by_cases c : i < C1 1
      · exact one hX i h1 c
      · have := (hW.tp _ _ _ _ _ _ _ _ _ _ hX).2.1 2
        rcases ih _ _ _ _ _ _ hR i (by omega) h2 with g | ⟨t, t1, t2⟩
        · exact Or.inl g
        · exact Or.inr ⟨t, by omega, t2⟩
theorem dcs_no {out : Int32} {jd sgx sgx' : Nat} {al : List Nat} (h : DCSX kd fA fM W d stk out p r jd s e sgx sgx' q q' al C C') (h5 : kd s = 5) : e = s := by
  cases jd with
  | zero => exact h.1
  | succ j =>
    obtain ⟨e1, sgx1, q1, C1, an, al1, hX, _⟩ := h
    exfalso
    rcases hX with ⟨s1, j, ty, own, ho, hty, h1, h2, _⟩ | ⟨s1, ty, j, n, xs, e1, b, ho, _⟩ | ⟨h13, _⟩ | ⟨s1, ty, pp, nf, W0, sb, nb, q1, ho, _⟩
    · rcases ho with ⟨_, h6, _⟩ | ⟨_, h6⟩
      · omega
      · rw [h6, Nat.add_sub_cancel] at hty
        omega
    · rcases ho with ⟨h9, _⟩ | ⟨h6, a, b, _⟩ <;> omega
    · omega
    · rcases ho with ⟨h9, _⟩ | ⟨h6, a, b, _⟩ <;> omega
theorem jm_blk (hC : MC kd wr TK ph m Cf SL fM NS ns SZ q0) (hW : WAL kd fA fM W) (ih : MIH kd wr nm TK SG ph vv m z Cf SL fA fM NS ns SZ q0 W) (hl : lev = r.length) (hM : MH kd wr nm TK vv m z Cf SL fA fM d s e stk lev p sg pn C C') (hn : n < 24000) (hN : 3 * (41 - d) ≤ N) (hF : 3 * (41 - d) + 7 ≤ F0) (hSG : gi fM 7 n = 27 → SG (C 2) = sg) (h : BLKX kd fA fM W d s e n stk ((p, sg, qq) :: r) q q' C C') :
    ∃ T F, JSP kd wr nm TK SG m z SL fA fM NS ns SZ lev pn (RXS kd wr nm TK SG ph m Cf SL fA fM NS ns SZ q0 lev p kp stk s e C C' T F) p sg kp N s e n stk q q' C C' T F (fX4_statement_61 (RX4_block F0) (Int32.ofNat d)) := by
  have hwsB := blk_ws (H := fun _ => False) hW.ws h
  obtain ⟨p', sg', q0', r', hp, hnC, h4, h7, h8, h41, h42, h17, h15, h14, jd, s1, sg1, q1, al, C1, xs, e1, h40, h39, h33, hsg1, hD, hS, h5, hee, hdd, hG⟩ := h
  injection hp with hp1 hp2
  injection hp1 with hp1 hp3
  injection hp3 with hp3 hp4
  subst hp1
  subst hp3
  subst hp2
  obtain ⟨hCT, ⟨hd1, hd2, hlev, h30p, hp4'⟩, ⟨hne, hstk, h15s, h15a, hlen, hfo⟩, hO, hsg, hL, h7f, h7s, hem, hk50⟩ := id hM
  obtain ⟨hT, hB, hcu, hU, hl9, hSY, hFM, hPN, hwr, _⟩ := id hCT
  have hm9 := hCT.m9
  obtain ⟨⟨hNS, hns, hns4, hcf3, hSZ1, h53⟩, hPH, ⟨hSZ, h200⟩, _⟩ := id hC
  have hb5 := hT.2.2.2.1
  have hSGe := hSG h7
  have hd40 : d ≤ 40 := by
    rcases hd2 with c | c
    · exact c
    · exact absurd (h4.symm.trans c.2) (by decide)
  let Cd : CV := upD (upD (upD C 0 1) 2 1) 3 1
  have u1 : Cd 1 = C 1 := by
    show upD (upD (upD C 0 1) 2 1) 3 1 1 = _
    rw [upD_n (by decide), upD_n (by decide), upD_n (by decide)]
  have u2 : Cd 2 = C 2 + 1 := by
    show upD (upD (upD C 0 1) 2 1) 3 1 2 = _
    rw [upD_n (by decide), upD_s, upD_n (by decide)]
  have u3 : Cd 3 = C 3 + 1 := by
    show upD (upD (upD C 0 1) 2 1) 3 1 3 = _
    rw [upD_s, upD_n (by decide), upD_n (by decide)]
  have u4 : Cd 4 = C 4 := by
    show upD (upD (upD C 0 1) 2 1) 3 1 4 = _
    rw [upD_n (by decide), upD_n (by decide), upD_n (by decide)]
  have u5 : Cd 5 = C 5 := by
    show upD (upD (upD C 0 1) 2 1) 3 1 5 = _
    rw [upD_n (by decide), upD_n (by decide), upD_n (by decide)]
  have u7 : Cd 7 = C 7 := by
    show upD (upD (upD C 0 1) 2 1) 3 1 7 = _
    rw [upD_n (by decide), upD_n (by decide), upD_n (by decide)]
  have hD : DCSX kd fA fM W (d + 1) (C 2 :: stk) (hdM stk) p r jd (s + 1) s1 (sg + 1) sg1 (q + 2) q1 al Cd C1 := hD
  have hLCd : LEC (upD C 2 1) Cd := by
    intro i
    show upD C 2 1 i ≤ upD (upD (upD C 0 1) 2 1) 3 1 i
    have : upD C 2 1 i ≤ upD (upD C 0 1) 2 1 i := by
      unfold upD upC
      by_cases c2 : i = 2
      · subst c2; simp
      · by_cases c0 : i = 0
        · subst c0; simp
        · simp [c2, c0]
    exact Nat.le_trans this (LEC.upD i)
  obtain ⟨a1, a2, _, a4⟩ := dcs_tp hW.tp _ _ _ _ _ _ _ _ _ _ hD
  obtain ⟨b1, b2, _, b4, b5, _⟩ := sts_tp hW.tp _ _ _ _ _ _ _ hS
  have wD := dcs_ws hW.ws _ _ _ _ _ _ _ _ _ _ hD
  have wS := sts_ws hW.ws _ _ _ _ _ _ _ hS
  have xD := dcs_9 hW.w9 hW.tp _ _ _ _ _ _ _ _ _ _ hD
  have xS := sts_9 hW.w9 hW.tp _ _ _ _ _ _ _ hS
  obtain ⟨d1, d2, d3, d4⟩ := dcs_sd hW.tp _ _ _ _ _ _ _ _ _ _ hD
  rw [u1] at d3 d4
  obtain ⟨c4', Q', _, _, _, _, e2', e3'⟩ := hG
  have l1 := a2 1
  rw [u1] at l1
  have l2 := a2 2
  rw [u2] at l2
  have l3 := a2 3
  rw [u3] at l3
  have l4 := a2 4
  rw [u4] at l4
  have l5 := a2 5
  rw [u5] at l5
  have k1 := b2 1
  have k2 := b2 2
  have k3 := b2 3
  have k4 := b2 4
  have k5 := b2 5
  have f0 := hL 0
  have f1 := hL 1
  have f2 := hL 2
  have f3 := hL 3
  have f4 := hL 4
  have cm1 := cntP_mono (w := fM) (p := p) (show C1 1 ≤ Cf 1 by omega)
  have hz := hSZ p (by omega)
  have hpl : C 2 < C' 2 := by omega
  have hnil : ∀ i ∈ SL (C 2), (C 1 ≤ i ∧ i < C' 1) ∧ ∃ t, NIL fM i t := fun i hi => by
    have o := hO (C 2) i (Nat.le_refl _) hpl hi
    obtain ⟨t, pp, g1, _⟩ := hwsB.2.1 i o.1 o.2
    exact ⟨o, t, g1.2.2⟩
  have hDSL := dcs_dsl hW.ws hW.tp (stk := C 2 :: stk) (h := fun y => y ∈ SL (C 2)) (fun y t h1 (h2 : y ∈ SL (C 2)) => show t = C 2 from nil_in hT h1 (by omega) h2) _ _ _ _ _ _ _ _ _ _ (show (C 2 :: stk).headD 0 < Cd 2 by show C 2 < Cd 2; omega) ⟨by omega, by omega⟩ hD
  rw [u1] at hDSL
  have hlab : ∀ i ∈ SL (C 2), C1 1 ≤ i → gi fM 19 i = 4 := fun i hi h1 => by
    obtain ⟨o, _⟩ := hnil i hi
    rcases sts_lb hW _ _ _ _ _ _ _ hS i h1 o.2 with g | ⟨t, t1, t2⟩
    · exact g
    · have := nil_in hT t2 (by omega) hi
      omega
  have h6 : ∀ i ∈ SL (C 2), gi fM 19 i ≠ 6 := fun i hi => by
    obtain ⟨o, _⟩ := hnil i hi
    by_cases c : i < C1 1
    · exact (hDSL.1 i hi o.1 c).1.1
    · rw [hlab i hi (by omega)]; decide
  have hsc : ∀ i ∈ SL (C 2), (gi fM 19 i = 5 ∨ gi fM 19 i = 2 → C 1 ≤ i ∧ i < C1 1) ∧ (gi fM 19 i = 4 → C1 1 ≤ i ∧ i < C' 1) := fun i hi => by
    obtain ⟨o, _⟩ := hnil i hi
    refine ⟨fun h => ⟨o.1, ?_⟩, fun h => ⟨?_, o.2⟩⟩
    · refine Classical.byContradiction fun c => ?_
      have := hlab i hi (by omega)
      rcases h with h | h <;> exact absurd (h.symm.trans this) (by decide)
    · refine Classical.byContradiction fun c => ?_
      exact (hDSL.1 i hi o.1 (by omega)).1.2.1 h
  -- what's round the parts
  have hM0 : MH kd wr nm TK vv m z Cf SL fA fM (d + 1) (s + 1) e1 stk lev p sg pn C C' := hM.mv ⟨by omega, hdd.elim (fun c => Or.inl c) (fun c => by
    by_cases q9 : d + 1 ≤ 40
    · exact Or.inl q9
    · exact Or.inr ⟨by omega, c⟩)⟩ (by omega) LEC.rf hO ⟨hsg.1, by omega⟩ ⟨hL, h7f, by omega, by omega, by rw [h5]; decide⟩
  have hMi : MH kd wr nm TK vv m z Cf SL fA fM (d + 1) (s + 1) e1 (C 2 :: stk) lev p sg pn (upD C 2 1) C' := hM0.ins h14 h15 (by omega) (by omega) h6
  have hOi : OUT SL Cd C' := hO.sub u1 (by omega) rfl (Nat.le_refl _)
  have hMD : MH kd wr nm TK vv m z Cf SL fA fM (d + 1) (s + 1) e1 (C 2 :: stk) lev p (sg + 1) pn Cd C1 := hMi.mv ⟨Nat.le_refl _, hMi.2.1.2.1⟩ (Nat.le_refl _) hLCd (hOi.ll hT wS (fun t ht => by rw [ht]; show C 2 < Cd 2; omega) (a2 2) f2) ⟨by omega, by rw [u1]; omega⟩ ⟨b2.tr3 hL, c7_in h7f xS.2.1, by rw [u7]; omega, by omega, by rw [h5]; decide⟩
  have c17 : C1 7 ≤ s1 := xD.2.2.1 (by rw [u7]; omega) (by omega)
  have hMS : MH kd wr nm TK vv m z Cf SL fA fM (d + 1) s1 e1 (C 2 :: stk) lev p sg1 pn C1 C' := hMi.mv ⟨Nat.le_refl _, by
    rcases hMi.2.1.2.1 with c | c
    · exact Or.inl c
    · exact Or.inr ⟨c.1, by rw [dcs_no hD c.2]; exact c.2⟩⟩ (by omega) (hLCd.tr3 a2) (hOi.rr hT wD (fun t ht => by rw [ht]; show C 2 < C1 2; omega) (b2 2) f2) ⟨by omega, by omega⟩ ⟨hL, h7f, c17, by omega, by rw [h5]; decide⟩
  obtain ⟨N1, rfl⟩ : ∃ N1, N = N1 + 2 := ⟨N - 2, by omega⟩
  obtain ⟨F1, rfl⟩ : ∃ F1, F0 = F1 + 2 := ⟨F0 - 2, by omega⟩
  obtain ⟨T, hJD⟩ := dcs_j (SG := SG) (sg := sg) (WW := sg1 - sg) (F0 := F1) hC hW ih hl (by omega) _ _ _ _ _ _ _ _ _ _ _ hMD b1 hD
  obtain ⟨T', F, hJS⟩ := sts_j (SG := SG) (kp := sg) (N := N1) (F0 := F1 + 1) hC hW ih hl (by omega) (by omega) _ _ _ _ _ _ _ hMS (by omega) hS
  have eW : sg + (sg1 - sg) = sg1 := by omega
  have hp5 := (hPH e1 (by omega)).2.2.1 h5
  have hp4 := (hPH s (by omega)).2.1 h4
  have hw1 : wr s ≤ wr (s + 1) ∧ wr (s + 1) ≤ wr s1 ∧ wr s1 ≤ wr e1 ∧ wr e1 ≤ wr e := ⟨hB.mono (by omega) (by omega), hB.mono (by omega) (by omega), hB.mono b1 (by omega), hB.mono (by omega) hem⟩
  have hph1 : ph s + 6 ≤ ph (s + 1) ∧ ph (s + 1) ≤ ph s1 ∧ ph s1 ≤ ph e1 ∧ ph e1 + 4 ≤ ph e := ⟨hp4, hPH.mono (by omega) (by omega), hPH.mono b1 (by omega), by rw [hee]; exact hp5⟩
  refine ⟨_, F, jp_blk (xs := xs) (al := al) (T := T) (T' := T') (F := F) (W := sg1 - sg) (q1 := q1) (s1 := s1) (C1 := C1) (Cd := Cd) (jd := jd) (RD := RXD kd wr nm TK SG ph m Cf SL fA fM NS ns SZ q0 lev p sg (C 2) stk (s + 1) s1 Cd C1 T) (RS := RXS kd wr nm TK SG ph m Cf SL fA fM NS ns SZ q0 lev p sg (C 2 :: stk) s1 e1 C1 C' T' F) (rcB := RX4_block (F1 + 1)) (rcD := RX4_block F1) hCT (fun PD ars swl LA PS sts LA' g1 g2 g3 g4 g5 g6 => rx_blk (W := sg1 - sg) g1 g2 g3 g4 ⟨u1, u3, u4, u5, u7⟩ ⟨a2 3, k3⟩ ⟨a2 4, k4⟩ ⟨a2 5, k5⟩ xS.2.1 hw1 hph1 g5 g6) h4 ?_ h7 h8 hn (by omega) ?_ ?_ h42 h17 h15 h14 h33 (by omega) (by omega) (by omega) hNS hns4 (by rw [List.length_cons]; omega) (fun hc => by have := hstk _ hc; omega) (sl_down hT (by omega) (fun i hi => (hnil i hi).2)) hsc (by omega) (by omega) (fun E hEQ => ?_) (fun E Lim hEQ hSO hZ hQ => ?_) (by omega) ⟨u1, u2⟩ h5 hee hem (by omega) hJD (by rw [eW]; exact hJS) (fun w => RB0) (fun w => RB1)⟩
  · rcases hdd with c | c
    · exact Or.inl (by omega)
    · by_cases q9 : d < 40
      · exact Or.inl q9
      · exact Or.inr ⟨by omega, c⟩
  · have := a4 (by have := b2 0; omega)
    rw [h40]
    cases al with
    | nil => exact this
    | cons x l => exact this
  · rw [h39]
    exact b4 (by omega)
  · obtain ⟨q1', q2', q3', q4', q5', q6', q7', ⟨_, _, _, _, _⟩, q9', q10', q11', _⟩ := hEQ
    rw [q11' _ (by omega)]
    exact hSGe
  · have h10 : gi fM 0 10 = 0 := by
      have := hEQ.2.2.2.2.2.2.2.2.2.1
      rw [hEQ.1] at this
      exact this
    have hc200 := h200 h10 p (by omega)
    exact bls_of hEQ hSO h17 (by omega) h15 hSGe h41 (by omega) (by omega) hZ (by omega) hsg.1 hQ (by omega) (by rw [eW]; exact hDSL) (fun y hy => ⟨(hnil y hy).1.1, by have := (hnil y hy).1.2; omega, hlab y hy⟩)
/-- all STATEMENTS -/
theorem mih (hC : MC kd wr TK ph m Cf SL fM NS ns SZ q0) : ∀ k, MIH kd wr nm TK SG ph vv m z Cf SL fA fM NS ns SZ q0 (PSTG kd fA fM SG k) := by
  intro k
  induction k with
  | zero => exact fun _ _ _ _ _ _ _ _ _ _ _ _ _ _ _ _ _ _ h => h.elim
  | succ k ih =>
    intro d s e n stk q q' C C' lev p sg qq r pn kp N F0 h hl hM hN hF
    have hW : WAL kd fA fM (PSTG kd fA fM SG k) := ⟨k, fun _ _ _ _ _ _ _ _ _ _ h => pstg_x k _ _ _ _ _ _ _ _ _ _ h⟩
    obtain ⟨⟨⟨j, h1, h2, h3, h4⟩, h5⟩, hSG⟩ := h
    have hSG : gi fM 7 n = 27 → SG (C 2) = sg := hSG
    have h2 : DCN fA fM (C 1) j (stk.headD 0) p := h2
    obtain ⟨hse, hLE, hn0, hn1⟩ := h5
    obtain ⟨hCT, ⟨hd1, hd2, _⟩, ⟨hne, hstk, _⟩, hO, hsg, hL, h7f, h7s, hem, hk50⟩ := id hM
    have hT := hCT.1
    have hB := hCT.2.1
    have hm9 := hCT.m9
    have hPH := hC.2.1
    obtain ⟨hNS, hns, _⟩ := hC.1
    have hb5 := hT.2.2.2.1
    have f0 := hL 0
    have f1 := hL 1
    have f2 := hL 2
    have u0 : upD C 1 j 0 = C 0 := upD_n (by decide)
    have u1 : upD C 1 j 1 = C 1 + j := upD_s
    have u2 : upD C 1 j 2 = C 2 := upD_n (by decide)
    have u7 : upD C 1 j 7 = C 7 := upD_n (by decide)
    have hpw := pln_ws (H := fun _ => False) hW.ws h4
    have hse2 := pln_se hW.tp h4
    have hj1 : C 1 + j ≤ C' 1 := by have := hpw.1.1; omega
    have hs0 : stk.headD 0 < C 2 := by
      cases stk with
      | nil => exact absurd rfl hne
      | cons t r => exact hstk t List.mem_cons_self
    have hwl : WSH fA fM (fun t => t = stk.headD 0) C (upD C 1 j) := WSH.sy (j := j) u1 u2 (upD_n (by decide)) h2 rfl
    have hMp : MH kd wr nm TK vv m z Cf SL fA fM d (s + 2 * j) e stk lev p sg pn (upD C 1 j) C' := hM.mv ⟨Nat.le_refl _, by
      rcases hd2 with c | c
      · exact Or.inl c
      · have hj0 : j = 0 := by
          refine Classical.byContradiction fun q9 => ?_
          have := (h1.2 0 (by omega)).1
          rw [show s + 2 * 0 = s by omega, c.2] at this
          exact absurd this (by decide)
        subst hj0
        exact Or.inr c⟩ (by omega) LEC.upD (hO.rr hT hwl (fun t ht => by rw [ht, u2]; exact hs0) (by rw [u2]; exact hLE 2) f2) ⟨hsg.1, by
      have := cntP_mono (w := fM) (p := p) (show C 1 ≤ upD C 1 j 1 by omega)
      omega⟩ ⟨hL, h7f, by rw [u7]; omega, hem, hk50⟩
    obtain ⟨N1, rfl⟩ : ∃ N1, N = N1 + 1 := ⟨N - 1, by omega⟩
    have hn : n < 24000 := by omega
    have hd40 : kd (s + 2 * j) ≠ 5 → d ≤ 40 := fun hc => by
      rcases hMp.2.1.2.1 with c | c
      · exact c
      · exact absurd c.2 hc
    have key : ∃ T F, JSP kd wr nm TK SG m z SL fA fM NS ns SZ lev pn (RXS kd wr nm TK SG ph m Cf SL fA fM NS ns SZ q0 lev p kp stk (s + 2 * j) e (upD C 1 j) C' T F) p sg kp N1 (s + 2 * j) e n stk q q' (upD C 1 j) C' T F (fX4_statement_61 (RX4_block F0) (Int32.ofNat d)) := by
      have h4' := h4
      obtain ⟨p', sg', q0', r', hp, h4⟩ := h4
      injection hp with hp1 hp2
      injection hp1 with hp1 hp3
      injection hp3 with hp3 hp4
      subst hp1
      subst hp3
      subst hp2
      rcases h4 with h | h | h | h | h | h | h | h
      · obtain ⟨g1, g2, g3, g4, x, g5, g6, g7, g8, g9⟩ := h
        exact jm_call hC hMp hn g2 g3 g4 g5 g6 g7 g8 g9
      · obtain ⟨g1, g2, g3, x, xs, y, e1, g4, g5, g6, g7, g8, g9, g10, c7, g11, g12⟩ := h
        exact jm_assign hC hMp hn (hd40 (by omega)) g2 g3 g4 g5 g6 g7 g8 g9 g10 g11 g12
      · obtain ⟨g1, g2, g3, g4, x, e1, cn, g5, g6, g7, g8, g9, g10, g11⟩ := h
        exact jm_print hC hMp hn g1 g2 g3 g4 g5 g6 g7 g8 g9 g10 g11
      · obtain ⟨g1, g2, x, g3, g4, g5, g6, g7⟩ := h
        exact jm_goto hC hMp hn g1 (hd40 (by omega)) g2 g3 g4 g5 g6 g7
      · obtain ⟨g1, g2, g3, x, y, e1, e2, cn, q1, C1, g4, g5, g6, g7, g8, g9⟩ := h
        have hlo := (PWR.agr _ fM fM _ _ _ _ _ _ g6.2).1
        rcases g9 with ⟨k1, k2, k3, k4, k5, k6⟩ | ⟨k1, v, C2, k2, k3, k4, k5⟩
        · subst k3
          subst k4
          exact jm_if1 hC hW ih hl hMp hn (by omega) hF g1 g2 g3 g4 g5 g6 g7 g8 k1 k2 k5 k6 hlo
        · exact jm_if2 hC hW ih hl hMp hn (by omega) hF g1 g2 g3 g4 g5 g6 g7 g8 k1 k2 k3 k4 k5 hlo
      · obtain ⟨g1, g2, g3, x, xs, y, e1, e2, lo, C1, g4, g5, g6, g7, g8, g9, g10, g11, g12, g13⟩ := h
        have hlt := els_lt _ _ _ g9
        exact jm_for hC hW ih hl hMp hn (by omega) hF g1 g2 g3 g4 g5 g6 g7 g8 g9 g10 g11 g12 g13 (by omega)
      · exact jm_blk hC hW ih hl hMp hn (by omega) hF (by rw [u2]; exact hSG) h
      · obtain ⟨g1, g2, g3, g4, g5, g6⟩ := h
        rw [← g4] at *
        exact jm_none hC hMp hn g1 g2 g3 g5 (by rw [g6])
    obtain ⟨T, F, hJ⟩ := key
    exact ⟨T, F, jst_lab (R1 := RXS kd wr nm TK SG ph m Cf SL fA fM NS ns SZ q0 lev p kp stk (s + 2 * j) e (upD C 1 j) C' T F) (fun PA PM a b hmon hR => rx_lab h1 hmon (hB.mono (by omega) (by omega)) (hPH.mono (by omega) (by omega)) hR) hCT h1 h2 h3 hns ⟨hj1, by omega⟩ hse2 hem hn hs0 (by have := hLE 2; omega) hpw hJ⟩
end RR7
