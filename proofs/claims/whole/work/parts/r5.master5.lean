/-! THE MASTER: procedures -/
section RR5
variable {kd wr nm TK SG ph : Nat → Nat} {vv : Nat → Int64} {m z : Nat} {Cf : CV} {SL : Nat → List Nat} {fA fM : Wd} {NS ns SZ : Nat} {q0 : Int32 × Int32} {d lev p sg sgx sgx' s e s0 j n q q' F0 WW : Nat} {st : List Nat} {pn : Nat → Int32} {C C' : CV} {W : PSTT} {r : PRL} {rc rc0 : TX4_block} {an : Option Nat}
theorem upD_4 {nf : Nat} : upD (upD (upD (upD (upD C 1 (1 + nf)) 2 1) 4 1) 6 1) 2 1 = upD (upD (upD (upD C 1 (1 + nf)) 2 2) 4 1) 6 1 := by
  funext i
  unfold upD upC
  by_cases h2 : i = 2
  · subst h2
    simp
  · by_cases h4 : i = 4
    · subst h4
      simp
    · by_cases h6 : i = 6
      · subst h6
        simp
      · by_cases h1 : i = 1
        · subst h1
          simp
        · simp [h1, h2, h4, h6]
theorem steps2 {f : Nat → Nat} : ∀ n, f 0 = 0 → (∀ i, i < n → ∃ w, (w = 1 ∨ w = 2) ∧ f (i + 1) = f i + w) → f n ≤ 2 * n := by
  intro n
  induction n with
  | zero => intro h _; omega
  | succ n ih =>
    intro h0 h
    obtain ⟨w, w1, w2⟩ := h n (by omega)
    have := ih h0 (fun i hi => h i (by omega))
    omega
theorem jm_proc (hC : MC kd wr TK ph m Cf SL fM NS ns SZ q0) (hW : WAL kd fA fM W) (ih : MIH kd wr nm TK SG ph vv m z Cf SL fA fM NS ns SZ q0 W) (hM : MH kd wr nm TK vv m z Cf SL fA fM d s e (s0 :: st) lev p sgx pn C C') (hlv : lev = r.length) (hF : 3 * (41 - d) + 8 ≤ F0) (hd0 : 1 ≤ d)
    {s1 ty nf W0 sb nb q1 : Nat} (ho : kd s = 10 ∧ s1 = s + 1 ∧ ty = 0 ∨ kd s = 6 + ty ∧ 1 ≤ ty ∧ ty ≤ 2 ∧ kd (s + 1) = 10 ∧ s1 = s + 2) (hs1 : kd s1 = 2) (h22 : gi fM 22 (C 1) = Int32.ofNat s1) (h19 : gi fM 19 (C 1) = 3) (hd : d ≤ 39) (h24 : gi fM 24 (C 1) = Int32.ofNat (C 4)) (h29 : gi fM 29 (C 4) = Int32.ofNat (C 1)) (h30 : gi fM 30 (C 4) = Int32.ofNat (lev + 1)) (h37 : gi fM 37 (C 4) = Int32.ofNat p) (h31 : gi fM 31 (C 4) = Int32.ofNat nf) (h32 : gi fM 32 (C 4) = Int32.ofNat (C 1 + 1)) (h33 : gi fM 33 (C 4) = Int32.ofNat nb) (hsb : gi fA 24 (C 1 + 1) = Int32.ofNat sb) (hW0 : gi fA 18 (C 1 + 1) = Int32.ofNat W0) (hs1b : s1 + 1 + 2 * nf < sb) (hD1 : DC1 fA fM (C 1) s0 p) (hDf : DCN fA fM (C 1 + 1) nf (C 2) (C 4))
    (hfm : ∀ i, i < nf → gi fM 19 (C 1 + 1 + i) = 6 ∧ gi fM 26 (C 1 + 1 + i) = Int32.ofNat (1 + 2 * i) ∧ ∃ tk, tk < sb ∧ gi fM 22 (C 1 + 1 + i) = Int32.ofNat tk)
    (h14 : gi fM 14 (C 2) = hdM (s0 :: st)) (h17 : gi fM 17 (C 2) = -1) (h14b : gi fM 14 (C 2 + 1) = Int32.ofNat (C 2)) (h17b : gi fM 17 (C 2 + 1) = -1) (h15 : gi fM 15 (C 2) = Int32.ofNat (C 4)) (h15b : gi fM 15 (C 2 + 1) = Int32.ofNat (C 4))
    (hB : W (d + 1) sb e nb ((C 2 + 1) :: C 2 :: s0 :: st) ((C 4, 6 + W0, 1 + 2 * nf) :: (p, sgx, q) :: r) (1 + 2 * nf) q1 (upD (upD (upD (upD C 1 (1 + nf)) 2 2) 4 1) 6 1) C') (h35 : gi fM 35 (C 4) = Int32.ofNat q1)
    (hff : ∃ f : Nat → Nat, f 0 = 0 ∧ f nf = W0 ∧ ∀ i, i < nf → ∃ w, (w = 1 ∨ w = 2) ∧ f (i + 1) = f i + w ∧ gi fA 18 (C 1 + 1 + i + 1) = Int32.ofNat (6 + f i) ∧ (w = 1 ↔ gi fM 28 (C 1 + 1 + i) = 1 ∨ gi fM 24 (C 1 + 1 + i) = 2)) :
    ∃ T, JDX (fun LA PD T => SSC kd wr nm TK z fA SL NS ns SZ lev pn (sg + WW) sg (C 2) (C' 2) (C 1) (C' 1) s e (s0 :: st) LA PD T (fun w => RX4_block F0 2 (Int32.ofNat d) 0 0 w)) kd wr nm TK SG m SL fA fM NS ns lev (RXD kd wr nm TK SG ph m Cf SL fA fM NS ns SZ q0 lev p sg s0 st s e C C' T) p sg WW s e s0 st [] C C' T := by
  obtain ⟨hCT, ⟨hd1, hd2, hlev, h30p, hp4⟩, ⟨_, hstk, h15s, h15a, hlen, hfo⟩, hO, hsg, hL, h7f, h7s, hem, hk50⟩ := id hM
  obtain ⟨hT, hBW, hcu, hU, hl9, hSY, hFM, hPN, hwr, _⟩ := id hCT
  have hm9 := hCT.m9
  obtain ⟨⟨hNS, hns, hns4, hcf3, hSZ1, h53⟩, hPH, ⟨hSZ, _⟩, _, _, _, hcuA⟩ := id hC
  have hb5 := hT.2.2.2.1
  have hs0 := hstk s0 List.mem_cons_self
  let Cb : CV := upD (upD (upD (upD C 1 (1 + nf)) 2 1) 4 1) 6 1
  have eCb : upD Cb 2 1 = upD (upD (upD (upD C 1 (1 + nf)) 2 2) 4 1) 6 1 := upD_4
  have b1 : Cb 1 = C 1 + 1 + nf := by
    show upD (upD (upD (upD C 1 (1 + nf)) 2 1) 4 1) 6 1 1 = _
    rw [upD_n (by decide), upD_n (by decide), upD_n (by decide), upD_s]; omega
  have b2 : Cb 2 = C 2 + 1 := by
    show upD (upD (upD (upD C 1 (1 + nf)) 2 1) 4 1) 6 1 2 = _
    rw [upD_n (by decide), upD_n (by decide), upD_s, upD_n (by decide)]
  have b3 : Cb 3 = C 3 := by
    show upD (upD (upD (upD C 1 (1 + nf)) 2 1) 4 1) 6 1 3 = _
    rw [upD_n (by decide), upD_n (by decide), upD_n (by decide), upD_n (by decide)]
  have b4 : Cb 4 = C 4 + 1 := by
    show upD (upD (upD (upD C 1 (1 + nf)) 2 1) 4 1) 6 1 4 = _
    rw [upD_n (by decide), upD_s, upD_n (by decide), upD_n (by decide)]
  have b5 : Cb 5 = C 5 := by
    show upD (upD (upD (upD C 1 (1 + nf)) 2 1) 4 1) 6 1 5 = _
    rw [upD_n (by decide), upD_n (by decide), upD_n (by decide), upD_n (by decide)]
  have b7 : Cb 7 = C 7 := by
    show upD (upD (upD (upD C 1 (1 + nf)) 2 1) 4 1) 6 1 7 = _
    rw [upD_n (by decide), upD_n (by decide), upD_n (by decide), upD_n (by decide)]
  rw [← eCb] at hB
  obtain ⟨t1, t2, t3, t4⟩ := hW.tp _ _ _ _ _ _ _ _ _ _ hB
  have hsq := (hW.sq _ _ _ _ _ _ _ _ _ _ hB).2
  have hws := hW.ws _ _ _ _ _ _ _ _ _ _ hB
  have v1 : upD Cb 2 1 1 = Cb 1 := upD_n (by decide)
  have v2 : upD Cb 2 1 2 = Cb 2 + 1 := upD_s
  have v3 : upD Cb 2 1 3 = Cb 3 := upD_n (by decide)
  have v4 : upD Cb 2 1 4 = Cb 4 := upD_n (by decide)
  have l1 := t2 1
  have l2 := t2 2
  have l4 := t2 4
  rw [v1, b1] at l1
  rw [v2, b2] at l2
  rw [v4, b4] at l4
  have f1 := hL 1
  have f2 := hL 2
  have f4 := hL 4
  -- where symbols lie
  have hnil : ∀ y, Cb 1 ≤ y → y < C' 1 → ∃ t, C 2 + 1 ≤ t ∧ NIL fM y t := fun y h1 h2 => by
    obtain ⟨t, pp, g1, g2⟩ := hws.2.1 y (by rw [v1]; exact h1) h2
    refine ⟨t, ?_, g1.2.2⟩
    rcases g2 with g2 | g2
    · have g2 : t = C 2 + 1 := g2
      omega
    · rw [v2, b2] at g2
      omega
  have hfnil : ∀ y, C 1 + 1 ≤ y → y < C 1 + 1 + nf → NIL fM y (C 2) := fun y h1 h2 => by
    have := (hDf (y - (C 1 + 1)) (by omega)).2.2
    rw [show C 1 + 1 + (y - (C 1 + 1)) = y by omega] at this
    exact this
  have hf1 : ∀ y ∈ SL (C 2), C 1 + 1 ≤ y ∧ y < C 1 + 1 + nf := fun y hy => by
    obtain ⟨o1, o2⟩ := hO (C 2) y (Nat.le_refl _) (by omega) hy
    by_cases c0 : y = C 1
    · subst c0
      have := nil_in hT hD1.2.2 (by omega) hy
      omega
    · by_cases c1 : y < C 1 + 1 + nf
      · omega
      · obtain ⟨t, g1, g2⟩ := hnil y (by omega) o2
        have := nil_in hT g2 (by omega) hy
        omega
  have hin : ∀ i ∈ SL s0, C 1 < i → i < C' 1 → False := fun i hi h1 h2 => by
    by_cases c1 : i < C 1 + 1 + nf
    · have := nil_in hT (hfnil i (by omega) c1) (by omega) hi
      omega
    · obtain ⟨t, g1, g2⟩ := hnil i (by omega) h2
      have := nil_in hT g2 (by omega) hi
      omega
  have hO2 : OUT SL Cb C' := fun t i g1 g2 hi => by
    rw [b2] at g1
    obtain ⟨o1, o2⟩ := hO t i (by omega) g2 hi
    rw [b1]
    refine ⟨?_, o2⟩
    by_cases c0 : i = C 1
    · subst c0
      have := nil_in hT hD1.2.2 (by omega) hi
      omega
    · by_cases c1 : i < C 1 + 1 + nf
      · have := nil_in hT (hfnil i (by omega) c1) (by omega) hi
        omega
      · omega
  obtain ⟨f, z0, z1, z2⟩ := id hff
  have hW02 : W0 ≤ 2 * nf := by
    rw [← z1]
    exact steps2 nf z0 (fun i hi => by obtain ⟨w, w1, w2, _⟩ := z2 i hi; exact ⟨w, w1, w2⟩)
  have hcnt := cntP_all (w := fM) (p := C 4) (a := C 1 + 1) nf (fun i hi => ⟨(hDf i hi).1, by rw [(hfm i hi).1]; decide⟩)
  have hcm := cntP_mono (w := fM) (p := C 4) (show C 1 + 1 + nf ≤ Cf 1 by omega)
  have hcm' := cntP_mono (w := fM) (p := C 4) (show C' 1 ≤ Cf 1 by omega)
  have hcall := cntP_le (w := fM) (p := C 4) (n := Cf 1)
  have hSZp := hSZ (C 4) (by omega)
  obtain ⟨w1, w2, w3⟩ := hsq
  have w2 : q1 + 8 * cntP fM (C 4) (upD Cb 2 1 1) ≤ 1 + 2 * nf + 8 * cntP fM (C 4) (C' 1) + 2 * (C' 3 - upD Cb 2 1 3) := w2
  have f3 := hL 3
  rw [v1, b1] at w2
  rw [v3, b3] at w2
  have hq1b : q1 ≤ 1 + 8 * cntP fM (C 4) (Cf 1) + 2 * Cf 3 ∧ 1 + 2 * nf ≤ q1 := ⟨by omega, w1⟩
  have hs1s : s + 1 ≤ s1 := by rcases ho with ho | ho <;> omega
  have hUp : UPM (Cf 2) fM (C 2 :: s0 :: st) := ⟨h14, by omega, hU⟩
  rw [List.length_cons] at hlen
  have hCT2 := hCT.up hC hUp (by rw [List.length_cons, List.length_cons]; omega) (show 1 ≤ C 4 by omega) (by omega) h37 hp4 (show C 1 < Cf 1 by omega) h24 h29 hD1.1 h30p (by omega)
  have hM2 : MH kd wr nm TK vv m z Cf SL fA fM (d + 1) sb e (C 2 :: s0 :: st) (lev + 1) (C 4) (6 + W0) (upN pn (lev + 1) (Int32.ofNat (C 1 + 1))) Cb C' := by
    refine ⟨hCT2, ⟨by omega, Or.inl (by omega), by omega, h30, by omega⟩, ⟨by simp, fun t ht => ?_, h15, fun t ht => ?_, by rw [List.length_cons, List.length_cons]; omega, fun t ht i hi h6 => ?_⟩, hO2, ⟨by omega, by rw [b1]; omega⟩, hL, h7f, by rw [b7]; omega, hem, hk50⟩
    · rcases List.mem_cons.mp ht with rfl | ht
      · omega
      · have := hstk t ht; omega
    · rcases List.mem_cons.mp ht with rfl | ht
      · exact ⟨C 4, by omega, h15⟩
      · obtain ⟨jj, j1, j2⟩ := h15a t ht
        exact ⟨jj, by omega, j2⟩
    · rcases List.mem_cons.mp ht with rfl | ht
      · obtain ⟨g1, g2⟩ := hf1 i hi
        have := (hfm (i - (C 1 + 1)) (by omega)).2.2
        rw [show C 1 + 1 + (i - (C 1 + 1)) = i by omega] at this
        exact this
      · obtain ⟨tk, k1, k2⟩ := hfo t ht i hi h6
        exact ⟨tk, by omega, k2⟩
  have hI : INS9 fM W (d + 1) sb e nb (C 2 :: s0 :: st) ((C 4, 6 + W0, 1 + 2 * nf) :: (p, sgx, q) :: r) (1 + 2 * nf) q1 Cb C' := by
    refine ⟨by rw [b2]; exact h14b, by rw [b2]; exact h17b, by rw [b2]; exact h15b, ?_⟩
    rw [b2]
    exact hB
  obtain ⟨F1, rfl⟩ : ∃ F1, F0 = F1 + 3 := ⟨F0 - 3, by omega⟩
  obtain ⟨tt, F, hJ⟩ := ins_j (kp := 2) (N := 200) (F0 := F1) (SG := SG) hC hW ih hI (show lev + 1 = ((p, sgx, q) :: r).length by rw [List.length_cons]; omega) hM2 (by rw [List.length_cons, List.length_cons]; omega) (by omega) (by omega)
  have htt := hJ.1.2
  refine ⟨0, jd_proc (pp := C 4) (N := 200) (Cb := Cb) (nb := nb) (q1 := q1) (nf := nf) (W0 := W0) (tt := tt) (F := F) (rc0 := RX4_block (F1 + 2)) (rc1 := RX4_block (F1 + 1)) hCT (fun PA PM LA LM hST hR1 hmon hsim => ?_) ho hs1 h22 h19 hd hsb hW0 (by omega) t1 hem (by omega) (by omega) (by omega) ⟨b1, b2⟩ (by omega) (by omega) hin hJ (fun w => rfl) (fun ty w => rfl)⟩
  refine rxd_proc (F := F) (tt := tt) (i0 := Cb 1) (i1 := C' 1) (Cb := Cb) (nb := nb) (nf := nf) (q1 := q1) hNS h53 ⟨by omega, by omega, by omega⟩ hT.1.2.1 (by omega) hSZ1 ⟨by omega, by omega⟩ h29 h19 h24 h30 (by omega) h30p h37 hp4 h31 h32 ⟨by omega, by omega⟩ h35 (by omega) hq1b h33 hUp (by rw [List.length_cons]; omega) h15 h17 h15s hD1.2.2 (fun t ht => ?_) hf1 hW0 (by omega) ?_ ⟨b1, b3, b4, b5, b7⟩ (by omega) ⟨?_, hBW.mono t1 hem⟩ (hPH.mono (by omega) (by omega)) (by omega) htt hST hR1 hmon hsim
  · obtain ⟨jj, j1, j2⟩ := h15a t ht
    rw [j2]
    intro c
    have := (eq_iN (by omega) (by omega)).mp c
    omega
  · refine ⟨f, z0, z1, fun i hi => ⟨⟨(hfm i hi).1, (hfm i hi).2.1⟩, z2 i hi⟩⟩
  · have := BYW.le hBW (2 * nf + 2) s (by omega)
    have := hBW.mono (show s + (2 * nf + 2) ≤ sb by omega) (by omega)
    omega
end RR5
