/-! THE MASTER: DECLS -/
section RR4
variable {kd wr nm TK SG ph : Nat → Nat} {vv : Nat → Int64} {m z : Nat} {Cf : CV} {SL : Nat → List Nat} {fA fM : Wd} {NS ns SZ : Nat} {q0 : Int32 × Int32} {d lev p sg sgx sgx' s e s0 j n q q' F0 WW : Nat} {st : List Nat} {pn : Nat → Int32} {C C' : CV} {W : PSTT} {r : PRL} {rc rc0 : TX4_block} {an : Option Nat}
theorem nms_ph {s1 i0 : Nat} (hPH : PHW kd ph m) : ∀ j, NMS kd fM s1 j i0 → 1 ≤ j → s1 + 2 * j - 1 ≤ m → ph s1 + 2 * j ≤ ph (s1 + 2 * j - 1) := by
  intro j
  induction j with
  | zero => exact fun _ h => absurd h (by omega)
  | succ j ih =>
    intro h _ hm
    have h2 := (hPH (s1 + 2 * j) (by omega)).2.2.2.2.2 (h j (by omega)).1
    rw [show s1 + 2 * (j + 1) - 1 = s1 + 2 * j + 1 by omega]
    by_cases c : j = 0
    · subst c
      exact h2
    · have i1 := ih (fun i hi => ⟨(h i (by omega)).1, fun hh => (h i (by omega)).2.1 (by omega), (h i (by omega)).2.2⟩) (by omega) (by omega)
      have := hPH.mono (show s1 + 2 * j - 1 ≤ s1 + 2 * j by omega) (by omega)
      omega
theorem jm_var (hC : MC kd wr TK ph m Cf SL fM NS ns SZ q0) (hM : MH kd wr nm TK vv m z Cf SL fA fM d s e (s0 :: st) lev p sgx pn C C') (h41 : kd e = 41) (hF : 2 ≤ F0) {s1 ty own : Nat} (ho : own = 1 ∧ kd s = 6 ∧ s1 = s + 2 ∨ own = 0 ∧ s1 = s + 1) (hty : kd (s1 - 1) = 6 + ty) (h1 : 1 ≤ ty) (h2 : ty ≤ 2) (hj : 1 ≤ j) (hN : NMS kd fM s1 j (C 1)) (he : e = s1 + 2 * j - 1) (h9 : ∀ i, i < j → gi fM 19 (C 1 + i) = 1) (h10 : own = 0 → C' = upD C 1 j) (h11 : own = 1 → C' = upD (upD C 1 j) 5 j) :
    ∃ T, JDX (fun LA PD T => SSC kd wr nm TK z fA SL NS ns SZ lev pn (sg + WW) sg (C 2) (C' 2) (C 1) (C' 1) s e (s0 :: st) LA PD T (fun w => RX4_block F0 2 (Int32.ofNat d) 0 0 w)) kd wr nm TK SG m SL fA fM NS ns lev (RXD kd wr nm TK SG ph m Cf SL fA fM NS ns SZ q0 lev p sg s0 st s e C C' T) p sg WW s e s0 st [] C C' T := by
  have hB := hM.1.2.1
  have hTB := hM.1.1
  obtain ⟨hL, h7f, h7s, hem, hk50⟩ := hM.2.2.2.2.2
  obtain ⟨hc0, hPH, _⟩ := id hC
  obtain ⟨hNS, hns, _⟩ := hc0
  have hb5 := hTB.2.2.2.1.1
  have hse : s ≤ e := by rcases ho with ho | ho <;> omega
  have key : C' 1 = C 1 + j ∧ C' 2 = C 2 ∧ C' 3 = C 3 ∧ C' 4 = C 4 ∧ C' 7 = C 7 ∧ 2 * (C' 5 - C 5) ≤ ph e - ph s := by
    by_cases c : own = 0
    · have x := h10 c
      have e5 : C' 5 = C 5 := by rw [x]; exact upD_n (by decide)
      exact ⟨by rw [x]; exact upD_s, by rw [x]; exact upD_n (by decide), by rw [x]; exact upD_n (by decide), by rw [x]; exact upD_n (by decide), by rw [x]; exact upD_n (by decide), by omega⟩
    · have x := h11 (by rcases ho with ho | ho <;> omega)
      have e5 : C' 5 = C 5 + j := by rw [x, upD_s, upD_n (by decide)]
      refine ⟨by rw [x, upD_n (by decide)]; exact upD_s, by rw [x, upD_n (by decide)]; exact upD_n (by decide), by rw [x, upD_n (by decide)]; exact upD_n (by decide), by rw [x, upD_n (by decide)]; exact upD_n (by decide), by rw [x, upD_n (by decide)]; exact upD_n (by decide), ?_⟩
      have := nms_ph hPH j hN hj (by omega)
      have := hPH.mono (show s ≤ s1 by rcases ho with ho | ho <;> omega) (by omega)
      rw [he]
      omega
  obtain ⟨k1, k2, k3, k4, k7, k5⟩ := key
  have l1 := hL 1
  obtain ⟨F1, rfl⟩ : ∃ F1, F0 = F1 + 1 := ⟨F0 - 1, by omega⟩
  exact ⟨0, jd_var (rc0 := RX4_block F1) (rxd_var k1 k3 k4 k7 k5 h9) ho hty h1 h2 hj hN he (by rw [h41]; decide) (by omega) (by omega) k1 k2 (hB.mono hse hem) h9 (fun w => rfl)⟩
theorem jm_arr (hC : MC kd wr TK ph m Cf SL fM NS ns SZ q0) (hM : MH kd wr nm TK vv m z Cf SL fA fM d s e (s0 :: st) lev p sgx pn C C') (hF : 2 ≤ F0) {s1 ty e1 b : Nat} {xs : List Nat} (ho : kd s = 9 ∧ s1 = s + 1 ∧ ty = 1 ∨ kd s = 6 + ty ∧ 1 ≤ ty ∧ ty ≤ 2 ∧ kd (s + 1) = 9 ∧ s1 = s + 2) (hj : 1 ≤ j) (hN : NMS kd fM s1 j (C 1)) (h45 : kd (s1 + 2 * j - 1) = 45) (h8 : gi fM 8 n = Int32.ofNat (C 1)) (h9 : gi fM 9 n = Int32.ofNat (C 1 + j)) (h10 : gi fM 10 n = Int32.ofNat (xs.headD 0)) (hd : d ≤ 39) (hb : xs.length = 2 * b) (hb1 : 1 ≤ b) (hb3 : b ≤ 3) (hx : PRSX kd fA fM (hdM st) (d + 1) xs (n + 1) (s1 + 2 * j) e1 (C' 0)) (h46 : kd e1 = 46) (he : e = e1 + 1) (hy : ∀ i, i < j → gi fM 19 (C 1 + i) = 2 ∧ gi fM 24 (C 1 + i) = Int32.ofNat b) (hD : DCN fA fM (C 1) j s0 p) (hCC : C' = upC (upD C 1 j) 0 (C' 0)) :
    ∃ T, JDX (fun LA PD T => SSC kd wr nm TK z fA SL NS ns SZ lev pn (sg + WW) sg (C 2) (C' 2) (C 1) (C' 1) s e (s0 :: st) LA PD T (fun w => RX4_block F0 2 (Int32.ofNat d) 0 0 w)) kd wr nm TK SG m SL fA fM NS ns lev (RXD kd wr nm TK SG ph m Cf SL fA fM NS ns SZ q0 lev p sg s0 st s e C C' T) p sg WW s e s0 st [n] C C' T := by
  have hTB := hM.1.1
  have hCX := hM.1.mv hM.1.2.2.2.1.2.2 (by have := hM.1.2.2.2.2.1; rw [List.length_cons] at this; omega)
  obtain ⟨hL, h7f, h7s, hem, hk50⟩ := hM.2.2.2.2.2
  obtain ⟨hc0, hPH, _⟩ := id hC
  obtain ⟨hNS, hns, _⟩ := hc0
  have hb5 := hTB.2.2.2.1
  have kk : ∀ i, i ≠ 0 → i ≠ 1 → C' i = C i := fun i h0 h1 => by rw [hCC, upC_n h0]; exact upD_n h1
  have k1 : C' 1 = C 1 + j := by rw [hCC, upC_n (by decide)]; exact upD_s
  have l0 := hL 0
  have l1 := hL 1
  obtain ⟨F1, rfl⟩ : ∃ F1, F0 = F1 + 1 := ⟨F0 - 1, by omega⟩
  exact ⟨_, jd_arr (rc0 := RX4_block F1) hCX.2.2.2.2.2 hTB hCX.2.2.1 hCX.2.2.2.1 hCX.2.2.2.2.1 (fun ps hps => rxd_arr hps k1 (kk 3 (by decide) (by decide)) (kk 4 (by decide) (by decide)) (kk 5 (by decide) (by decide)) (kk 7 (by decide) (by decide)) (fun i hi => (hy i hi).1)) ho hj hN h45 h8 h9 h10 hd hb hb1 hb3 hx (by omega) h46 he (by omega) hy (fun h0 i hi => sl_has hTB (hD i hi).2.2 h0) (by omega) (by omega) k1 (kk 2 (by decide) (by decide)) (fun w => rfl)⟩
theorem chn_gl {lu : Nat → Nat} {K cur : Nat} {sc : Int32} (hk9 : ∀ i, 9000 ≤ i → kd i = 0) (he : e ≤ 9000) {lo' : Nat} (hlo : lo' ≤ 24000) : ∀ (xs : List Nat) (lo s : Nat), CHNW kd fM 40 (fun lo x s e lo' => XAM kd sc lo x d s e fA fM ∧ lo' = x + 1) xs lo s e lo' → (∀ x ∈ xs, GL s e (FLX fM lu cur K 2 x 0)) ∧ lo ≤ lo' := by
  intro xs
  induction xs with
  | nil => exact fun _ _ h => h.elim
  | cons x r ih =>
    intro lo s h
    cases r with
    | nil =>
      obtain ⟨⟨h1, h2⟩, _⟩ := h
      refine ⟨fun z hz => ?_, by have := (PAM.agr _ fM fM _ _ _ _ _ h1.2).1; omega⟩
      rw [List.mem_singleton.mp hz]
      exact pam_gl hk9 41 _ _ _ _ _ h1.2 he (by omega) K 0
    | cons y r' =>
      obtain ⟨e1, l1, ⟨h1, h2⟩, _, _, h3⟩ := h
      obtain ⟨i1, i2⟩ := ih _ _ h3
      have a1 := amX_lt _ _ _ _ (PAM_am _ h1.2)
      have a2 := chn_lt (fun lo x s e lo' (h : XAM kd sc lo x d s e fA fM ∧ lo' = x + 1) => amX_lt _ _ _ _ (PAM_am _ h.1.2)) _ _ _ _ _ h3
      have a3 := (PAM.agr _ fM fM _ _ _ _ _ h1.2).1
      refine ⟨fun z hz => ?_, by omega⟩
      rcases List.mem_cons.mp hz with rfl | hz
      · exact fun w hw => by have := pam_gl hk9 41 _ _ _ _ _ h1.2 (by omega) (by omega) K 0 w hw; omega
      · exact fun w hw => by have := i1 z hz w hw; omega
theorem jm_sw (hC : MC kd wr TK ph m Cf SL fM NS ns SZ q0) (hM : MH kd wr nm TK vv m z Cf SL fA fM d s e (s0 :: st) lev p sgx pn C C') (hF : 2 ≤ F0) {xs : List Nat} (h13 : kd s = 13) (hd : d ≤ 40) (hN : NMS kd fM (s + 1) 1 (C 1)) (h50 : kd (s + 2) = 50) (h19 : gi fM 19 (C 1) = 5) (hD : DC1 fA fM (C 1) s0 p) (h25 : gi fM 25 (C 1) = Int32.ofNat (xs.headD 0)) (hx : CHNW kd fM 40 (fun lo x s e lo' => XAM kd (hdM (s0 :: st)) lo x d s e fA fM ∧ lo' = x + 1) xs (C 0) (s + 3) e (C' 0)) (h40 : kd e ≠ 40) (hCC : C' = upC (upD C 1 1) 0 (C' 0)) :
    ∃ T, JDX (fun LA PD T => SSC kd wr nm TK z fA SL NS ns SZ lev pn (sg + WW) sg (C 2) (C' 2) (C 1) (C' 1) s e (s0 :: st) LA PD T (fun w => RX4_block F0 2 (Int32.ofNat d) 0 0 w)) kd wr nm TK SG m SL fA fM NS ns lev (RXD kd wr nm TK SG ph m Cf SL fA fM NS ns SZ q0 lev p sg s0 st s e C C' T) p sg WW s e s0 st [] C C' T := by
  have hCT := hM.1
  have hB := hCT.2.1
  have hk9 := hCT.k9
  have hm9 := hCT.m9
  obtain ⟨hL, h7f, h7s, hem, hk50⟩ := hM.2.2.2.2.2
  have hs0 := hM.2.2.1.2.1 s0 List.mem_cons_self
  have h15 : gi fM 15 s0 = Int32.ofNat p := hM.2.2.1.2.2.1
  obtain ⟨hc0, hPH, _, _, _, hnin, _⟩ := id hC
  obtain ⟨hNS, hns, _⟩ := hc0
  obtain ⟨hT, _, hcu, hU, hl9, hSY, hFM, hPN, hwr, _⟩ := id hCT
  have hb5 := hT.2.2.2.1
  have kk : ∀ i, i ≠ 0 → i ≠ 1 → C' i = C i := fun i h0 h1 => by rw [hCC, upC_n h0]; exact upD_n h1
  have k1 : C' 1 = C 1 + 1 := by rw [hCC, upC_n (by decide)]; exact upD_s
  have l0 := hL 0
  have l1 := hL 1
  have l2 := hL 2
  have k2 := kk 2 (by decide) (by decide)
  obtain ⟨ps', w1, _, _, w4, w5, w6, w7⟩ := swx_ok (lev := lev) hT hFM hcu hk9 hU hl9 (show C' 0 ≤ 24000 by omega) hem (by omega) hd xs _ _ hx
  have hlen : xs.length ≤ 24000 := by
    have : xs.length = ps'.length := by rw [← w1, List.length_map]
    omega
  have hbd : NBd d ≤ 502 := by unfold NBd; omega
  obtain ⟨hgl, _⟩ := chn_gl (lu := luN nm TK SL (s0 :: st)) (K := FUJ) (cur := p) hk9 (show e ≤ 9000 by omega) (show C' 0 ≤ 24000 by omega) _ _ _ hx
  have h22 : nd fM 22 (C 1) = s + 1 := by
    have := (hN 0 (by omega)).2.2
    exact nd_of this (by omega)
  obtain ⟨F1, rfl⟩ : ∃ F1, F0 = F1 + 1 := ⟨F0 - 1, by omega⟩
  refine ⟨_, jd_sw (rc0 := RX4_block F1) hCT (fun ps hps => rxd_sw hps k1 (kk 3 (by decide) (by decide)) (kk 4 (by decide) (by decide)) (kk 5 (by decide) (by decide)) (kk 7 (by decide) (by decide)) h19 (fun v hv => ⟨(w7 v hv).1, by have := (w7 v hv).2; omega⟩) hlen (fun h0 => sl_has hT hD.2.2 h0) (fun hni x hx' => ?_) hU hNS h15 hcu.1) h13 hN h50 h19 hD.1 h25 hx (by omega) h40 hem hd (fun h0 => sl_has hT hD.2.2 h0) (by omega) (by omega) k1 k2 (fun w => rfl)⟩
  have hf := hnin (C 1) (by omega) (fun t ht hi => hni (by rw [nil_in hT hD.2.2 ht hi]; exact hi))
  rw [h22] at hf
  obtain ⟨v, v1, v2⟩ := List.mem_flatMap.mp hx'
  have hg := hgl v v1 x v2
  exact fln_dm (x := x.2) hf (hB.lt (show s + 1 < x.1 by omega) (by omega)) (by have := hwr x.1; omega)
end RR4
