/-! PASS 2, THE CLASS: brackets, NAMES, ELEMENTS as nodes -/
section EC
variable {kd wr : Nat → Nat} {z : Nat} {fA fM : Wd} {lu : Nat → Nat} {lev cur : Nat} {pn : Nat → Int32} {d n s e l m G cn : Nat} {C TK : Nat → Nat}
theorem SPE.cg {t : Nat} {X : Int32} {L L1 : List (Nat × Int32)} {P P1 : Nat → Nat → Wd → Prop} {T T1 : Nat} {r : Wd → Option (Int32 × Wd)} (h : SPE kd wr z fA lu lev pn d t e X L P T r) (hL : L1 = L) (hP : ∀ b b' g, P b b' g → P1 b b' g) (hT : T ≤ T1) : SPE kd wr z fA lu lev pn d t e X L1 P1 T1 r := (h.wk hP hT).cL hL
theorem alc_9 {x e1 : Nat} (hW : ∀ i, i < m → wr i + 1 ≤ wr (i + 1)) (hz9 : m < z) (hn : n < 24000) (he : e ≤ m) (hD : NDF kd wr z fA fM n s e) (h45 : gi fM 45 n = Int32.ofNat cn) (h9a : gi fA 9 s ≠ 0 ↔ gi fA 9 (s + 1) ≠ 0) (k7 : gi fM 7 n = 9) (q1 : kd s = 43) (q2 : d ≤ 39) (q3 : gi fM 8 n = Int32.ofNat x) (q4 : x < n) (q6 : kd e1 = 44) (q7 : e = e1 + 1) (h8 : gi fA 8 s ≠ 6) (hx : ALC kd wr m z fA fM lu lev cur pn (d + 1) x (s + 1) e1 cn G) {G1 : Nat} (hG : G + 1 ≤ G1)
    (hX : ∀ K N, 4 * n + 1 ≤ K → G1 ≤ N → SPE kd wr z fA lu lev pn d s e (TYX fM lu K n) (FLX fM lu cur K 0 n 0) (fun b b' g => FLX fM lu cur K 0 n 0 = [] → CDC fM fA lu lev K 0 n 0 b b' g) (4 * (wr e - wr s) - 1) (fun w => RX2_typed N 2 (Int32.ofNat d) 0 0 w))
    (hM0 : ∀ K, 4 * n + 1 ≤ K → MSF kd lu s e (FLX fM lu cur K 0 n 0)) : ALC kd wr m z fA fM lu lev cur pn d n s e cn G1 := by
  have e8 : nd fM 8 n = x := by
    unfold nd
    rw [q3, tc_iN (by omega)]
  obtain ⟨⟨_, he1, hDx, _, hcn, h9x⟩, _, hNA, hAI, _, _⟩ := id hx
  have hs := hW s (by have := hDx.1; omega)
  have hs1 := hDx.2.2.1
  have hse := hDx.1
  have hse1 := hW e1 (by omega)
  refine ⟨⟨hn, he, hD, h45, hcn, h9a.trans h9x⟩, hX, fun hc K N hK hN => ?_, fun K N hK hN => ?_, fun h => by rw [k7] at h; exact absurd h (by decide), fun K hK => ⟨hM0 K hK, fun hc => ?_, fun hK3 => ?_, fun h => by rw [k7] at h; exact absurd h (by decide)⟩⟩
  · obtain ⟨k, rfl⟩ : ∃ k, K = k + 1 := ⟨K - 1, by omega⟩
    obtain ⟨N1, rfl⟩ : ∃ N1, N = N1 + 1 := ⟨N - 1, by omega⟩
    rw [flx3_9 k7, e8, q7]
    exact (c_aimG (st := 0) q1 h8 (by omega) q6 (by omega) (hNA hc k N1 (by omega) (by omega))).wk (fun _ _ _ h => h) (by omega)
  · obtain ⟨k, rfl⟩ : ∃ k, K = k + 1 := ⟨K - 1, by omega⟩
    obtain ⟨N1, rfl⟩ : ∃ N1, N = N1 + 1 := ⟨N - 1, by omega⟩
    rw [flx2_9 k7, e8, q7]
    exact (c_aimG (st := 1) q1 h8 (by omega) q6 (by omega) (hAI k N1 (by omega) (by omega))).wk (fun b b' g hg hL => by rw [cdc2_9 k7, e8]; exact hg hL) (by omega)
  · obtain ⟨k, rfl⟩ : ∃ k, K = k + 1 := ⟨K - 1, by omega⟩
    rw [flx3_9 k7, e8]
    exact ⟨(hx.ms3 hc (by omega)).1.wd (by omega) (by omega), fun g => by omega⟩
  · obtain ⟨k, rfl⟩ : ∃ k, K = k + 1 := ⟨K - 1, by omega⟩
    rw [flx2_9 k7, e8]
    exact (hx.ms2 (by omega)).wd (by omega) (by omega)
/-- SORT x or another, as an AIM -/
theorem SYT.srA (hS : SYT kd m C TK lu fA fM) {x : Int32} (hx : x ≠ 6) (h0 : x ≠ 0) {t : Nat} : (if lu t = 0 ∨ gi fM 19 (lu t - 1) = x ∨ FO fM (lu t - 1) x then [] else misS fM (lu t) t) = srE fA x (lu t) t := by
  rw [hS.sre hx h0]
  by_cases l0 : lu t = 0
  · rw [if_pos (Or.inl l0), if_pos l0]
  · rw [if_neg l0]
    by_cases q : gi fM 19 (lu t - 1) = x ∨ FO fM (lu t - 1) x
    · rw [if_pos (Or.inr q), if_pos q]
    · rw [if_neg (fun g => g.elim l0 q), if_neg q]
/-- a NAME alone: as an AIM -/
theorem aim_3 (hS : SYT kd m C TK lu fA fM) (hs : s < m) (hz : z ≤ 8193) (hz9 : m < z) (hW : ∀ i, i < m → wr i + 1 ≤ wr (i + 1)) (h12 : gi fM 12 n = Int32.ofNat s) (k7 : gi fM 7 n = 3) (q1 : kd s = 2) (q3 : kd (s + 1) ≠ 45) (h6 : gi fA 8 s ≠ 6) (h3 : gi fA 8 s ≠ 3) {k N : Nat} :
    SPE kd wr z fA lu lev pn d s (s + 1) 0 (FLX fM lu cur (k + 1) 2 n 0) (fun b b' g => FLX fM lu cur (k + 1) 2 n 0 = [] → CDC fM fA lu lev (k + 1) 2 n 0 b b' g) (4 * (wr (s + 1) - wr s) - 1) (fun w => RX2_typed (N + 2) 11 (Int32.ofNat d) 1 0 w) := by
  have h12s : nd fM 12 n = s := by
    unfold nd
    rw [h12, tc_iN (by omega)]
  have hw := hW s hs
  have hd := c_desig (kd := kd) (wr := wr) (z := z) (fA := fA) (lu := lu) (lev := lev) (pn := pn) (rc := RX2_typed N) (st := 1) (X := 0) (d := d) (L := []) (B := 0) (P := fun _ _ _ => True) (e := s + 1) (by omega) q1 (Or.inl ⟨q3, rfl, rfl, rfl⟩)
  rw [if_neg (show ¬ (1 : Nat) = 0 by decide), if_neg q3, List.append_nil] at hd
  rw [flx2_3 k7, h12s, hS.srA (by decide) (by decide)]
  refine (c_aimD (st := 1) q1 h6 h3 hd).wk (fun b b' g hg _ => ?_) (by omega)
  obtain ⟨b1, h1, b2, h2, h4⟩ := hg
  rw [cdc2_3 k7, h12s]
  have hb1 : b1 = b := h1.elim (fun g => absurd g.1 q3) (fun g => g.2)
  rw [hb1] at h2
  refine ⟨b2, h2, ?_⟩
  rcases h4 with h4 | h4
  · exact absurd h4.1 q3
  · rcases h4.2 with g | g
    · exact Or.inl g
    · exact Or.inr g
theorem alc_3 (hS : SYT kd m C TK lu fA fM) (hPN : PNR fM fA C lev cur pn) (hz : z ≤ 8193) (hW : ∀ i, i < m → wr i + 1 ≤ wr (i + 1)) (hz9 : m < z) (hn : n < 24000) (he : s + 1 ≤ m) (hD : NDF kd wr z fA fM n s (s + 1)) (h45 : gi fM 45 n = 3) (h9a : gi fA 9 s ≠ 0) (k7 : gi fM 7 n = 3) (q1 : kd s = 2) (q3 : kd (s + 1) ≠ 45) (h8 : gi fA 8 s = 1) (hG : 2 ≤ G)
    (hX : ∀ K N, 4 * n + 1 ≤ K → G ≤ N → SPE kd wr z fA lu lev pn d s (s + 1) (TYX fM lu K n) (FLX fM lu cur K 0 n 0) (fun b b' g => FLX fM lu cur K 0 n 0 = [] → CDC fM fA lu lev K 0 n 0 b b' g) (4 * (wr (s + 1) - wr s) - 1) (fun w => RX2_typed N 2 (Int32.ofNat d) 0 0 w))
    (hM0 : ∀ K, 4 * n + 1 ≤ K → MSF kd lu s (s + 1) (FLX fM lu cur K 0 n 0)) : ALC kd wr m z fA fM lu lev cur pn d n s (s + 1) 3 G := by
  have h12s := hD.tk hz
  have h6 : gi fA 8 s ≠ 6 := by rw [h8]; decide
  have h3 : gi fA 8 s ≠ 3 := by rw [h8]; decide
  have hw := hW s (by omega)
  have hse : s < s + 1 := by omega
  have hnD : MSR kd lu s (s + 1) (notD (lu s) s) := MSR.notD q1 (Nat.le_refl _) hse
  refine ⟨⟨hn, he, hD, h45, Or.inr rfl, ⟨fun _ => rfl, fun _ => h9a⟩⟩, hX, fun hc K N hK hN => ?_, fun K N hK hN => ?_, fun _ K N f hf hK hN => ?_, fun K hK => ⟨hM0 K hK, fun hc => ?_, fun hK3 => ?_, fun _ f => ?_⟩⟩
  · obtain ⟨k, rfl⟩ : ∃ k, K = k + 1 := ⟨K - 1, by omega⟩
    obtain ⟨N1, rfl⟩ : ∃ N1, N = N1 + 2 := ⟨N - 2, by omega⟩
    have hd := c_desig (kd := kd) (wr := wr) (z := z) (fA := fA) (lu := lu) (lev := lev) (pn := pn) (rc := RX2_typed N1) (st := 0) (X := 0) (d := d) (L := []) (B := 0) (P := fun _ _ _ => True) (e := s + 1) (by omega) q1 (Or.inl ⟨q3, rfl, rfl, rfl⟩)
    rw [if_pos (show (0 : Nat) = 0 from rfl), List.append_nil, List.append_nil] at hd
    rw [flx3_o (by rw [k7]; decide) (by rw [k7]; decide), h12s, if_neg (by rw [k7]; decide), List.append_nil]
    exact (c_aimD (st := 0) q1 h6 h3 hd).wk (fun _ _ _ _ => trivial) (by omega)
  · obtain ⟨k, rfl⟩ : ∃ k, K = k + 1 := ⟨K - 1, by omega⟩
    obtain ⟨N1, rfl⟩ : ∃ N1, N = N1 + 2 := ⟨N - 2, by omega⟩
    exact aim_3 hS (by omega) hz hz9 hW hD.2.2.2.1 k7 q1 q3 h6 h3
  · obtain ⟨k, rfl⟩ : ∃ k, K = k + 1 := ⟨K - 1, by omega⟩
    obtain ⟨N1, rfl⟩ : ∃ N1, N = N1 + 1 := ⟨N - 1, by omega⟩
    exact c_place3 (rc := RX2_typed N1) hS hPN hf k7 h12s q1 q3 hw
  · obtain ⟨k, rfl⟩ : ∃ k, K = k + 1 := ⟨K - 1, by omega⟩
    rw [flx3_o (by rw [k7]; decide) (by rw [k7]; decide), h12s, if_neg (by rw [k7]; decide), List.append_nil]
    refine ⟨hnD, fun _ hl => ?_⟩
    unfold notD
    rw [if_pos hl]
    exact List.mem_singleton.mpr rfl
  · obtain ⟨k, rfl⟩ : ∃ k, K = k + 1 := ⟨K - 1, by omega⟩
    rw [flx2_3 k7, h12s]
    refine hnD.app ?_
    split
    · exact MSR.nil
    · exact MSR.misS (Nat.le_refl _) hse
  · obtain ⟨k, rfl⟩ : ∃ k, K = k + 1 := ⟨K - 1, by omega⟩
    rw [flx1_3 k7, h12s]
    refine hnD.app ?_
    split
    · exact MSR.nil
    · split
      · exact MSR.nil
      · exact MSR.misS (Nat.le_refl _) hse
/-- a NAME with one index, as an AIM -/
theorem aim_4 {x e1 cx : Nat} (hS : SYT kd m C TK lu fA fM) (hwr : ∀ i, wr i ≤ 8192) (hs : s < m) (hz : z ≤ 8193) (hz9 : m < z) (hW : ∀ i, i < m → wr i + 1 ≤ wr (i + 1)) (h12 : gi fM 12 n = Int32.ofNat s) (k7 : gi fM 7 n = 4) (k9 : gi fM 9 n = 1) (q1 : kd s = 2) (k1 : kd (s + 1) = 45) (q2 : d ≤ 39) (q3 : gi fM 8 n = Int32.ofNat x) (q4 : x < n) (hn : n < 24000) (q6 : kd e1 = 46) (he1 : e1 < m) (hx : ALC kd wr m z fA fM lu lev cur pn (d + 1) x (s + 2) e1 cx G) (h6 : gi fA 8 s ≠ 6) (h3 : gi fA 8 s ≠ 3) {k N : Nat} (hk : 4 * n + 1 ≤ k + 1) (hN : G + 1 ≤ N) :
    SPE kd wr z fA lu lev pn d s (e1 + 1) 0 (FLX fM lu cur (k + 1) 2 n 0) (fun b b' g => FLX fM lu cur (k + 1) 2 n 0 = [] → CDC fM fA lu lev (k + 1) 2 n 0 b b' g) (4 * (wr (e1 + 1) - wr s) - 1) (fun w => RX2_typed (N + 2) 11 (Int32.ofNat d) 1 0 w) ∧ SPE kd wr z fA lu lev pn d s (e1 + 1) 0 (FLX fM lu cur (k + 1) 3 n 0) (fun _ _ _ => True) (4 * (wr (e1 + 1) - wr s) - 1) (fun w => RX2_typed (N + 2) 11 (Int32.ofNat d) 0 0 w) := by
  have h12s : nd fM 12 n = s := by
    unfold nd
    rw [h12, tc_iN (by omega)]
  have e8 : nd fM 8 n = x := by
    unfold nd
    rw [q3, tc_iN (by omega)]
  have hDx := hx.1.2.2.1
  have hx12 : nd fM 12 x = s + 2 := hDx.tk hz
  have hw := hW s hs
  have hse := hDx.1
  have hw1 : wr (s + 1) + 1 ≤ wr (s + 2) := hW (s + 1) (by omega)
  have hw2 := hDx.2.2.1
  have hw3 := hW e1 he1
  obtain ⟨N, rfl⟩ : ∃ N', N = N' + 1 := ⟨N - 1, by omega⟩
  have ht := SPE.typed (ty := 1) (hx.2.1 k N (by omega) (by omega)) (show s + 2 < z by omega)
  have hd := fun st (hst : st ≤ 1) => c_desig (kd := kd) (wr := wr) (z := z) (fA := fA) (lu := lu) (lev := lev) (pn := pn) (rc := RX2_typed (N + 1)) (st := st) (X := 0) (d := d) (e := e1 + 1) hst q1 (Or.inr ⟨k1, by omega, e1, rfl, by omega, q6, ht⟩)
  refine ⟨?_, ?_⟩
  · have hd1 := hd 1 (by omega)
    rw [if_neg (show ¬ (1 : Nat) = 0 by decide), if_pos k1] at hd1
    rw [flx2_4 k7 k9, h12s, e8, hx12, hS.srA (by decide) (by decide), mis_dif (show (1 : Int32) ≠ 0 by decide)]
    refine (c_aimD (st := 1) q1 h6 h3 hd1).wk (fun b b' g hg hL => ?_) (by omega)
    obtain ⟨b1, g1, b2, g2, g4⟩ := hg
    rw [cdc2_4 k7, h12s, e8]
    refine ⟨b1, b2, ?_, g2, g4.elim (fun g => g.2) (fun g => absurd k1 g.1)⟩
    have hL1 := (List.append_eq_nil_iff.mp (List.append_eq_nil_iff.mp (List.append_eq_nil_iff.mp hL).1).2).1
    exact g1.elim (fun g => g.2 hL1) (fun g => absurd k1 g.1)
  · have hd0 := hd 0 (by omega)
    rw [if_pos (show (0 : Nat) = 0 from rfl), List.append_nil] at hd0
    rw [flx3_o (by rw [k7]; decide) (by rw [k7]; decide), h12s, if_pos k7, e8, hx12, mis_dif (show (1 : Int32) ≠ 0 by decide)]
    exact (c_aimD (st := 0) q1 h6 h3 hd0).wk (fun _ _ _ _ => trivial) (by omega)
end EC
