/-! BOTH SIDES MAKE DECLS' CODES, AND WHAT THEY DO: procedures -/
section PC2
variable {kd wr nm TK SG : Nat → Nat} {vv : Nat → Int64} {m z : Nat} {Cf C Cb C' : Nat → Nat} {SL : Nat → List Nat} {fA fM : Wd} {NS ns SZ lev : Nat} {pn : Nat → Int32} {p pp sg W s s1 e s0 d i0 i1 nsc nsc1 kp nb sb N T q1 nf W0 ty tt F : Nat} {st stk : List Nat} {R : RTD} {R1 : RTY} {rc rc0 rc1 : TX4_block} {E : SENV} {L : List (Nat × Int32)} {P : Nat → Nat → Nat → Wd → Prop} {r : Wd → Option (Int32 × Wd)}
theorem SSC.le (h : SSC kd wr nm TK z fA SL NS ns SZ lev pn sg kp nsc nsc1 i0 i1 s e stk L P T r) : SSC kd wr nm TK z fA SL NS ns SZ lev pn sg kp nsc nsc1 i0 i1 s e stk L (fun b b' Z g => b ≤ b' ∧ P b b' Z g) T r := fun w a sz hG ha => by
  obtain ⟨u, a', sz', u1, h1, h2, h3, h4, h5, h6⟩ := h w a sz hG ha
  exact ⟨u, a', sz', u1, h1, h2, h3, h4, h5, fun g Z g1 g2 => ⟨h5.1, h6 g Z g1 g2⟩⟩
theorem ssc_tl (h : SSC kd wr nm TK z fA SL NS ns SZ lev pn sg kp nsc nsc1 i0 i1 s e stk L P T r) : SSC kd wr nm TK z fA SL NS ns SZ lev pn sg kp nsc nsc1 i0 i1 s e stk L P T (fun w => bn2 (r w) fun _ w9 => some ((0 : Int32), w9)) := fun w a sz hG ha => by
  obtain ⟨u, a', sz', u1, u2⟩ := h w a sz hG ha
  exact ⟨u, a', sz', by show bn2 (r w) _ = _; rw [u1, bn2_so], u2⟩
theorem jd_proc (hc : CTJ kd wr nm TK vv m z Cf SL fA fM (s0 :: st) lev p pn) (hR : ∀ PA PM LA LM, STS kd wr m fM (lev + 1) pp N (Cb 1) (C' 1) nb tt LM PM → R1 PA PM LA LM → (∀ E : SENV, EQJ E nm TK SG SL fA fM NS ns (C 2 :: s0 :: st) (lev + 1) pp 2 → LM = [] → SYS E → SPM E F PA PM) → (∀ (E : SENV) (s0' Lim : Nat), EQJ E nm TK SG SL fA fM NS ns (C 2 :: s0 :: st) (lev + 1) pp 2 → q1 ≤ s0' → LM = [] → SOK E Lim → SPQ E Lim (C 2 :: s0 :: st) pp (6 + W0) (1 + 2 * nf) s0' PA PM) → R (PPRc SZ (C 1) W0 (fun b b' Z g => b ≤ b' ∧ PA b b' Z g)) [] [] LA)
    (ho : kd s = 10 ∧ s1 = s + 1 ∧ ty = 0 ∨ kd s = 6 + ty ∧ 1 ≤ ty ∧ ty ≤ 2 ∧ kd (s + 1) = 10 ∧ s1 = s + 2) (hs1 : kd s1 = 2) (h22 : gi fM 22 (C 1) = Int32.ofNat s1) (h19 : gi fM 19 (C 1) = 3) (hd : d ≤ 39) (hsb : gi fA 24 (C 1 + 1) = Int32.ofNat sb) (hW0 : gi fA 18 (C 1 + 1) = Int32.ofNat W0) (hs1b : s1 + 1 < sb) (hsbz : sb ≤ e) (he : e ≤ m) (hSZ : 6 + W0 ≤ SZ) (hlev : lev + 1 ≤ 62) (hns : C 1 < Cf 1) (hCb : Cb 1 = C 1 + 1 + nf ∧ Cb 2 = C 2 + 1) (hCC : C 1 + 1 + nf ≤ C' 1 ∧ C' 1 ≤ ns) (hn : C 2 < NS) (hin : ∀ i ∈ SL s0, C 1 < i → i < C' 1 → False)
    (hS : JSS kd wr nm TK SG m z SL fA fM NS ns SZ (lev + 1) (upN pn (lev + 1) (Int32.ofNat (C 1 + 1))) R1 pp (6 + W0) 2 N sb e nb (C 2 :: s0 :: st) (1 + 2 * nf) q1 Cb C' tt F (fun w => rc1 4 (Int32.ofNat (d + 1)) 0 0 w))
    (hr : ∀ w, rc 2 (Int32.ofNat d) 0 0 w = fX4_declaration rc0 (Int32.ofNat d) w) (hr3 : ∀ ty w, rc0 3 (Int32.ofNat d) ty 0 w = fX4_procedure rc1 (Int32.ofNat d) ty w) : JDX (fun LA PD T => SSC kd wr nm TK z fA SL NS ns SZ lev pn (sg + W) sg (C 2) (C' 2) (C 1) (C' 1) s e (s0 :: st) LA PD T (fun w => rc 2 (Int32.ofNat d) 0 0 w)) kd wr nm TK SG m SL fA fM NS ns lev R p sg W s e s0 st [] C C' 0 := by
  have hk9 := hc.k9
  have hm9 := hc.m9
  obtain ⟨hT, hB, hcu, hU, hl, hCX⟩ := hc
  obtain ⟨hSY, hFM, hPN, hwr, hz, hW, hz9, hk0⟩ := id hCX
  obtain ⟨hq, PA, PM, LA, LM, hS1, hS2, hRR, hmon, hsim⟩ := hS
  obtain ⟨cb1, cb2⟩ := hCb
  have wmo : ∀ k, s + k ≤ m → wr s + k ≤ wr (s + k) := by
    intro k
    induction k with
    | zero => exact fun _ => Nat.le_refl _
    | succ k ih =>
      intro hk
      have h1 := ih (by omega)
      have h2 := hW (s + k) (by omega)
      rw [show s + (k + 1) = s + k + 1 by omega]
      omega
  have hwsb := wmo (sb - s) (by omega)
  rw [show s + (sb - s) = sb by omega] at hwsb
  have hwe : wr sb ≤ wr e := by
    by_cases q9 : sb = e
    · rw [q9]; exact Nat.le_refl _
    · have := wr_mo hW e (s := sb) (by omega) he
      omega
  have hP : ∀ E : SENV, ∀ a a' Z, PPRc SZ (C 1) W0 (fun b b' Z g => b ≤ b' ∧ PA b b' Z g) a a' Z (cA E) → gl (cA E) 41 a = jwC 33 a' ∧ a < a' := fun E a a' Z hA => by
    obtain ⟨w1, _, _, Zp, _, _, _, b1, ⟨g1, _⟩, _, e⟩ := hA
    exact ⟨w1, by omega⟩
  have hcore : ∀ t : Nat, ∀ ty' : Int32, kd t = 10 → t + 1 = s1 → SSC kd wr nm TK z fA SL NS ns SZ lev pn (sg + W) sg (C 2) (C' 2) (C 1) (C' 1) t e (s0 :: st) LA (PPRc SZ (C 1) W0 (fun b b' Z g => b ≤ b' ∧ PA b b' Z g)) (4 * (wr e - wr s)) (fX4_procedure rc1 (Int32.ofNat d) ty') := fun t ty' k10 ht => by
    have hS1' := hS1.le
    rw [cb2] at hS1'
    have h := s_proc (rc := rc1) (sg := sg + W) (kp := sg) (ty := ty') (t := t) k10 (by rw [ht]; exact hs1) hd (hSY.2.2.2 (C 1) hns) (by rw [ht]; exact h22) (by omega) hsb hW0 (by omega) (by omega) hSZ hlev hn hz9 (hS1'.wk (fun b b' Z g h => h) (i2 := C 1 + 1) (i3 := C' 1) (Nat.le_refl _) (by omega))
    exact h.wk (fun b b' Z g h => h) (by omega) (by omega)
  refine ⟨⟨by omega, hCC.2⟩, ⟨by omega, by omega, Nat.zero_le _⟩, _, [], [], LA, ?_, ⟨rfl, fun x hx => absurd hx (by simp)⟩, ⟨fun y hy => absurd hy (by simp), List.Pairwise.nil, fun i hi h1 h2 h5 => ?_⟩, Nat.zero_le _, hR PA PM LA LM hS2 hRR hmon hsim, fun E hEQ hN hS => ⟨fun a a' Z hA => by have := (hP E a a' Z hA).2; omega, fun b b' hM => by have hM : b' = b := hM; omega⟩, fun E s1' Lim bk m1 m1' hEQ hm1 hN hSO hB => ?_⟩
  · rcases ho with ⟨k, e1, _⟩ | ⟨k, t1, t2, k10, e1⟩
    · exact ssc_pre (s := s) (r := fun w => rc 2 (Int32.ofNat d) 0 0 w) (fun w a base ob hw => by
        obtain ⟨w', d1, d2⟩ := dc_33 (rc := rc0) (d := d) (ty := 0) (t1 := s) hw (by omega) (Or.inl ⟨rfl, rfl, by omega, by omega⟩)
        exact ⟨w', by rw [hr, d1, dc_proc d2.1 k, hr3], d2⟩) (ssc_tl (hcore s (Int32.ofNat 0) k (by omega))) (by omega)
    · exact ssc_pre (s := s) (t1 := s + 1) (r := fun w => rc 2 (Int32.ofNat d) 0 0 w) (fun w a base ob hw => by
        obtain ⟨w', d1, d2⟩ := dc_33 (rc := rc0) (d := d) (ty := ty) (t1 := s + 1) hw (by omega) (Or.inr ⟨t1, t2, k, rfl⟩)
        exact ⟨w', by rw [hr, d1, dc_proc d2.1 k10, hr3], d2⟩) (ssc_tl (hcore (s + 1) (Int32.ofNat ty) k10 (by omega))) (by omega)
  · by_cases c : i = C 1
    · rw [c, h19] at h5
      exact absurd h5 (by decide)
    · exact (hin i hi (by omega) h2).elim
  · have g1 : vM E = fM := hEQ.1
    have gs : eSL E s0 = SL s0 := by rw [← hEQ.2.2.2.2.2.2.2.1.1]
    have no : ∀ y ∈ eSL E s0, C 1 ≤ y → y < C' 1 → gi (vM E) 19 y ≠ 2 ∧ gi (vM E) 19 y ≠ 5 := fun y hy h1 h2 => by
      by_cases c : y = C 1
      · rw [c, g1, h19]
        exact ⟨by decide, by decide⟩
      · rw [gs] at hy
        exact (hin y hy (by omega) h2).elim
    exact dcq_jmp hSO.1 (by omega) (fun y h1 h2 hy => (no y h1 hy.1 hy.2).1 h2) (by rw [swN_no (fun n h1 h2 h3 => (no n h3 h1 h2).2)]; omega) (fun a a' Z hA => hP E a a' Z hA)
end PC2
