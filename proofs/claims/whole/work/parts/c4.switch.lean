/-! BOTH SIDES: a DECL of a switch -/
section JT
variable {kd wr nm : Nat → Nat} {vv : Nat → Int64} {m z : Nat} {gA gM : Wd} {lv : Bool} {sl us B : Nat} {stk obl stkF : List Nat} {prs : PRL} {C TK : Nat → Nat} {SL : Nat → List Nat} {t d b : Nat} {fa : Int32} {wA wM : Wd} {γ α : Type} {wd : γ → Wd} {S : γ → α → Wd → Prop} {P : (Nat → Nat) → Nat → Wd → Wd → Prop}
/-- the class behind := -/
def swA (N : Nat) (a1 x2 : Int32) (K : Wd → Option γ) (w4 : Wd) : Option γ := bn (oX4_aims_56 N a1 (fX0_put__ 33 w4).1 (fX0_word 0 (fX0_setCell x2 (fX0_put__ 33 w4).2)).1 0 (fX0_word 0 (fX0_setCell x2 (fX0_put__ 33 w4).2)).2) K
theorem a_aims {a1 : Int32} {w : Wd} {K : Wd → Option γ} : bn (fX4_aims a1 w) K = lt (fX9_need (Int32.ofNat 13) w) fun w1 => lt2 (fX4_declared (Int32.ofNat 5) 0 w1) fun x2 w3 => lt (fX9_need (Int32.ofNat 50) w3) (swA FU a1 x2 K) := by
  unfold fX4_aims swA
  generalize FU = N
  rfl
theorem m_aims {w : Wd} {KM : Int32 → Wd → Option (Option α × Wd)} : be (be (fX12_aSwitch w) fun _ w5 => some (some (-1), w5)) KM = be (fX12_taken w) fun _ w2 => be (fX12_expect 285 w2) fun x4 w5 => bn2 (fX12_declare (gi w2 0 29) x4 5 0 w5) fun x7 w8 => be (fX12_expect 290 w8) fun _ w10 => be (oX12_aSwitch_33 FU x7 (-1) w10) fun _ w => KM (-1) w := by
  unfold fX12_aSwitch
  generalize FU = N
  rw [be_be, be_be]
  refine be_cg fun x1 w2 => ?_
  rw [be_be]
  refine be_cg fun x4 w5 => ?_
  rw [be_bn2]
  refine bn2_cg fun x7 w8 => ?_
  rw [be_be]
  refine be_cg fun x9 w10 => ?_
  refine be_cg fun _ w => ?_
  rfl
theorem dcC_5c {i : Nat} (h : i ≠ 1) : dcC C 5 i = C i := by
  unfold dcC
  by_cases q : i = 6
  · rw [q, upC_s, if_neg (by decide)]
    rfl
  · rw [upC_n q, upC_n h]
/-- what's kept of a switch's symbol -/
def SWR (s i t p : Nat) (fA fM : Wd) : Prop := (gi fA 21 (i + 1) = Int32.ofNat t ∧ gi fA 14 (i + 1) = 5 ∧ gi fA 15 (i + 1) = 0 ∧ gi fA 16 (i + 1) = 0 ∧ gi fA 25 t = Int32.ofNat (i + 1)) ∧ gi fM 19 i = 5 ∧ gi fM 20 i = 0 ∧ gi fM 22 i = Int32.ofNat t ∧ DC1 fA fM i s p
theorem J.swi (hT : TOKS kd wr nm vv m z gA gM) {s p sg q : Nat} {r : PRL} {W : Wd → Wd → PSTT} {KA : Int32 → Wd → Option γ} {KM : Int32 → Wd → Option (Option α × Wd)} (hb : 2800 ≤ b) (hst : STJ kd wr nm vv m z gA gM true 0 (C 1) (s :: stk) ((p, sg, q) :: r) C TK SL t d b fa wA wM) (hk : kd t = 13) (hd40 : d ≤ 40) (hc0 : C 0 ≤ 2 * t + 98)
    (H : ∀ lv' x t' fa' uA uM C' TK' SL' sg' q' (an : Option Nat), STJ kd wr nm vv m z gA gM lv' 1 (C' 1) (s :: stk) ((p, sg', q') :: r) C' TK' SL' t' d b fa' uA uM → (lv' = true → t < t' ∧ t' ≤ m ∧ LEC C C' ∧ C' 0 + 2 * t ≤ C 0 + 2 * t' ∧ C' 6 + C 4 = C' 4 + C 6 ∧ sg ≤ sg' ∧ STEP C t (s :: stk) ((p, sg, q) :: r) obl wA wM C' t' uA uM ∧ (∀ x, an = some x → gi uM 11 x = -1 ∧ C 0 ≤ x ∧ x < C' 0) ∧ FACT (s :: stk) ((p, sg', q') :: r) obl (C 0) C' t' (an.getD (C' 0)) (fun fA fM => DCLX kd fA fM (W fA fM) d (s :: stk) (hdM stk) p r t t' sg sg' q q' an C C') uA uM) → (lv' = false → t' = z - 1) → GLJ kd wr nm z gA gM wd lv' stkF fa' B (KA x uA) (KM (match an with | none => -1 | some x => Int32.ofNat x) uM) S) :
    GLJ kd wr nm z gA gM wd true stkF fa B (bn (fX4_aims (Int32.ofNat d) wA) fun w => KA 0 w) (be (be (fX12_aSwitch wM) fun _ w5 => some (some (-1), w5)) KM) S := by
  have hJ := (hst.jl rfl).2
  have hcc := hJ.2.2.2.2.2.1
  have hwt := hT.1 t
  have htm := hJ.2.1.lt (by omega)
  have hm9 := hJ.2.1.1.1
  have hz3 := hT.2.2.2.1
  have hzm := hT.2.2.1
  obtain ⟨n9, hn9⟩ : ∃ n, n = 9000 := ⟨_, rfl⟩
  obtain ⟨fo, hfo⟩ := FU_ge (k := 9002) (by omega)
  obtain ⟨N, hN⟩ : ∃ N, N = FU := ⟨_, rfl⟩
  rw [a_aims, m_aims, ← hN]
  rw [← hN] at hfo
  have hPF : STBJ (s :: stk) ((p, sg, q) :: r) obl (PF C t (s :: stk) ((p, sg, q) :: r) obl wA wM) := PF.st0
  refine GLJ.tk (x := 265) (fun _ => by rw [m_taken hJ.2.1 hd40 (by omega), m_expect (x := 265) hJ.2.1 hd40 (k := 13) rfl (by omega) hk]) (J.need (c := 13) (x := 265) (P := PF C t (s :: stk) ((p, sg, q) :: r) obl wA wM) hT hPF hst (fun _ => STEP.rf) (by omega) (fun _ => hd40) hb (by omega) rfl (fun lv1 t1 fa1 uA uM hst1 hl1 hd1 => ?_))
  refine J.declare (sort := 5) (kind := 5) (type := 0) (SC := fun _ => gi uM 0 29) (P := fun C' t' a c => lv1 = true → PF C t (s :: stk) ((p, sg, q) :: r) obl wA wM C' t' a c) (KA := fun x2 w3 => lt (fX9_need (Int32.ofNat 50) w3) (swA N (Int32.ofNat d) x2 fun w => KA 0 w)) (KM := fun _ x7 w8 => be (fX12_expect 290 w8) fun _ w10 => be (oX12_aSwitch_33 N x7 (-1) w10) fun _ w => KM (-1) w) hT (STBJ.if fun _ => hPF) hst1 (fun h _ => (hl1 h).2.2.2.2) hb (by omega) (by omega) (by omega) (fun h => ⟨fun hk => m_expect (x := 285) (k := 2) (hst1.jl h).2.2.1 hd40 rfl (by omega) hk, fun hk => m_expect_no (x := 285) (k := 2) (hst1.jl h).2.2.1 rfl (by omega) (Or.inr hk) (by omega)⟩) (fun h => (hst1.jl h).2.2.2.2.2.2.2.2.2.1) (fun lv2 t2 fa2 x vA vM TK2 SL2 hst2 hl2 hd2 => ?_)
  have hc1 : dcC C 5 1 = C 1 + 1 := dcC_1
  have hSW : lv2 = true → lv1 = true ∧ t1 = t + 1 ∧ kd t1 = 2 ∧ t2 = t1 + 1 ∧ t2 ≤ m ∧ TK2 (C 1) = t1 ∧ PF C t (s :: stk) ((p, sg, q) :: r) obl wA wM (dcC C 5) t2 vA vM ∧ SWR s (C 1) t1 p vA vM ∧ gi vA 17 (C 1 + 1) = Int32.ofNat r.length := fun h => by
    obtain ⟨w1, w2, w3, w4, w5, w6, w7, w8, l, pr, sg', q', r', e1, e2, hN', e4, e5⟩ := hl2 h
    obtain ⟨e6, e7⟩ := List.cons.inj e1
    obtain ⟨e8, e9⟩ := Prod.mk.inj e6
    rw [← e8] at hN'
    rw [← e7] at e2
    rw [e2] at hN'
    obtain ⟨⟨n1, n2, n3, n4, n5, n6, n7, n8, n9, n10, n11⟩, m1, m2, m3, m4, m5, m6, m7, m8, m9⟩ := hN'
    refine ⟨w1, (hl1 w1).2.2.1, w2, w3, by omega, by rw [w6]; exact if_pos rfl, w8 w1, ⟨⟨n1, n2, n3, n5, n11⟩, m1, m2, m3, DC1.nw m4 w7⟩, n4⟩
  refine J.need (c := 50) (x := 290) (obl := []) (P := fun C' t' a c => lv2 = true → PF (dcC C 5) t2 (s :: stk) ((p, sg, q) :: r) [] vA vM C' t' a c) hT (STBJ.if fun _ => PF.st0) hst2 (fun h _ => STEP.rf) (by omega) (fun _ => hd40) hb (by omega) rfl (fun lv3 t3 fa3 oA oM hst3 hl3 hd3 => ?_)
  have ht3 : 1 ≤ t3 := by
    cases lv3
    · have := hd3 rfl; omega
    · have := (hl3 rfl).2.2.1; omega
  unfold swA
  have hOs : OFF PRE (fX0_word 0 (fX0_setCell x (fX0_put__ 33 oA).2)).2 oA := by
    have h1 : OFF PRE (fX0_put__ 33 oA).2 oA := e_put__
    generalize (fX0_put__ 33 oA).2 = w1 at h1 ⊢
    have h2 : OFF PRE (fX0_setCell x w1) w1 := e_setCell
    generalize fX0_setCell x w1 = w2 at h2 ⊢
    exact OFF.tr e_word (OFF.tr h2 h1)
  generalize (fX0_word 0 (fX0_setCell x (fX0_put__ 33 oA).2)).2 = yA at hOs ⊢
  generalize (fX0_word 0 (fX0_setCell x (fX0_put__ 33 oA).2)).1 = x4
  generalize (fX0_put__ 33 oA).1 = x3
  have hst4 := hst3.pre hT hOs
  rw [show N = (fo + n9 + 1) + 1 by omega, a_560]
  have e33 : ∀ a w, oX12_aSwitch_33 ((fo + n9 + 1) + 1) (Int32.ofNat (C 1)) a w = fX12_aSwitch_33 (oX12_aSwitch_33 ((fo + 1) + n9)) (Int32.ofNat (C 1)) a w := fun a w => by
    rw [show (fo + n9 + 1) + 1 = ((fo + 1) + n9) + 1 by omega]
    rfl
  rw [e33]
  let R : Wd → Wd → Prop := fun a c => lv3 = true → SWR s (C 1) t1 p a c ∧ gi a 17 (C 1 + 1) = Int32.ofNat r.length
  refine aims_loop (C0 := C) (C1 := dcC C 5) (t0 := t) (lo0 := C 0) (s0 := t3) (us := C 1) (i0 := C 1) (s := s) (wA0 := wA) (wM0 := wM) (prs := (p, sg, q) :: r) (obl := obl) (Q := lv3 = true) (R := R) (x3 := x3) (x4 := x4) (KA := fun w => KA 0 w) (KM := fun _ w => KM (-1) w) (TK := TK2) (SL := SL2) hT (fun C9 t9 a c C' t' a' c' h1 hs0 hR hs hl => ?_) (fun a c k j x hk hR hl => ?_) (by omega) hb (by omega) rfl hc1 rfl (Nat.le_refl _) (fun lv4 t4 fa4 eA eM C4 xs hst5 hl5 hd5 => ?_) (fo := fo) (fm := fo + 1) n9 lv3 (dcC C 5) t3 fa3 yA oM (-1) [] 0 (by have := hst4.in1.z9; omega) (by show 0 + 1 ≤ t3; omega) hst4 (fun _ => hd40) (fun _ => rfl) (fun h => absurd rfl h) (fun _ _ => ⟨dcC_5c (by omega), rfl⟩) (fun h => ?_) hd3
  · obtain ⟨⟨⟨a1, a2, a3, a4, a5⟩, b1, b2, b3, b4⟩, c1⟩ := hR hl
    have hw3 : t3 = t2 + 1 := (hl3 hl).2.2.1
    have hw2 := hSW (hl3 hl).1
    have gA : ∀ k, 14 ≤ k ∧ k ≤ 24 → gi a' k (C 1 + 1) = gi a k (C 1 + 1) := fun k hk => hs.2.2.1 k (C 1 + 1) (Or.inl ⟨hk.1, hk.2, by omega⟩)
    have g25 : gi a' 25 t1 = gi a 25 t1 := hs.2.2.1 25 t1 (Or.inr (Or.inl ⟨rfl, by omega⟩))
    have gM' : ∀ k, 18 ≤ k ∧ k ≤ 28 → gi c' k (C 1) = gi c k (C 1) := fun k hk => (hs.2.2.2.1 k (C 1) (Or.inr (Or.inr (Or.inr (Or.inr (Or.inl ⟨hk.1, hk.2, by omega⟩)))))).1
    unfold SWR
    rw [gA 21 (by omega), gA 14 (by omega), gA 15 (by omega), gA 16 (by omega), gA 17 (by omega), g25, gM' 19 (by omega), gM' 20 (by omega), gM' 22 (by omega)]
    exact ⟨⟨⟨a1, a2, a3, a4, a5⟩, b1, b2, b3, b4.ext (gM' 23 (by omega)) (hs.2.2.1 29 (C 1 + 1) (Or.inr (Or.inr (Or.inr (Or.inl ⟨by omega, by omega, by omega⟩))))) hs.2.2.2.2⟩, c1⟩
  · obtain ⟨⟨⟨a1, a2, a3, a4, a5⟩, b1, b2, b3, b4⟩, c1⟩ := hR hl
    unfold SWR
    rw [gi_si1 (show ¬ (19 = k ∧ C 1 = j) by omega), gi_si1 (show ¬ (20 = k ∧ C 1 = j) by omega), gi_si1 (show ¬ (22 = k ∧ C 1 = j) by omega)]
    exact ⟨⟨⟨a1, a2, a3, a4, a5⟩, b1, b2, b3, b4.ext (gi_si1 (show ¬ (23 = k ∧ C 1 = j) by omega)) rfl (EXF.off (OFF.si (P := fun k' j' => k' = k ∧ j' = j) ⟨rfl, rfl⟩) (fun k j hk => by omega))⟩, c1⟩
  · -- the end
    cases lv4
    · exact H false 0 t4 fa4 eA eM C TK SL sg q none (hst5.dd rfl) (fun h => absurd h (by decide)) hd5
    · obtain ⟨y0, y1, y2, y3, y4, y5, y6, y7, y8, y9, y10⟩ := hl5 rfl
      obtain ⟨⟨⟨a1, a2, a3, a4, a5⟩, b1, b2, b3, b4⟩, c1⟩ := y9 y0
      obtain ⟨x1, x2, x3', x4', x5, x6, x7, x8, x9⟩ := hSW (hl3 y0).1
      have hJ5 := (hst5.jl rfl).2
      have hc4 : C4 1 = C 1 + 1 := (y5 1 (by omega)).trans hc1
      have hsym : SYM kd m C4 TK2 eA eM (C 1) := by
        refine ⟨by omega, by rw [x6]; exact x3', by rw [x6]; exact a1, by rw [x6]; exact b3, by rw [x6]; exact a5, a3.trans b2.symm, ⟨0, by omega, b2⟩, ⟨p, r.length, b4.1, hJ5.topq.2.2, c1, hJ5.lev.1⟩, Or.inr (Or.inr (Or.inr (Or.inr (Or.inl ⟨b1, a2, a4, b2⟩))))⟩
      have hst6 := STJ.us1 hst5 (fun _ => ⟨by omega, hsym, by rw [b1]; decide⟩)
      have hst7 := hst6.sl1
      rw [← hc4] at hst7
      have e4 : C4 4 = C 4 := (y5 4 (by omega)).trans (dcC_5c (by omega))
      have e6 : C4 6 = C 6 := (y5 6 (by omega)).trans (dcC_5c (by omega))
      refine H true 0 t4 fa4 eA eM C4 TK2 SL2 sg q none hst7 (fun _ => ⟨y1, y2, y6.1, y4, by omega, Nat.le_refl _, y6, fun x hx => absurd hx (by simp), ?_⟩) (fun h => absurd h (by decide))
      show FACT (s :: stk) _ obl (C 0) C4 t4 (C4 0) _ eA eM
      intro gA' gM' hA hM hE
      have gs : ∀ k, 18 ≤ k ∧ k ≤ 28 → gi gM' k (C 1) = gi eM k (C 1) := fun k hk => (hM k (C 1) (Or.inr (Or.inr (Or.inr (Or.inr (Or.inl ⟨hk.1, hk.2, by omega⟩)))))).1
      have hch := y10 gA' gM' hA hM hE
      have hw3 : t3 = t2 + 1 := (hl3 y0).2.2.1
      refine Or.inr (Or.inr (Or.inl ⟨hk, fun i hi => ?_, ?_, ?_, rfl, b4.ext (gs 23 (by omega)) (hA 29 (C 1 + 1) (Or.inr (Or.inr (Or.inr (Or.inl ⟨by omega, by omega, by omega⟩))))) hE, ⟨xs, ?_, ?_⟩, y7, rfl, rfl, ?_⟩))
      · have hi0 : i = 0 := by omega
        subst hi0
        refine ⟨?_, fun h => absurd h (by omega), ?_⟩
        · show kd (t + 1) = 2
          rw [← x2]; exact x3'
        · show gi gM' 22 (C 1) = Int32.ofNat (t + 1)
          rw [gs 22 (by omega), b3, x2]
      · rw [show t + 2 = t2 by omega]
        exact (hl3 y0).2.1
      · rw [gs 19 (by omega)]; exact b1
      · rw [gs 25 (by omega)]; exact y8
      · rw [show t + 3 = t3 by omega]
        exact hch
      · funext i
        by_cases i0 : i = 0
        · rw [i0, upC_s]
        · rw [upC_n i0, y5 i i0]
          by_cases i1 : i = 1
          · rw [i1, hc1, upD_s]
          · rw [dcC_5c i1, upD_n i1]
  · obtain ⟨z1, z2, z3, z4, z5⟩ := hl3 h
    obtain ⟨x1, x2, x3', x4', x5, x6, x7, x8, x9⟩ := hSW z1
    have hs3 : STEP (dcC C 5) t2 (s :: stk) ((p, sg, q) :: r) [] vA vM (dcC C 5) t3 yA oM := STEP.tr (z5 z1) (STEP.pre hOs)
    have e0 : dcC C 5 0 = C 0 := dcC_5c (by omega)
    refine ⟨⟨h, by omega⟩, by rw [e0]; omega, by rw [e0]; exact Nat.le_refl _, fun h => absurd rfl h, fun i _ => rfl, STEP.tr x7 hs3.ob, fun h => absurd rfl h, ⟨fun _ => ?_, Nat.le_refl _⟩, fun _ _ _ _ _ => by rw [e0]; exact CHK.nil⟩
    obtain ⟨⟨a1, a2, a3, a4, a5⟩, b1, b2, b3, b4⟩ := x8
    have gA : ∀ k, 14 ≤ k ∧ k ≤ 24 → gi yA k (C 1 + 1) = gi vA k (C 1 + 1) := fun k hk => hs3.2.2.1 k (C 1 + 1) (Or.inl ⟨hk.1, hk.2, by omega⟩)
    have g25 : gi yA 25 t1 = gi vA 25 t1 := hs3.2.2.1 25 t1 (Or.inr (Or.inl ⟨rfl, by omega⟩))
    have gM' : ∀ k, 18 ≤ k ∧ k ≤ 28 → gi oM k (C 1) = gi vM k (C 1) := fun k hk => (hs3.2.2.2.1 k (C 1) (Or.inr (Or.inr (Or.inr (Or.inr (Or.inl ⟨hk.1, hk.2, by omega⟩)))))).1
    unfold SWR
    rw [gA 21 (by omega), gA 14 (by omega), gA 15 (by omega), gA 16 (by omega), gA 17 (by omega), g25, gM' 19 (by omega), gM' 20 (by omega), gM' 22 (by omega)]
    exact ⟨⟨⟨a1, a2, a3, a4, a5⟩, b1, b2, b3, b4.ext (gM' 23 (by omega)) (hs3.2.2.1 29 (C 1 + 1) (Or.inr (Or.inr (Or.inr (Or.inl ⟨by omega, by omega, by omega⟩))))) hs3.2.2.2.2⟩, x9⟩
end JT
