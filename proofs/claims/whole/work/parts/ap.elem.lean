/-! BOTH SIDES: an element of a for, whole -/
section JT
variable {kd wr nm : Nat → Nat} {vv : Nat → Int64} {m z : Nat} {gA gM : Wd} {lv : Bool} {sl us B : Nat} {stk obl stkF : List Nat} {prs : PRL} {C TK : Nat → Nat} {SL : Nat → List Nat} {t d b : Nat} {fa : Int32} {wA wM : Wd} {γ α : Type} {wd : γ → Wd} {S : γ → α → Wd → Prop} {P : (Nat → Nat) → Nat → Wd → Wd → Prop}
theorem J.elem (hT : TOKS kd wr nm vv m z gA gM) (hS : STBJ stk prs obl P) (hst : STJ kd wr nm vv m z gA gM lv 0 us stk prs C TK SL t d b fa wA wM) (hP : lv = true → P C t wA wM) (hd : d ≤ 41 ∧ (lv = true → d ≤ 40)) (hb : 2800 ≤ b) (hc : lv = true → C 0 ≤ 2 * t + 98) {tk : Nat} {a2 a3 a4 : Int32} {KA : Int32 → Wd → Option γ} {KM : Int32 → Wd → Option (Option α × Wd)}
    (H : ∀ lv' x t' fa' uA uM n, STJ kd wr nm vv m z gA gM lv' 0 us stk prs (upC C 0 (n + 1)) TK SL t' d b fa' uA uM → (lv' = true → lv = true ∧ t < t' ∧ t' ≤ m ∧ C 0 ≤ n ∧ n + t ≤ C 0 + t' ∧ P (upC C 0 (n + 1)) t' uA uM ∧ gi uM 11 n = -1 ∧ FACT stk prs obl (C 0) (upC C 0 (n + 1)) t' n (fun fA fM => ELT kd fA fM (hdM stk) d tk (C 0) n t t' (n + 1)) uA uM) → (lv' = false → t' = z - 1) → GLJ kd wr nm z gA gM wd lv' stkF fa' B (KA x uA) (KM (Int32.ofNat n) uM) S) :
    GLJ kd wr nm z gA gM wd lv stkF fa B (bn2 (fX4_element (Int32.ofNat d) a2 a3 a4 wA) KA) (be (RX12_variable 900 4 0 0 0 wM) fun x1 w2 => be (fX12_skip 272 w2) fun x4 w5 => if x4 = true then (be (RX12_variable 900 4 0 0 0 w5) fun x8 w9 => be (fX12_expect 273 w9) fun _ w12 => be (RX12_variable 900 4 0 0 0 w12) fun x14 w15 => bn2 (fX12_node 31 x1 x8 x14 (Int32.ofNat tk) w15) KM) else (be (fX12_skip 274 w5) fun x19 w20 => if x19 = true then (be (RX12_variable 900 4 0 0 0 w20) fun x23 w24 => bn2 (fX12_node 32 x1 x23 0 (Int32.ofNat tk) w24) KM) else (bn2 (fX12_node 30 x1 0 0 (Int32.ofNat tk) w20) KM))) S := by
  rw [el_eq]
  refine J.expr (a2 := 1) (P := fun C' t' a c => lv = true → P C' t' a c) hT (STBJ.if fun _ => hS) (hst.pre hT e_elA) (fun h _ => hS _ _ _ _ _ _ _ _ (hP h) (STEP.pre e_elA)) hd hb (by omega) (Or.inl rfl) (fun lv1 x1 t1 fa1 uA uM n1 c1 hst1 hl1 hd1 => ?_)
  have hst1' := hst1.pre hT (e_elB (w := uA))
  let Φ1 : Wd → Wd → Prop := XPR kd (hdM stk) (C 0) n1 d t t1 c1
  have hS1 : STBJ stk prs obl (fun C' t' a c => lv1 = true → P C' t' a c ∧ PFA stk prs obl (C 0) (upC C 0 (n1 + 1)) t1 (n1 + 1) Φ1 C' t' a c) := STBJ.if fun _ => STBJ.and hS PFA.stb
  have hP1 : lv1 = true → lv1 = true → P (upC C 0 (n1 + 1)) t1 (elB uA) uM ∧ PFA stk prs obl (C 0) (upC C 0 (n1 + 1)) t1 (n1 + 1) Φ1 (upC C 0 (n1 + 1)) t1 (elB uA) uM := fun h _ => by
    obtain ⟨y1, y2, y3, y4, y5, y6, y7, y8, y9⟩ := hl1 h
    exact ⟨hS _ _ _ _ _ _ _ _ (y6 y1) (STEP.pre e_elB), LEC.rf, Nat.le_refl _, (y9.step LEC.rf (Nat.le_refl _) (STEP.pre (t := t1) (e_elB (w := uA)))).wk (Nat.le_refl _) LEC.rf (Nat.le_refl _) (Or.inr (Or.inl (by rw [upC_s]; omega))) (fun _ h _ => h) (fun y hy _ => ⟨y, hy, rfl⟩) (fun _ h _ => h)⟩
  have hd40 : lv1 = true → d ≤ 40 := fun h => hd.2 (hl1 h).1
  refine J.take (c := 20) (P := fun C' t' a c => lv1 = true → P C' t' a c ∧ PFA stk prs obl (C 0) (upC C 0 (n1 + 1)) t1 (n1 + 1) Φ1 C' t' a c) hT hS1 hst1' hP1 (by omega) hd40 (by omega) rfl (fun h20 sA sM hst2 hl2 => ?_) (fun h20 => ?_)
  · obtain ⟨hlv, _, hJ1⟩ := hst1'.live (by omega)
    subst hlv
    obtain ⟨y1, y2, y3, y4, y5, y6, y7, y8, y9⟩ := hl1 rfl
    obtain ⟨k1, k2⟩ := hl2 rfl
    rw [if_pos rfl, if_pos rfl, st_eq]
    have hS2 : STBJ stk prs obl (fun C' t' a c => P C' t' a c ∧ PFA stk prs obl (C 0) (upC C 0 (n1 + 1)) t1 (n1 + 1) Φ1 C' t' a c) := STBJ.and hS PFA.stb
    refine J.expr (a2 := 1) (P := fun C' t' a c => P C' t' a c ∧ PFA stk prs obl (C 0) (upC C 0 (n1 + 1)) t1 (n1 + 1) Φ1 C' t' a c) hT hS2 (hst2.pre hT e_stA) (fun _ => hS2 _ _ _ _ _ _ _ _ (k2 rfl) (STEP.pre e_stA)) ⟨hd.1, fun _ => hd40 rfl⟩ hb (by omega) (Or.inl rfl) (fun lv2 x2 t2 fa2 vA vM n2 c2 hst3 hl3 hd3 => ?_)
    simp only [upC_u, upC_s] at hst3 hl3
    let Φ2 : Wd → Wd → Prop := fun fA fM => Φ1 fA fM ∧ XPR kd (hdM stk) (n1 + 1) n2 d (t1 + 1) t2 c2 fA fM
    have hle2 : lv2 = true → LEC (upC C 0 (n1 + 1)) (upC C 0 (n2 + 1)) := fun h i => by
      have := (hl3 h).2.2.2.1
      by_cases i0 : i = 0
      · rw [i0, upC_s, upC_s]; omega
      · rw [upC_n i0, upC_n i0]; exact Nat.le_refl _
    have hS3 : STBJ stk prs obl (fun C' t' a c => lv2 = true → P C' t' a c ∧ PFA stk prs obl (C 0) (upC C 0 (n2 + 1)) t2 (n2 + 1) Φ2 C' t' a c) := STBJ.if fun _ => STBJ.and hS PFA.stb
    refine J.need (c := 21) (x := 273) (P := fun C' t' a c => lv2 = true → P C' t' a c ∧ PFA stk prs obl (C 0) (upC C 0 (n2 + 1)) t2 (n2 + 1) Φ2 C' t' a c) hT hS3 (hst3.pre hT e_stB) (fun h _ => ?_) (by omega) (fun _ => hd40 rfl) hb (by omega) rfl (fun lv3 t3 fa3 oA oM hst4 hl4 hd4 => ?_)
    · obtain ⟨z1, z2, z3, z4, z5, ⟨z6, z6'⟩, z7, z8, z9⟩ := hl3 h
      have hp : ∀ {C' : Nat → Nat}, STEP C' t2 stk prs obl vA vM C' t2 (stB vA) vM := STEP.pre e_stB
      have f1 := (z6'.2.2.step (hle2 h) (by omega) hp).wk (lo' := C 0) (Cf' := upC C 0 (n2 + 1)) (tf' := t2) (pd' := n2 + 1) (stk' := stk) (prs' := prs) (obl' := obl) (Nat.le_refl _) (hle2 h) (by omega) (Or.inr (Or.inl (by rw [upC_s]; omega))) (fun _ h _ => h) (fun y hy _ => ⟨y, hy, rfl⟩) (fun _ h _ => h)
      have f2 := (z9.step LEC.rf (Nat.le_refl _) hp).wk (lo' := C 0) (Cf' := upC C 0 (n2 + 1)) (tf' := t2) (pd' := n2 + 1) (stk' := stk) (prs' := prs) (obl' := obl) (by omega) LEC.rf (Nat.le_refl _) (Or.inr (Or.inl (by rw [upC_s]; omega))) (fun _ h _ => h) (fun y hy _ => ⟨y, hy, rfl⟩) (fun _ h _ => h)
      exact ⟨hS _ _ _ _ _ _ _ _ z6 hp, LEC.rf, Nat.le_refl _, f1.and f2⟩
    · have hS4 : STBJ stk prs obl (fun C' t' a c => lv3 = true → P C' t' a c ∧ PFA stk prs obl (C 0) (upC C 0 (n2 + 1)) t2 (n2 + 1) Φ2 C' t' a c) := STBJ.if fun _ => STBJ.and hS PFA.stb
      refine J.expr (a2 := 1) (P := fun C' t' a c => lv3 = true → P C' t' a c ∧ PFA stk prs obl (C 0) (upC C 0 (n2 + 1)) t2 (n2 + 1) Φ2 C' t' a c) hT hS4 (hst4.pre hT e_stC) (fun h => hS4 _ _ _ _ _ _ _ _ (fun _ => (hl4 h).2.2.2.2 (hl4 h).1) (STEP.pre e_stC)) ⟨hd.1, fun _ => hd40 rfl⟩ hb (by omega) (Or.inl rfl) (fun lv5 x5 t5 fa5 iA iM n3 c3 hst5 hl5 hd5 => ?_)
      simp only [upC_u, upC_s] at hst5 hl5
      refine el_end (C0 := C) (t0 := t) (P := P) (Ψ := fun fA fM => Φ2 fA fM ∧ XPR kd (hdM stk) (n2 + 1) n3 d t3 t5 c3 fA fM) hT hS (hst5.pre hT e_stD) (fun h => ?_) hd5 (fun h fA fM hy f7 f8 f9 f10 f12 => ?_) (fun lv' x t' fa' vA vM n hs hl hdd => H lv' x t' fa' vA vM n hs (fun h => ⟨y1, (hl h).2⟩) hdd)
      · obtain ⟨w1, w2, w3, w4, w5, w6, w7, w8, w9⟩ := hl5 h
        obtain ⟨u1, u2, u3, u4, u5⟩ := hl4 w1
        obtain ⟨z1, z2, z3, z4, z5, _⟩ := hl3 u1
        obtain ⟨p1, p2⟩ := w6 w1
        have := hc y1
        have e : (upC C 0 (n3 + 1)) 0 = n3 + 1 := upC_s
        have hle : LEC (upC C 0 (n2 + 1)) (upC C 0 (n3 + 1)) := fun i => by
          by_cases i0 : i = 0
          · rw [i0, upC_s, upC_s]; omega
          · rw [upC_n i0, upC_n i0]; exact Nat.le_refl _
        have hp : ∀ {C' : Nat → Nat}, STEP C' t5 stk prs obl iA iM C' t5 (stD (fX0_here (stA sA)) (fX0_here oA) a2 a3 a4 iA).2 iM := STEP.pre e_stD
        have f1 := (p2.2.2.step hle (by omega) hp).wk (lo' := C 0) (Cf' := upC C 0 (n3 + 1)) (tf' := t5) (pd' := n3 + 1) (stk' := stk) (prs' := prs) (obl' := obl) (Nat.le_refl _) hle (by omega) (Or.inr (Or.inl (by rw [upC_s]; omega))) (fun _ h _ => h) (fun y hy _ => ⟨y, hy, rfl⟩) (fun _ h _ => h)
        have f2 := (w9.step LEC.rf (Nat.le_refl _) hp).wk (lo' := C 0) (Cf' := upC C 0 (n3 + 1)) (tf' := t5) (pd' := n3 + 1) (stk' := stk) (prs' := prs) (obl' := obl) (by omega) LEC.rf (Nat.le_refl _) (Or.inr (Or.inl (by rw [upC_s]; omega))) (fun _ h _ => h) (fun y hy _ => ⟨y, hy, rfl⟩) (fun _ h _ => h)
        exact ⟨by omega, w3, fun i i0 => upC_n i0, by rw [e]; omega, by rw [e]; omega, by rw [e]; omega, hS _ _ _ _ _ _ _ _ p1 hp, by rw [e]; exact f1.and f2⟩
      · obtain ⟨w1, _⟩ := hl5 h
        obtain ⟨u1, u2, u3, u4, u5⟩ := hl4 w1
        rw [u3] at hy
        rw [upC_s] at *
        exact ⟨rfl, f12, n1, t1, c1, f8, hy.1.1, Or.inr (Or.inr ⟨f7, h20, n2, n3, t2, c2, c3, f9, f10, rfl, hy.1.2, u2, hy.2⟩)⟩
  · rw [if_neg (show ¬ (false = true) by decide), if_neg (show ¬ (false = true) by decide)]
    refine J.take (c := 22) (P := fun C' t' a c => lv1 = true → P C' t' a c ∧ PFA stk prs obl (C 0) (upC C 0 (n1 + 1)) t1 (n1 + 1) Φ1 C' t' a c) hT hS1 hst1' hP1 (by omega) hd40 (by omega) rfl (fun h22 sA sM hst2 hl2 => ?_) (fun h22 => ?_)
    · obtain ⟨hlv, _, hJ1⟩ := hst1'.live (by omega)
      subst hlv
      obtain ⟨y1, y2, y3, y4, y5, y6, y7, y8, y9⟩ := hl1 rfl
      obtain ⟨k1, k2⟩ := hl2 rfl
      rw [if_pos rfl, if_pos rfl]
      refine J.expr (a2 := 2) (P := fun C' t' a c => P C' t' a c ∧ PFA stk prs obl (C 0) (upC C 0 (n1 + 1)) t1 (n1 + 1) Φ1 C' t' a c) hT (STBJ.and hS PFA.stb) hst2 (fun _ => k2 rfl) ⟨hd.1, fun _ => hd40 rfl⟩ hb (by omega) (Or.inl rfl) (fun lv2 x2 t2 fa2 vA vM n2 c2 hst3 hl3 hd3 => ?_)
      simp only [upC_u, upC_s] at hst3 hl3
      refine el_end (C0 := C) (t0 := t) (P := P) (Ψ := fun fA fM => Φ1 fA fM ∧ XPR kd (hdM stk) (n1 + 1) n2 d (t1 + 1) t2 c2 fA fM) hT hS (hst3.pre hT e_elC) (fun h => ?_) hd3 (fun h fA fM hy f7 f8 f9 f10 f12 => ?_) (fun lv' x t' fa' vA vM n hs hl hdd => H lv' x t' fa' vA vM n hs (fun h => ⟨y1, (hl h).2⟩) hdd)
      · obtain ⟨z1, z2, z3, z4, z5, ⟨z6, z6'⟩, z7, z8, z9⟩ := hl3 h
        have := hc y1
        have e : (upC C 0 (n2 + 1)) 0 = n2 + 1 := upC_s
        have hle : LEC (upC C 0 (n1 + 1)) (upC C 0 (n2 + 1)) := fun i => by
          by_cases i0 : i = 0
          · rw [i0, upC_s, upC_s]; omega
          · rw [upC_n i0, upC_n i0]; exact Nat.le_refl _
        have hp : ∀ {C' : Nat → Nat}, STEP C' t2 stk prs obl vA vM C' t2 (elC (fX0_here wA) a3 a4 vA).2 vM := STEP.pre e_elC
        have f1 := (z6'.2.2.step hle (by omega) hp).wk (lo' := C 0) (Cf' := upC C 0 (n2 + 1)) (tf' := t2) (pd' := n2 + 1) (stk' := stk) (prs' := prs) (obl' := obl) (Nat.le_refl _) hle (by omega) (Or.inr (Or.inl (by rw [upC_s]; omega))) (fun _ h _ => h) (fun y hy _ => ⟨y, hy, rfl⟩) (fun _ h _ => h)
        have f2 := (z9.step LEC.rf (Nat.le_refl _) hp).wk (lo' := C 0) (Cf' := upC C 0 (n2 + 1)) (tf' := t2) (pd' := n2 + 1) (stk' := stk) (prs' := prs) (obl' := obl) (by omega) LEC.rf (Nat.le_refl _) (Or.inr (Or.inl (by rw [upC_s]; omega))) (fun _ h _ => h) (fun y hy _ => ⟨y, hy, rfl⟩) (fun _ h _ => h)
        exact ⟨by omega, z3, fun i i0 => upC_n i0, by rw [e]; omega, by rw [e]; omega, by rw [e]; omega, hS _ _ _ _ _ _ _ _ z6 hp, by rw [e]; exact f1.and f2⟩
      · rw [upC_s] at *
        exact ⟨rfl, f12, n1, t1, c1, f8, hy.1, Or.inr (Or.inl ⟨f7, h22, n2, c2, f9, rfl, hy.2⟩)⟩
    · rw [if_neg (show ¬ (false = true) by decide), if_neg (show ¬ (false = true) by decide)]
      refine el_end (C0 := C) (t0 := t) (P := P) (Ψ := Φ1) hT hS (hst1'.pre hT e_body) (fun h => ?_) hd1 (fun h fA fM hy f7 f8 f9 f10 f12 => ?_) (fun lv' x t' fa' vA vM n hs hl hdd => H lv' x t' fa' vA vM n hs (fun h => ?_) hdd)
      · obtain ⟨y1, y2, y3, y4, y5, y6, y7, y8, y9⟩ := hl1 h
        obtain ⟨g1, g2⟩ := hP1 h h
        have := hc y1
        exact ⟨y2, y3, fun i i0 => upC_n i0, by rw [upC_s]; omega, by rw [upC_s]; omega, by rw [upC_s]; omega, hS _ _ _ _ _ _ _ _ g1 (STEP.pre e_body), by
          have f := g2.2.2.step LEC.rf (Nat.le_refl _) (STEP.pre (t := t1) (e_body (a := a3) (b := a4) (w := elB uA)))
          rw [upC_s]; exact f⟩
      · rw [upC_s] at *
        exact ⟨rfl, f12, n1, t1, c1, f8, hy, Or.inl ⟨f7, rfl, rfl, h20, h22⟩⟩
      · obtain ⟨g0, g⟩ := hl h
        exact ⟨(hl1 g0).1, g⟩
end JT
