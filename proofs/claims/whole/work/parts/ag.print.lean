/-! BOTH SIDES: print and calls -/
section JT
variable {kd wr nm : Nat → Nat} {vv : Nat → Int64} {m z : Nat} {gA gM : Wd} {lv : Bool} {sl us B : Nat} {stk obl stkF : List Nat} {prs : PRL} {C TK : Nat → Nat} {SL : Nat → List Nat} {t d b : Nat} {fa : Int32} {wA wM : Wd} {γ α : Type} {wd : γ → Wd} {S : γ → α → Wd → Prop} {P : (Nat → Nat) → Nat → Wd → Wd → Prop}
theorem a_print {a1 : Int32} {p : Int32 × Wd} {K : Int32 → Wd → Option γ} : bn2 (lt2 p fun _ w31 => bn (fX4_print a1 w31) fun w32 => some ((0 : Int32), w32)) K = lt (fX9_need (Int32.ofNat 32) p.2) fun w1 => if fX9_kind w1 = 43 then (lt2 (fX9_open a1 w1) fun x4 w5 => bn2 (RX2_typed 900 2 x4 0 0 w5) fun _ w7 => lt (fX9_need (Int32.ofNat 44) w7) fun w8 => K 0 (fX0_put__ 28 w8).2) else K 0 (fX9_fail w1) := by
  unfold fX4_print
  simp only [lt, lt2]
  by_cases q : fX9_kind (fX9_need 32 p.2) = 43
  · have q' : fX9_kind (fX9_need (Int32.ofNat 32) p.2) = 43 := q
    rw [if_pos q, if_pos q']
    show bn2 (bn (bn2 (RX2_typed 900 2 (fX9_open a1 (fX9_need 32 p.2)).1 0 0 (fX9_open a1 (fX9_need 32 p.2)).2) _) _) K = bn2 (RX2_typed 900 2 (fX9_open a1 (fX9_need 32 p.2)).1 0 0 (fX9_open a1 (fX9_need 32 p.2)).2) _
    generalize RX2_typed 900 2 (fX9_open a1 (fX9_need 32 p.2)).1 0 0 (fX9_open a1 (fX9_need 32 p.2)).2 = R
    rcases R with _ | ⟨x, w⟩ <;> rfl
  · have q' : ¬ (fX9_kind (fX9_need (Int32.ofNat 32) p.2) = 43) := q
    rw [if_neg q, if_neg q']
    rfl
theorem a_failn {w : Wd} {t k : Nat} {fa : Int32} (h : CT kd wr true z w t fa) (hk : k ≤ 50) (q : kd t ≠ k) : fX9_fail w = fX9_need (Int32.ofNat k) w := by
  unfold fX9_need
  rw [a_take_no h hk q]
  dsimp only [lt2, lt]
  rw [if_neg (by decide)]
/-- print -/
theorem spl_print (hT : TOKS kd wr nm vv m z gA gM) {β : Nat} {W : Wd → Wd → PSTT} : SPL kd wr nm vv m z gA gM (fun w => lt2 (fX0_put__ 40 w) fun _ w31 => bn (fX4_print (Int32.ofNat d) w31) fun w32 => some ((0 : Int32), w32))
    (fun w => be (fX12_taken w) fun _ w44 => be (fX12_expect 40 w44) fun _ w47 => lt (si w47 0 8 ((gi w47 0 8) + 1)) fun w49 => be (RX12_variable 900 4 0 0 0 w49) fun x50 w51 => lt (si w51 0 8 ((gi w51 0 8) - 1)) fun w53 => be (fX12_expect 41 w53) fun _ w55 => bn2 (fX12_node 23 x50 0 0 (gi w 0 7) w55) fun x57 w58 => some (some x57, w58)) (fun t => kd t = 32) d β (PW kd d W) := by
  intro γ α wd S stkF B stk obl p sg q r C TK SL t b fa wA wM P KA KM hne hS hst hP hpre hb hB H
  obtain ⟨hk, hc, hd⟩ := hpre
  have hd40 : d ≤ 40 := by omega
  have hJ := (hst.jl rfl).2
  have h7 : gi wM 0 7 = Int32.ofNat t := hJ.2.1.2.2.2.1
  show GLJ kd wr nm z gA gM wd true stkF fa B (bn2 (lt2 (fX0_put__ 40 wA) fun _ w31 => bn (fX4_print (Int32.ofNat d) w31) fun w32 => some ((0 : Int32), w32)) KA) (be (be (fX12_taken wM) fun _ w44 => be (fX12_expect 40 w44) fun _ w47 => lt (si w47 0 8 ((gi w47 0 8) + 1)) fun w49 => be (RX12_variable 900 4 0 0 0 w49) fun x50 w51 => lt (si w51 0 8 ((gi w51 0 8) - 1)) fun w53 => be (fX12_expect 41 w53) fun _ w55 => bn2 (fX12_node 23 x50 0 0 (gi wM 0 7) w55) fun x57 w58 => some (some x57, w58)) KM) S
  rw [a_print, be_be, h7]
  refine GLJ.tk (x := 284) (fun _ => by rw [m_taken hJ.2.1 hd40 (by omega), m_expect (x := 284) hJ.2.1 hd40 (k := 32) rfl (by omega) hk]) (J.need (P := P) hT hS (hst.pre hT (e_put__ (a := 40) (w := wA))) (fun _ => hS _ _ _ _ _ _ _ _ hP (STEP.pre e_put__)) (c := 32) (by omega) (fun _ => hd40) hb (by omega) rfl (fun lv1 t1 fa1 uA uM hst1 hl1 hd1 => ?_))
  have hin1 := hst1.in1
  have hS1 : STBJ stk ((p, sg, q) :: r) obl (fun C' t' a c => lv1 = true → P C' t' a c) := STBJ.if fun _ => hS
  rw [be_be, a_kind hin1.1]
  by_cases q43 : kd t1 = 43
  · obtain ⟨h1, hfa, hJ1⟩ := hst1.live (by omega)
    subst h1
    obtain ⟨z1, z2, z3, z4, z5⟩ := hl1 rfl
    rw [if_pos (show Int32.ofNat (kd t1) = 43 by rw [q43]; rfl)]
    refine J.opn (P := P) hT hS hst1 (fun _ => z5) (by omega) (by omega) hd40 hb (by omega) (rT := fX12_expect 40 uM) (m_expect (x := 40) hJ1.2.1 hd40 (k := 43) rfl (by omega) q43) (KM := fun _ w49 => be (be (RX12_variable 900 4 0 0 0 w49) fun x50 w51 => lt (si w51 0 8 ((gi w51 0 8) - 1)) fun w53 => be (fX12_expect 41 w53) fun _ w55 => bn2 (fX12_node 23 x50 0 0 (Int32.ofNat t) w55) fun x57 w58 => some (some x57, w58)) KM) (fun yM hsm => ?_) (fun lv2 t2 fa2 vA vM hst2 hl2 hd2 => ?_)
    · rw [dp_expr (by omega) yM _ hsm]
      exact ⟨_, rfl, gi_si0 _ _ _ _, OFF.si (by unfold PMM; omega)⟩
    · rw [be_be]
      refine J.expr (a2 := 0) (P := fun C' t' a c => lv2 = true → P C' t' a c) hT (STBJ.if fun _ => hS) hst2 (fun h _ => (hl2 h).2.2.2.2) ⟨by omega, fun h => (hl2 h).2.1⟩ hb (by omega) (Or.inr rfl) (fun lv3 x t3 fa3 yA yM n cn hst3 hl3 hd3 => ?_)
      have hS3 : STBJ stk ((p, sg, q) :: r) obl (fun C' t' a c => lv3 = true → P C' t' a c ∧ PFA stk ((p, sg, q) :: r) obl (C 0) (upC C 0 (n + 1)) t3 (n + 1) (XPR kd (hdM stk) (C 0) n (d + 1) (t + 2) t3 cn) C' t' a c) := STBJ.if fun _ => STBJ.and hS PFA.stb
      show GLJ kd wr nm z gA gM wd lv3 stkF fa3 B _ (be (lt (si yM 0 8 ((gi yM 0 8) - 1)) fun w53 => be (fX12_expect 41 w53) fun _ w55 => bn2 (fX12_node 23 (Int32.ofNat n) 0 0 (Int32.ofNat t) w55) fun x57 w58 => some (some x57, w58)) KM) S
      refine J.dep (P := fun C' t' a c => lv3 = true → P C' t' a c ∧ PFA stk ((p, sg, q) :: r) obl (C 0) (upC C 0 (n + 1)) t3 (n + 1) (XPR kd (hdM stk) (C 0) n (d + 1) (t + 2) t3 cn) C' t' a c) (KM := fun w53 => be (be (fX12_expect 41 w53) fun _ w55 => bn2 (fX12_node 23 (Int32.ofNat n) 0 0 (Int32.ofNat t) w55) fun x57 w58 => some (some x57, w58)) KM) hT hS3 hst3 (fun h _ => ?_) (d' := d) (by omega) (dep_dn hst3) (fun yM' hst4 hl4 => ?_)
      · obtain ⟨x1, x2, x3, x4, x5, x6, x7, x8, x9⟩ := hl3 h
        obtain ⟨y1, y2, y3, y4, y5⟩ := hl2 x1
        refine ⟨x6 x1, LEC.rf, Nat.le_refl _, ?_⟩
        rw [y3, z3] at x9
        exact x9.wk (Nat.le_refl _) LEC.rf (Nat.le_refl _) (Or.inr (Or.inl (by rw [upC_s]; omega))) (fun _ h _ => h) (fun y hy _ => ⟨y, hy, rfl⟩) (fun _ h _ => h)
      · rw [be_be]
        refine J.need (c := 44) (P := fun C' t' a c => lv3 = true → P C' t' a c ∧ PFA stk ((p, sg, q) :: r) obl (C 0) (upC C 0 (n + 1)) t3 (n + 1) (XPR kd (hdM stk) (C 0) n (d + 1) (t + 2) t3 cn) C' t' a c) hT hS3 hst4 hl4 (by omega) (fun _ => hd40) hb (by omega) rfl (fun lv4 t4 fa4 oA oM hst5 hl5 hd5 => ?_)
        rw [m_some (x := 0) (w := oM) (f := fun w => fX12_node 23 (Int32.ofNat n) 0 0 (Int32.ofNat t) w)]
        have hst6 : STJ kd wr nm vv m z gA gM lv4 0 ((upC C 0 (n + 1)) 1) stk ((p, sg, q) :: r) (upC C 0 (n + 1)) TK SL t4 d (b + β) fa4 (fX0_put__ 28 oA).2 oM := by
          rw [upC_n (by omega)]
          exact (hst5.pre hT e_put__).bw (Or.inl (by omega))
        have hC0 : (upC C 0 (n + 1)) 0 = n + 1 := upC_s
        refine spl_end (C0 := C) (t0 := t) (q := q) (W := fun fA fM => PLNX kd fA fM (W fA fM) d) (Ψ := fun fA fM => XPR kd (hdM stk) (C 0) n (d + 1) (t + 2) t3 cn fA fM) hT hS hst6 (fun h => ?_) hd5 (fun h fA fM v hy g7 g8 g9 g10 g12 g13 => ?_) H
        · obtain ⟨o1, o2, o3, o4, o5⟩ := hl5 h
          obtain ⟨x1, x2, x3, x4, x5, x6, x7, x8, x9⟩ := hl3 o1
          obtain ⟨y1, y2, y3, y4, y5⟩ := hl2 x1
          obtain ⟨u1, u2⟩ := o5 o1
          refine ⟨by omega, by omega, upC_le (by omega), by rw [hC0]; omega, hc, by rw [upC_n (by omega), upC_n (by omega)]; omega, hS _ _ _ _ _ _ _ _ u1 (STEP.pre e_put__), ?_⟩
          have f1 := (u2.2.2.step u2.1 u2.2.1 (STEP.pre (t := t4) (e_put__ (a := 28) (w := oA)))).wk (lo' := C 0) (Cf' := upC C 0 (n + 1)) (tf' := t4) (pd' := (upC C 0 (n + 1)) 0) (stk' := stk) (prs' := (p, sg, q) :: r) (obl' := obl) (Nat.le_refl _) LEC.rf (by omega) (Or.inl hC0) (fun _ h _ => h) (fun y hy _ => ⟨y, hy, rfl⟩) (fun _ h _ => h)
          exact f1
        · obtain ⟨o1, o2, o3, o4, o5⟩ := hl5 h
          obtain ⟨x1, x2, x3, x4, x5, x6, x7, x8, x9⟩ := hl3 o1
          obtain ⟨y1, y2, y3, y4, y5⟩ := hl2 x1
          refine ⟨p, sg, q, r, rfl, Or.inr (Or.inr (Or.inl ⟨hk, by rw [← z3]; exact q43, by omega, (gi_si1 (by omega)).trans g7, n, t3, cn, (gi_si1 (by omega)).trans g8, hC0, hy, o2, o3, rfl, ?_⟩))⟩
          rw [hC0, upC_u]
  · rw [if_neg (show ¬ (Int32.ofNat (kd t1) = 43) from of_ne (k := 43) (by have := hin1.k50 t1; omega) (by omega) q43), a_failn hin1.1 (k := 43) (by omega) q43]
    refine J.need (c := 43) (KA := fun w => KA 0 w) (P := fun C' t' a c => lv1 = true → P C' t' a c) hT hS1 hst1 (fun h _ => (hl1 h).2.2.2.2) (by omega) (fun _ => hd40) hb (by omega) rfl (fun lv2 t2 fa2 vA vM hst2 hl2 hd2 => ?_)
    cases lv2
    · refine ⟨fun _ => (H false 0 t2 fa2 vA vM 0 C TK SL q (hst2.dd rfl |>.bw (Or.inl (by omega))) (fun h => absurd h (by decide)) hd2).1 rfl, fun h => absurd h (by decide)⟩
    · exact absurd (hl2 rfl).2.1 q43
end JT
