/-! BOTH SIDES: an assignment; what names begin -/
section JT
variable {kd wr nm : Nat → Nat} {vv : Nat → Int64} {m z : Nat} {gA gM : Wd} {lv : Bool} {sl us B : Nat} {stk obl stkF : List Nat} {prs : PRL} {C TK : Nat → Nat} {SL : Nat → List Nat} {t d b : Nat} {fa : Int32} {wA wM : Wd} {γ α : Type} {wd : γ → Wd} {S : γ → α → Wd → Prop} {P : (Nat → Nat) → Nat → Wd → Wd → Prop}
theorem spl_asg (hT : TOKS kd wr nm vv m z gA gM) {β : Nat} {W : Wd → Wd → PSTT} : SPL kd wr nm vv m z gA gM (fun w => lt2 (fX0_put__ 40 w) fun _ w4 => bn (fX4_named (Int32.ofNat d) w4) fun w5 => some ((0 : Int32), w5))
    (fun w => be (fX12_setOrCall w) fun x60 w61 => some (some x60, w61)) (fun t => kd t = 2 ∧ (kd (t + 1) = 50 ∨ kd (t + 1) = 45)) d β (PW kd d W) := by
  intro γ α wd S stkF B stk obl p sg q r C TK SL t b fa wA wM P KA KM hne hS hst hP hpre hb hB H
  obtain ⟨⟨hk, hk2⟩, hc, hd⟩ := hpre
  have hd40 : d ≤ 40 := by omega
  have hJ := (hst.jl rfl).2
  have hst1 := hst.pre hT (e_put__ (a := 40) (w := wA))
  show GLJ kd wr nm z gA gM wd true stkF fa B (bn2 (lt2 (fX0_put__ 40 wA) fun _ w4 => bn (fX4_named (Int32.ofNat d) w4) fun w5 => some ((0 : Int32), w5)) KA) (be (be (fX12_setOrCall wM) fun x60 w61 => some (some x60, w61)) KM) S
  rw [a_asg (a_named_a hst1.in1 hk hk2), m_id, m_soc hst1.in1.k50 hJ.2.1 hk, if_neg (show ¬ (kd (t + 1) = 43) by omega), be_be]
  have hPF : STBJ stk ((p, sg, q) :: r) obl (PF C t stk ((p, sg, q) :: r) obl wA wM) := PF.stb (fun _ h _ => h) (fun y hy _ => ⟨y, hy, rfl⟩) (fun _ h _ => h)
  refine J.place (P := PF C t stk ((p, sg, q) :: r) obl wA wM) hT hPF hst1 (fun _ => STEP.pre e_put__) ⟨by omega, fun _ => hd40⟩ hb (by omega) (fun lv2 x t2 fa2 vA vM n hst2 hl2 hd2 => ?_)
  have hC0 : (upC C 0 (n + 1)) 0 = n + 1 := upC_s
  refine GLJ.ref (rM' := be (fX12_setOrCall_74 (Int32.ofNat t) (Int32.ofNat n) vM) KM) (fun hlv => ?_) ?_
  · obtain ⟨y1, y2, y3, y4, y5, y6, y7, y8, y9⟩ := hl2 hlv
    have hJ2 := (hst2.jl hlv).2
    have hn24 : n < 24000 := by have := hJ2.2.2.2.2.2.1.1; have := hJ2.2.1.1.1; rw [hC0] at *; omega
    unfold fX12_setOrCall_32
    rw [if_pos (inb_iN hn24 (by omega)), tc_iN (by omega), if_pos (inb_iN hn24 (by omega))]
    rcases y8.2.2.2 with ⟨c1, c2, c3⟩ | ⟨c1, _, c2, _⟩
    · rw [if_neg (by rw [c2]; decide), if_pos c2, m_kind hJ2.2.1]
      show be (if Int32.ofNat (kM (kd t2)) = 290 then _ else _) KM = _
      rw [if_pos ((kq hst2.in1.k50 (x := 290) (k := 50) rfl (by omega)).mpr (by rw [c3]; omega))]
    · rw [if_neg (by rw [c2]; decide), if_neg (by rw [c2]; decide)]
  · unfold fX12_setOrCall_74
    rw [be_be]
    let P2 : (Nat → Nat) → Nat → Wd → Wd → Prop := fun C' t' a c => PF C t stk ((p, sg, q) :: r) obl wA wM C' t' a c ∧ PFA stk ((p, sg, q) :: r) obl (C 0) (upC C 0 (n + 1)) t2 n (PLC kd (hdM stk) (C 0) n d t t2) C' t' a c ∧ PFA stk ((p, sg, q) :: r) obl (C 0) (upC C 0 (n + 1)) t2 (n + 1) (fun _ fM => gi fM 11 n = -1) C' t' a c
    have hS2 : STBJ stk ((p, sg, q) :: r) obl (fun C' t' a c => lv2 = true → P2 C' t' a c) := STBJ.if fun _ => STBJ.and hPF (STBJ.and PFA.stb PFA.stb)
    refine J.need (P := fun C' t' a c => lv2 = true → P2 C' t' a c) hT hS2 hst2 (fun h _ => ?_) (c := 50) (by omega) (fun _ => hd40) hb (by omega) rfl (fun lv3 t3 fa3 oA oM hst3 hl3 hd3 => ?_)
    · obtain ⟨y1, y2, y3, y4, y5, y6, y7, y8, y9⟩ := hl2 h
      exact ⟨y6, ⟨LEC.rf, Nat.le_refl _, y9⟩, ⟨LEC.rf, Nat.le_refl _, fun fA fM hA hM hE => (hM 11 n (Or.inr (Or.inl ⟨rfl, y4, by rw [hC0]; omega, by omega⟩))).1.trans y7⟩⟩
    · obtain ⟨N, hN⟩ : ∃ N, N = 9000 := ⟨_, rfl⟩
      obtain ⟨fo, hfo⟩ := FU_ge (k := N + 2) (by omega)
      obtain ⟨fm, hfm⟩ := FU_ge (k := N + 1) (by omega)
      have hz9 := hst3.in1.z9
      have e0 : Int32.ofNat ([] : List Nat).length = 0 := rfl
      have e1 : Int32.ofNat (([] : List Nat).length + 1) = 1 := rfl
      have hst4 : STJ kd wr nm vv m z gA gM lv3 0 ((upC C 0 (n + 1)) 1) stk ((p, sg, q) :: r) (upC C 0 (n + 1)) TK SL t3 d b fa3 oA oM := by
        rw [upC_n (by omega)]; exact hst3
      by_cases hcn : C 0 ≤ n
      · have h := asg_loop (β := β) (W := W) (wA0 := wA) (wM0 := wM) (KA := KA) (KM := KM) (e1 := t2) (x0 := n) (fo := fo) (fm := fm) (x1 := x) hT ⟨hk, hk2⟩ hS hP hc hd40 hb hcn H N lv3 (upC C 0 (n + 1)) t3 fa3 oA oM n [] (by omega) (Nat.zero_le _) hst4 (fun h => ?_)
        · rw [e0, e1, Nat.add_assoc fo, ← hfo, Nat.add_assoc fm, ← hfm] at h
          exact h
        · obtain ⟨z1, z2, z3, z4, z5⟩ := hl3 h
          obtain ⟨y1, y2, y3, y4, y5, y6, y7, y8, y9⟩ := hl2 z1
          obtain ⟨p1, p2, p3⟩ := z5 z1
          refine ⟨by omega, hC0, hcn, by rw [hC0]; omega, fun i i0 _ => upC_n i0, by rw [upC_n (by omega)]; exact Nat.le_refl _, p1, p3.2.2.now, ?_⟩
          have f1 := p2.2.2.wk (lo' := C 0) (Cf' := upC C 0 (n + 1)) (tf' := t3) (pd' := n) (stk' := stk) (prs' := (p, sg, q) :: r) (obl' := obl) (Nat.le_refl _) LEC.rf (by omega) (Or.inl rfl) (fun _ h _ => h) (fun y hy _ => ⟨y, hy, rfl⟩) (fun _ h _ => h)
          refine f1.imp (fun fA fM hh => ⟨hh, z2, fun rest y e h => ?_, Or.inl ⟨Nat.zero_le _, upC_n (by omega)⟩⟩)
          rw [z3] at h
          exact h
      · cases lv3
        · have h := asg_loop (β := β) (W := W) (wA0 := wA) (wM0 := wM) (KA := KA) (KM := KM) (e1 := t2) (x0 := C 0) (fo := fo) (fm := fm) (x1 := x) hT ⟨hk, hk2⟩ hS hP hc hd40 hb (Nat.le_refl _) H N false (upC C 0 (n + 1)) t3 fa3 oA oM n [] (by omega) (Nat.zero_le _) hst4 (fun h => absurd h (by decide))
          rw [e0, e1, Nat.add_assoc fo, ← hfo, Nat.add_assoc fm, ← hfm] at h
          exact ⟨fun _ => h.1 rfl, fun h => absurd h (by decide)⟩
        · exact absurd (hl2 (hl3 rfl).1).2.2.2.1 hcn
/-- what a NAME begins -/
theorem spl_named (hT : TOKS kd wr nm vv m z gA gM) {β : Nat} {W : Wd → Wd → PSTT} : SPL kd wr nm vv m z gA gM (fun w => lt2 (fX0_put__ 40 w) fun _ w4 => bn (fX4_named (Int32.ofNat d) w4) fun w5 => some ((0 : Int32), w5))
    (fun w => be (fX12_setOrCall w) fun x60 w61 => some (some x60, w61)) (fun t => kd t = 2) d β (PW kd d W) := by
  intro γ α wd S stkF B stk obl p sg q r C TK SL t b fa wA wM P KA KM hne hS hst hP hpre hb hB H
  by_cases h : kd (t + 1) = 50 ∨ kd (t + 1) = 45
  · exact spl_asg hT γ α wd S stkF B stk obl p sg q r C TK SL t b fa wA wM P KA KM hne hS hst hP ⟨⟨hpre.1, h⟩, hpre.2⟩ hb hB H
  · exact spl_call hT γ α wd S stkF B stk obl p sg q r C TK SL t b fa wA wM P KA KM hne hS hst hP ⟨⟨hpre.1, fun e => h (Or.inl e), fun e => h (Or.inr e)⟩, hpre.2⟩ hb hB H
end JT
