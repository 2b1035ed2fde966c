/-! BOTH SIDES: calls -/
section JT
variable {kd wr nm : Nat → Nat} {vv : Nat → Int64} {m z : Nat} {gA gM : Wd} {lv : Bool} {sl us B : Nat} {stk obl stkF : List Nat} {prs : PRL} {C TK : Nat → Nat} {SL : Nat → List Nat} {t d b : Nat} {fa : Int32} {wA wM : Wd} {γ α : Type} {wd : γ → Wd} {S : γ → α → Wd → Prop} {P : (Nat → Nat) → Nat → Wd → Wd → Prop}
theorem a_named_c {base : Nat} {a1 : Int32} {w : Wd} (h : IN1 kd wr z w t base fa) (hk : kd t = 2) (h1 : kd (t + 1) ≠ 50) (h2 : kd (t + 1) ≠ 45) : fX4_named a1 w = bn2 (RX2_typed 900 8 a1 0 (Int32.ofNat t) (si w 4 9 (Int32.ofNat (t + 1)))) fun _ w2 => some (fX0_put_ 27 1 w2).2 := by
  have hk50 := h.k50
  have ht1 : t + 1 < z := kdlt h.1 (by omega)
  have hO : OFF (fun k j => k = 4 ∧ (j = 9 ∨ j = 10)) (si w 4 9 (Int32.ofNat (t + 1))) w := OFF.si ⟨rfl, Or.inl rfl⟩
  obtain ⟨e1, e2⟩ := a_take (k := 2) h.1 (by omega) (by rw [hk]; rfl)
  have hsy := (h.tok hO e2).2.2.1
  have e3 : fX9_need 2 w = si w 4 9 (Int32.ofNat (t + 1)) := by
    unfold fX9_need
    rw [e1]
    dsimp only [lt2, lt]
    rw [if_pos rfl]
  unfold fX4_named
  rw [ltq, a_at h.1, ad1_iN t, ltq, a_kindOf h ht1, if_neg (show ¬ (Int32.ofNat (kd (t + 1)) = 50) from of_ne (k := 50) (by have := hk50 (t + 1); omega) (by omega) h1), if_neg (show ¬ (Int32.ofNat (kd (t + 1)) = 45) from of_ne (k := 45) (by have := hk50 (t + 1); omega) (by omega) h2), ltq, find_0 h.2.1]
  dsimp only [lt2, lt]
  rw [e3, isSort_0 hsy, if_pos rfl]
  rfl
theorem a_callc {a1 : Int32} {p : Int32 × Wd} {f : Wd → Option (Int32 × Wd)} (h : fX4_named a1 p.2 = bn2 (f p.2) fun _ w2 => some (fX0_put_ 27 1 w2).2) {K : Int32 → Wd → Option γ} : bn2 (lt2 p fun _ w4 => bn (fX4_named a1 w4) fun w5 => some ((0 : Int32), w5)) K = bn2 (f p.2) fun _ w2 => K 0 (fX0_put_ 27 1 w2).2 := by
  show bn2 (bn (fX4_named a1 p.2) fun w5 => some ((0 : Int32), w5)) K = _
  rw [h]
  generalize f p.2 = R
  rcases R with _ | ⟨x, w⟩ <;> rfl
theorem m_some2 {f : Wd → Option (Int32 × Wd)} {w : Wd} {K : Int32 → Wd → Option (Option α × Wd)} : be (be (bn2 (f w) fun x15 w16 => some (some x15, w16)) fun x60 w61 => some (some x60, w61)) K = bn2 (f w) K := by
  generalize f w = R
  rcases R with _ | ⟨x, w⟩ <;> rfl
theorem m_soc {w : Wd} {t : Nat} (hk50 : ∀ i, kd i ≤ 50) (h : SM kd wr m w t d) (hk : kd t = 2) : fX12_setOrCall w = be (if kd (t + 1) = 43 then RX12_variable 900 2 0 0 0 w else RX12_variable 900 0 0 0 0 w) fun x w2 => fX12_setOrCall_32 x (Int32.ofNat t) w2 := by
  have htm := h.lt (show 2 ≤ kd t by omega)
  have hm9 := h.1.1
  have h07 : gi w 0 7 = Int32.ofNat t := h.2.2.2.1
  have h2t : gi w 2 (t + 1) = Int32.ofNat (kM (kd (t + 1))) := (h.1.2.2.2.2 (t + 1) (by omega)).1
  unfold fX12_setOrCall
  rw [ltq, h07, ad1_iN t, if_pos (inb_iN (by omega) (by omega)), tc_iN (by omega), h2t]
  by_cases q : kd (t + 1) = 43
  · rw [if_pos q, if_pos ((kq hk50 (x := 40) (k := 43) rfl (by omega)).mpr q)]
  · rw [if_neg q, if_neg (fun e => q ((kq hk50 (x := 40) (k := 43) rfl (by omega)).mp e))]
/-- a call -/
theorem spl_call (hT : TOKS kd wr nm vv m z gA gM) {β : Nat} {W : Wd → Wd → PSTT} : SPL kd wr nm vv m z gA gM (fun w => lt2 (fX0_put__ 40 w) fun _ w4 => bn (fX4_named (Int32.ofNat d) w4) fun w5 => some ((0 : Int32), w5))
    (fun w => be (fX12_setOrCall w) fun x60 w61 => some (some x60, w61)) (fun t => kd t = 2 ∧ kd (t + 1) ≠ 50 ∧ kd (t + 1) ≠ 45) d β (PW kd d W) := by
  intro γ α wd S stkF B stk obl p sg q r C TK SL t b fa wA wM P KA KM hne hS hst hP hpre hb hB H
  obtain ⟨⟨hk, hk50, hk45⟩, hc, hd⟩ := hpre
  have hd40 : d ≤ 40 := by omega
  have hJ := (hst.jl rfl).2
  have hst1 := hst.pre hT (e_put__ (a := 40) (w := wA))
  show GLJ kd wr nm z gA gM wd true stkF fa B (bn2 (lt2 (fX0_put__ 40 wA) fun _ w4 => bn (fX4_named (Int32.ofNat d) w4) fun w5 => some ((0 : Int32), w5)) KA) (be (be (fX12_setOrCall wM) fun x60 w61 => some (some x60, w61)) KM) S
  rw [a_callc (f := fun w => RX2_typed 900 8 (Int32.ofNat d) 0 (Int32.ofNat t) (si w 4 9 (Int32.ofNat (t + 1)))) (a_named_c hst1.in1 hk hk50 hk45), m_soc hst1.in1.k50 hJ.2.1 hk]
  simp only [be_be]
  refine J.callst (P := P) hT hS hst1 (fun _ => hS _ _ _ _ _ _ _ _ hP (STEP.pre e_put__)) hd40 hb (by omega) hk hk45 rfl (fun lv2 x t2 fa2 vA vM n hst2 hl2 hd2 => ?_)
  have hst3 : STJ kd wr nm vv m z gA gM lv2 0 ((upC C 0 (n + 1)) 1) stk ((p, sg, q) :: r) (upC C 0 (n + 1)) TK SL t2 d (b + β) fa2 (fX0_put_ 27 1 vA).2 vM := by
    rw [upC_n (by omega)]
    exact (hst2.pre hT e_put_).bw (Or.inl (by omega))
  have hC0 : (upC C 0 (n + 1)) 0 = n + 1 := upC_s
  refine GLJ.ref (rM' := bn2 (fX12_node 22 (Int32.ofNat n) 0 0 (Int32.ofNat t) vM) KM) (fun hlv => ?_) ?_
  · obtain ⟨y1, y2, y3, y4, y5, y6, y7, y8, y9⟩ := hl2 hlv
    have hJ2 := (hst2.jl hlv).2
    have hn24 : n < 24000 := by have := hJ2.2.2.2.2.2.1; have := hJ2.2.1.1.1; omega
    have hm : ∀ w, be (be (bn2 (fX12_node 22 (Int32.ofNat n) 0 0 (Int32.ofNat t) w) fun x15 w16 => some (some x15, w16)) fun x60 w61 => some (some x60, w61)) KM = bn2 (fX12_node 22 (Int32.ofNat n) 0 0 (Int32.ofNat t) w) KM := fun w => m_some2 (f := fun w => fX12_node 22 (Int32.ofNat n) 0 0 (Int32.ofNat t) w)
    have hm' : fX12_setOrCall_32 (Int32.ofNat n) (Int32.ofNat t) vM = bn2 (fX12_node 22 (Int32.ofNat n) 0 0 (Int32.ofNat t) vM) fun x15 w16 => some (some x15, w16) := by
      unfold fX12_setOrCall_32
      rw [if_pos (inb_iN hn24 (by omega)), tc_iN (by omega), if_pos (inb_iN hn24 (by omega))]
      rcases y8.2.2.2 with ⟨c1, c2, c3⟩ | ⟨c1, _, c2, _⟩
      · rw [if_neg (by rw [c2]; decide), if_pos c2, m_kind hJ2.2.1]
        show (if Int32.ofNat (kM (kd t2)) = 290 then _ else _) = _
        rw [if_neg (fun e => hk50 (by rw [← c3]; exact (kq hst2.in1.k50 (x := 290) (k := 50) rfl (by omega)).mp e))]
      · rw [if_pos c2]
    rw [← hm, ← hm', be_be]
  · refine spl_end (C0 := C) (t0 := t) (q := q) (W := fun fA fM => PLNX kd fA fM (W fA fM) d) (Ψ := fun fA fM => CLC kd (hdM stk) (C 0) n d t t2 fA fM) hT hS hst3 (fun h => ?_) hd2 (fun h fA fM v hy g7 g8 g9 g10 g12 g13 => ?_) H
    · obtain ⟨y1, y2, y3, y4, y5, y6, y7, y8, y9⟩ := hl2 h
      refine ⟨by omega, y3, upC_le (by omega), by rw [hC0]; omega, hc, by rw [upC_n (by omega), upC_n (by omega)]; omega, hS _ _ _ _ _ _ _ _ y6 (STEP.pre e_put_), ?_⟩
      exact (y9.step LEC.rf (Nat.le_refl _) (STEP.pre (t := t2) (e_put_ (a := 27) (b := 1) (w := vA)))).wk (Nat.le_refl _) LEC.rf (Nat.le_refl _) (Or.inr (Or.inl (Nat.le_refl _))) (fun _ h _ => h) (fun y hy _ => ⟨y, hy, rfl⟩) (fun _ h _ => h)
    · refine ⟨p, sg, q, r, rfl, Or.inl ⟨hk, hk50, hk45, (gi_si1 (by omega)).trans g7, n, (gi_si1 (by omega)).trans g8, hC0, hy, rfl, ?_⟩⟩
      rw [hC0, upC_u]
end JT
