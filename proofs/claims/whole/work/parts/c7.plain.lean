/-! BOTH SIDES: a STATEMENT without LABELS, of any kind -/
section JT
variable {kd wr nm : Nat → Nat} {vv : Nat → Int64} {m z : Nat} {gA gM : Wd} {lv : Bool} {sl us B : Nat} {stk obl stkF : List Nat} {prs : PRL} {C TK : Nat → Nat} {SL : Nat → List Nat} {t d b : Nat} {fa : Int32} {wA wM : Wd} {γ α : Type} {wd : γ → Wd} {S : γ → α → Wd → Prop} {P : (Nat → Nat) → Nat → Wd → Wd → Prop}
theorem a_61no {rc : TX4_block} {a1 : Int32} {base : Nat} {w : Wd} (h : IN1 kd wr z w t base fa) (q : ¬ (kd t = 2 ∨ kd t = 4 ∨ kd t = 14 ∨ kd t = 15 ∨ kd t = 18 ∨ kd t = 32)) : fX4_statement_61 rc a1 w = some (0, w) := by
  have hk50 := h.k50 t
  have hq : ∀ k : Nat, k ≤ 50 → ((Int32.ofNat (kd t) = Int32.ofNat k) ↔ kd t = k) := fun k hk => eq_iN (by omega) (by omega)
  unfold fX4_statement_61
  rw [ltq, a_kind h.1, if_neg (show ¬ (Int32.ofNat (kd t) = 2) from fun e => q (Or.inl ((hq 2 (by omega)).mp e))), if_neg (show ¬ (Int32.ofNat (kd t) = 4) from fun e => absurd ((hq 4 (by omega)).mp e) (by omega)), if_neg (show ¬ (Int32.ofNat (kd t) = 14) from fun e => absurd ((hq 14 (by omega)).mp e) (by omega)), if_neg (show ¬ (Int32.ofNat (kd t) = 15) from fun e => absurd ((hq 15 (by omega)).mp e) (by omega)), if_neg (show ¬ (Int32.ofNat (kd t) = 18) from fun e => absurd ((hq 18 (by omega)).mp e) (by omega)), if_neg (show ¬ (Int32.ofNat (kd t) = 32) from fun e => absurd ((hq 32 (by omega)).mp e) (by omega))]
theorem a_blk0 {p : Int32 × Wd} {f : Wd → Option (Int32 × Wd)} {K : Int32 → Wd → Option γ} : bn2 (lt2 p fun _ w8 => bn2 (f w8) fun _ w10 => some ((0 : Int32), w10)) K = bn2 (f p.2) fun _ w => K 0 w := by
  rw [lt2q]
  exact bn2_bn3 _ _
theorem m_blk0 {a : Option (Option Int32 × Wd)} {K : Int32 → Wd → Option (Option α × Wd)} : be (be a fun x5 w6 => some (some x5, w6)) K = be a K := by
  rw [be_be]
  rfl
theorem spc_plain (hT : TOKS kd wr nm vv m z gA gM) {β : Nat} {rc rc1 : TX4_block} {rm rm1 : TX12_block} {W : Wd → Wd → PSTT} (hr0 : ∀ w, rc 0 (Int32.ofNat d) 0 0 w = fX4_block rc1 (Int32.ofNat d) w) (hr6 : ∀ w, rc 6 (Int32.ofNat d) 0 0 w = fX4_choice rc1 (Int32.ofNat d) w) (hr7 : ∀ w, rc 7 (Int32.ofNat d) 0 0 w = fX4_loop rc1 (Int32.ofNat d) w) (hm0 : ∀ w, rm 0 0 0 0 w = fX12_block rm1 w) (hm6 : ∀ w, rm 6 0 0 0 w = fX12_loop rm1 w)
    (hB : SPB kd wr nm vv m z gA gM (fun w => fX4_block rc1 (Int32.ofNat d) w) (fun w => fX12_block rm1 w) d β W)
    (hin : SPC kd wr nm vv m z gA gM (fun w => rc1 4 (Int32.ofNat (d + 1)) 0 0 w) (fun w => rm 3 0 0 0 w) false (fun C t => 3 * C 2 + 3 ≤ wr t) (d + 1) β (fun fA fM => INS9 fM (W fA fM) (d + 1)))
    (hin1 : SPC kd wr nm vv m z gA gM (fun w => rc1 4 (Int32.ofNat (d + 1)) 0 0 w) (fun w => rm1 3 0 0 0 w) false (fun C t => 3 * C 2 + 3 ≤ wr t) (d + 1) β (fun fA fM => INS9 fM (W fA fM) (d + 1))) :
    SPC kd wr nm vv m z gA gM (fun w => fX4_statement_61 rc (Int32.ofNat d) w) (fun w => fX12_plain rm w) true (fun C t => ¬ (kd t = 2 ∧ kd (t + 1) = 42)) d β (PW kd d W) := by
  intro γ α wd S stkF B lv stk obl p sg q r C TK SL t b fa wA wM P KA KM hne hS hst hP hpre hb hbb H
  show GLJ kd wr nm z gA gM wd lv stkF fa B (bn2 (fX4_statement_61 rc (Int32.ofNat d) wA) KA) (be (fX12_plain rm wM) KM) S
  have hin0 := hst.in1
  cases lv
  · -- dead
    have hz : t = z - 1 ∧ kd t = 0 := by
      rcases hst with ⟨h, _⟩ | ⟨_, h2, h3⟩
      · exact absurd h (by decide)
      · exact ⟨h2, by rw [h2]; exact h3.1.zk⟩
    rw [a_61no hin0 (by omega)]
    exact ⟨fun _ => (H false 0 t fa wA wM 0 C TK SL q ((hst.dd rfl).bw (Or.inl (by omega))) (fun h => absurd h (by decide)) (fun _ => hz.1)).1 rfl, fun h => absurd h (by decide)⟩
  have hJ := (hst.jl rfl).2
  obtain ⟨_, hc, hd, hob⟩ := hpre rfl
  have hk50 := hin0.k50 t
  have h50 := hJ.2.1.1.2.2.2.1
  have hq : ∀ k : Nat, k ≤ 50 → ((Int32.ofNat (kd t) = Int32.ofNat k) ↔ kd t = k) := fun k hk => eq_iN (by omega) (by omega)
  have n2 : kd t ≠ 2 → ¬ (Int32.ofNat (kd t) = 2) := fun h e => h ((hq 2 (by omega)).mp e)
  have n4 : kd t ≠ 4 → ¬ (Int32.ofNat (kd t) = 4) := fun h e => h ((hq 4 (by omega)).mp e)
  have n14 : kd t ≠ 14 → ¬ (Int32.ofNat (kd t) = 14) := fun h e => h ((hq 14 (by omega)).mp e)
  have n15 : kd t ≠ 15 → ¬ (Int32.ofNat (kd t) = 15) := fun h e => h ((hq 15 (by omega)).mp e)
  have n18 : kd t ≠ 18 → ¬ (Int32.ofNat (kd t) = 18) := fun h e => h ((hq 18 (by omega)).mp e)
  have M4 := kq (t := t) h50 (k := 4) (x := 256) rfl (by omega)
  have M14 := kq (t := t) h50 (k := 14) (x := 266) rfl (by omega)
  have M15 := kq (t := t) h50 (k := 15) (x := 267) rfl (by omega)
  have M18 := kq (t := t) h50 (k := 18) (x := 270) rfl (by omega)
  have M32 := kq (t := t) h50 (k := 32) (x := 284) rfl (by omega)
  have M2 := kq (t := t) h50 (k := 2) (x := 285) rfl (by omega)
  by_cases qn : ¬ (kd t = 2 ∨ kd t = 4 ∨ kd t = 14 ∨ kd t = 15 ∨ kd t = 18 ∨ kd t = 32)
  · rw [a_61no hin0 qn]
    unfold fX12_plain
    rw [ltq, m_kq hJ.2.1, if_neg (fun e => absurd (M4.mp e) (by omega)), if_neg (fun e => absurd (M14.mp e) (by omega)), if_neg (fun e => absurd (M15.mp e) (by omega)), if_neg (fun e => absurd (M18.mp e) (by omega)), if_neg (fun e => absurd (M32.mp e) (by omega)), if_neg (fun e => absurd (M2.mp e) (by omega))]
    exact spl_none hT γ α wd S stkF B stk obl p sg q r C TK SL t b fa wA wM P KA KM (hne rfl) hS hst (hP rfl) ⟨qn, hc, hd, hob⟩ hb hbb H
  have qy : kd t = 2 ∨ kd t = 4 ∨ kd t = 14 ∨ kd t = 15 ∨ kd t = 18 ∨ kd t = 32 := Classical.not_not.mp qn
  unfold fX4_statement_61 fX12_plain
  rw [ltq, a_kind hin0.1, ltq, m_kq hJ.2.1]
  by_cases q2 : kd t = 2
  · rw [if_pos (show Int32.ofNat (kd t) = 2 by rw [q2]; rfl), if_neg (fun e => absurd (M4.mp e) (by omega)), if_neg (fun e => absurd (M14.mp e) (by omega)), if_neg (fun e => absurd (M15.mp e) (by omega)), if_neg (fun e => absurd (M18.mp e) (by omega)), if_neg (fun e => absurd (M32.mp e) (by omega)), if_pos (M2.mpr q2)]
    exact spl_named hT γ α wd S stkF B stk obl p sg q r C TK SL t b fa wA wM P KA KM (hne rfl) hS hst (hP rfl) ⟨q2, hc, hd, hob⟩ hb hbb H
  rw [if_neg (n2 q2)]
  by_cases q4 : kd t = 4
  · rw [if_pos (show Int32.ofNat (kd t) = 4 by rw [q4]; rfl), if_pos (M4.mpr q4), a_blk0 (f := fun w8 => rc 0 (Int32.ofNat d) 0 0 w8), m_blk0, hr0, hm0]
    refine hB γ α wd S stkF B stk obl p sg q r C TK SL t b fa _ wM P (fun _ w => KA 0 w) KM hS (hst.pre hT (e_put__ (a := 40) (w := wA))) (hS _ _ _ _ _ _ _ _ (hP rfl) (STEP.pre e_put__)) ⟨q4, hc, hd, hob⟩ hb hbb (fun lv' x t' fa' uA uM n C' TK' SL' q' h1 h2 h3 => H lv' 0 t' fa' uA uM n C' TK' SL' q' h1 (fun h => ?_) h3)
    obtain ⟨y1, y2, y3, y4, y5, y6, y7, y8, y9, y10, y11⟩ := h2 h
    exact ⟨y1, y2, y3, y4, y5, y6, y7, y8, y9, y10, y11.imp (fun fA fM hh v => ⟨p, sg, q, r, rfl, Or.inr (Or.inr (Or.inr (Or.inr (Or.inr (Or.inr (Or.inl (hh v)))))))⟩)⟩
  rw [if_neg (n4 q4), if_neg (fun e => absurd (M4.mp e) (by omega))]
  by_cases q14 : kd t = 14
  · rw [if_pos (show Int32.ofNat (kd t) = 14 by rw [q14]; rfl), if_pos (M14.mpr q14)]
    exact spl_goto hT γ α wd S stkF B stk obl p sg q r C TK SL t b fa wA wM P KA KM (hne rfl) hS hst (hP rfl) ⟨q14, hc, hd, hob⟩ hb hbb H
  rw [if_neg (n14 q14), if_neg (fun e => absurd (M14.mp e) (by omega))]
  by_cases q15 : kd t = 15
  · rw [if_pos (show Int32.ofNat (kd t) = 15 by rw [q15]; rfl), if_pos (M15.mpr q15)]
    rw [a_blk0 (f := fun w21 => rc 6 (Int32.ofNat d) 0 0 w21), hr6, ← a_blk0 (p := fX0_put__ 40 wA) (f := fun w21 => fX4_choice rc1 (Int32.ofNat d) w21)]
    exact spl_if hT hin γ α wd S stkF B stk obl p sg q r C TK SL t b fa wA wM P KA KM (hne rfl) hS hst (hP rfl) ⟨q15, hc, hd, hob⟩ hb hbb H
  rw [if_neg (n15 q15), if_neg (fun e => absurd (M15.mp e) (by omega))]
  by_cases q18 : kd t = 18
  · rw [if_pos (show Int32.ofNat (kd t) = 18 by rw [q18]; rfl), if_pos (M18.mpr q18), m_blk0, hm6]
    rw [a_blk0 (f := fun w26 => rc 7 (Int32.ofNat d) 0 0 w26), hr7, ← a_blk0 (p := fX0_put__ 40 wA) (f := fun w26 => fX4_loop rc1 (Int32.ofNat d) w26)]
    exact spl_for hT hin1 γ α wd S stkF B stk obl p sg q r C TK SL t b fa wA wM P KA KM (hne rfl) hS hst (hP rfl) ⟨q18, hc, hd, hob⟩ hb hbb H
  rw [if_neg (n18 q18), if_neg (fun e => absurd (M18.mp e) (by omega))]
  have q32 : kd t = 32 := by omega
  rw [if_pos (show Int32.ofNat (kd t) = 32 by rw [q32]; rfl), if_pos (M32.mpr q32)]
  exact spl_print hT γ α wd S stkF B stk obl p sg q r C TK SL t b fa wA wM P KA KM (hne rfl) hS hst (hP rfl) ⟨q32, hc, hd, hob⟩ hb hbb H
end JT
