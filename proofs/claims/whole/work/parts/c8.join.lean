/-! BOTH SIDES: all STATEMENTS and BLOCKS, out of what a procedure comes to -/
section JT
variable {kd wr nm : Nat → Nat} {vv : Nat → Int64} {m z : Nat} {gA gM : Wd} {lv : Bool} {sl us B : Nat} {stk obl stkF : List Nat} {prs : PRL} {C TK : Nat → Nat} {SL : Nat → List Nat} {t d b : Nat} {fa : Int32} {wA wM : Wd} {γ α : Type} {wd : γ → Wd} {S : γ → α → Wd → Prop} {P : (Nat → Nat) → Nat → Wd → Wd → Prop}
theorem SPC.mono {rA : Wd → Option (Int32 × Wd)} {rM : Wd → Option (Option Int32 × Wd)} {ne : Bool} {pre : CV → Nat → Prop} {β β' : Nat} {W : Wd → Wd → Nat → Nat → Nat → List Nat → PRL → Nat → Nat → CV → CV → Prop} (h : SPC kd wr nm vv m z gA gM rA rM ne pre d β W) (hle : β ≤ β') : SPC kd wr nm vv m z gA gM rA rM ne pre d β' W := by
  intro γ α wd S stkF B lv stk obl p sg q r C TK SL t b fa wA wM P KA KM hne hS hst hP hpre hb hbb H
  exact h γ α wd S stkF B lv stk obl p sg q r C TK SL t b fa wA wM P KA KM hne hS hst hP hpre hb (by omega) (fun lv' x t' fa' uA uM n C' TK' SL' q' h1 h2 h3 => H lv' x t' fa' uA uM n C' TK' SL' q' (h1.bw (Or.inl (by omega))) h2 h3)
/-- at DEPTH 41 nothing but the end of a BLOCK stands -/
theorem spc_41 (hT : TOKS kd wr nm vv m z gA gM) {β : Nat} {rc : TX4_block} {rm : TX12_block} {W : Wd → Wd → PSTT} (hd41 : d = 41) : SPC kd wr nm vv m z gA gM (fun w => fX4_statement_61 rc (Int32.ofNat d) w) (fun w => fX12_plain rm w) true (fun C t => ¬ (kd t = 2 ∧ kd (t + 1) = 42)) d β (PW kd d W) := by
  intro γ α wd S stkF B lv stk obl p sg q r C TK SL t b fa wA wM P KA KM hne hS hst hP hpre hb hbb H
  show GLJ kd wr nm z gA gM wd lv stkF fa B (bn2 (fX4_statement_61 rc (Int32.ofNat d) wA) KA) (be (fX12_plain rm wM) KM) S
  have hin0 := hst.in1
  cases lv
  · have hz : t = z - 1 ∧ kd t = 0 := by
      rcases hst with ⟨h, _⟩ | ⟨_, h2, h3⟩
      · exact absurd h (by decide)
      · exact ⟨h2, by rw [h2]; exact h3.1.zk⟩
    rw [a_61no hin0 (by omega)]
    exact ⟨fun _ => (H false 0 t fa wA wM 0 C TK SL q ((hst.dd rfl).bw (Or.inl (by omega))) (fun h => absurd h (by decide)) (fun _ => hz.1)).1 rfl, fun h => absurd h (by decide)⟩
  have hJ := (hst.jl rfl).2
  obtain ⟨_, hc, hd, hob⟩ := hpre rfl
  have h50 := hJ.2.1.1.2.2.2.1
  have q5 : kd t = 5 := by omega
  have M4 := kq (t := t) h50 (k := 4) (x := 256) rfl (by omega)
  have M14 := kq (t := t) h50 (k := 14) (x := 266) rfl (by omega)
  have M15 := kq (t := t) h50 (k := 15) (x := 267) rfl (by omega)
  have M18 := kq (t := t) h50 (k := 18) (x := 270) rfl (by omega)
  have M32 := kq (t := t) h50 (k := 32) (x := 284) rfl (by omega)
  have M2 := kq (t := t) h50 (k := 2) (x := 285) rfl (by omega)
  have qn : ¬ (kd t = 2 ∨ kd t = 4 ∨ kd t = 14 ∨ kd t = 15 ∨ kd t = 18 ∨ kd t = 32) := by omega
  rw [a_61no hin0 qn]
  unfold fX12_plain
  rw [ltq, m_kq hJ.2.1, if_neg (fun e => absurd (M4.mp e) (by omega)), if_neg (fun e => absurd (M14.mp e) (by omega)), if_neg (fun e => absurd (M15.mp e) (by omega)), if_neg (fun e => absurd (M18.mp e) (by omega)), if_neg (fun e => absurd (M32.mp e) (by omega)), if_neg (fun e => absurd (M2.mp e) (by omega))]
  exact spl_none hT γ α wd S stkF B stk obl p sg q r C TK SL t b fa wA wM P KA KM (hne rfl) hS hst (hP rfl) ⟨qn, hc, hd, hob⟩ hb hbb H
/-- a dead STATEMENT of the class -/
theorem a_stdead {rc : TX4_block} {a1 : Int32} {w : Wd} {base : Nat} (h : IN1 kd wr z w t base fa) (hk : kd t = 0) : fX4_statement rc a1 w = some (0, w) := by
  obtain ⟨fo, hfo⟩ := FU_ge (k := 1) (by omega)
  unfold fX4_statement
  rw [hfo]
  have e : oX4_statement_2 rc (fo + 1) a1 0 w = fX4_statement_2 rc (oX4_statement_2 rc fo) a1 0 w := rfl
  rw [e]
  unfold fX4_statement_2
  rw [if_neg (by decide), ltq, a_isLabel h, decide_eq_false (show ¬ (kd t = 2 ∧ kd (t + 1) = 42) by omega), if_neg (by decide)]
  exact a_61no h (by omega)
theorem pst_5 {fA fM : Wd} {k d s e n : Nat} {stk : List Nat} {prs : PRL} {q q' : Nat} {C C' : CV} (h : PSTX kd fA fM k d s e n stk prs q q' C C') (hk : kd s = 5) : e = s := by
  cases k with
  | zero => exact absurd h (fun h => h)
  | succ k =>
    obtain ⟨j, h1, h2, h3⟩ := h
    have hj : j = 0 := by
      cases j with
      | zero => rfl
      | succ j =>
        have := (h1.2 0 (by omega)).1
        rw [show s + 2 * 0 = s by omega] at this
        omega
    subst hj
    rw [show s + 2 * 0 = s by omega] at h3
    obtain ⟨p, sg, q0, r, _, h | h | h | h | h | h | h | h⟩ := h3
    · exact absurd h.1 (by omega)
    · exact absurd h.1 (by omega)
    · exact absurd h.1 (by omega)
    · exact absurd h.1 (by omega)
    · exact absurd h.1 (by omega)
    · exact absurd h.1 (by omega)
    · obtain ⟨_, _, _, _, _, _, h4, _⟩ := h
      omega
    · exact h.2.2.1
/-- what's wanting of procedures -/
def PRH (kd wr nm : Nat → Nat) (vv : Nat → Int64) (m z : Nat) (gA gM : Wd) : Prop :=
  ∀ (d β : Nat) (rc rc1 : TX4_block) (rm : TX12_block) (W : Wd → Wd → PSTT), d ≤ 40 → (∀ w, rc 4 (Int32.ofNat (d + 1)) 0 0 w = fX4_scoped rc1 (Int32.ofNat (d + 1)) w) → SPC kd wr nm vv m z gA gM (fun w => rc1 5 (Int32.ofNat (d + 1)) 0 0 w) (fun w => rm 4 0 0 0 w) true (fun _ _ => True) (d + 1) β (fun fA fM => W fA fM (d + 1)) → PRC kd wr nm vv m z gA gM (fun x w => fX4_procedure rc (Int32.ofNat d) x w) (fun x w => fX12_procedure rm x w) d (β + 2) W
theorem stat_all (hT : TOKS kd wr nm vv m z gA gM) (hz2 : 2 ≤ z) (hPR : PRH kd wr nm vv m z gA gM) : ∀ (N n : Nat), n ≤ N → ∀ (d k F G : Nat), d + n = 41 → n + 1 ≤ k → 3 * n + 7 ≤ F → 4 * n + 7 ≤ G → SPC kd wr nm vv m z gA gM (fun w => RX4_block F 5 (Int32.ofNat d) 0 0 w) (fun w => RX12_block G 4 0 0 0 w) true (fun _ _ => True) d (2 * n) (fun fA fM => PSTX kd fA fM k d) := by
  intro N
  induction N with
  | zero =>
    intro n hn d k F G hd hk hF hG
    obtain ⟨F1, rfl⟩ : ∃ F1, F = F1 + 1 := ⟨F - 1, by omega⟩
    obtain ⟨G2, rfl⟩ : ∃ G2, G = G2 + 2 := ⟨G - 2, by omega⟩
    obtain ⟨k1, rfl⟩ : ∃ k1, k = k1 + 1 := ⟨k - 1, by omega⟩
    exact spc_stat (rcA := RX4_block F1) (rm := RX12_block (G2 + 1)) (W := fun fA fM => PSTX kd fA fM k1) hT (spc_41 (rc := RX4_block F1) (rm := RX12_block G2) hT (by omega))
  | succ N ih =>
    intro n hn d k F G hd hk hF hG
    by_cases n0 : n = 0
    · exact ih n (by omega) d k F G hd hk hF hG
    obtain ⟨F6, rfl⟩ : ∃ F6, F = F6 + 6 := ⟨F - 6, by omega⟩
    obtain ⟨G6, rfl⟩ : ∃ G6, G = G6 + 6 := ⟨G - 6, by omega⟩
    obtain ⟨k1, rfl⟩ : ∃ k1, k = k1 + 1 := ⟨k - 1, by omega⟩
    obtain ⟨n1, rfl⟩ : ∃ n1, n = n1 + 1 := ⟨n - 1, by omega⟩
    have hin : ∀ F G, 3 * n1 + 7 ≤ F → 4 * n1 + 7 ≤ G → SPC kd wr nm vv m z gA gM (fun w => RX4_block F 5 (Int32.ofNat (d + 1)) 0 0 w) (fun w => RX12_block G 4 0 0 0 w) true (fun _ _ => True) (d + 1) (2 * n1) (fun fA fM => PSTX kd fA fM k1 (d + 1)) := fun F G h1 h2 => ih n1 (by omega) (d + 1) k1 F G (by omega) (by omega) h1 h2
    have hDl : DSPL kd wr nm vv m z gA gM (fun w => RX4_block (F6 + 3) 2 (Int32.ofNat (d + 1)) 0 0 w) (fun o w => RX12_block (G6 + 3) 1 o 0 0 w) (fun t => isD (kd t) ∧ d + 1 ≤ 40) (d + 1) (2 * n1) (fun fA fM => PSTX kd fA fM k1) := by
      by_cases h40 : d + 1 ≤ 40
      · obtain ⟨n2, rfl⟩ : ∃ n2, n1 = n2 + 1 := ⟨n1 - 1, by omega⟩
        exact dspl_decl (rc := RX4_block (F6 + 2)) (rm := RX12_block (G6 + 2)) hT (hPR (d + 1) (2 * n2) (RX4_block (F6 + 1)) (RX4_block F6) (RX12_block (G6 + 1)) (fun fA fM => PSTX kd fA fM k1) h40 (fun _ => rfl) (ih n2 (by omega) (d + 2) k1 F6 (G6 + 1) (by omega) (by omega) (by omega) (by omega))) hz2
      · intro γ α wd S stkF B s stk obl p sg q r C TK SL t b fa wA wM P KA KM hS hst hP hpre
        exact absurd hpre.2 h40
    have hB : SPB kd wr nm vv m z gA gM (fun w => fX4_block (RX4_block (F6 + 4)) (Int32.ofNat d) w) (fun w => fX12_block (RX12_block (G6 + 3)) w) d (2 * n1 + 1) (fun fA fM => PSTX kd fA fM k1) :=
      blk_all (rc := RX4_block (F6 + 4)) (rc1 := RX4_block (F6 + 3)) (rm := RX12_block (G6 + 3)) hT (fun _ => rfl) hDl (hin (F6 + 4) (G6 + 3) (by omega) (by omega)) (fun w fa h => a_stdead h h.zk) (fun fA fM s e n stk prs q q' C C' _ h5 h => pst_5 h h5) (fun a => dp_decl (rm := RX12_block (G6 + 2)) (fun a => dp_proc (rm := RX12_block (G6 + 1)))) (dn_stat (rm := RX12_block (G6 + 2)) (dn_plain (rm := RX12_block (G6 + 1)) (dp_blk (rm := RX12_block G6)) (dp_loop (rm := RX12_block G6))))
    have hi1 := spc_inner (rc := RX4_block (F6 + 3)) (rm := RX12_block (G6 + 3)) (W := fun fA fM => PSTX kd fA fM k1) hT (hin (F6 + 3) (G6 + 3) (by omega) (by omega))
    have hi2 := spc_inner (rc := RX4_block (F6 + 3)) (rm := RX12_block (G6 + 2)) (W := fun fA fM => PSTX kd fA fM k1) hT (hin (F6 + 3) (G6 + 2) (by omega) (by omega))
    have hpl := spc_plain (rc := RX4_block (F6 + 5)) (rc1 := RX4_block (F6 + 4)) (rm := RX12_block (G6 + 4)) (rm1 := RX12_block (G6 + 3)) (W := fun fA fM => PSTX kd fA fM k1) hT (fun _ => rfl) (fun _ => rfl) (fun _ => rfl) (fun _ => rfl) (fun _ => rfl) hB hi1 hi2
    exact SPC.mono (spc_stat (rcA := RX4_block (F6 + 5)) (rm := RX12_block (G6 + 5)) (W := fun fA fM => PSTX kd fA fM k1) hT hpl) (by omega)
end JT
