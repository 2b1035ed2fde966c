/-! BOTH SIDES: all STATEMENTS and BLOCKS, out of what a procedure comes to -/
section JT
variable {kd wr nm : Nat → Nat} {vv : Nat → Int64} {m z : Nat} {gA gM : Wd} {lv : Bool} {sl us B : Nat} {stk obl stkF : List Nat} {prs : PRL} {C TK : Nat → Nat} {SL : Nat → List Nat} {t d b : Nat} {fa : Int32} {wA wM : Wd} {γ α : Type} {wd : γ → Wd} {S : γ → α → Wd → Prop} {P : (Nat → Nat) → Nat → Wd → Wd → Prop}
theorem SPC.mono {rA : Wd → Option (Int32 × Wd)} {rM : Wd → Option (Option Int32 × Wd)} {ne : Bool} {pre : CV → Nat → Prop} {β β' : Nat} {W : Wd → Wd → Nat → Nat → Nat → List Nat → PRL → Nat → Nat → CV → CV → Prop} (h : SPC kd wr nm vv m z gA gM rA rM ne pre d β W) (hle : β ≤ β') : SPC kd wr nm vv m z gA gM rA rM ne pre d β' W := by
  intro γ α wd S stkF B lv stk obl p sg q r C TK SL t b fa wA wM P KA KM hne hS hst hP hpre hb hbb H
  exact h γ α wd S stkF B lv stk obl p sg q r C TK SL t b fa wA wM P KA KM hne hS hst hP hpre hb (by omega) (fun lv' x t' fa' uA uM n C' TK' SL' q' h1 h2 h3 => H lv' x t' fa' uA uM n C' TK' SL' q' (h1.bw (Or.inl (by omega))) h2 h3)
/-- at DEPTH 41 nothing but the end of a BLOCK stands -/
theorem spc_41 (hT : TOKS kd wr nm vv m z gA gM) {β : Nat} {rc : TX4_block} {rm : TX12_block} {W : Wd → Wd → PSTT} (hd41 : d = 41) : SPC kd wr nm vv m z gA gM (fun w => fX4_statement_61 rc (Int32.ofNat d) w) (fun w => fX12_plain rm w) true (fun C t => ¬ (kd t = 2 ∧ kd (t + 1) = 42)) d β (PW kd d W) := by
  intro γ α wd S stkF B lv stk obl p sg q r C TK SL t b fa wA wM P KA KM hne hS hst hP hpre hb hbb H
  show GLJ kd wr nm z gA gM wd lv stkF fa B (bn2 (fX4_statement_61 rc (Int32.ofNat d) wA) KA) (be (fX12_plain rm wM) KM) S
  have hin0 := hst.in1
  cases lv
  · have hz : t = z - 1 ∧ kd t = 0 := by
      rcases hst with ⟨h, _⟩ | ⟨_, h2, h3⟩
      · exact absurd h (by decide)
      · exact ⟨h2, by rw [h2]; exact h3.1.zk⟩
    rw [a_61no hin0 (by omega)]
    exact ⟨fun _ => (H false 0 t fa wA wM 0 C TK SL q ((hst.dd rfl).bw (Or.inl (by omega))) (fun h => absurd h (by decide)) (fun _ => hz.1)).1 rfl, fun h => absurd h (by decide)⟩
  have hJ := (hst.jl rfl).2
  obtain ⟨_, hc, hd, hob⟩ := hpre rfl
  have h50 := hJ.2.1.1.2.2.2.1
  have q5 : kd t = 5 := by omega
  have M4 := kq (t := t) h50 (k := 4) (x := 256) rfl (by omega)
  have M14 := kq (t := t) h50 (k := 14) (x := 266) rfl (by omega)
  have M15 := kq (t := t) h50 (k := 15) (x := 267) rfl (by omega)
  have M18 := kq (t := t) h50 (k := 18) (x := 270) rfl (by omega)
  have M32 := kq (t := t) h50 (k := 32) (x := 284) rfl (by omega)
  have M2 := kq (t := t) h50 (k := 2) (x := 285) rfl (by omega)
  have qn : ¬ (kd t = 2 ∨ kd t = 4 ∨ kd t = 14 ∨ kd t = 15 ∨ kd t = 18 ∨ kd t = 32) := by omega
  rw [a_61no hin0 qn]
  unfold fX12_plain
  rw [ltq, m_kq hJ.2.1, if_neg (fun e => absurd (M4.mp e) (by omega)), if_neg (fun e => absurd (M14.mp e) (by omega)), if_neg (fun e => absurd (M15.mp e) (by omega)), if_neg (fun e => absurd (M18.mp e) (by omega)), if_neg (fun e => absurd (M32.mp e) (by omega)), if_neg (fun e => absurd (M2.mp e) (by omega))]
  exact spl_none hT γ α wd S stkF B stk obl p sg q r C TK SL t b fa wA wM P KA KM (hne rfl) hS hst (hP rfl) ⟨qn, hc, hd, hob⟩ hb hbb H
/-- a dead STATEMENT of the class -/
theorem a_stdead {rc : TX4_block} {a1 : Int32} {w : Wd} {base : Nat} (h : IN1 kd wr z w t base fa) (hk : kd t = 0) : fX4_statement rc a1 w = some (0, w) := by
  obtain ⟨fo, hfo⟩ := FU_ge (k := 1) (by omega)
  unfold fX4_statement
  rw [hfo]
  have e : oX4_statement_2 rc (fo + 1) a1 0 w = fX4_statement_2 rc (oX4_statement_2 rc fo) a1 0 w := rfl
  rw [e]
  unfold fX4_statement_2
  rw [if_neg (by decide), ltq, a_isLabel h, decide_eq_false (show ¬ (kd t = 2 ∧ kd (t + 1) = 42) by omega), if_neg (by decide)]
  exact a_61no h (by omega)
theorem pst_5 {fA fM : Wd} {k d s e n : Nat} {stk : List Nat} {prs : PRL} {q q' : Nat} {C C' : CV} (h : PSTX kd fA fM k d s e n stk prs q q' C C') (hk : kd s = 5) : e = s := by
  cases k with
  | zero => exact absurd h (fun h => h)
  | succ k =>
    obtain ⟨⟨j, h1, hdc, h2, h3⟩, _⟩ := h
    have hj : j = 0 := by
      cases j with
      | zero => rfl
      | succ j =>
        have := (h1.2 0 (by omega)).1
        rw [show s + 2 * 0 = s by omega] at this
        omega
    subst hj
    rw [show s + 2 * 0 = s by omega] at h3
    obtain ⟨p, sg, q0, r, _, h | h | h | h | h | h | h | h⟩ := h3
    · exact absurd h.1 (by omega)
    · exact absurd h.1 (by omega)
    · exact absurd h.1 (by omega)
    · exact absurd h.1 (by omega)
    · exact absurd h.1 (by omega)
    · exact absurd h.1 (by omega)
    · obtain ⟨_, _, _, _, _, _, h4, _⟩ := h
      omega
    · exact h.2.2.1
/-- what's wanting of procedures -/
def PRH (kd wr nm : Nat → Nat) (vv : Nat → Int64) (m z : Nat) (gA gM : Wd) : Prop :=
  ∀ (d β : Nat) (rc rc1 : TX4_block) (rm : TX12_block) (W : Wd → Wd → PSTT), d ≤ 40 → (∀ w, rc 4 (Int32.ofNat (d + 1)) 0 0 w = fX4_scoped rc1 (Int32.ofNat (d + 1)) w) → SPC kd wr nm vv m z gA gM (fun w => rc1 5 (Int32.ofNat (d + 1)) 0 0 w) (fun w => rm 4 0 0 0 w) true (fun _ _ => True) (d + 1) β (fun fA fM => W fA fM (d + 1)) → PRC kd wr nm vv m z gA gM (fun x w => fX4_procedure rc (Int32.ofNat d) x w) (fun x w => fX12_procedure rm x w) d (β + 2) W
theorem RXs {n : Nat} : RX4_block (n + 1) = BX4_block (RX4_block n) := rfl
theorem RXt {n : Nat} : RX12_block (n + 1) = BX12_block (RX12_block n) := rfl
theorem BA5 {rc : TX4_block} {a b c : Int32} {w : Wd} : BX4_block rc 5 a b c w = fX4_statement rc a w := by
  delta BX4_block
  generalize fX4_statement = f
  rfl
theorem BA1 {rc : TX4_block} {a b c : Int32} {w : Wd} : BX4_block rc 1 a b c w = fX4_declarations rc a w := by
  delta BX4_block
  generalize fX4_declarations = f
  rfl
theorem BM4 {rc : TX12_block} {a b c : Int32} {w : Wd} : BX12_block rc 4 a b c w = fX12_statement rc w := by
  delta BX12_block
  generalize fX12_statement = f
  rfl
theorem RA0 {n : Nat} {a : Int32} : (fun w => RX4_block (n + 1) 0 a 0 0 w) = fun w => fX4_block (RX4_block n) a w := rfl
theorem RA2 {n : Nat} {a : Int32} : (fun w => RX4_block (n + 1) 2 a 0 0 w) = fun w => fX4_declaration (RX4_block n) a w := rfl
theorem RA3 {n : Nat} {a : Int32} : (fun x w => RX4_block (n + 1) 3 a x 0 w) = fun x w => fX4_procedure (RX4_block n) a x w := rfl
theorem RA4 {n : Nat} {a : Int32} : (fun w => RX4_block (n + 1) 4 a 0 0 w) = fun w => fX4_scoped (RX4_block n) a w := rfl
theorem RA5 {n : Nat} {a : Int32} : (fun w => RX4_block (n + 1) 5 a 0 0 w) = fun w => fX4_statement (RX4_block n) a w := by
  funext w
  rw [RXs]
  exact BA5
theorem RM1 {n : Nat} : (fun o w => RX12_block (n + 1) 1 o 0 0 w) = fun o w => fX12_declaration (RX12_block n) o w := rfl
theorem RM1a {n : Nat} {a : Int32} : (fun w => RX12_block (n + 1) 1 a 0 0 w) = fun w => fX12_declaration (RX12_block n) a w := rfl
theorem RM2 {n : Nat} : (fun x w => RX12_block (n + 1) 2 x 0 0 w) = fun x w => fX12_procedure (RX12_block n) x w := rfl
theorem RM2a {n : Nat} {a : Int32} : (fun w => RX12_block (n + 1) 2 a 0 0 w) = fun w => fX12_procedure (RX12_block n) a w := rfl
theorem RM0 {n : Nat} : (fun w => RX12_block (n + 1) 0 0 0 0 w) = fun w => fX12_block (RX12_block n) w := rfl
theorem RM3 {n : Nat} : (fun w => RX12_block (n + 1) 3 0 0 0 w) = fun w => fX12_inner (RX12_block n) w := rfl
theorem RM4 {n : Nat} : (fun w => RX12_block (n + 1) 4 0 0 0 w) = fun w => fX12_statement (RX12_block n) w := by
  funext w
  rw [RXt]
  exact BM4
theorem RM5 {n : Nat} : (fun w => RX12_block (n + 1) 5 0 0 0 w) = fun w => fX12_plain (RX12_block n) w := rfl
theorem RM6 {n : Nat} : (fun w => RX12_block (n + 1) 6 0 0 0 w) = fun w => fX12_loop (RX12_block n) w := rfl
theorem pst_s {k : Nat} : (fun fA fM => PSTX kd fA fM (k + 1) d) = fun fA fM s e n stk prs q q' C C' => (∃ j, LBS kd fM n s j (C 1) ∧ DCN fA fM (C 1) j (stk.headD 0) (prs.headD (0, 0, 0)).1 ∧ ¬ (kd (s + 2 * j) = 2 ∧ kd (s + 2 * j + 1) = 42) ∧ PLNX kd fA fM ((fun fA fM => PSTX kd fA fM k) fA fM) d (s + 2 * j) e n stk prs q q' (upD C 1 j) C') ∧ s ≤ e ∧ LEC C C' ∧ C 0 ≤ n ∧ n < C' 0 := rfl
theorem RB0 {n : Nat} {a : Int32} {w : Wd} : RX4_block (n + 1) 0 a 0 0 w = fX4_block (RX4_block n) a w := rfl
theorem RB1 {n : Nat} {a : Int32} {w : Wd} : RX4_block (n + 1) 1 a 0 0 w = fX4_declarations (RX4_block n) a w := by
  rw [RXs]
  exact BA1
theorem RB4 {n : Nat} {a : Int32} {w : Wd} : RX4_block (n + 1) 4 a 0 0 w = fX4_scoped (RX4_block n) a w := rfl
theorem RB5 {n : Nat} {a : Int32} {w : Wd} : RX4_block (n + 1) 5 a 0 0 w = fX4_statement (RX4_block n) a w := by
  rw [RXs]
  exact BA5
theorem RB6 {n : Nat} {a : Int32} {w : Wd} : RX4_block (n + 1) 6 a 0 0 w = fX4_choice (RX4_block n) a w := rfl
theorem RB7 {n : Nat} {a : Int32} {w : Wd} : RX4_block (n + 1) 7 a 0 0 w = fX4_loop (RX4_block n) a w := rfl
theorem RN0 {n : Nat} {w : Wd} : RX12_block (n + 1) 0 0 0 0 w = fX12_block (RX12_block n) w := rfl
theorem RN6 {n : Nat} {w : Wd} : RX12_block (n + 1) 6 0 0 0 w = fX12_loop (RX12_block n) w := rfl
/-- a STATEMENT as the programs call it, out of what's behind its LABELS -/
theorem stat_of (hT : TOKS kd wr nm vv m z gA gM) {F1 G1 k β : Nat} (hp : SPC kd wr nm vv m z gA gM (fun w => fX4_statement_61 (RX4_block F1) (Int32.ofNat d) w) (fun w => fX12_plain (RX12_block G1) w) true (fun C t => ¬ (kd t = 2 ∧ kd (t + 1) = 42)) d β (PW kd d (fun fA fM => PSTX kd fA fM k))) :
    SPC kd wr nm vv m z gA gM (fun w => RX4_block (F1 + 1) 5 (Int32.ofNat d) 0 0 w) (fun w => RX12_block (G1 + 1 + 1) 4 0 0 0 w) true (fun _ _ => True) d β (fun fA fM => PSTX kd fA fM (k + 1) d) := by
  rw [RA5, RM4, pst_s]
  refine spc_and (spc_stat (rcA := RX4_block F1) (rm := RX12_block (G1 + 1)) (W := fun fA fM => PSTX kd fA fM k) hT ?_)
  rw [RM5]
  exact hp
theorem stat_all (hT : TOKS kd wr nm vv m z gA gM) (hz2 : 2 ≤ z) (hPR : PRH kd wr nm vv m z gA gM) : ∀ (N n : Nat), n ≤ N → ∀ (d k F G : Nat), d + n = 41 → n + 1 ≤ k → 3 * n + 7 ≤ F → 4 * n + 7 ≤ G → SPC kd wr nm vv m z gA gM (fun w => RX4_block F 5 (Int32.ofNat d) 0 0 w) (fun w => RX12_block G 4 0 0 0 w) true (fun _ _ => True) d (2 * n) (fun fA fM => PSTX kd fA fM k d) := by
  intro N
  induction N with
  | zero =>
    intro n hn d k F G hd hk hF hG
    obtain ⟨F1, rfl⟩ : ∃ F1, F = F1 + 1 := ⟨F - 1, by omega⟩
    obtain ⟨G2, rfl⟩ : ∃ G2, G = G2 + 1 + 1 := ⟨G - 2, by omega⟩
    obtain ⟨k1, rfl⟩ : ∃ k1, k = k1 + 1 := ⟨k - 1, by omega⟩
    exact stat_of hT (spc_41 hT (by omega))
  | succ N ih =>
    intro n hn d k F G hd hk hF hG
    by_cases n0 : n = 0
    · exact ih n (by omega) d k F G hd hk hF hG
    obtain ⟨F6, rfl⟩ : ∃ F6, F = F6 + 1 + 1 + 1 + 1 + 1 + 1 := ⟨F - 6, by omega⟩
    obtain ⟨G6, rfl⟩ : ∃ G6, G = G6 + 1 + 1 + 1 + 1 + 1 + 1 := ⟨G - 6, by omega⟩
    obtain ⟨k1, rfl⟩ : ∃ k1, k = k1 + 1 := ⟨k - 1, by omega⟩
    obtain ⟨n1, rfl⟩ : ∃ n1, n = n1 + 1 := ⟨n - 1, by omega⟩
    have hin : ∀ F G, 3 * n1 + 7 ≤ F → 4 * n1 + 7 ≤ G → SPC kd wr nm vv m z gA gM (fun w => RX4_block F 5 (Int32.ofNat (d + 1)) 0 0 w) (fun w => RX12_block G 4 0 0 0 w) true (fun _ _ => True) (d + 1) (2 * n1) (fun fA fM => PSTX kd fA fM k1 (d + 1)) := fun F G h1 h2 => ih n1 (by omega) (d + 1) k1 F G (by omega) (by omega) h1 h2
    have hDl : DSPL kd wr nm vv m z gA gM (fun w => RX4_block (F6 + 1 + 1 + 1) 2 (Int32.ofNat (d + 1)) 0 0 w) (fun o w => RX12_block (G6 + 1 + 1 + 1) 1 o 0 0 w) (fun t => isD (kd t) ∧ d + 1 ≤ 40) (d + 1) (2 * n1) (fun fA fM => PSTX kd fA fM k1) := by
      by_cases h40 : d + 1 ≤ 40
      · obtain ⟨n2, rfl⟩ : ∃ n2, n1 = n2 + 1 := ⟨n1 - 1, by omega⟩
        have hpr := hPR (d + 1) (2 * n2) (RX4_block (F6 + 1)) (RX4_block F6) (RX12_block (G6 + 1)) (fun fA fM => PSTX kd fA fM k1) h40 (fun _ => RB4) (ih n2 (by omega) (d + 1 + 1) k1 F6 (G6 + 1) (by omega) (by omega) (by omega) (by omega))
        rw [← RA3, ← RM2] at hpr
        rw [RA2, RM1]
        exact dspl_decl (rc := RX4_block (F6 + 1 + 1)) (rm := RX12_block (G6 + 1 + 1)) hT hpr hz2
      · intro γ α wd S stkF B s stk obl p sg q r C TK SL t b fa wA wM P KA KM hS hst hP hpre
        exact absurd hpre.2 h40
    have hd2 : ∀ a, DEP kd wr m (fun w => RX12_block (G6 + 1 + 1) 2 a 0 0 w) := fun a => by
      rw [RM2a]
      exact dp_proc
    have hd1 : ∀ a, DEP kd wr m (fun w => RX12_block (G6 + 1 + 1 + 1) 1 a 0 0 w) := fun a => by
      rw [RM1a]
      exact dp_decl hd2
    have hd0 : DEP kd wr m (fun w => RX12_block (G6 + 1) 0 0 0 0 w) := by
      rw [RM0]
      exact dp_blk
    have hd6 : DEP kd wr m (fun w => RX12_block (G6 + 1) 6 0 0 0 w) := by
      rw [RM6]
      exact dp_loop
    have hd5 : DN kd wr m (fun w => RX12_block (G6 + 1 + 1) 5 0 0 0 w) := by
      rw [RM5]
      exact dn_plain hd0 hd6
    have hd4 : DN kd wr m (fun w => RX12_block (G6 + 1 + 1 + 1) 4 0 0 0 w) := by
      rw [RM4]
      exact dn_stat hd5
    have hB : SPB kd wr nm vv m z gA gM (fun w => fX4_block (RX4_block (F6 + 1 + 1 + 1 + 1)) (Int32.ofNat d) w) (fun w => fX12_block (RX12_block (G6 + 1 + 1 + 1)) w) d (2 * n1 + 1) (fun fA fM => PSTX kd fA fM k1) :=
      blk_all (rc := RX4_block (F6 + 1 + 1 + 1 + 1)) (rc1 := RX4_block (F6 + 1 + 1 + 1)) (rm := RX12_block (G6 + 1 + 1 + 1)) hT (fun _ => RB1) hDl (hin (F6 + 1 + 1 + 1 + 1) (G6 + 1 + 1 + 1) (by omega) (by omega)) (fun w fa h => RB5.trans (a_stdead h h.zk)) (fun fA fM s e n stk prs q q' C C' _ h5 h => pst_5 h h5) hd1 hd4
    have hi1 : SPC kd wr nm vv m z gA gM (fun w => RX4_block (F6 + 1 + 1 + 1 + 1) 4 (Int32.ofNat (d + 1)) 0 0 w) (fun w => RX12_block (G6 + 1 + 1 + 1 + 1) 3 0 0 0 w) false (fun C t => 3 * C 2 + 3 ≤ wr t) (d + 1) (2 * n1 + 1) (fun fA fM => INS9 fM ((fun fA fM => PSTX kd fA fM k1) fA fM) (d + 1)) := by
      rw [RA4, RM3]
      exact spc_inner (rc := RX4_block (F6 + 1 + 1 + 1)) (rm := RX12_block (G6 + 1 + 1 + 1)) (W := fun fA fM => PSTX kd fA fM k1) hT (hin _ _ (by omega) (by omega))
    have hi2 : SPC kd wr nm vv m z gA gM (fun w => RX4_block (F6 + 1 + 1 + 1 + 1) 4 (Int32.ofNat (d + 1)) 0 0 w) (fun w => RX12_block (G6 + 1 + 1 + 1) 3 0 0 0 w) false (fun C t => 3 * C 2 + 3 ≤ wr t) (d + 1) (2 * n1 + 1) (fun fA fM => INS9 fM ((fun fA fM => PSTX kd fA fM k1) fA fM) (d + 1)) := by
      rw [RA4, RM3]
      exact spc_inner (rc := RX4_block (F6 + 1 + 1 + 1)) (rm := RX12_block (G6 + 1 + 1)) (W := fun fA fM => PSTX kd fA fM k1) hT (hin _ _ (by omega) (by omega))
    have hpl := spc_plain (rc := RX4_block (F6 + 1 + 1 + 1 + 1 + 1)) (rc1 := RX4_block (F6 + 1 + 1 + 1 + 1)) (rm := RX12_block (G6 + 1 + 1 + 1 + 1)) (rm1 := RX12_block (G6 + 1 + 1 + 1)) (W := fun fA fM => PSTX kd fA fM k1) hT (fun _ => RB0) (fun _ => RB6) (fun _ => RB7) (fun _ => RN0) (fun _ => RN6) hB hi1 hi2
    exact SPC.mono (stat_of hT hpl) (by omega)
/-- a BLOCK at any DEPTH -/
theorem block_all (hT : TOKS kd wr nm vv m z gA gM) (hz2 : 2 ≤ z) (hPR : PRH kd wr nm vv m z gA gM) {n1 k1 F6 G6 : Nat} (hd : d + (n1 + 1) = 41) (hk : n1 + 1 ≤ k1) (hF : 3 * (n1 + 1) + 7 ≤ F6 + 6) (hG : 4 * (n1 + 1) + 7 ≤ G6 + 6) : SPB kd wr nm vv m z gA gM (fun w => fX4_block (RX4_block (F6 + 1 + 1 + 1 + 1)) (Int32.ofNat d) w) (fun w => fX12_block (RX12_block (G6 + 1 + 1 + 1)) w) d (2 * n1 + 1) (fun fA fM => PSTX kd fA fM k1) := by
  have hin : ∀ F G, 3 * n1 + 7 ≤ F → 4 * n1 + 7 ≤ G → SPC kd wr nm vv m z gA gM (fun w => RX4_block F 5 (Int32.ofNat (d + 1)) 0 0 w) (fun w => RX12_block G 4 0 0 0 w) true (fun _ _ => True) (d + 1) (2 * n1) (fun fA fM => PSTX kd fA fM k1 (d + 1)) := fun F G h1 h2 => stat_all hT hz2 hPR n1 n1 (by omega) (d + 1) k1 F G (by omega) (by omega) h1 h2
  have hDl : DSPL kd wr nm vv m z gA gM (fun w => RX4_block (F6 + 1 + 1 + 1) 2 (Int32.ofNat (d + 1)) 0 0 w) (fun o w => RX12_block (G6 + 1 + 1 + 1) 1 o 0 0 w) (fun t => isD (kd t) ∧ d + 1 ≤ 40) (d + 1) (2 * n1) (fun fA fM => PSTX kd fA fM k1) := by
    by_cases h40 : d + 1 ≤ 40
    · obtain ⟨n2, rfl⟩ : ∃ n2, n1 = n2 + 1 := ⟨n1 - 1, by omega⟩
      have hpr := hPR (d + 1) (2 * n2) (RX4_block (F6 + 1)) (RX4_block F6) (RX12_block (G6 + 1)) (fun fA fM => PSTX kd fA fM k1) h40 (fun _ => RB4) (stat_all hT hz2 hPR n2 n2 (by omega) (d + 1 + 1) k1 F6 (G6 + 1) (by omega) (by omega) (by omega) (by omega))
      rw [← RA3, ← RM2] at hpr
      rw [RA2, RM1]
      exact dspl_decl (rc := RX4_block (F6 + 1 + 1)) (rm := RX12_block (G6 + 1 + 1)) hT hpr hz2
    · intro γ α wd S stkF B s stk obl p sg q r C TK SL t b fa wA wM P KA KM hS hst hP hpre
      exact absurd hpre.2 h40
  have hd2 : ∀ a, DEP kd wr m (fun w => RX12_block (G6 + 1 + 1) 2 a 0 0 w) := fun a => by
    rw [RM2a]
    exact dp_proc
  have hd1 : ∀ a, DEP kd wr m (fun w => RX12_block (G6 + 1 + 1 + 1) 1 a 0 0 w) := fun a => by
    rw [RM1a]
    exact dp_decl hd2
  have hd0 : DEP kd wr m (fun w => RX12_block (G6 + 1) 0 0 0 0 w) := by
    rw [RM0]
    exact dp_blk
  have hd6 : DEP kd wr m (fun w => RX12_block (G6 + 1) 6 0 0 0 w) := by
    rw [RM6]
    exact dp_loop
  have hd5 : DN kd wr m (fun w => RX12_block (G6 + 1 + 1) 5 0 0 0 w) := by
    rw [RM5]
    exact dn_plain hd0 hd6
  have hd4 : DN kd wr m (fun w => RX12_block (G6 + 1 + 1 + 1) 4 0 0 0 w) := by
    rw [RM4]
    exact dn_stat hd5
  have hB : SPB kd wr nm vv m z gA gM (fun w => fX4_block (RX4_block (F6 + 1 + 1 + 1 + 1)) (Int32.ofNat d) w) (fun w => fX12_block (RX12_block (G6 + 1 + 1 + 1)) w) d (2 * n1 + 1) (fun fA fM => PSTX kd fA fM k1) :=
    blk_all (rc := RX4_block (F6 + 1 + 1 + 1 + 1)) (rc1 := RX4_block (F6 + 1 + 1 + 1)) (rm := RX12_block (G6 + 1 + 1 + 1)) hT (fun _ => RB1) hDl (hin (F6 + 1 + 1 + 1 + 1) (G6 + 1 + 1 + 1) (by omega) (by omega)) (fun w fa h => RB5.trans (a_stdead h h.zk)) (fun fA fM s e n stk prs q q' C C' _ h5 h => pst_5 h h5) hd1 hd4
  exact hB
end JT
