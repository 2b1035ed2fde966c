/-! PASS 2, THE REFERENCE: calls as STATEMENTS, if -/
section EX
variable {kd wr nm : Nat → Nat} {vv : Nat → Int64} {m lev cur : Nat} {fA fM : Wd} {c c1 c2 c' C TK : Nat → Nat} {SL : Nat → List Nat} {w u v : Wd} {L L1 L2 : List (Nat × Int32)} {P P1 P2 : Nat → Nat → Nat → Nat → Wd → Prop} {i i0 i1 i2 i3 : Nat}
/-- faults of a NAME that stands as a call -/
def FCL (fM : Wd) (lu : Nat → Nat) (tk : Nat) : List (Nat × Int32) := if lu tk = 0 then [(tk, 2)] else if gi fM 19 (lu tk - 1) = 3 ∨ FO fM (lu tk - 1) 3 then (if gi fM 19 (lu tk - 1) = 3 ∧ ¬ gi fM 31 (gi fM 24 (lu tk - 1)).toNatClampNeg ≤ 0 then [(tk, 5)] else []) else misS fM (lu tk) tk
/-- its codes -/
def PCN (fM : Wd) (lu : Nat → Nat) (lev tk b q b' q' : Nat) (g : Wd) : Prop := opW g b 12 0 0 0 ∧ q' = q ∧ (lu tk = 0 ∧ b' = b + 1 ∨ lu tk ≠ 0 ∧ ((gi fM 19 (lu tk - 1) = 3 ∨ FO fM (lu tk - 1) 3) ∧ cdP fM lev (lu tk - 1) 0 (b + 1) g ∧ b' = b + 2 ∨ ¬ (gi fM 19 (lu tk - 1) = 3 ∨ FO fM (lu tk - 1) 3) ∧ b' = b + 1))
theorem stp_name (hT : TBM kd wr nm vv m C TK SL fA fM) {stk : List Nat} (hU : UPM (C 2) fM stk) (hl : stk.length < 9000) {N n x tk T : Nat} (hn : n < 24000) (h7 : gi fM 7 n = 22) (h8 : gi fM 8 n = Int32.ofNat x) (hx : x < 24000) (h7x : gi fM 7 x = 3) (h12 : gi fM 12 x = Int32.ofNat tk) (h13 : gi fM 13 x = hdM stk) (ht : tk < m) (hk : kd tk = 2) (hTT : 1 ≤ T) :
    STP kd wr m fM lev cur N i i n T (FCL fM (luN nm TK SL stk) tk) (PCN fM (luN nm TK SL stk) lev tk) := by
  intro c w k hG hf
  unfold FITS at hf
  have hm := hT.2.1.1.1
  have hC := hT.2.2.2.1
  have hle := luN_le hT hU (tk := tk)
  obtain ⟨u1, o1, E1, _⟩ := EST.op hG (by omega) (a := 12) (x := 0) (y := 0) (z := 0)
  have G1 := (E1 i).1
  have e0 : upC c 0 (c 0 + 1) 0 = c 0 + 1 := upC_s
  have en : ∀ i, i ≠ 0 → upC c 0 (c 0 + 1) i = c i := fun i hi => upC_n hi
  obtain ⟨u2, o2, E2, E2f, E2o⟩ := g_seen hT G1.1 hU hl hx h12 h13 ht hk
  have hpre : fX12_statementCode_7 (RX12_row N) k (Int32.ofNat n) (-1) w = bn2 (fX12_seen (Int32.ofNat x) u1) fun x18 w19 => if 0 ≤ x18 then (if inb x18 5000 = true then if (gi w19 19 (Int32.toNatClampNeg x18)) = 3 then (bn (fX12_alone (Int32.ofNat x) x18 0 w19) fun w23 => some (0, w23)) else (bn2 (fX12_isFormal x18 3 w19) fun x24 w25 => if x24 = true then (bn (fX12_alone (Int32.ofNat x) x18 0 w25) fun w27 => some (0, w27)) else (if inb x18 5000 = true then if (gi w25 19 (Int32.toNatClampNeg x18)) = 6 then (if inb x18 5000 = true then if (gi w25 24 (Int32.toNatClampNeg x18)) = 0 then (some (0, w25)) else (bn2 (fX12_wrongName (Int32.ofNat x) w25) fun x32 w33 => some (0, w33)) else none) else (bn2 (fX12_wrongName (Int32.ofNat x) w25) fun x34 w35 => some (0, w35)) else none)) else none) else (some (0, w19)) := by
    unfold fX12_statementCode_7
    rw [if_pos (by decide), if_pos (inb_iN hn (by omega)), tc_iN (by omega), hG.fx (k := 7) (by unfold PGM PGX; omega), h7, if_neg (by decide), o1, bn2_so, if_pos (inb_iN hn (by omega)), G1.fx (k := 7) (by unfold PGM PGX; omega), h7, ltq, if_neg (by decide), if_pos rfl, if_pos (inb_iN hn (by omega)), G1.fx (k := 8) (by unfold PGM PGX; omega), h8, ltq, if_pos (inb_iN hx (by omega)), tc_iN (by omega), G1.fx (k := 7) (by unfold PGM PGX; omega), h7x, if_neg (by decide)]
  rw [hpre, o2, bn2_so]
  generalize hlu : luN nm TK SL stk tk = l at hle E2f
  by_cases q0 : l = 0
  · rw [if_pos q0] at E2f ⊢
    rw [if_neg (by decide)]
    have hL : FCL fM (luN nm TK SL stk) tk = [(tk, 2)] := by
      unfold FCL
      rw [hlu, if_pos q0]
    rw [hL]
    refine ⟨u2, _, rfl, (((E1 i).seq (EST.fl (i := i) G1 E2 E2f E2o)).fls rfl).wk (fun b q b' q' g hg => ?_) (by omega)⟩
    obtain ⟨b1, q1, ⟨⟨g1, g2⟩, g3⟩, g4, g5⟩ := hg
    subst g2 g3
    exact ⟨g1, g5, Or.inl ⟨by rw [hlu]; exact q0, g4⟩⟩
  · rw [if_neg q0] at E2f ⊢
    have hl5 : l - 1 < 5000 := by omega
    have E2s : EST kd wr m fM lev cur i i c (upC c 0 (c 0 + 1)) w u2 [] (fun b q b' q' g => (opW g b 12 0 0 0 ∧ b' = b + 1) ∧ q' = q) 1 0 0 0 0 0 := (((E1 i).seq (EST.fl (i := i) G1 E2 E2f E2o)).fls rfl).wk (fun b q b' q' g hg => by
      obtain ⟨b1, q1, ⟨⟨g1, g2⟩, g3⟩, g4, g5⟩ := hg
      subst g2 g3
      exact ⟨⟨g1, g4⟩, g5⟩) (by omega)
    have G2 := E2s.1
    rw [if_pos (zl_iN (by omega)), if_pos (inb_iN hl5 (by omega)), tc_iN (by omega), G2.fx (k := 19) (by unfold PGM PGX; omega)]
    have hal : (gi fM 19 (l - 1) = 3 ∨ FO fM (l - 1) 3) → ∃ u c', (bn (fX12_alone (Int32.ofNat x) (Int32.ofNat (l - 1)) 0 u2) fun w23 => some ((0 : Int32), w23)) = some (0, u) ∧ EST kd wr m fM lev cur i i c c' w u (FCL fM (luN nm TK SL stk) tk) (PCN fM (luN nm TK SL stk) lev tk) (4 * T) (T / 2) ((T + 1) / 2) (T / 2) T T := fun hP => by
      obtain ⟨u3, c3, o3, E3⟩ := g_alone hT G2.1 (y := l - 1) (want := 0) (by omega) hP hx h12 (by omega) (by omega) (by rw [en 2 (by omega)]; omega)
      have hL : FCL fM (luN nm TK SL stk) tk = (if gi fM 19 (l - 1) = 3 ∧ ¬ gi fM 31 (gi fM 24 (l - 1)).toNatClampNeg ≤ 0 then [(tk, 5)] else []) := by
        unfold FCL
        rw [hlu, if_neg q0, if_pos hP]
      rw [hL]
      refine ⟨u3, _, by rw [o3, bn_so], ((E2s.seq (EST.em (i := i) G2 E3)).fls rfl).wk (fun b q b' q' g hg => ?_) (by omega)⟩
      obtain ⟨b1, q1, ⟨⟨g1, g2⟩, g3⟩, ⟨g4, g5⟩, g6⟩ := hg
      subst g2 g3
      exact ⟨g1, g6, Or.inr ⟨by rw [hlu]; exact q0, Or.inl ⟨by rw [hlu]; exact hP, by rw [hlu]; exact g4, g5⟩⟩⟩
    by_cases q3 : gi fM 19 (l - 1) = 3
    · rw [if_pos q3]
      exact hal (Or.inl q3)
    · rw [if_neg q3, g_isFormal G2.1 hl5, bn2_so]
      by_cases qF : FO fM (l - 1) 3
      · rw [decide_eq_true qF, if_pos rfl]
        exact hal (Or.inr qF)
      · have hN : ¬ (gi fM 19 (l - 1) = 3 ∨ FO fM (l - 1) 3) := fun g => g.elim q3 qF
        have hL : FCL fM (luN nm TK SL stk) tk = misS fM l tk := by
          unfold FCL
          rw [hlu, if_neg q0, if_neg hN]
        rw [decide_eq_false qF, if_neg (by decide), if_pos (inb_iN hl5 (by omega)), G2.fx (k := 19) (by unfold PGM PGX; omega), hL]
        have hwr : ¬ FO fM (l - 1) 0 → ∃ u c', (bn2 (fX12_wrongName (Int32.ofNat x) u2) fun x34 w35 => some ((0 : Int32), w35)) = some (0, u) ∧ EST kd wr m fM lev cur i i c c' w u (misS fM l tk) (PCN fM (luN nm TK SL stk) lev tk) (4 * T) (T / 2) ((T + 1) / 2) (T / 2) T T := fun h0 => by
          obtain ⟨u3, o3, E3, E3f, E3o⟩ := g_wrong G2.1 hx h12 (by omega)
          unfold misS
          rw [if_neg h0]
          refine ⟨u3, _, by rw [o3, bn2_so], ((E2s.seq (EST.fl (i := i) (L := [(tk, 4)]) G2 E3 E3f E3o)).fls rfl).wk (fun b q b' q' g hg => ?_) (by omega)⟩
          obtain ⟨b1, q1, ⟨⟨g1, g2⟩, g3⟩, g4, g5⟩ := hg
          subst g2 g3
          exact ⟨g1, g5, Or.inr ⟨by rw [hlu]; exact q0, Or.inr ⟨by rw [hlu]; exact hN, g4⟩⟩⟩
        by_cases q6 : gi fM 19 (l - 1) = 6
        · rw [if_pos q6, if_pos (inb_iN hl5 (by omega)), G2.fx (k := 24) (by unfold PGM PGX; omega)]
          by_cases q24 : gi fM 24 (l - 1) = 0
          · rw [if_pos q24]
            unfold misS
            rw [if_pos (show FO fM (l - 1) 0 from ⟨q6, q24⟩)]
            refine ⟨u2, _, rfl, E2s.wk (fun b q b' q' g hg => ?_) (by omega)⟩
            exact ⟨hg.1.1, hg.2, Or.inr ⟨by rw [hlu]; exact q0, Or.inr ⟨by rw [hlu]; exact hN, hg.1.2⟩⟩⟩
          · rw [if_neg q24]
            exact hwr (fun g => q24 g.2)
        · rw [if_neg q6]
          exact hwr (fun g => q6 g.1)
/-- a call with ACTUALS -/
def PCA (fM : Wd) (lu : Nat → Nat) (cur lev K x b q b' q' : Nat) (g : Wd) : Prop := opW g b 12 0 0 0 ∧ q' = q ∧ (FLX fM lu cur K 0 x 1 = [] → CDM fM lu lev K 0 x 1 0 (b + 1) b' g)
theorem stp_call {N n x K T : Nat} {lu : Nat → Nat} (hn : n < 24000) (h7 : gi fM 7 n = 22) (h8 : gi fM 8 n = Int32.ofNat x) (hx : x < 24000) (h7x : gi fM 7 x = 5) (hV : CLS kd wr m fM lu lev cur K 1700 x 1 T) (hTT : 2 ≤ T) : STP kd wr m fM lev cur N i i n T (FLX fM lu cur K 0 x 1) (PCA fM lu cur lev K x) := by
  intro c w k hG hf
  unfold FITS at hf
  obtain ⟨u1, o1, E1, _⟩ := EST.op hG (by omega) (a := 12) (x := 0) (y := 0) (z := 0)
  have G1 := (E1 0).1
  have e0 : upC c 0 (c 0 + 1) 0 = c 0 + 1 := upC_s
  have en : ∀ i, i ≠ 0 → upC c 0 (c 0 + 1) i = c i := fun i hi => upC_n hi
  obtain ⟨u2, c2, o2, E2⟩ := hV _ 0 u1 G1.1 (by unfold FIT; rw [e0, en 1 (by omega), en 2 (by omega), en 3 (by omega)]; omega)
  have E2' := EST.em (i := i) G1 E2
  refine ⟨u2, _, ?_, (((E1 i).seq E2').fls rfl).wk (fun b q b' q' g hg => ?_) (by omega)⟩
  · rw [if_neg (by decide)] at o2
    unfold fX12_statementCode_7
    rw [if_pos (by decide), if_pos (inb_iN hn (by omega)), tc_iN (by omega), hG.fx (k := 7) (by unfold PGM PGX; omega), h7, if_neg (by decide), o1, bn2_so, if_pos (inb_iN hn (by omega)), G1.fx (k := 7) (by unfold PGM PGX; omega), h7, ltq, if_neg (by decide), if_pos rfl, if_pos (inb_iN hn (by omega)), G1.fx (k := 8) (by unfold PGM PGX; omega), h8, ltq, if_pos (inb_iN hx (by omega)), tc_iN (by omega), G1.fx (k := 7) (by unfold PGM PGX; omega), h7x, if_pos rfl, o2]
    rfl
  · obtain ⟨b1, q1, ⟨⟨g1, g2⟩, g3⟩, g4, g5⟩ := hg
    subst g2 g3
    exact ⟨g1, g5, g4⟩
/-- if without else -/
def PI1 (fM : Wd) (lu : Nat → Nat) (cur lev K x : Nat) (P1 : Nat → Nat → Nat → Nat → Wd → Prop) (b q b' q' : Nat) (g : Wd) : Prop := ∃ b2, opW g b 12 0 0 0 ∧ (FLX fM lu cur K 0 x 0 = [] → CDM fM lu lev K 0 x 0 0 (b + 1) b2 g) ∧ opW g b2 11 (Int32.ofNat b') 0 0 ∧ P1 (b2 + 1) q b' q' g
/-- and with else -/
def PI2 (fM : Wd) (lu : Nat → Nat) (cur lev K x : Nat) (P1 P2 : Nat → Nat → Nat → Nat → Wd → Prop) (b q b' q' : Nat) (g : Wd) : Prop := ∃ b2 b3 q3, opW g b 12 0 0 0 ∧ (FLX fM lu cur K 0 x 0 = [] → CDM fM lu lev K 0 x 0 0 (b + 1) b2 g) ∧ opW g b2 11 (Int32.ofNat (b3 + 1)) 0 0 ∧ P1 (b2 + 1) q b3 q3 g ∧ opW g b3 10 (Int32.ofNat b') 0 0 ∧ P2 (b3 + 1) q3 b' q' g
theorem stp_if1 {N n x y K Tx Ty T tx : Nat} {lu : Nat → Nat} (hn : n < 24000) (h7 : gi fM 7 n = 25) (h8 : gi fM 8 n = Int32.ofNat x) (h9 : gi fM 9 n = Int32.ofNat y) (h10 : gi fM 10 n = -1) (hx : x < 24000) (hy : y < 24000) (h12 : gi fM 12 x = Int32.ofNat tx) (htx : tx ≤ m) (hV : VS kd wr m fM lu lev cur K 1699 x Tx) (hS : STS kd wr m fM lev cur N i0 i1 y Ty L1 P1) (hi : i0 ≤ i1) (hTx : 1 ≤ Tx) (hTT : Tx + Ty + 2 ≤ T) :
    STP kd wr m fM lev cur N i0 i1 n T (FLX fM lu cur K 0 x 0 ++ misT (TYX fM lu K x) 2 (nd fM 12 x) ++ L1) (PI1 fM lu cur lev K x P1) := by
  intro c w k hG hf
  unfold FITS at hf
  obtain ⟨u1, o1, E1, _⟩ := EST.op hG (by omega) (a := 12) (x := 0) (y := 0) (z := 0)
  have G1 := (E1 0).1
  have e0 : upC c 0 (c 0 + 1) 0 = c 0 + 1 := upC_s
  have en : ∀ i, i ≠ 0 → upC c 0 (c 0 + 1) i = c i := fun i hi => upC_n hi
  obtain ⟨u2, c2, o2, E2⟩ := g_mb hV G1.1 (by unfold FIT; rw [e0, en 1 (by omega), en 2 (by omega), en 3 (by omega)]; omega) hx h12 htx (ty := 2)
  have E2' := EST.em (i := i0) G1 E2
  have hb2 := E2'.2.2.2.2.2.2.2.1
  rw [e0, en 1 (by omega), en 2 (by omega), en 3 (by omega), en 4 (by omega), en 5 (by omega)] at hb2
  generalize cM (upC c 0 (c 0 + 1)) c2 = d2 at E2' hb2
  obtain ⟨u3, o3, E3, _⟩ := EST.op E2'.1 (by omega) (a := 11) (x := 0) (y := 0) (z := 0)
  have f0 : upC d2 0 (d2 0 + 1) 0 = d2 0 + 1 := upC_s
  have fn : ∀ i, i ≠ 0 → upC d2 0 (d2 0 + 1) i = d2 i := fun i hi => upC_n hi
  obtain ⟨u4, c4, o4, E4⟩ := hS _ u3 (E3 0).1 (by unfold FITS; rw [f0, fn 1 (by omega), fn 2 (by omega), fn 3 (by omega), fn 4 (by omega), fn 5 (by omega)]; omega)
  obtain ⟨u5, o5, E5, _⟩ := EST.jmp (E3 i0) E4 (by omega)
  refine ⟨u5, c4, ?_, (((E1 i0).seq (E2'.seq E5)).fls (by simp only [List.nil_append, List.append_assoc])).wk (fun b q b' q' g hg => ?_) (by omega)⟩
  · unfold fX12_statementCode_7
    rw [if_pos (by decide), if_pos (inb_iN hn (by omega)), tc_iN (by omega), hG.fx (k := 7) (by unfold PGM PGX; omega), h7, if_neg (by decide), o1, bn2_so, if_pos (inb_iN hn (by omega)), G1.fx (k := 7) (by unfold PGM PGX; omega), h7, ltq, if_neg (by decide), if_neg (by decide), if_neg (by decide), if_neg (by decide), if_pos rfl, if_pos (inb_iN hn (by omega)), G1.fx (k := 8) (by unfold PGM PGX; omega), h8, o2, bn2_so, o3, bn2_so, if_pos (inb_iN hn (by omega)), (E3 0).1.fx (k := 9) (by unfold PGM PGX; omega), h9, o4, bn2_so, if_pos (inb_iN hn (by omega)), E4.1.fx (k := 10) (by unfold PGM PGX; omega), h10, if_neg (by decide), o5, bn_so]
  · obtain ⟨b1, q1, ⟨⟨g1, g2⟩, g3⟩, b2, q2, ⟨g4, g5⟩, g6, g7⟩ := hg
    subst g2 g3 g5
    exact ⟨b2, g1, g4, g6, g7⟩
theorem stp_if2 {N n x y z K Tx Ty Tz T tx : Nat} {lu : Nat → Nat} (hn : n < 24000) (h7 : gi fM 7 n = 25) (h8 : gi fM 8 n = Int32.ofNat x) (h9 : gi fM 9 n = Int32.ofNat y) (h10 : gi fM 10 n = Int32.ofNat z) (hx : x < 24000) (hy : y < 24000) (hz : z < 24000) (h12 : gi fM 12 x = Int32.ofNat tx) (htx : tx ≤ m) (hV : VS kd wr m fM lu lev cur K 1699 x Tx) (hS1 : STS kd wr m fM lev cur N i0 i1 y Ty L1 P1) (hS2 : STS kd wr m fM lev cur N i1 i2 z Tz L2 P2) (hi : i0 ≤ i1) (hi2 : i1 ≤ i2) (hTx : 1 ≤ Tx) (hTT : Tx + Ty + Tz + 3 ≤ T) :
    STP kd wr m fM lev cur N i0 i2 n T (FLX fM lu cur K 0 x 0 ++ misT (TYX fM lu K x) 2 (nd fM 12 x) ++ L1 ++ L2) (PI2 fM lu cur lev K x P1 P2) := by
  intro c w k hG hf
  unfold FITS at hf
  obtain ⟨u1, o1, E1, _⟩ := EST.op hG (by omega) (a := 12) (x := 0) (y := 0) (z := 0)
  have G1 := (E1 0).1
  have e0 : upC c 0 (c 0 + 1) 0 = c 0 + 1 := upC_s
  have en : ∀ i, i ≠ 0 → upC c 0 (c 0 + 1) i = c i := fun i hi => upC_n hi
  obtain ⟨u2, c2, o2, E2⟩ := g_mb hV G1.1 (by unfold FIT; rw [e0, en 1 (by omega), en 2 (by omega), en 3 (by omega)]; omega) hx h12 htx (ty := 2)
  have E2' := EST.em (i := i0) G1 E2
  have hb2 := E2'.2.2.2.2.2.2.2.1
  rw [e0, en 1 (by omega), en 2 (by omega), en 3 (by omega), en 4 (by omega), en 5 (by omega)] at hb2
  generalize cM (upC c 0 (c 0 + 1)) c2 = d2 at E2' hb2
  obtain ⟨u3, o3, E3, _⟩ := EST.op E2'.1 (by omega) (a := 11) (x := 0) (y := 0) (z := 0)
  have f0 : upC d2 0 (d2 0 + 1) 0 = d2 0 + 1 := upC_s
  have fn : ∀ i, i ≠ 0 → upC d2 0 (d2 0 + 1) i = d2 i := fun i hi => upC_n hi
  obtain ⟨u4, c4, o4, E4⟩ := hS1 _ u3 (E3 0).1 (by unfold FITS; rw [f0, fn 1 (by omega), fn 2 (by omega), fn 3 (by omega), fn 4 (by omega), fn 5 (by omega)]; omega)
  have hb4 := E4.2.2.2.2.2.2.2.1
  rw [f0, fn 1 (by omega), fn 2 (by omega), fn 3 (by omega), fn 4 (by omega), fn 5 (by omega)] at hb4
  obtain ⟨u5, o5, u6, o6, G6, H6⟩ := EST.two (L2 := L2) (P2 := P2) (b0 := 4 * Tz) (b1 := Tz / 2) (b2 := (Tz + 1) / 2) (b3 := Tz / 2) (b4 := Tz) (b5 := Tz) (i3 := i2) rfl (E3 i0) E4 rfl (by omega) (by omega) ⟨hi, hi2⟩
  have k0 : upC c4 0 (c4 0 + 1) 0 = c4 0 + 1 := upC_s
  have kn : ∀ i, i ≠ 0 → upC c4 0 (c4 0 + 1) i = c4 i := fun i hi => upC_n hi
  obtain ⟨u7, c7, o7, E7⟩ := hS2 _ u6 G6 (by unfold FITS; rw [k0, kn 1 (by omega), kn 2 (by omega), kn 3 (by omega), kn 4 (by omega), kn 5 (by omega)]; omega)
  obtain ⟨u8, o8, E8⟩ := H6 E7
  refine ⟨u8, c7, ?_, (((E1 i0).seq (E2'.seq E8)).fls (by simp only [List.nil_append, List.append_assoc])).wk (fun b q b' q' g hg => ?_) (by omega)⟩
  · unfold fX12_statementCode_7
    rw [if_pos (by decide), if_pos (inb_iN hn (by omega)), tc_iN (by omega), hG.fx (k := 7) (by unfold PGM PGX; omega), h7, if_neg (by decide), o1, bn2_so, if_pos (inb_iN hn (by omega)), G1.fx (k := 7) (by unfold PGM PGX; omega), h7, ltq, if_neg (by decide), if_neg (by decide), if_neg (by decide), if_neg (by decide), if_pos rfl, if_pos (inb_iN hn (by omega)), G1.fx (k := 8) (by unfold PGM PGX; omega), h8, o2, bn2_so, o3, bn2_so, if_pos (inb_iN hn (by omega)), (E3 0).1.fx (k := 9) (by unfold PGM PGX; omega), h9, o4, bn2_so, if_pos (inb_iN hn (by omega)), E4.1.fx (k := 10) (by unfold PGM PGX; omega), h10, if_pos (zl_iN (by omega)), o5, bn2_so, o6, bn_so, if_pos (inb_iN hn (by omega)), G6.fx (k := 10) (by unfold PGM PGX; omega), h10, o7, bn2_so, o8, bn_so]
  · obtain ⟨b1, q1, ⟨⟨g1, g2⟩, g3⟩, b2, q2, ⟨g4, g5⟩, b3, q3, g6, g7, g8, g9⟩ := hg
    subst g2 g3 g5
    exact ⟨b2, b3, q3, g1, g4, g6, g7, g8, g9⟩
end EX
